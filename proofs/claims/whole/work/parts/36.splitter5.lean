theorem d_SP_findPieces_0 : decode prog_7_method_4_code 0 = .ok (.aload_n 0, 1) := by decide +kernel
theorem d_SP_findPieces_1 : decode prog_7_method_4_code 1 = .ok (.iconst 0, 1) := by decide +kernel
theorem d_SP_findPieces_2 : decode prog_7_method_4_code 2 = .ok (.putfield 41, 3) := by decide +kernel
theorem d_SP_findPieces_5 : decode prog_7_method_4_code 5 = .ok (.iconst 0, 1) := by decide +kernel
theorem d_SP_findPieces_6 : decode prog_7_method_4_code 6 = .ok (.istore_n 2, 1) := by decide +kernel
theorem d_SP_findPieces_7 : decode prog_7_method_4_code 7 = .ok (.iload_n 2, 1) := by decide +kernel
theorem d_SP_findPieces_8 : decode prog_7_method_4_code 8 = .ok (.bipush 14, 2) := by decide +kernel
theorem d_SP_findPieces_10 : decode prog_7_method_4_code 10 = .ok (.if_icmp .ge 68, 3) := by decide +kernel
theorem d_SP_findPieces_13 : decode prog_7_method_4_code 13 = .ok (.iload_n 2, 1) := by decide +kernel
theorem d_SP_findPieces_14 : decode prog_7_method_4_code 14 = .ok (.iconst 1, 1) := by decide +kernel
theorem d_SP_findPieces_15 : decode prog_7_method_4_code 15 = .ok (.iadd, 1) := by decide +kernel
theorem d_SP_findPieces_16 : decode prog_7_method_4_code 16 = .ok (.istore_n 3, 1) := by decide +kernel
theorem d_SP_findPieces_17 : decode prog_7_method_4_code 17 = .ok (.iload_n 3, 1) := by decide +kernel
theorem d_SP_findPieces_18 : decode prog_7_method_4_code 18 = .ok (.bipush 14, 2) := by decide +kernel
theorem d_SP_findPieces_20 : decode prog_7_method_4_code 20 = .ok (.if_icmp .ge 52, 3) := by decide +kernel
theorem d_SP_findPieces_23 : decode prog_7_method_4_code 23 = .ok (.aload_n 1, 1) := by decide +kernel
theorem d_SP_findPieces_24 : decode prog_7_method_4_code 24 = .ok (.getfield 54, 3) := by decide +kernel
theorem d_SP_findPieces_27 : decode prog_7_method_4_code 27 = .ok (.iload_n 2, 1) := by decide +kernel
theorem d_SP_findPieces_28 : decode prog_7_method_4_code 28 = .ok (.laload, 1) := by decide +kernel
theorem d_SP_findPieces_29 : decode prog_7_method_4_code 29 = .ok (.aload_n 0, 1) := by decide +kernel
theorem d_SP_findPieces_30 : decode prog_7_method_4_code 30 = .ok (.getfield 29, 3) := by decide +kernel
theorem d_SP_findPieces_33 : decode prog_7_method_4_code 33 = .ok (.land, 1) := by decide +kernel
theorem d_SP_findPieces_34 : decode prog_7_method_4_code 34 = .ok (.lconst 0, 1) := by decide +kernel
theorem d_SP_findPieces_35 : decode prog_7_method_4_code 35 = .ok (.lcmp, 1) := by decide +kernel
theorem d_SP_findPieces_36 : decode prog_7_method_4_code 36 = .ok (.ifCond .eq 30, 3) := by decide +kernel
theorem d_SP_findPieces_39 : decode prog_7_method_4_code 39 = .ok (.aload_n 1, 1) := by decide +kernel
theorem d_SP_findPieces_40 : decode prog_7_method_4_code 40 = .ok (.getfield 54, 3) := by decide +kernel
theorem d_SP_findPieces_43 : decode prog_7_method_4_code 43 = .ok (.iload_n 3, 1) := by decide +kernel
theorem d_SP_findPieces_44 : decode prog_7_method_4_code 44 = .ok (.laload, 1) := by decide +kernel
theorem d_SP_findPieces_45 : decode prog_7_method_4_code 45 = .ok (.aload_n 0, 1) := by decide +kernel
theorem d_SP_findPieces_46 : decode prog_7_method_4_code 46 = .ok (.getfield 29, 3) := by decide +kernel
theorem d_SP_findPieces_49 : decode prog_7_method_4_code 49 = .ok (.land, 1) := by decide +kernel
theorem d_SP_findPieces_50 : decode prog_7_method_4_code 50 = .ok (.lconst 0, 1) := by decide +kernel
theorem d_SP_findPieces_51 : decode prog_7_method_4_code 51 = .ok (.lcmp, 1) := by decide +kernel
theorem d_SP_findPieces_52 : decode prog_7_method_4_code 52 = .ok (.ifCond .eq 14, 3) := by decide +kernel
theorem d_SP_findPieces_55 : decode prog_7_method_4_code 55 = .ok (.aload_n 0, 1) := by decide +kernel
theorem d_SP_findPieces_56 : decode prog_7_method_4_code 56 = .ok (.aload_n 1, 1) := by decide +kernel
theorem d_SP_findPieces_57 : decode prog_7_method_4_code 57 = .ok (.iload_n 2, 1) := by decide +kernel
theorem d_SP_findPieces_58 : decode prog_7_method_4_code 58 = .ok (.iload_n 3, 1) := by decide +kernel
theorem d_SP_findPieces_59 : decode prog_7_method_4_code 59 = .ok (.invokevirtual 59, 3) := by decide +kernel
theorem d_SP_findPieces_62 : decode prog_7_method_4_code 62 = .ok (.aload_n 0, 1) := by decide +kernel
theorem d_SP_findPieces_63 : decode prog_7_method_4_code 63 = .ok (.invokevirtual 63, 3) := by decide +kernel
theorem d_SP_findPieces_66 : decode prog_7_method_4_code 66 = .ok (.iinc 3 1, 3) := by decide +kernel
theorem d_SP_findPieces_69 : decode prog_7_method_4_code 69 = .ok (.goto (-52), 3) := by decide +kernel
theorem d_SP_findPieces_72 : decode prog_7_method_4_code 72 = .ok (.iinc 2 1, 3) := by decide +kernel
theorem d_SP_findPieces_75 : decode prog_7_method_4_code 75 = .ok (.goto (-68), 3) := by decide +kernel
theorem d_SP_findPieces_78 : decode prog_7_method_4_code 78 = .ok (.return_, 1) := by decide +kernel
set_option maxHeartbeats 4000000 in
set_option maxRecDepth 100000 in
theorem c_SP_findPieces (l : Launch) (dC : Nat → ClassId) (dI : Nat → Nat → Nat) (cI cJ cZ : ClassId) (sp gg pi bo gd : Nat) (pci gci : Int32) (bl : Int64) (gs : Nat) (zi : Int32) (Se Pi : Nat → Int64) (Bo : Nat → Nat) (k nr fr rs at_ h : Nat) (al : Int32) (br : Int64) (A : Nat → Int64) (hB0 : Bo 0 = 0) (h14 : cn (lb bl) 64 ≤ 14) (hb41 : ∀ e, lb bl e = true → e < 41) : Met l ⟨"CutPoints$Splitter", "findPieces", "(LCutPoints$Sketch;)V"⟩ (Cond.code ⟨"CutPoints$Splitter", "findPieces", "(LCutPoints$Sketch;)V"⟩ prog_7_method_4_code 4 none :: TT) (rmk 2 52) (PM dC dI cI cJ cZ [.ref sp, .ref k] [(sp, .inr (6, [.ref gg, .ref pi, .ref bo, .int pci, .ref gd, .int gci, .long bl])), (gg, .inr (3, [.ref gs, .int zi])), (gs, .inl (cJ, 41, .inr (.inl Se))), (pi, .inl (cJ, 1274, .inr (.inl Pi))), (bo, .inl (cI, 92, .inl (nF Bo))), (k, .inr (2, [.ref nr, .ref fr, .ref rs, .ref at_, .ref h, .int al, .long br])), (at_, .inl (cJ, 14, .inr (.inl A)))]) (va_Qv (S := Nat × Int32 × (Nat → Int64) × (Nat → Int64) × (Nat → Nat)) (fun u9 => PCE A bl u9.2.2.2.1 u9.2.2.2.2 u9.1 14 15) (fun u9 t9 => va_P (dC, dI) cls ([(sp, .inr (6, [.ref gg, .ref pi, .ref bo, .int (nI u9.1), .ref gd, .int gci, .long bl])), (gg, .inr (3, [.ref gs, .int u9.2.1])), (gs, .inl (cJ, 41, .inr (.inl u9.2.2.1))), (pi, .inl (cJ, 1274, .inr (.inl u9.2.2.2.1))), (bo, .inl (cI, 92, .inl (nF u9.2.2.2.2))), (k, .inr (2, [.ref nr, .ref fr, .ref rs, .ref at_, .ref h, .int al, .long br])), (at_, .inl (cJ, 14, .inr (.inl A)))]) t9.heap) (ow [(sp, .inr (6, [.ref gg, .ref pi, .ref bo, .int pci, .ref gd, .int gci, .long bl])), (gg, .inr (3, [.ref gs, .int zi])), (gs, .inl (cJ, 41, .inr (.inl Se))), (pi, .inl (cJ, 1274, .inr (.inl Pi))), (bo, .inl (cI, 92, .inl (nF Bo))), (k, .inr (2, [.ref nr, .ref fr, .ref rs, .ref at_, .ref h, .int al, .long br])), (at_, .inl (cJ, 14, .inr (.inl A)))])) 0 0 (ow [(sp, .inr (6, [.ref gg, .ref pi, .ref bo, .int pci, .ref gd, .int gci, .long bl])), (gg, .inr (3, [.ref gs, .int zi])), (gs, .inl (cJ, 41, .inr (.inl Se))), (pi, .inl (cJ, 1274, .inr (.inl Pi))), (bo, .inl (cI, 92, .inl (nF Bo))), (k, .inr (2, [.ref nr, .ref fr, .ref rs, .ref at_, .ref h, .int al, .long br])), (at_, .inl (cJ, 14, .inr (.inl A)))]) := by
  refine Met.ofW (cc := prog_7_method_4_code) (maxL := 4) (ret := none) (by decide) rfl ?_
  intro p e s m args below meth c s₁ BB9 hml hv
  obtain ⟨rfl, hP, hK, hD0⟩ := hv
  have hx := BB9.exec
  have hb := BB9.bytes
  have hr := BB9.returns
  have hts : ∀ w ∈ TT, w.before _ s = true := fun w h => atoms_spec (ws := (Cond.code ⟨"CutPoints$Splitter", "findPieces", "(LCutPoints$Sketch;)V"⟩ prog_7_method_4_code 4 none :: TT)) BB9.pre w (List.mem_cons_of_mem _ h)
  have hown : s.vm.findClass "CutPoints$Splitter" = some m.cls := findClass_of_methodNamed BB9.named
  have hlocks := BB9.notSynchronized
  have hD := hD0.mine
  have hS : va_S (ow [(sp, .inr (6, [.ref gg, .ref pi, .ref bo, .int pci, .ref gd, .int gci, .long bl])), (gg, .inr (3, [.ref gs, .int zi])), (gs, .inl (cJ, 41, .inr (.inl Se))), (pi, .inl (cJ, 1274, .inr (.inl Pi))), (bo, .inl (cI, 92, .inl (nF Bo))), (k, .inr (2, [.ref nr, .ref fr, .ref rs, .ref at_, .ref h, .int al, .long br])), (at_, .inl (cJ, 14, .inr (.inl A)))]) s.heap s.heap [] := va_S.rf
  have hl := lv_entry ([.ref sp, .ref k]) (n := 4) (Nat.le_of_ble_eq_true rfl)
  rw [lg_entry_eq]
  generalize (lg_sl ([.ref sp, .ref k]) ++ List.replicate (4 - (lg_sl ([.ref sp, .ref k])).length) Slot.unset).toArray = ls at hl ⊢
  have hl : lv_has ls 4 [(0, .ref sp), (1, .ref k)] := hl
  refine lv_aload_n hx hb d_SP_findPieces_0 rfl (lv_at hl 0 rfl) ?_
  refine lv_iconst (v := (nI 0)) hx hb d_SP_findPieces_1 (by decide) ?_
  refine va_put (D := (dC, dI)) (ci := 6) (v := .int (nI 0)) (ty := .int) (C := R_SP) (T := F_SP) (N := 7) hx hb hts in_SP t_SP t_SP_ok n_SP hown hK.1 hP hD hS 0 rfl rfl 3 (by decide) (hts _ wfl_SP_41) (fun _ h9 => h9) rfl (by decide +kernel) rfl rfl (Nat.le_of_ble_eq_true rfl) d_SP_findPieces_2 (fun H locs hP hD hS => ?_)
  have hP : va_P (dC, dI) cls [(sp, .inr (6, [.ref gg, .ref pi, .ref bo, .int (nI 0), .ref gd, .int gci, .long bl])), (gg, .inr (3, [.ref gs, .int zi])), (gs, .inl (cJ, 41, .inr (.inl Se))), (pi, .inl (cJ, 1274, .inr (.inl Pi))), (bo, .inl (cI, 92, .inl (nF Bo))), (k, .inr (2, [.ref nr, .ref fr, .ref rs, .ref at_, .ref h, .int al, .long br])), (at_, .inl (cJ, 14, .inr (.inl A)))] H := hP
  have hD : va_D (ow [(sp, .inr (6, [.ref gg, .ref pi, .ref bo, .int pci, .ref gd, .int gci, .long bl])), (gg, .inr (3, [.ref gs, .int zi])), (gs, .inl (cJ, 41, .inr (.inl Se))), (pi, .inl (cJ, 1274, .inr (.inl Pi))), (bo, .inl (cI, 92, .inl (nF Bo))), (k, .inr (2, [.ref nr, .ref fr, .ref rs, .ref at_, .ref h, .int al, .long br])), (at_, .inl (cJ, 14, .inr (.inl A)))]) [(sp, .inr (6, [.ref gg, .ref pi, .ref bo, .int (nI 0), .ref gd, .int gci, .long bl])), (gg, .inr (3, [.ref gs, .int zi])), (gs, .inl (cJ, 41, .inr (.inl Se))), (pi, .inl (cJ, 1274, .inr (.inl Pi))), (bo, .inl (cI, 92, .inl (nF Bo))), (k, .inr (2, [.ref nr, .ref fr, .ref rs, .ref at_, .ref h, .int al, .long br])), (at_, .inl (cJ, 14, .inr (.inl A)))] := hD
  refine lv_iconst (v := (nI 0)) hx hb d_SP_findPieces_5 (by decide) ?_
  refine lv_istore_n (lv' := [(2, .int (nI 0)), (0, .ref sp), (1, .ref k)]) hx hb d_SP_findPieces_6 rfl hl (by decide) rfl (fun ls hl => ?_)
  have L7_1 : ∀ (n : Nat) (S2 : Nat → Int64) (zi2 : Int32) (Pi2 : Nat → Int64) (Bo2 : Nat → Nat) (pc : Nat) (a : Nat) (hn : 14 - a < n) (ha : a ≤ 14) (hE : PCE A bl Pi2 Bo2 pc a (a + 1)) (H : Heap) (locs : List Loc) (hP : va_P (dC, dI) cls [(sp, .inr (6, [.ref gg, .ref pi, .ref bo, .int (nI pc), .ref gd, .int gci, .long bl])), (gg, .inr (3, [.ref gs, .int zi2])), (gs, .inl (cJ, 41, .inr (.inl S2))), (pi, .inl (cJ, 1274, .inr (.inl Pi2))), (bo, .inl (cI, 92, .inl (nF Bo2))), (k, .inr (2, [.ref nr, .ref fr, .ref rs, .ref at_, .ref h, .int al, .long br])), (at_, .inl (cJ, 14, .inr (.inl A)))] H) (hD : va_D (ow [(sp, .inr (6, [.ref gg, .ref pi, .ref bo, .int pci, .ref gd, .int gci, .long bl])), (gg, .inr (3, [.ref gs, .int zi])), (gs, .inl (cJ, 41, .inr (.inl Se))), (pi, .inl (cJ, 1274, .inr (.inl Pi))), (bo, .inl (cI, 92, .inl (nF Bo))), (k, .inr (2, [.ref nr, .ref fr, .ref rs, .ref at_, .ref h, .int al, .long br])), (at_, .inl (cJ, 14, .inr (.inl A)))]) [(sp, .inr (6, [.ref gg, .ref pi, .ref bo, .int (nI pc), .ref gd, .int gci, .long bl])), (gg, .inr (3, [.ref gs, .int zi2])), (gs, .inl (cJ, 41, .inr (.inl S2))), (pi, .inl (cJ, 1274, .inr (.inl Pi2))), (bo, .inl (cI, 92, .inl (nF Bo2))), (k, .inr (2, [.ref nr, .ref fr, .ref rs, .ref at_, .ref h, .int al, .long br])), (at_, .inl (cJ, 14, .inr (.inl A)))]) (hS : va_S (ow [(sp, .inr (6, [.ref gg, .ref pi, .ref bo, .int pci, .ref gd, .int gci, .long bl])), (gg, .inr (3, [.ref gs, .int zi])), (gs, .inl (cJ, 41, .inr (.inl Se))), (pi, .inl (cJ, 1274, .inr (.inl Pi))), (bo, .inl (cI, 92, .inl (nF Bo))), (k, .inr (2, [.ref nr, .ref fr, .ref rs, .ref at_, .ref h, .int al, .long br])), (at_, .inl (cJ, 14, .inr (.inl A)))]) s.heap H locs) (ls : Array Slot) (hl : lv_has ls 4 [(0, .ref sp), (1, .ref k), (2, .int (nI a))]), W p l e (headSpec (Cond.code ⟨"CutPoints$Splitter", "findPieces", "(LCutPoints$Sketch;)V"⟩ prog_7_method_4_code 4 none :: TT) (rmk 2 52)).room s m ([.ref sp, .ref k] : List Value).toArray below meth c H locs 0 0 (MQ below (va_Qv (S := Nat × Int32 × (Nat → Int64) × (Nat → Int64) × (Nat → Nat)) (fun u9 => PCE A bl u9.2.2.2.1 u9.2.2.2.2 u9.1 14 15) (fun u9 t9 => va_P (dC, dI) cls ([(sp, .inr (6, [.ref gg, .ref pi, .ref bo, .int (nI u9.1), .ref gd, .int gci, .long bl])), (gg, .inr (3, [.ref gs, .int u9.2.1])), (gs, .inl (cJ, 41, .inr (.inl u9.2.2.1))), (pi, .inl (cJ, 1274, .inr (.inl u9.2.2.2.1))), (bo, .inl (cI, 92, .inl (nF u9.2.2.2.2))), (k, .inr (2, [.ref nr, .ref fr, .ref rs, .ref at_, .ref h, .int al, .long br])), (at_, .inl (cJ, 14, .inr (.inl A)))]) t9.heap) (ow [(sp, .inr (6, [.ref gg, .ref pi, .ref bo, .int pci, .ref gd, .int gci, .long bl])), (gg, .inr (3, [.ref gs, .int zi])), (gs, .inl (cJ, 41, .inr (.inl Se))), (pi, .inl (cJ, 1274, .inr (.inl Pi))), (bo, .inl (cI, 92, .inl (nF Bo))), (k, .inr (2, [.ref nr, .ref fr, .ref rs, .ref at_, .ref h, .int al, .long br])), (at_, .inl (cJ, 14, .inr (.inl A)))])) ([.ref sp, .ref k] : List Value).toArray s 0 0 (ow [(sp, .inr (6, [.ref gg, .ref pi, .ref bo, .int pci, .ref gd, .int gci, .long bl])), (gg, .inr (3, [.ref gs, .int zi])), (gs, .inl (cJ, 41, .inr (.inl Se))), (pi, .inl (cJ, 1274, .inr (.inl Pi))), (bo, .inl (cI, 92, .inl (nF Bo))), (k, .inr (2, [.ref nr, .ref fr, .ref rs, .ref at_, .ref h, .int al, .long br])), (at_, .inl (cJ, 14, .inr (.inl A)))])) (F0 m 7 ls []) := by
    intro n_7
    induction n_7 with
    | zero =>
      intro S2 zi2 Pi2 Bo2 pc a hn_7
      exact absurd hn_7 (Nat.not_lt_zero _)
    | succ n_7 ih_7 =>
      intro S2 zi2 Pi2 Bo2 pc a hn_7 ha hE H locs hP hD hS ls hl
      refine lv_iload_n hx hb d_SP_findPieces_7 rfl (lv_at hl 2 rfl) ?_
      refine lv_bipush (v := (nI 14)) hx hb d_SP_findPieces_8 (by decide) ?_
      refine x_cmp_ge (a := a) (b := 14) (tgt := 78) hx hb (by omega) (by omega) d_SP_findPieces_10 (by decide) (fun c_2 => ?_) (fun c_2 => ?_)
      · skip
        exact W.vret hx hb hr (fun t9 ht9 _ => ⟨⟨(pc, zi2, S2, Pi2, Bo2), rfl, (by have e9 : a = 14 := (by omega); subst e9; exact hE), by show va_P (dC, dI) cls _ t9.heap; rw [ht9]; exact hP⟩, hS.F ht9⟩) hS.2.2 d_SP_findPieces_78
      · skip
        refine lv_iload_n hx hb d_SP_findPieces_13 rfl (lv_at hl 2 rfl) ?_
        refine lv_iconst (v := (nI 1)) hx hb d_SP_findPieces_14 (by decide) ?_
        refine lv_iadd hx hb d_SP_findPieces_15 ?_
        refine xe_i (nI_add _ _) ?_
        refine lv_istore_n (lv' := [(3, .int (nI (a + 1))), (0, .ref sp), (1, .ref k), (2, .int (nI a))]) hx hb d_SP_findPieces_16 rfl hl (by decide) rfl (fun ls hl => ?_)
        have L17_3 : ∀ (n : Nat) (S2 : Nat → Int64) (zi2 : Int32) (Pi2 : Nat → Int64) (Bo2 : Nat → Nat) (pc : Nat) (b : Nat) (hn : 14 - b < n) (hb_ : b ≤ 14) (hab : a < b) (hE2 : PCE A bl Pi2 Bo2 pc a b) (H : Heap) (locs : List Loc) (hP : va_P (dC, dI) cls [(sp, .inr (6, [.ref gg, .ref pi, .ref bo, .int (nI pc), .ref gd, .int gci, .long bl])), (gg, .inr (3, [.ref gs, .int zi2])), (gs, .inl (cJ, 41, .inr (.inl S2))), (pi, .inl (cJ, 1274, .inr (.inl Pi2))), (bo, .inl (cI, 92, .inl (nF Bo2))), (k, .inr (2, [.ref nr, .ref fr, .ref rs, .ref at_, .ref h, .int al, .long br])), (at_, .inl (cJ, 14, .inr (.inl A)))] H) (hD : va_D (ow [(sp, .inr (6, [.ref gg, .ref pi, .ref bo, .int pci, .ref gd, .int gci, .long bl])), (gg, .inr (3, [.ref gs, .int zi])), (gs, .inl (cJ, 41, .inr (.inl Se))), (pi, .inl (cJ, 1274, .inr (.inl Pi))), (bo, .inl (cI, 92, .inl (nF Bo))), (k, .inr (2, [.ref nr, .ref fr, .ref rs, .ref at_, .ref h, .int al, .long br])), (at_, .inl (cJ, 14, .inr (.inl A)))]) [(sp, .inr (6, [.ref gg, .ref pi, .ref bo, .int (nI pc), .ref gd, .int gci, .long bl])), (gg, .inr (3, [.ref gs, .int zi2])), (gs, .inl (cJ, 41, .inr (.inl S2))), (pi, .inl (cJ, 1274, .inr (.inl Pi2))), (bo, .inl (cI, 92, .inl (nF Bo2))), (k, .inr (2, [.ref nr, .ref fr, .ref rs, .ref at_, .ref h, .int al, .long br])), (at_, .inl (cJ, 14, .inr (.inl A)))]) (hS : va_S (ow [(sp, .inr (6, [.ref gg, .ref pi, .ref bo, .int pci, .ref gd, .int gci, .long bl])), (gg, .inr (3, [.ref gs, .int zi])), (gs, .inl (cJ, 41, .inr (.inl Se))), (pi, .inl (cJ, 1274, .inr (.inl Pi))), (bo, .inl (cI, 92, .inl (nF Bo))), (k, .inr (2, [.ref nr, .ref fr, .ref rs, .ref at_, .ref h, .int al, .long br])), (at_, .inl (cJ, 14, .inr (.inl A)))]) s.heap H locs) (ls : Array Slot) (hl : lv_has ls 4 [(0, .ref sp), (1, .ref k), (2, .int (nI a)), (3, .int (nI b))]), W p l e (headSpec (Cond.code ⟨"CutPoints$Splitter", "findPieces", "(LCutPoints$Sketch;)V"⟩ prog_7_method_4_code 4 none :: TT) (rmk 2 52)).room s m ([.ref sp, .ref k] : List Value).toArray below meth c H locs 0 0 (MQ below (va_Qv (S := Nat × Int32 × (Nat → Int64) × (Nat → Int64) × (Nat → Nat)) (fun u9 => PCE A bl u9.2.2.2.1 u9.2.2.2.2 u9.1 14 15) (fun u9 t9 => va_P (dC, dI) cls ([(sp, .inr (6, [.ref gg, .ref pi, .ref bo, .int (nI u9.1), .ref gd, .int gci, .long bl])), (gg, .inr (3, [.ref gs, .int u9.2.1])), (gs, .inl (cJ, 41, .inr (.inl u9.2.2.1))), (pi, .inl (cJ, 1274, .inr (.inl u9.2.2.2.1))), (bo, .inl (cI, 92, .inl (nF u9.2.2.2.2))), (k, .inr (2, [.ref nr, .ref fr, .ref rs, .ref at_, .ref h, .int al, .long br])), (at_, .inl (cJ, 14, .inr (.inl A)))]) t9.heap) (ow [(sp, .inr (6, [.ref gg, .ref pi, .ref bo, .int pci, .ref gd, .int gci, .long bl])), (gg, .inr (3, [.ref gs, .int zi])), (gs, .inl (cJ, 41, .inr (.inl Se))), (pi, .inl (cJ, 1274, .inr (.inl Pi))), (bo, .inl (cI, 92, .inl (nF Bo))), (k, .inr (2, [.ref nr, .ref fr, .ref rs, .ref at_, .ref h, .int al, .long br])), (at_, .inl (cJ, 14, .inr (.inl A)))])) ([.ref sp, .ref k] : List Value).toArray s 0 0 (ow [(sp, .inr (6, [.ref gg, .ref pi, .ref bo, .int pci, .ref gd, .int gci, .long bl])), (gg, .inr (3, [.ref gs, .int zi])), (gs, .inl (cJ, 41, .inr (.inl Se))), (pi, .inl (cJ, 1274, .inr (.inl Pi))), (bo, .inl (cI, 92, .inl (nF Bo))), (k, .inr (2, [.ref nr, .ref fr, .ref rs, .ref at_, .ref h, .int al, .long br])), (at_, .inl (cJ, 14, .inr (.inl A)))])) (F0 m 17 ls []) := by
          intro n_17
          induction n_17 with
          | zero =>
            intro S2 zi2 Pi2 Bo2 pc b hn_17
            exact absurd hn_17 (Nat.not_lt_zero _)
          | succ n_17 ih_17 =>
            intro S2 zi2 Pi2 Bo2 pc b hn_17 hb_ hab hE2 H locs hP hD hS ls hl
            refine lv_iload_n hx hb d_SP_findPieces_17 rfl (lv_at hl 3 rfl) ?_
            refine lv_bipush (v := (nI 14)) hx hb d_SP_findPieces_18 (by decide) ?_
            refine x_cmp_ge (a := b) (b := 14) (tgt := 72) hx hb (by omega) (by omega) d_SP_findPieces_20 (by decide) (fun c_4 => ?_) (fun c_4 => ?_)
            · skip
              refine lv_iinc (v := (nI (a + 1))) (lv' := [(2, .int (nI (a + 1))), (0, .ref sp), (1, .ref k), (3, .int (nI b))]) hx hb d_SP_findPieces_72 hl (k := 2) rfl (nI_1 _) (by decide) rfl (fun ls hl => ?_)
              refine lv_goto (tgt := 7) hx hb d_SP_findPieces_75 (by decide) ?_
              exact ih_7 S2 zi2 Pi2 Bo2 pc (a + 1) (by omega) (by first | assumption | omega) (PCE_n hE2 (by assumption) (by omega)) _ _ hP hD hS ls (lv_sub hl [1, 2, 0] rfl)
            · skip
              refine lv_aload_n hx hb d_SP_findPieces_23 rfl (lv_at hl 1 rfl) ?_
              refine va_get (D := (dC, dI)) (ci := 2) (v := .ref at_) (C := R_SK) (T := F_SK) (N := 7) hx hb hts in_SK hown hK.1 hP 5 rfl rfl 3 (by decide) (hts _ wfl_SP_54) (fun _ h9 => h9) rfl d_SP_findPieces_24 ?_
              refine lv_iload_n hx hb d_SP_findPieces_27 rfl (lv_at hl 2 rfl) ?_
              refine x_lald (n := 14) (f := A) (j := a) hx hb hK.1 hP 6 1 rfl rfl (by omega) (by omega) d_SP_findPieces_28 ?_
              refine lv_aload_n hx hb d_SP_findPieces_29 rfl (lv_at hl 0 rfl) ?_
              refine va_get (D := (dC, dI)) (ci := 6) (v := .long bl) (C := R_SP) (T := F_SP) (N := 7) hx hb hts in_SP hown hK.1 hP 0 rfl rfl 6 (by decide) (hts _ wfl_SP_29) (fun _ h9 => h9) rfl d_SP_findPieces_30 ?_
              refine lv_land hx hb d_SP_findPieces_33 ?_
              refine lv_lconst (v := 0) hx hb d_SP_findPieces_34 rfl ?_
              refine x_lcmp_eq (tgt := 66) hx hb d_SP_findPieces_35 d_SP_findPieces_36 (by decide) (fun c_5 => ?_) (fun c_5 => ?_)
              · skip
                refine lv_iinc (v := (nI (b + 1))) (lv' := [(3, .int (nI (b + 1))), (0, .ref sp), (1, .ref k), (2, .int (nI a))]) hx hb d_SP_findPieces_66 hl (k := 3) rfl (nI_1 _) (by decide) rfl (fun ls hl => ?_)
                refine lv_goto (tgt := 17) hx hb d_SP_findPieces_69 (by decide) ?_
                exact ih_17 S2 zi2 Pi2 Bo2 pc (b + 1) (by omega) (by first | assumption | omega) (by first | assumption | omega) (PCE_s hE2 hab (Or.inl c_5)) _ _ hP hD hS ls (lv_sub hl [1, 2, 3, 0] rfl)
              · skip
                refine lv_aload_n hx hb d_SP_findPieces_39 rfl (lv_at hl 1 rfl) ?_
                refine va_get (D := (dC, dI)) (ci := 2) (v := .ref at_) (C := R_SK) (T := F_SK) (N := 7) hx hb hts in_SK hown hK.1 hP 5 rfl rfl 3 (by decide) (hts _ wfl_SP_54) (fun _ h9 => h9) rfl d_SP_findPieces_40 ?_
                refine lv_iload_n hx hb d_SP_findPieces_43 rfl (lv_at hl 3 rfl) ?_
                refine x_lald (n := 14) (f := A) (j := b) hx hb hK.1 hP 6 1 rfl rfl (by omega) (by omega) d_SP_findPieces_44 ?_
                refine lv_aload_n hx hb d_SP_findPieces_45 rfl (lv_at hl 0 rfl) ?_
                refine va_get (D := (dC, dI)) (ci := 6) (v := .long bl) (C := R_SP) (T := F_SP) (N := 7) hx hb hts in_SP hown hK.1 hP 0 rfl rfl 6 (by decide) (hts _ wfl_SP_29) (fun _ h9 => h9) rfl d_SP_findPieces_46 ?_
                refine lv_land hx hb d_SP_findPieces_49 ?_
                refine lv_lconst (v := 0) hx hb d_SP_findPieces_50 rfl ?_
                refine x_lcmp_eq (tgt := 66) hx hb d_SP_findPieces_51 d_SP_findPieces_52 (by decide) (fun c_6 => ?_) (fun c_6 => ?_)
                · skip
                  refine lv_iinc (v := (nI (b + 1))) (lv' := [(3, .int (nI (b + 1))), (0, .ref sp), (1, .ref k), (2, .int (nI a))]) hx hb d_SP_findPieces_66 hl (k := 3) rfl (nI_1 _) (by decide) rfl (fun ls hl => ?_)
                  refine lv_goto (tgt := 17) hx hb d_SP_findPieces_69 (by decide) ?_
                  exact ih_17 S2 zi2 Pi2 Bo2 pc (b + 1) (by omega) (by first | assumption | omega) (by first | assumption | omega) (PCE_s hE2 hab (Or.inr c_6)) _ _ hP hD hS ls (lv_sub hl [1, 2, 3, 0] rfl)
                · skip
                  refine lv_aload_n hx hb d_SP_findPieces_55 rfl (lv_at hl 0 rfl) ?_
                  refine lv_aload_n hx hb d_SP_findPieces_56 rfl (lv_at hl 1 rfl) ?_
                  refine lv_iload_n hx hb d_SP_findPieces_57 rfl (lv_at hl 2 rfl) ?_
                  refine lv_iload_n hx hb d_SP_findPieces_58 rfl (lv_at hl 3 rfl) ?_
                  refine x_cv (k_V (n := 3) (C := R_SP) (rest := []) ⟨hx, hb, hml, hown, hts⟩ (c_SP_cutAt l dC dI cI cJ cZ sp gg pi bo gd (nI pc) gci bl gs zi2 S2 k nr fr rs at_ h al br A a b (by first | assumption | omega) (by first | assumption | omega) hb41) wml_SP_59 wim_SP_cutAt wsel_SP_cutAt wini_SP wcode_SP_cutAt (by decide +kernel) ⟨Nat.le_of_ble_eq_true rfl, Nat.le_of_ble_eq_true rfl⟩ (preV_M (q := (R_SP, F_SP, 7)) (ci := 6) (q0 := 0) (hP.sub (ws' := [(sp, .inr (6, [.ref gg, .ref pi, .ref bo, .int (nI pc), .ref gd, .int gci, .long bl])), (gg, .inr (3, [.ref gs, .int zi2])), (gs, .inl (cJ, 41, .inr (.inl S2))), (k, .inr (2, [.ref nr, .ref fr, .ref rs, .ref at_, .ref h, .int al, .long br])), (at_, .inl (cJ, 14, .inr (.inl A)))]) [0, 1, 2, 5, 6] rfl) hK (hD.sub (ws' := [(sp, .inr (6, [.ref gg, .ref pi, .ref bo, .int (nI pc), .ref gd, .int gci, .long bl])), (gg, .inr (3, [.ref gs, .int zi2])), (gs, .inl (cJ, 41, .inr (.inl S2))), (k, .inr (2, [.ref nr, .ref fr, .ref rs, .ref at_, .ref h, .int al, .long br])), (at_, .inl (cJ, 14, .inr (.inl A)))]) [0, 1, 2, 5, 6] (by decide) rfl) rfl rfl) rfl hl.1 rfl (Nat.le_of_ble_eq_true rfl) d_SP_findPieces_59 ⟨Nat.zero_le _, Nat.zero_le _⟩) hP hD hS [0, 1, 2, 5, 6] rfl (fun _ => rfl) (fun u_7 H locs hu_7 hP hS => ?_)
                  obtain ⟨S9_7, z9_7⟩ := u_7
                  have hP : va_P (dC, dI) cls [(sp, .inr (6, [.ref gg, .ref pi, .ref bo, .int (nI pc), .ref gd, .int gci, .long bl])), (gg, .inr (3, [.ref gs, .int (nI z9_7)])), (gs, .inl (cJ, 41, .inr (.inl S9_7))), (pi, .inl (cJ, 1274, .inr (.inl Pi2))), (bo, .inl (cI, 92, .inl (nF Bo2))), (k, .inr (2, [.ref nr, .ref fr, .ref rs, .ref at_, .ref h, .int al, .long br])), (at_, .inl (cJ, 14, .inr (.inl A)))] H := hP
                  have hD := hD.addr (ws' := [(sp, .inr (6, [.ref gg, .ref pi, .ref bo, .int (nI pc), .ref gd, .int gci, .long bl])), (gg, .inr (3, [.ref gs, .int (nI z9_7)])), (gs, .inl (cJ, 41, .inr (.inl S9_7))), (pi, .inl (cJ, 1274, .inr (.inl Pi2))), (bo, .inl (cI, 92, .inl (nF Bo2))), (k, .inr (2, [.ref nr, .ref fr, .ref rs, .ref at_, .ref h, .int al, .long br])), (at_, .inl (cJ, 14, .inr (.inl A)))]) rfl
                  refine lv_aload_n hx hb d_SP_findPieces_62 rfl (lv_at hl 0 rfl) ?_
                  refine x_cv (k_V (n := 0) (C := R_SP) (rest := []) ⟨hx, hb, hml, hown, hts⟩ (c_SP_keepPieces l dC dI cI cJ cZ sp gg pi bo gd pc gci bl gs z9_7 S9_7 Pi2 Bo2 hu_7.le (PCE_cap hE2 hab (by assumption) hu_7 h14).1 (PCE_cap hE2 hab (by assumption) hu_7 h14).2) wml_SP_63 wim_SP_keepPieces wsel_SP_keepPieces wini_SP wcode_SP_keepPieces (by decide +kernel) ⟨Nat.le_of_ble_eq_true rfl, Nat.le_of_ble_eq_true rfl⟩ (preV_M (q := (R_SP, F_SP, 7)) (ci := 6) (q0 := 0) (hP.sub (ws' := [(sp, .inr (6, [.ref gg, .ref pi, .ref bo, .int (nI pc), .ref gd, .int gci, .long bl])), (gg, .inr (3, [.ref gs, .int (nI z9_7)])), (gs, .inl (cJ, 41, .inr (.inl S9_7))), (pi, .inl (cJ, 1274, .inr (.inl Pi2))), (bo, .inl (cI, 92, .inl (nF Bo2)))]) [0, 1, 2, 3, 4] rfl) hK (hD.sub (ws' := [(sp, .inr (6, [.ref gg, .ref pi, .ref bo, .int (nI pc), .ref gd, .int gci, .long bl])), (gg, .inr (3, [.ref gs, .int (nI z9_7)])), (gs, .inl (cJ, 41, .inr (.inl S9_7))), (pi, .inl (cJ, 1274, .inr (.inl Pi2))), (bo, .inl (cI, 92, .inl (nF Bo2)))]) [0, 1, 2, 3, 4] (by decide) rfl) rfl rfl) rfl hl.1 rfl (Nat.le_of_ble_eq_true rfl) d_SP_findPieces_63 ⟨Nat.zero_le _, Nat.zero_le _⟩) hP hD hS [0, 1, 2, 3, 4] rfl (fun _ => rfl) (fun u_8 H locs hu_8 hP hS => ?_)
                  obtain ⟨pc9_8, Bo9_8, Pi9_8⟩ := u_8
                  have hP : va_P (dC, dI) cls [(sp, .inr (6, [.ref gg, .ref pi, .ref bo, .int (nI pc9_8), .ref gd, .int gci, .long bl])), (gg, .inr (3, [.ref gs, .int (nI z9_7)])), (gs, .inl (cJ, 41, .inr (.inl S9_7))), (pi, .inl (cJ, 1274, .inr (.inl Pi9_8))), (bo, .inl (cI, 92, .inl (nF Bo9_8))), (k, .inr (2, [.ref nr, .ref fr, .ref rs, .ref at_, .ref h, .int al, .long br])), (at_, .inl (cJ, 14, .inr (.inl A)))] H := hP
                  have hD := hD.addr (ws' := [(sp, .inr (6, [.ref gg, .ref pi, .ref bo, .int (nI pc9_8), .ref gd, .int gci, .long bl])), (gg, .inr (3, [.ref gs, .int (nI z9_7)])), (gs, .inl (cJ, 41, .inr (.inl S9_7))), (pi, .inl (cJ, 1274, .inr (.inl Pi9_8))), (bo, .inl (cI, 92, .inl (nF Bo9_8))), (k, .inr (2, [.ref nr, .ref fr, .ref rs, .ref at_, .ref h, .int al, .long br])), (at_, .inl (cJ, 14, .inr (.inl A)))]) rfl
                  refine lv_iinc (v := (nI (b + 1))) (lv' := [(3, .int (nI (b + 1))), (0, .ref sp), (1, .ref k), (2, .int (nI a))]) hx hb d_SP_findPieces_66 hl (k := 3) rfl (nI_1 _) (by decide) rfl (fun ls hl => ?_)
                  refine lv_goto (tgt := 17) hx hb d_SP_findPieces_69 (by decide) ?_
                  exact ih_17 S9_7 (nI z9_7) Pi9_8 Bo9_8 pc9_8 (b + 1) (by omega) (by first | assumption | omega) (by first | assumption | omega) (PCE_k hE2 hab (by assumption) hu_7 h14 hu_8) _ _ hP hD hS ls (lv_sub hl [1, 2, 3, 0] rfl)
        exact L17_3 ((14 - (a + 1)) + 1) S2 zi2 Pi2 Bo2 pc (a + 1) (Nat.lt_succ_self _) (by first | assumption | omega) (by first | assumption | omega) hE _ _ hP hD hS ls (lv_sub hl [1, 2, 3, 0] rfl)
  exact L7_1 ((14 - 0) + 1) Se zi Pi Bo 0 0 (Nat.lt_succ_self _) (by first | assumption | omega) ⟨_, _, PCI_0 hB0⟩ _ _ hP hD hS ls (lv_sub hl [1, 2, 0] rfl)

theorem d_SP_keepGood_0 : decode prog_7_method_7_code 0 = .ok (.iload_n 2, 1) := by decide +kernel
theorem d_SP_keepGood_1 : decode prog_7_method_7_code 1 = .ok (.iload_n 1, 1) := by decide +kernel
theorem d_SP_keepGood_2 : decode prog_7_method_7_code 2 = .ok (.isub, 1) := by decide +kernel
theorem d_SP_keepGood_3 : decode prog_7_method_7_code 3 = .ok (.iconst 2, 1) := by decide +kernel
theorem d_SP_keepGood_4 : decode prog_7_method_7_code 4 = .ok (.if_icmp .ne 9, 3) := by decide +kernel
theorem d_SP_keepGood_7 : decode prog_7_method_7_code 7 = .ok (.iload_n 1, 1) := by decide +kernel
theorem d_SP_keepGood_8 : decode prog_7_method_7_code 8 = .ok (.iconst 1, 1) := by decide +kernel
theorem d_SP_keepGood_9 : decode prog_7_method_7_code 9 = .ok (.iadd, 1) := by decide +kernel
theorem d_SP_keepGood_10 : decode prog_7_method_7_code 10 = .ok (.goto 4, 3) := by decide +kernel
theorem d_SP_keepGood_13 : decode prog_7_method_7_code 13 = .ok (.iload_n 2, 1) := by decide +kernel
theorem d_SP_keepGood_14 : decode prog_7_method_7_code 14 = .ok (.istore_n 3, 1) := by decide +kernel
theorem d_SP_keepGood_15 : decode prog_7_method_7_code 15 = .ok (.iload_n 1, 1) := by decide +kernel
theorem d_SP_keepGood_16 : decode prog_7_method_7_code 16 = .ok (.istore 4, 2) := by decide +kernel
theorem d_SP_keepGood_18 : decode prog_7_method_7_code 18 = .ok (.iload 4, 2) := by decide +kernel
theorem d_SP_keepGood_20 : decode prog_7_method_7_code 20 = .ok (.iload_n 3, 1) := by decide +kernel
theorem d_SP_keepGood_21 : decode prog_7_method_7_code 21 = .ok (.if_icmp .ge 110, 3) := by decide +kernel
theorem d_SP_keepGood_24 : decode prog_7_method_7_code 24 = .ok (.aload_n 0, 1) := by decide +kernel
theorem d_SP_keepGood_25 : decode prog_7_method_7_code 25 = .ok (.getfield 18, 3) := by decide +kernel
theorem d_SP_keepGood_28 : decode prog_7_method_7_code 28 = .ok (.iload 4, 2) := by decide +kernel
theorem d_SP_keepGood_30 : decode prog_7_method_7_code 30 = .ok (.laload, 1) := by decide +kernel
theorem d_SP_keepGood_31 : decode prog_7_method_7_code 31 = .ok (.invokestatic 79, 3) := by decide +kernel
theorem d_SP_keepGood_34 : decode prog_7_method_7_code 34 = .ok (.iconst 1, 1) := by decide +kernel
theorem d_SP_keepGood_35 : decode prog_7_method_7_code 35 = .ok (.if_icmp .le 30, 3) := by decide +kernel
theorem d_SP_keepGood_38 : decode prog_7_method_7_code 38 = .ok (.aload_n 0, 1) := by decide +kernel
theorem d_SP_keepGood_39 : decode prog_7_method_7_code 39 = .ok (.getfield 29, 3) := by decide +kernel
theorem d_SP_keepGood_42 : decode prog_7_method_7_code 42 = .ok (.aload_n 0, 1) := by decide +kernel
theorem d_SP_keepGood_43 : decode prog_7_method_7_code 43 = .ok (.getfield 18, 3) := by decide +kernel
theorem d_SP_keepGood_46 : decode prog_7_method_7_code 46 = .ok (.iload 4, 2) := by decide +kernel
theorem d_SP_keepGood_48 : decode prog_7_method_7_code 48 = .ok (.laload, 1) := by decide +kernel
theorem d_SP_keepGood_49 : decode prog_7_method_7_code 49 = .ok (.ldc2_w 52, 3) := by decide +kernel
theorem d_SP_keepGood_52 : decode prog_7_method_7_code 52 = .ok (.lxor, 1) := by decide +kernel
theorem d_SP_keepGood_53 : decode prog_7_method_7_code 53 = .ok (.land, 1) := by decide +kernel
theorem d_SP_keepGood_54 : decode prog_7_method_7_code 54 = .ok (.invokestatic 79, 3) := by decide +kernel
theorem d_SP_keepGood_57 : decode prog_7_method_7_code 57 = .ok (.iconst 1, 1) := by decide +kernel
theorem d_SP_keepGood_58 : decode prog_7_method_7_code 58 = .ok (.if_icmp .le 7, 3) := by decide +kernel
theorem d_SP_keepGood_61 : decode prog_7_method_7_code 61 = .ok (.iconst 1, 1) := by decide +kernel
theorem d_SP_keepGood_62 : decode prog_7_method_7_code 62 = .ok (.goto 4, 3) := by decide +kernel
theorem d_SP_keepGood_65 : decode prog_7_method_7_code 65 = .ok (.iconst 0, 1) := by decide +kernel
theorem d_SP_keepGood_66 : decode prog_7_method_7_code 66 = .ok (.istore 5, 2) := by decide +kernel
theorem d_SP_keepGood_68 : decode prog_7_method_7_code 68 = .ok (.iload 5, 2) := by decide +kernel
theorem d_SP_keepGood_70 : decode prog_7_method_7_code 70 = .ok (.ifCond .eq 55, 3) := by decide +kernel
theorem d_SP_keepGood_73 : decode prog_7_method_7_code 73 = .ok (.aload_n 0, 1) := by decide +kernel
theorem d_SP_keepGood_74 : decode prog_7_method_7_code 74 = .ok (.getfield 37, 3) := by decide +kernel
theorem d_SP_keepGood_77 : decode prog_7_method_7_code 77 = .ok (.aload_n 0, 1) := by decide +kernel
theorem d_SP_keepGood_78 : decode prog_7_method_7_code 78 = .ok (.getfield 26, 3) := by decide +kernel
theorem d_SP_keepGood_81 : decode prog_7_method_7_code 81 = .ok (.arraylength, 1) := by decide +kernel
theorem d_SP_keepGood_82 : decode prog_7_method_7_code 82 = .ok (.if_icmp .ge 43, 3) := by decide +kernel
theorem d_SP_keepGood_85 : decode prog_7_method_7_code 85 = .ok (.aload_n 0, 1) := by decide +kernel
theorem d_SP_keepGood_86 : decode prog_7_method_7_code 86 = .ok (.aload_n 0, 1) := by decide +kernel
theorem d_SP_keepGood_87 : decode prog_7_method_7_code 87 = .ok (.getfield 18, 3) := by decide +kernel
theorem d_SP_keepGood_90 : decode prog_7_method_7_code 90 = .ok (.iload 4, 2) := by decide +kernel
theorem d_SP_keepGood_92 : decode prog_7_method_7_code 92 = .ok (.laload, 1) := by decide +kernel
theorem d_SP_keepGood_93 : decode prog_7_method_7_code 93 = .ok (.invokevirtual 85, 3) := by decide +kernel
theorem d_SP_keepGood_96 : decode prog_7_method_7_code 96 = .ok (.ifCond .ne 29, 3) := by decide +kernel
theorem d_SP_keepGood_99 : decode prog_7_method_7_code 99 = .ok (.aload_n 0, 1) := by decide +kernel
theorem d_SP_keepGood_100 : decode prog_7_method_7_code 100 = .ok (.getfield 26, 3) := by decide +kernel
theorem d_SP_keepGood_103 : decode prog_7_method_7_code 103 = .ok (.aload_n 0, 1) := by decide +kernel
theorem d_SP_keepGood_104 : decode prog_7_method_7_code 104 = .ok (.getfield 37, 3) := by decide +kernel
theorem d_SP_keepGood_107 : decode prog_7_method_7_code 107 = .ok (.aload_n 0, 1) := by decide +kernel
theorem d_SP_keepGood_108 : decode prog_7_method_7_code 108 = .ok (.getfield 18, 3) := by decide +kernel
theorem d_SP_keepGood_111 : decode prog_7_method_7_code 111 = .ok (.iload 4, 2) := by decide +kernel
theorem d_SP_keepGood_113 : decode prog_7_method_7_code 113 = .ok (.laload, 1) := by decide +kernel
theorem d_SP_keepGood_114 : decode prog_7_method_7_code 114 = .ok (.lastore, 1) := by decide +kernel
theorem d_SP_keepGood_115 : decode prog_7_method_7_code 115 = .ok (.aload_n 0, 1) := by decide +kernel
theorem d_SP_keepGood_116 : decode prog_7_method_7_code 116 = .ok (.dup, 1) := by decide +kernel
theorem d_SP_keepGood_117 : decode prog_7_method_7_code 117 = .ok (.getfield 37, 3) := by decide +kernel
theorem d_SP_keepGood_120 : decode prog_7_method_7_code 120 = .ok (.iconst 1, 1) := by decide +kernel
theorem d_SP_keepGood_121 : decode prog_7_method_7_code 121 = .ok (.iadd, 1) := by decide +kernel
theorem d_SP_keepGood_122 : decode prog_7_method_7_code 122 = .ok (.putfield 37, 3) := by decide +kernel
theorem d_SP_keepGood_125 : decode prog_7_method_7_code 125 = .ok (.iinc 4 1, 3) := by decide +kernel
theorem d_SP_keepGood_128 : decode prog_7_method_7_code 128 = .ok (.goto (-110), 3) := by decide +kernel
theorem d_SP_keepGood_131 : decode prog_7_method_7_code 131 = .ok (.return_, 1) := by decide +kernel
set_option maxHeartbeats 4000000 in
set_option maxRecDepth 100000 in
theorem c_SP_keepGood (l : Launch) (dC : Nat → ClassId) (dI : Nat → Nat → Nat) (cI cJ cZ : ClassId) (sp gg pi bo gd : Nat) (pc gc : Nat) (bl : Int64) (Pi : Nat → Int64) (Bo : Nat → Nat) (hBo : ∀ p, p < pc → Bo p ≤ Bo (p + 1) ∧ Bo (p + 1) ≤ 1274) (hpc : pc ≤ 91) (Gd : Nat → Int64) (fr bh : Nat) (hfb : fr ≤ bh) (hbh : bh ≤ 1274) (hgc : gc ≤ 14) : Met l ⟨"CutPoints$Splitter", "keepGood", "(II)V"⟩ (Cond.code ⟨"CutPoints$Splitter", "keepGood", "(II)V"⟩ prog_7_method_7_code 6 none :: TT) (rmk 3 65) (PM dC dI cI cJ cZ [.ref sp, .int (nI fr), .int (nI bh)] [(sp, .inr (6, [.ref gg, .ref pi, .ref bo, .int (nI pc), .ref gd, .int (nI gc), .long bl])), (pi, .inl (cJ, 1274, .inr (.inl Pi))), (bo, .inl (cI, 92, .inl (nF Bo))), (gd, .inl (cJ, 14, .inr (.inl Gd)))]) (va_Qv (S := (Nat → Int64) × Nat) (fun u9 => kgI Pi Bo pc bl fr gc Gd u9.1 u9.2 (lasN fr bh)) (fun u9 t9 => va_P (dC, dI) cls ([(sp, .inr (6, [.ref gg, .ref pi, .ref bo, .int (nI pc), .ref gd, .int (nI u9.2), .long bl])), (pi, .inl (cJ, 1274, .inr (.inl Pi))), (bo, .inl (cI, 92, .inl (nF Bo))), (gd, .inl (cJ, 14, .inr (.inl u9.1)))]) t9.heap) (ow [(sp, .inr (6, [.ref gg, .ref pi, .ref bo, .int (nI pc), .ref gd, .int (nI gc), .long bl])), (pi, .inl (cJ, 1274, .inr (.inl Pi))), (bo, .inl (cI, 92, .inl (nF Bo))), (gd, .inl (cJ, 14, .inr (.inl Gd)))])) 0 0 (ow [(sp, .inr (6, [.ref gg, .ref pi, .ref bo, .int (nI pc), .ref gd, .int (nI gc), .long bl])), (pi, .inl (cJ, 1274, .inr (.inl Pi))), (bo, .inl (cI, 92, .inl (nF Bo))), (gd, .inl (cJ, 14, .inr (.inl Gd)))]) := by
  refine Met.ofW (cc := prog_7_method_7_code) (maxL := 6) (ret := none) (by decide) rfl ?_
  intro p e s m args below meth c s₁ BB9 hml hv
  obtain ⟨rfl, hP, hK, hD0⟩ := hv
  have hx := BB9.exec
  have hb := BB9.bytes
  have hr := BB9.returns
  have hts : ∀ w ∈ TT, w.before _ s = true := fun w h => atoms_spec (ws := (Cond.code ⟨"CutPoints$Splitter", "keepGood", "(II)V"⟩ prog_7_method_7_code 6 none :: TT)) BB9.pre w (List.mem_cons_of_mem _ h)
  have hown : s.vm.findClass "CutPoints$Splitter" = some m.cls := findClass_of_methodNamed BB9.named
  have hlocks := BB9.notSynchronized
  have hD := hD0.mine
  have hS : va_S (ow [(sp, .inr (6, [.ref gg, .ref pi, .ref bo, .int (nI pc), .ref gd, .int (nI gc), .long bl])), (pi, .inl (cJ, 1274, .inr (.inl Pi))), (bo, .inl (cI, 92, .inl (nF Bo))), (gd, .inl (cJ, 14, .inr (.inl Gd)))]) s.heap s.heap [] := va_S.rf
  have hl := lv_entry ([.ref sp, .int (nI fr), .int (nI bh)]) (n := 6) (Nat.le_of_ble_eq_true rfl)
  rw [lg_entry_eq]
  generalize (lg_sl ([.ref sp, .int (nI fr), .int (nI bh)]) ++ List.replicate (6 - (lg_sl ([.ref sp, .int (nI fr), .int (nI bh)])).length) Slot.unset).toArray = ls at hl ⊢
  have hl : lv_has ls 6 [(0, .ref sp), (1, .int (nI fr)), (2, .int (nI bh))] := hl
  refine lv_iload_n hx hb d_SP_keepGood_0 rfl (lv_at hl 2 rfl) ?_
  refine lv_iload_n hx hb d_SP_keepGood_1 rfl (lv_at hl 1 rfl) ?_
  refine lv_isub hx hb d_SP_keepGood_2 ?_
  refine xe_i (pk_sub (by omega)) ?_
  refine lv_iconst (v := (nI 2)) hx hb d_SP_keepGood_3 (by decide) ?_
  refine x_cmp_ne (a := (bh - fr)) (b := 2) (tgt := 13) hx hb (by omega) (by omega) d_SP_keepGood_4 (by decide) (fun c_1 => ?_) (fun c_1 => ?_)
  · skip
    refine lv_iload_n hx hb d_SP_keepGood_13 rfl (lv_at hl 2 rfl) ?_
    have L14_2 : ∀ (la : Nat) (hla : la = fr + lasN fr bh) (hlb : la ≤ bh) (hlf : fr ≤ la) (H : Heap) (locs : List Loc) (hP : va_P (dC, dI) cls [(sp, .inr (6, [.ref gg, .ref pi, .ref bo, .int (nI pc), .ref gd, .int (nI gc), .long bl])), (pi, .inl (cJ, 1274, .inr (.inl Pi))), (bo, .inl (cI, 92, .inl (nF Bo))), (gd, .inl (cJ, 14, .inr (.inl Gd)))] H) (hD : va_D (ow [(sp, .inr (6, [.ref gg, .ref pi, .ref bo, .int (nI pc), .ref gd, .int (nI gc), .long bl])), (pi, .inl (cJ, 1274, .inr (.inl Pi))), (bo, .inl (cI, 92, .inl (nF Bo))), (gd, .inl (cJ, 14, .inr (.inl Gd)))]) [(sp, .inr (6, [.ref gg, .ref pi, .ref bo, .int (nI pc), .ref gd, .int (nI gc), .long bl])), (pi, .inl (cJ, 1274, .inr (.inl Pi))), (bo, .inl (cI, 92, .inl (nF Bo))), (gd, .inl (cJ, 14, .inr (.inl Gd)))]) (hS : va_S (ow [(sp, .inr (6, [.ref gg, .ref pi, .ref bo, .int (nI pc), .ref gd, .int (nI gc), .long bl])), (pi, .inl (cJ, 1274, .inr (.inl Pi))), (bo, .inl (cI, 92, .inl (nF Bo))), (gd, .inl (cJ, 14, .inr (.inl Gd)))]) s.heap H locs) (ls : Array Slot) (hl : lv_has ls 6 [(0, .ref sp), (1, .int (nI fr)), (2, .int (nI bh))]), W p l e (headSpec (Cond.code ⟨"CutPoints$Splitter", "keepGood", "(II)V"⟩ prog_7_method_7_code 6 none :: TT) (rmk 3 65)).room s m ([.ref sp, .int (nI fr), .int (nI bh)] : List Value).toArray below meth c H locs 0 0 (MQ below (va_Qv (S := (Nat → Int64) × Nat) (fun u9 => kgI Pi Bo pc bl fr gc Gd u9.1 u9.2 (lasN fr bh)) (fun u9 t9 => va_P (dC, dI) cls ([(sp, .inr (6, [.ref gg, .ref pi, .ref bo, .int (nI pc), .ref gd, .int (nI u9.2), .long bl])), (pi, .inl (cJ, 1274, .inr (.inl Pi))), (bo, .inl (cI, 92, .inl (nF Bo))), (gd, .inl (cJ, 14, .inr (.inl u9.1)))]) t9.heap) (ow [(sp, .inr (6, [.ref gg, .ref pi, .ref bo, .int (nI pc), .ref gd, .int (nI gc), .long bl])), (pi, .inl (cJ, 1274, .inr (.inl Pi))), (bo, .inl (cI, 92, .inl (nF Bo))), (gd, .inl (cJ, 14, .inr (.inl Gd)))])) ([.ref sp, .int (nI fr), .int (nI bh)] : List Value).toArray s 0 0 (ow [(sp, .inr (6, [.ref gg, .ref pi, .ref bo, .int (nI pc), .ref gd, .int (nI gc), .long bl])), (pi, .inl (cJ, 1274, .inr (.inl Pi))), (bo, .inl (cI, 92, .inl (nF Bo))), (gd, .inl (cJ, 14, .inr (.inl Gd)))])) (F0 m 14 ls [.int (nI la)]) := by
      intro la hla hlb hlf H locs hP hD hS ls hl
      refine lv_istore_n (lv' := [(3, .int (nI la)), (0, .ref sp), (1, .int (nI fr)), (2, .int (nI bh))]) hx hb d_SP_keepGood_14 rfl hl (by decide) rfl (fun ls hl => ?_)
      refine lv_iload_n hx hb d_SP_keepGood_15 rfl (lv_at hl 2 rfl) ?_
      refine lv_istore (lv' := [(4, .int (nI fr)), (3, .int (nI la)), (0, .ref sp), (1, .int (nI fr)), (2, .int (nI bh))]) hx hb d_SP_keepGood_16 hl (by decide) rfl (fun ls hl => ?_)
      have L18_3 : ∀ (n : Nat) (Gd2 : Nat → Int64) (gc2 : Nat) (j : Nat) (hn : la - (fr + j) < n) (hi : fr + j ≤ la) (hk : kgI Pi Bo pc bl fr gc Gd Gd2 gc2 j) (H : Heap) (locs : List Loc) (hP : va_P (dC, dI) cls [(sp, .inr (6, [.ref gg, .ref pi, .ref bo, .int (nI pc), .ref gd, .int (nI gc2), .long bl])), (pi, .inl (cJ, 1274, .inr (.inl Pi))), (bo, .inl (cI, 92, .inl (nF Bo))), (gd, .inl (cJ, 14, .inr (.inl Gd2)))] H) (hD : va_D (ow [(sp, .inr (6, [.ref gg, .ref pi, .ref bo, .int (nI pc), .ref gd, .int (nI gc), .long bl])), (pi, .inl (cJ, 1274, .inr (.inl Pi))), (bo, .inl (cI, 92, .inl (nF Bo))), (gd, .inl (cJ, 14, .inr (.inl Gd)))]) [(sp, .inr (6, [.ref gg, .ref pi, .ref bo, .int (nI pc), .ref gd, .int (nI gc2), .long bl])), (pi, .inl (cJ, 1274, .inr (.inl Pi))), (bo, .inl (cI, 92, .inl (nF Bo))), (gd, .inl (cJ, 14, .inr (.inl Gd2)))]) (hS : va_S (ow [(sp, .inr (6, [.ref gg, .ref pi, .ref bo, .int (nI pc), .ref gd, .int (nI gc), .long bl])), (pi, .inl (cJ, 1274, .inr (.inl Pi))), (bo, .inl (cI, 92, .inl (nF Bo))), (gd, .inl (cJ, 14, .inr (.inl Gd)))]) s.heap H locs) (ls : Array Slot) (hl : lv_has ls 6 [(0, .ref sp), (1, .int (nI fr)), (2, .int (nI bh)), (3, .int (nI la)), (4, .int (nI (fr + j)))]), W p l e (headSpec (Cond.code ⟨"CutPoints$Splitter", "keepGood", "(II)V"⟩ prog_7_method_7_code 6 none :: TT) (rmk 3 65)).room s m ([.ref sp, .int (nI fr), .int (nI bh)] : List Value).toArray below meth c H locs 0 0 (MQ below (va_Qv (S := (Nat → Int64) × Nat) (fun u9 => kgI Pi Bo pc bl fr gc Gd u9.1 u9.2 (lasN fr bh)) (fun u9 t9 => va_P (dC, dI) cls ([(sp, .inr (6, [.ref gg, .ref pi, .ref bo, .int (nI pc), .ref gd, .int (nI u9.2), .long bl])), (pi, .inl (cJ, 1274, .inr (.inl Pi))), (bo, .inl (cI, 92, .inl (nF Bo))), (gd, .inl (cJ, 14, .inr (.inl u9.1)))]) t9.heap) (ow [(sp, .inr (6, [.ref gg, .ref pi, .ref bo, .int (nI pc), .ref gd, .int (nI gc), .long bl])), (pi, .inl (cJ, 1274, .inr (.inl Pi))), (bo, .inl (cI, 92, .inl (nF Bo))), (gd, .inl (cJ, 14, .inr (.inl Gd)))])) ([.ref sp, .int (nI fr), .int (nI bh)] : List Value).toArray s 0 0 (ow [(sp, .inr (6, [.ref gg, .ref pi, .ref bo, .int (nI pc), .ref gd, .int (nI gc), .long bl])), (pi, .inl (cJ, 1274, .inr (.inl Pi))), (bo, .inl (cI, 92, .inl (nF Bo))), (gd, .inl (cJ, 14, .inr (.inl Gd)))])) (F0 m 18 ls []) := by
        intro n_18
        induction n_18 with
        | zero =>
          intro Gd2 gc2 j hn_18
          exact absurd hn_18 (Nat.not_lt_zero _)
        | succ n_18 ih_18 =>
          intro Gd2 gc2 j hn_18 hi hk H locs hP hD hS ls hl
          have hg14 := hk.2.1
          refine lv_iload hx hb d_SP_keepGood_18 (lv_at hl 4 rfl) ?_
          refine lv_iload_n hx hb d_SP_keepGood_20 rfl (lv_at hl 3 rfl) ?_
          refine x_cmp_ge (a := (fr + j)) (b := la) (tgt := 131) hx hb (by omega) (by omega) d_SP_keepGood_21 (by decide) (fun c_4 => ?_) (fun c_4 => ?_)
          · skip
            exact W.vret hx hb hr (fun t9 ht9 _ => ⟨⟨(Gd2, gc2), rfl, (by have e9 : j = lasN fr bh := (by omega); subst e9; exact hk), by show va_P (dC, dI) cls _ t9.heap; rw [ht9]; exact hP⟩, hS.F ht9⟩) hS.2.2 d_SP_keepGood_131
          · skip
            refine lv_aload_n hx hb d_SP_keepGood_24 rfl (lv_at hl 0 rfl) ?_
            refine va_get (D := (dC, dI)) (ci := 6) (v := .ref pi) (C := R_SP) (T := F_SP) (N := 7) hx hb hts in_SP hown hK.1 hP 0 rfl rfl 1 (by decide) (hts _ wfl_SP_18) (fun _ h9 => h9) rfl d_SP_keepGood_25 ?_
            refine lv_iload hx hb d_SP_keepGood_28 (lv_at hl 4 rfl) ?_
            refine x_lald (n := 1274) (f := Pi) (j := (fr + j)) hx hb hK.1 hP 1 1 rfl rfl (by omega) (by omega) d_SP_keepGood_30 ?_
            refine vp_callSi (va_Run.run (k_S (n := 1) (rest := []) ⟨hx, hb, hml, hown, hts⟩ (c_JL_bitCount l dC dI cI cJ cZ (Pi (fr + j))) wml_SP_79 wst_JL_bitCount wini_JL wcode_JL_bitCount (by decide +kernel) ⟨Nat.le_of_ble_eq_true rfl, Nat.le_of_ble_eq_true rfl⟩ (pre_R (hP.sub (ws' := []) [] rfl) hK) rfl hl.1 rfl (Nat.le_of_ble_eq_true rfl) d_SP_keepGood_31 ⟨Nat.zero_le _, Nat.zero_le _⟩)) (fun r_5 hr_6 => ?_)
            refine xe_i (y := (nI (cn (lb (Pi (fr + j))) 64))) hr_6 ?_
            refine lv_iconst (v := (nI 1)) hx hb d_SP_keepGood_34 (by decide) ?_
            refine x_cmp_le (a := (cn (lb (Pi (fr + j))) 64)) (b := 1) (tgt := 65) hx hb (Nat.lt_of_le_of_lt (cn_le _ _) (by decide)) (by omega) d_SP_keepGood_35 (by decide) (fun c_7 => ?_) (fun c_7 => ?_)
            · skip
              refine lv_iconst (v := (nI 0)) hx hb d_SP_keepGood_65 (by decide) ?_
              refine lv_istore (lv' := [(5, .int (nI 0)), (0, .ref sp), (1, .int (nI fr)), (2, .int (nI bh)), (3, .int (nI la)), (4, .int (nI (fr + j)))]) hx hb d_SP_keepGood_66 hl (by decide) rfl (fun ls hl => ?_)
              refine lv_iload hx hb d_SP_keepGood_68 (lv_at hl 0 rfl) ?_
              refine lv_if_eq (tgt := 125) hx hb d_SP_keepGood_70 (by decide) (fun _ => ?_) (fun c9 => absurd (by decide : (nI 0) = 0) c9)
              refine lv_iinc (v := (nI ((fr + j) + 1))) (lv' := [(4, .int (nI ((fr + j) + 1))), (5, .int (nI 0)), (0, .ref sp), (1, .int (nI fr)), (2, .int (nI bh)), (3, .int (nI la))]) hx hb d_SP_keepGood_125 hl (k := 5) rfl (nI_1 _) (by decide) rfl (fun ls hl => ?_)
              refine lv_goto (tgt := 18) hx hb d_SP_keepGood_128 (by decide) ?_
              exact ih_18 Gd2 gc2 (j + 1) (by omega) (by first | assumption | omega) (kgI_f hk (by unfold okB; rw [decide_eq_false (by have := c_7; omega)]; rfl)) _ _ hP hD hS ls (lv_sub hl [2, 3, 4, 5, 0] rfl)
            · skip
              refine lv_aload_n hx hb d_SP_keepGood_38 rfl (lv_at hl 0 rfl) ?_
              refine va_get (D := (dC, dI)) (ci := 6) (v := .long bl) (C := R_SP) (T := F_SP) (N := 7) hx hb hts in_SP hown hK.1 hP 0 rfl rfl 6 (by decide) (hts _ wfl_SP_29) (fun _ h9 => h9) rfl d_SP_keepGood_39 ?_
              refine lv_aload_n hx hb d_SP_keepGood_42 rfl (lv_at hl 0 rfl) ?_
              refine va_get (D := (dC, dI)) (ci := 6) (v := .ref pi) (C := R_SP) (T := F_SP) (N := 7) hx hb hts in_SP hown hK.1 hP 0 rfl rfl 1 (by decide) (hts _ wfl_SP_18) (fun _ h9 => h9) rfl d_SP_keepGood_43 ?_
              refine lv_iload hx hb d_SP_keepGood_46 (lv_at hl 4 rfl) ?_
              refine x_lald (n := 1274) (f := Pi) (j := (fr + j)) hx hb hK.1 hP 1 1 rfl rfl (by omega) (by omega) d_SP_keepGood_48 ?_
              refine lv_ldc2 (v := -1) hx hb hown (hts _ wkl_SP_52) d_SP_keepGood_49 ?_
              refine lv_lxor hx hb d_SP_keepGood_52 ?_
              refine lv_land hx hb d_SP_keepGood_53 ?_
              refine vp_callSi (va_Run.run (k_S (n := 1) (rest := []) ⟨hx, hb, hml, hown, hts⟩ (c_JL_bitCount l dC dI cI cJ cZ (bl &&& ((Pi (fr + j)) ^^^ (-1 : Int64)))) wml_SP_79 wst_JL_bitCount wini_JL wcode_JL_bitCount (by decide +kernel) ⟨Nat.le_of_ble_eq_true rfl, Nat.le_of_ble_eq_true rfl⟩ (pre_R (hP.sub (ws' := []) [] rfl) hK) rfl hl.1 rfl (Nat.le_of_ble_eq_true rfl) d_SP_keepGood_54 ⟨Nat.zero_le _, Nat.zero_le _⟩)) (fun r_9 hr_10 => ?_)
              refine xe_i (y := (nI (cn (lb (bl &&& ((Pi (fr + j)) ^^^ (-1 : Int64)))) 64))) hr_10 ?_
              refine lv_iconst (v := (nI 1)) hx hb d_SP_keepGood_57 (by decide) ?_
              refine x_cmp_le (a := (cn (lb (bl &&& ((Pi (fr + j)) ^^^ (-1 : Int64)))) 64)) (b := 1) (tgt := 65) hx hb (Nat.lt_of_le_of_lt (cn_le _ _) (by decide)) (by omega) d_SP_keepGood_58 (by decide) (fun c_11 => ?_) (fun c_11 => ?_)
              · skip
                refine lv_iconst (v := (nI 0)) hx hb d_SP_keepGood_65 (by decide) ?_
                refine lv_istore (lv' := [(5, .int (nI 0)), (0, .ref sp), (1, .int (nI fr)), (2, .int (nI bh)), (3, .int (nI la)), (4, .int (nI (fr + j)))]) hx hb d_SP_keepGood_66 hl (by decide) rfl (fun ls hl => ?_)
                refine lv_iload hx hb d_SP_keepGood_68 (lv_at hl 0 rfl) ?_
                refine lv_if_eq (tgt := 125) hx hb d_SP_keepGood_70 (by decide) (fun _ => ?_) (fun c9 => absurd (by decide : (nI 0) = 0) c9)
                refine lv_iinc (v := (nI ((fr + j) + 1))) (lv' := [(4, .int (nI ((fr + j) + 1))), (5, .int (nI 0)), (0, .ref sp), (1, .int (nI fr)), (2, .int (nI bh)), (3, .int (nI la))]) hx hb d_SP_keepGood_125 hl (k := 5) rfl (nI_1 _) (by decide) rfl (fun ls hl => ?_)
                refine lv_goto (tgt := 18) hx hb d_SP_keepGood_128 (by decide) ?_
                exact ih_18 Gd2 gc2 (j + 1) (by omega) (by first | assumption | omega) (kgI_f hk (by unfold okB; rw [decide_eq_false (p := 1 < cn (lb (bl &&& (Pi (fr + j) ^^^ (-1 : Int64)))) 64) (by have := c_11; omega), Bool.and_false]; rfl)) _ _ hP hD hS ls (lv_sub hl [2, 3, 4, 5, 0] rfl)
              · skip
                refine lv_iconst (v := (nI 1)) hx hb d_SP_keepGood_61 (by decide) ?_
                refine lv_goto (tgt := 66) hx hb d_SP_keepGood_62 (by decide) ?_
                refine lv_istore (lv' := [(5, .int (nI 1)), (0, .ref sp), (1, .int (nI fr)), (2, .int (nI bh)), (3, .int (nI la)), (4, .int (nI (fr + j)))]) hx hb d_SP_keepGood_66 hl (by decide) rfl (fun ls hl => ?_)
                refine lv_iload hx hb d_SP_keepGood_68 (lv_at hl 0 rfl) ?_
                refine lv_if_eq (tgt := 125) hx hb d_SP_keepGood_70 (by decide) (fun c9 => absurd c9 (by decide : ¬ (nI 1) = 0)) (fun _ => ?_)
                refine lv_aload_n hx hb d_SP_keepGood_73 rfl (lv_at hl 1 rfl) ?_
                refine va_get (D := (dC, dI)) (ci := 6) (v := .int (nI gc2)) (C := R_SP) (T := F_SP) (N := 7) hx hb hts in_SP hown hK.1 hP 0 rfl rfl 5 (by decide) (hts _ wfl_SP_37) (fun _ h9 => h9) rfl d_SP_keepGood_74 ?_
                refine lv_aload_n hx hb d_SP_keepGood_77 rfl (lv_at hl 1 rfl) ?_
                refine va_get (D := (dC, dI)) (ci := 6) (v := .ref gd) (C := R_SP) (T := F_SP) (N := 7) hx hb hts in_SP hown hK.1 hP 0 rfl rfl 4 (by decide) (hts _ wfl_SP_26) (fun _ h9 => h9) rfl d_SP_keepGood_78 ?_
                refine va_alen (v := nI 14) hx hb hK.1 hP 3 1 rfl rfl rfl d_SP_keepGood_81 ?_
                refine x_cmp_ge (a := gc2) (b := 14) (tgt := 125) hx hb (by omega) (by omega) d_SP_keepGood_82 (by decide) (fun c_14 => ?_) (fun c_14 => ?_)
                · skip
                  refine lv_iinc (v := (nI ((fr + j) + 1))) (lv' := [(4, .int (nI ((fr + j) + 1))), (5, .int (nI 1)), (0, .ref sp), (1, .int (nI fr)), (2, .int (nI bh)), (3, .int (nI la))]) hx hb d_SP_keepGood_125 hl (k := 5) rfl (nI_1 _) (by decide) rfl (fun ls hl => ?_)
                  refine lv_goto (tgt := 18) hx hb d_SP_keepGood_128 (by decide) ?_
                  exact ih_18 Gd2 gc2 (j + 1) (by omega) (by first | assumption | omega) (kgI_x hk c_14) _ _ hP hD hS ls (lv_sub hl [2, 3, 4, 5, 0] rfl)
                · skip
                  refine lv_aload_n hx hb d_SP_keepGood_85 rfl (lv_at hl 1 rfl) ?_
                  refine lv_aload_n hx hb d_SP_keepGood_86 rfl (lv_at hl 1 rfl) ?_
                  refine va_get (D := (dC, dI)) (ci := 6) (v := .ref pi) (C := R_SP) (T := F_SP) (N := 7) hx hb hts in_SP hown hK.1 hP 0 rfl rfl 1 (by decide) (hts _ wfl_SP_18) (fun _ h9 => h9) rfl d_SP_keepGood_87 ?_
                  refine lv_iload hx hb d_SP_keepGood_90 (lv_at hl 5 rfl) ?_
                  refine x_lald (n := 1274) (f := Pi) (j := (fr + j)) hx hb hK.1 hP 1 1 rfl rfl (by omega) (by omega) d_SP_keepGood_92 ?_
                  refine vp_callSi (va_Run.run (k_V (n := 1) (C := R_SP) (rest := []) ⟨hx, hb, hml, hown, hts⟩ (c_SP_isCrossed l dC dI cI cJ cZ sp gg pi bo gd pc (nI gc2) bl Pi Bo (by first | assumption | omega) (by first | assumption | omega) (Pi (fr + j))) wml_SP_85 wim_SP_isCrossed wsel_SP_isCrossed wini_SP wcode_SP_isCrossed (by decide +kernel) ⟨Nat.le_of_ble_eq_true rfl, Nat.le_of_ble_eq_true rfl⟩ (preV_R (q := (R_SP, F_SP, 7)) (ci := 6) (q0 := 0) (hP.sub (ws' := [(sp, .inr (6, [.ref gg, .ref pi, .ref bo, .int (nI pc), .ref gd, .int (nI gc2), .long bl])), (pi, .inl (cJ, 1274, .inr (.inl Pi))), (bo, .inl (cI, 92, .inl (nF Bo)))]) [0, 1, 2] rfl) hK rfl rfl) rfl hl.1 rfl (Nat.le_of_ble_eq_true rfl) d_SP_keepGood_93 ⟨Nat.zero_le _, Nat.zero_le _⟩)) (fun r_15 hr_16 => ?_)
                  refine xe_i (y := (bI (cxB Pi Bo (Pi (fr + j)) pc))) hr_16 ?_
                  refine x_if_ne (tgt := 125) hx hb d_SP_keepGood_96 (by decide) (fun c_17 => ?_) (fun c_17 => ?_)
                  · skip
                    refine lv_iinc (v := (nI ((fr + j) + 1))) (lv' := [(4, .int (nI ((fr + j) + 1))), (5, .int (nI 1)), (0, .ref sp), (1, .int (nI fr)), (2, .int (nI bh)), (3, .int (nI la))]) hx hb d_SP_keepGood_125 hl (k := 5) rfl (nI_1 _) (by decide) rfl (fun ls hl => ?_)
                    refine lv_goto (tgt := 18) hx hb d_SP_keepGood_128 (by decide) ?_
                    exact ih_18 Gd2 gc2 (j + 1) (by omega) (by first | assumption | omega) (kgI_f hk (by unfold okB; rw [c_17, Bool.not_true, Bool.and_false])) _ _ hP hD hS ls (lv_sub hl [2, 3, 4, 5, 0] rfl)
                  · skip
                    refine lv_aload_n hx hb d_SP_keepGood_99 rfl (lv_at hl 1 rfl) ?_
                    refine va_get (D := (dC, dI)) (ci := 6) (v := .ref gd) (C := R_SP) (T := F_SP) (N := 7) hx hb hts in_SP hown hK.1 hP 0 rfl rfl 4 (by decide) (hts _ wfl_SP_26) (fun _ h9 => h9) rfl d_SP_keepGood_100 ?_
                    refine lv_aload_n hx hb d_SP_keepGood_103 rfl (lv_at hl 1 rfl) ?_
                    refine va_get (D := (dC, dI)) (ci := 6) (v := .int (nI gc2)) (C := R_SP) (T := F_SP) (N := 7) hx hb hts in_SP hown hK.1 hP 0 rfl rfl 5 (by decide) (hts _ wfl_SP_37) (fun _ h9 => h9) rfl d_SP_keepGood_104 ?_
                    refine lv_aload_n hx hb d_SP_keepGood_107 rfl (lv_at hl 1 rfl) ?_
                    refine va_get (D := (dC, dI)) (ci := 6) (v := .ref pi) (C := R_SP) (T := F_SP) (N := 7) hx hb hts in_SP hown hK.1 hP 0 rfl rfl 1 (by decide) (hts _ wfl_SP_18) (fun _ h9 => h9) rfl d_SP_keepGood_108 ?_
                    refine lv_iload hx hb d_SP_keepGood_111 (lv_at hl 5 rfl) ?_
                    refine x_lald (n := 1274) (f := Pi) (j := (fr + j)) hx hb hK.1 hP 1 1 rfl rfl (by omega) (by omega) d_SP_keepGood_113 ?_
                    refine x_last (g := (va_up Gd2 gc2 (Pi (fr + j)))) hx hb hK.1 hP hD hS 3 1 rfl rfl rfl (by omega) (by omega) d_SP_keepGood_114 (fun H locs hP hD hS => ?_)
                    have hP : va_P (dC, dI) cls [(sp, .inr (6, [.ref gg, .ref pi, .ref bo, .int (nI pc), .ref gd, .int (nI gc2), .long bl])), (pi, .inl (cJ, 1274, .inr (.inl Pi))), (bo, .inl (cI, 92, .inl (nF Bo))), (gd, .inl (cJ, 14, .inr (.inl (va_up Gd2 gc2 (Pi (fr + j))))))] H := hP
                    have hD : va_D (ow [(sp, .inr (6, [.ref gg, .ref pi, .ref bo, .int (nI pc), .ref gd, .int (nI gc), .long bl])), (pi, .inl (cJ, 1274, .inr (.inl Pi))), (bo, .inl (cI, 92, .inl (nF Bo))), (gd, .inl (cJ, 14, .inr (.inl Gd)))]) [(sp, .inr (6, [.ref gg, .ref pi, .ref bo, .int (nI pc), .ref gd, .int (nI gc2), .long bl])), (pi, .inl (cJ, 1274, .inr (.inl Pi))), (bo, .inl (cI, 92, .inl (nF Bo))), (gd, .inl (cJ, 14, .inr (.inl (va_up Gd2 gc2 (Pi (fr + j))))))] := hD
                    refine lv_aload_n hx hb d_SP_keepGood_115 rfl (lv_at hl 1 rfl) ?_
                    refine lv_dup hx hb d_SP_keepGood_116 rfl ?_
                    refine va_get (D := (dC, dI)) (ci := 6) (v := .int (nI gc2)) (C := R_SP) (T := F_SP) (N := 7) hx hb hts in_SP hown hK.1 hP 0 rfl rfl 5 (by decide) (hts _ wfl_SP_37) (fun _ h9 => h9) rfl d_SP_keepGood_117 ?_
                    refine lv_iconst (v := (nI 1)) hx hb d_SP_keepGood_120 (by decide) ?_
                    refine lv_iadd hx hb d_SP_keepGood_121 ?_
                    refine xe_i (nI_add _ _) ?_
                    refine va_put (D := (dC, dI)) (ci := 6) (v := .int (nI (gc2 + 1))) (ty := .int) (C := R_SP) (T := F_SP) (N := 7) hx hb hts in_SP t_SP t_SP_ok n_SP hown hK.1 hP hD hS 0 rfl rfl 5 (by decide) (hts _ wfl_SP_37) (fun _ h9 => h9) rfl (by decide +kernel) rfl rfl (Nat.le_of_ble_eq_true rfl) d_SP_keepGood_122 (fun H locs hP hD hS => ?_)
                    have hP : va_P (dC, dI) cls [(sp, .inr (6, [.ref gg, .ref pi, .ref bo, .int (nI pc), .ref gd, .int (nI (gc2 + 1)), .long bl])), (pi, .inl (cJ, 1274, .inr (.inl Pi))), (bo, .inl (cI, 92, .inl (nF Bo))), (gd, .inl (cJ, 14, .inr (.inl (va_up Gd2 gc2 (Pi (fr + j))))))] H := hP
                    have hD : va_D (ow [(sp, .inr (6, [.ref gg, .ref pi, .ref bo, .int (nI pc), .ref gd, .int (nI gc), .long bl])), (pi, .inl (cJ, 1274, .inr (.inl Pi))), (bo, .inl (cI, 92, .inl (nF Bo))), (gd, .inl (cJ, 14, .inr (.inl Gd)))]) [(sp, .inr (6, [.ref gg, .ref pi, .ref bo, .int (nI pc), .ref gd, .int (nI (gc2 + 1)), .long bl])), (pi, .inl (cJ, 1274, .inr (.inl Pi))), (bo, .inl (cI, 92, .inl (nF Bo))), (gd, .inl (cJ, 14, .inr (.inl (va_up Gd2 gc2 (Pi (fr + j))))))] := hD
                    refine lv_iinc (v := (nI ((fr + j) + 1))) (lv' := [(4, .int (nI ((fr + j) + 1))), (5, .int (nI 1)), (0, .ref sp), (1, .int (nI fr)), (2, .int (nI bh)), (3, .int (nI la))]) hx hb d_SP_keepGood_125 hl (k := 5) rfl (nI_1 _) (by decide) rfl (fun ls hl => ?_)
                    refine lv_goto (tgt := 18) hx hb d_SP_keepGood_128 (by decide) ?_
                    exact ih_18 (va_up Gd2 gc2 (Pi (fr + j))) (gc2 + 1) (j + 1) (by omega) (by first | assumption | omega) (kgI_t hk (by unfold okB; rw [decide_eq_true c_7, decide_eq_true c_11, c_17]; rfl) c_14) _ _ hP hD hS ls (lv_sub hl [2, 3, 4, 5, 0] rfl)
      exact L18_3 ((la - (fr + 0)) + 1) Gd gc 0 (Nat.lt_succ_self _) (by first | assumption | omega) (kgI_0 hgc) _ _ hP hD hS ls (lv_sub hl [2, 3, 4, 1, 0] rfl)
    exact L14_2 bh (by unfold lasN; rw [if_neg c_1]; omega) (by omega) (by omega) _ _ hP hD hS ls (lv_sub hl [0, 1, 2] rfl)
  · skip
    refine lv_iload_n hx hb d_SP_keepGood_7 rfl (lv_at hl 1 rfl) ?_
    refine lv_iconst (v := (nI 1)) hx hb d_SP_keepGood_8 (by decide) ?_
    refine lv_iadd hx hb d_SP_keepGood_9 ?_
    refine xe_i (nI_add _ _) ?_
    refine lv_goto (tgt := 14) hx hb d_SP_keepGood_10 (by decide) ?_
    have L14_18 : ∀ (la : Nat) (hla : la = fr + lasN fr bh) (hlb : la ≤ bh) (hlf : fr ≤ la) (H : Heap) (locs : List Loc) (hP : va_P (dC, dI) cls [(sp, .inr (6, [.ref gg, .ref pi, .ref bo, .int (nI pc), .ref gd, .int (nI gc), .long bl])), (pi, .inl (cJ, 1274, .inr (.inl Pi))), (bo, .inl (cI, 92, .inl (nF Bo))), (gd, .inl (cJ, 14, .inr (.inl Gd)))] H) (hD : va_D (ow [(sp, .inr (6, [.ref gg, .ref pi, .ref bo, .int (nI pc), .ref gd, .int (nI gc), .long bl])), (pi, .inl (cJ, 1274, .inr (.inl Pi))), (bo, .inl (cI, 92, .inl (nF Bo))), (gd, .inl (cJ, 14, .inr (.inl Gd)))]) [(sp, .inr (6, [.ref gg, .ref pi, .ref bo, .int (nI pc), .ref gd, .int (nI gc), .long bl])), (pi, .inl (cJ, 1274, .inr (.inl Pi))), (bo, .inl (cI, 92, .inl (nF Bo))), (gd, .inl (cJ, 14, .inr (.inl Gd)))]) (hS : va_S (ow [(sp, .inr (6, [.ref gg, .ref pi, .ref bo, .int (nI pc), .ref gd, .int (nI gc), .long bl])), (pi, .inl (cJ, 1274, .inr (.inl Pi))), (bo, .inl (cI, 92, .inl (nF Bo))), (gd, .inl (cJ, 14, .inr (.inl Gd)))]) s.heap H locs) (ls : Array Slot) (hl : lv_has ls 6 [(0, .ref sp), (1, .int (nI fr)), (2, .int (nI bh))]), W p l e (headSpec (Cond.code ⟨"CutPoints$Splitter", "keepGood", "(II)V"⟩ prog_7_method_7_code 6 none :: TT) (rmk 3 65)).room s m ([.ref sp, .int (nI fr), .int (nI bh)] : List Value).toArray below meth c H locs 0 0 (MQ below (va_Qv (S := (Nat → Int64) × Nat) (fun u9 => kgI Pi Bo pc bl fr gc Gd u9.1 u9.2 (lasN fr bh)) (fun u9 t9 => va_P (dC, dI) cls ([(sp, .inr (6, [.ref gg, .ref pi, .ref bo, .int (nI pc), .ref gd, .int (nI u9.2), .long bl])), (pi, .inl (cJ, 1274, .inr (.inl Pi))), (bo, .inl (cI, 92, .inl (nF Bo))), (gd, .inl (cJ, 14, .inr (.inl u9.1)))]) t9.heap) (ow [(sp, .inr (6, [.ref gg, .ref pi, .ref bo, .int (nI pc), .ref gd, .int (nI gc), .long bl])), (pi, .inl (cJ, 1274, .inr (.inl Pi))), (bo, .inl (cI, 92, .inl (nF Bo))), (gd, .inl (cJ, 14, .inr (.inl Gd)))])) ([.ref sp, .int (nI fr), .int (nI bh)] : List Value).toArray s 0 0 (ow [(sp, .inr (6, [.ref gg, .ref pi, .ref bo, .int (nI pc), .ref gd, .int (nI gc), .long bl])), (pi, .inl (cJ, 1274, .inr (.inl Pi))), (bo, .inl (cI, 92, .inl (nF Bo))), (gd, .inl (cJ, 14, .inr (.inl Gd)))])) (F0 m 14 ls [.int (nI la)]) := by
      intro la hla hlb hlf H locs hP hD hS ls hl
      refine lv_istore_n (lv' := [(3, .int (nI la)), (0, .ref sp), (1, .int (nI fr)), (2, .int (nI bh))]) hx hb d_SP_keepGood_14 rfl hl (by decide) rfl (fun ls hl => ?_)
      refine lv_iload_n hx hb d_SP_keepGood_15 rfl (lv_at hl 2 rfl) ?_
      refine lv_istore (lv' := [(4, .int (nI fr)), (3, .int (nI la)), (0, .ref sp), (1, .int (nI fr)), (2, .int (nI bh))]) hx hb d_SP_keepGood_16 hl (by decide) rfl (fun ls hl => ?_)
      have L18_19 : ∀ (n : Nat) (Gd2 : Nat → Int64) (gc2 : Nat) (j : Nat) (hn : la - (fr + j) < n) (hi : fr + j ≤ la) (hk : kgI Pi Bo pc bl fr gc Gd Gd2 gc2 j) (H : Heap) (locs : List Loc) (hP : va_P (dC, dI) cls [(sp, .inr (6, [.ref gg, .ref pi, .ref bo, .int (nI pc), .ref gd, .int (nI gc2), .long bl])), (pi, .inl (cJ, 1274, .inr (.inl Pi))), (bo, .inl (cI, 92, .inl (nF Bo))), (gd, .inl (cJ, 14, .inr (.inl Gd2)))] H) (hD : va_D (ow [(sp, .inr (6, [.ref gg, .ref pi, .ref bo, .int (nI pc), .ref gd, .int (nI gc), .long bl])), (pi, .inl (cJ, 1274, .inr (.inl Pi))), (bo, .inl (cI, 92, .inl (nF Bo))), (gd, .inl (cJ, 14, .inr (.inl Gd)))]) [(sp, .inr (6, [.ref gg, .ref pi, .ref bo, .int (nI pc), .ref gd, .int (nI gc2), .long bl])), (pi, .inl (cJ, 1274, .inr (.inl Pi))), (bo, .inl (cI, 92, .inl (nF Bo))), (gd, .inl (cJ, 14, .inr (.inl Gd2)))]) (hS : va_S (ow [(sp, .inr (6, [.ref gg, .ref pi, .ref bo, .int (nI pc), .ref gd, .int (nI gc), .long bl])), (pi, .inl (cJ, 1274, .inr (.inl Pi))), (bo, .inl (cI, 92, .inl (nF Bo))), (gd, .inl (cJ, 14, .inr (.inl Gd)))]) s.heap H locs) (ls : Array Slot) (hl : lv_has ls 6 [(0, .ref sp), (1, .int (nI fr)), (2, .int (nI bh)), (3, .int (nI la)), (4, .int (nI (fr + j)))]), W p l e (headSpec (Cond.code ⟨"CutPoints$Splitter", "keepGood", "(II)V"⟩ prog_7_method_7_code 6 none :: TT) (rmk 3 65)).room s m ([.ref sp, .int (nI fr), .int (nI bh)] : List Value).toArray below meth c H locs 0 0 (MQ below (va_Qv (S := (Nat → Int64) × Nat) (fun u9 => kgI Pi Bo pc bl fr gc Gd u9.1 u9.2 (lasN fr bh)) (fun u9 t9 => va_P (dC, dI) cls ([(sp, .inr (6, [.ref gg, .ref pi, .ref bo, .int (nI pc), .ref gd, .int (nI u9.2), .long bl])), (pi, .inl (cJ, 1274, .inr (.inl Pi))), (bo, .inl (cI, 92, .inl (nF Bo))), (gd, .inl (cJ, 14, .inr (.inl u9.1)))]) t9.heap) (ow [(sp, .inr (6, [.ref gg, .ref pi, .ref bo, .int (nI pc), .ref gd, .int (nI gc), .long bl])), (pi, .inl (cJ, 1274, .inr (.inl Pi))), (bo, .inl (cI, 92, .inl (nF Bo))), (gd, .inl (cJ, 14, .inr (.inl Gd)))])) ([.ref sp, .int (nI fr), .int (nI bh)] : List Value).toArray s 0 0 (ow [(sp, .inr (6, [.ref gg, .ref pi, .ref bo, .int (nI pc), .ref gd, .int (nI gc), .long bl])), (pi, .inl (cJ, 1274, .inr (.inl Pi))), (bo, .inl (cI, 92, .inl (nF Bo))), (gd, .inl (cJ, 14, .inr (.inl Gd)))])) (F0 m 18 ls []) := by
        intro n_18
        induction n_18 with
        | zero =>
          intro Gd2 gc2 j hn_18
          exact absurd hn_18 (Nat.not_lt_zero _)
        | succ n_18 ih_18 =>
          intro Gd2 gc2 j hn_18 hi hk H locs hP hD hS ls hl
          have hg14 := hk.2.1
          refine lv_iload hx hb d_SP_keepGood_18 (lv_at hl 4 rfl) ?_
          refine lv_iload_n hx hb d_SP_keepGood_20 rfl (lv_at hl 3 rfl) ?_
          refine x_cmp_ge (a := (fr + j)) (b := la) (tgt := 131) hx hb (by omega) (by omega) d_SP_keepGood_21 (by decide) (fun c_20 => ?_) (fun c_20 => ?_)
          · skip
            exact W.vret hx hb hr (fun t9 ht9 _ => ⟨⟨(Gd2, gc2), rfl, (by have e9 : j = lasN fr bh := (by omega); subst e9; exact hk), by show va_P (dC, dI) cls _ t9.heap; rw [ht9]; exact hP⟩, hS.F ht9⟩) hS.2.2 d_SP_keepGood_131
          · skip
            refine lv_aload_n hx hb d_SP_keepGood_24 rfl (lv_at hl 0 rfl) ?_
            refine va_get (D := (dC, dI)) (ci := 6) (v := .ref pi) (C := R_SP) (T := F_SP) (N := 7) hx hb hts in_SP hown hK.1 hP 0 rfl rfl 1 (by decide) (hts _ wfl_SP_18) (fun _ h9 => h9) rfl d_SP_keepGood_25 ?_
            refine lv_iload hx hb d_SP_keepGood_28 (lv_at hl 4 rfl) ?_
            refine x_lald (n := 1274) (f := Pi) (j := (fr + j)) hx hb hK.1 hP 1 1 rfl rfl (by omega) (by omega) d_SP_keepGood_30 ?_
            refine vp_callSi (va_Run.run (k_S (n := 1) (rest := []) ⟨hx, hb, hml, hown, hts⟩ (c_JL_bitCount l dC dI cI cJ cZ (Pi (fr + j))) wml_SP_79 wst_JL_bitCount wini_JL wcode_JL_bitCount (by decide +kernel) ⟨Nat.le_of_ble_eq_true rfl, Nat.le_of_ble_eq_true rfl⟩ (pre_R (hP.sub (ws' := []) [] rfl) hK) rfl hl.1 rfl (Nat.le_of_ble_eq_true rfl) d_SP_keepGood_31 ⟨Nat.zero_le _, Nat.zero_le _⟩)) (fun r_21 hr_22 => ?_)
            refine xe_i (y := (nI (cn (lb (Pi (fr + j))) 64))) hr_22 ?_
            refine lv_iconst (v := (nI 1)) hx hb d_SP_keepGood_34 (by decide) ?_
            refine x_cmp_le (a := (cn (lb (Pi (fr + j))) 64)) (b := 1) (tgt := 65) hx hb (Nat.lt_of_le_of_lt (cn_le _ _) (by decide)) (by omega) d_SP_keepGood_35 (by decide) (fun c_23 => ?_) (fun c_23 => ?_)
            · skip
              refine lv_iconst (v := (nI 0)) hx hb d_SP_keepGood_65 (by decide) ?_
              refine lv_istore (lv' := [(5, .int (nI 0)), (0, .ref sp), (1, .int (nI fr)), (2, .int (nI bh)), (3, .int (nI la)), (4, .int (nI (fr + j)))]) hx hb d_SP_keepGood_66 hl (by decide) rfl (fun ls hl => ?_)
              refine lv_iload hx hb d_SP_keepGood_68 (lv_at hl 0 rfl) ?_
              refine lv_if_eq (tgt := 125) hx hb d_SP_keepGood_70 (by decide) (fun _ => ?_) (fun c9 => absurd (by decide : (nI 0) = 0) c9)
              refine lv_iinc (v := (nI ((fr + j) + 1))) (lv' := [(4, .int (nI ((fr + j) + 1))), (5, .int (nI 0)), (0, .ref sp), (1, .int (nI fr)), (2, .int (nI bh)), (3, .int (nI la))]) hx hb d_SP_keepGood_125 hl (k := 5) rfl (nI_1 _) (by decide) rfl (fun ls hl => ?_)
              refine lv_goto (tgt := 18) hx hb d_SP_keepGood_128 (by decide) ?_
              exact ih_18 Gd2 gc2 (j + 1) (by omega) (by first | assumption | omega) (kgI_f hk (by unfold okB; rw [decide_eq_false (by have := c_23; omega)]; rfl)) _ _ hP hD hS ls (lv_sub hl [2, 3, 4, 5, 0] rfl)
            · skip
              refine lv_aload_n hx hb d_SP_keepGood_38 rfl (lv_at hl 0 rfl) ?_
              refine va_get (D := (dC, dI)) (ci := 6) (v := .long bl) (C := R_SP) (T := F_SP) (N := 7) hx hb hts in_SP hown hK.1 hP 0 rfl rfl 6 (by decide) (hts _ wfl_SP_29) (fun _ h9 => h9) rfl d_SP_keepGood_39 ?_
              refine lv_aload_n hx hb d_SP_keepGood_42 rfl (lv_at hl 0 rfl) ?_
              refine va_get (D := (dC, dI)) (ci := 6) (v := .ref pi) (C := R_SP) (T := F_SP) (N := 7) hx hb hts in_SP hown hK.1 hP 0 rfl rfl 1 (by decide) (hts _ wfl_SP_18) (fun _ h9 => h9) rfl d_SP_keepGood_43 ?_
              refine lv_iload hx hb d_SP_keepGood_46 (lv_at hl 4 rfl) ?_
              refine x_lald (n := 1274) (f := Pi) (j := (fr + j)) hx hb hK.1 hP 1 1 rfl rfl (by omega) (by omega) d_SP_keepGood_48 ?_
              refine lv_ldc2 (v := -1) hx hb hown (hts _ wkl_SP_52) d_SP_keepGood_49 ?_
              refine lv_lxor hx hb d_SP_keepGood_52 ?_
              refine lv_land hx hb d_SP_keepGood_53 ?_
              refine vp_callSi (va_Run.run (k_S (n := 1) (rest := []) ⟨hx, hb, hml, hown, hts⟩ (c_JL_bitCount l dC dI cI cJ cZ (bl &&& ((Pi (fr + j)) ^^^ (-1 : Int64)))) wml_SP_79 wst_JL_bitCount wini_JL wcode_JL_bitCount (by decide +kernel) ⟨Nat.le_of_ble_eq_true rfl, Nat.le_of_ble_eq_true rfl⟩ (pre_R (hP.sub (ws' := []) [] rfl) hK) rfl hl.1 rfl (Nat.le_of_ble_eq_true rfl) d_SP_keepGood_54 ⟨Nat.zero_le _, Nat.zero_le _⟩)) (fun r_25 hr_26 => ?_)
              refine xe_i (y := (nI (cn (lb (bl &&& ((Pi (fr + j)) ^^^ (-1 : Int64)))) 64))) hr_26 ?_
              refine lv_iconst (v := (nI 1)) hx hb d_SP_keepGood_57 (by decide) ?_
              refine x_cmp_le (a := (cn (lb (bl &&& ((Pi (fr + j)) ^^^ (-1 : Int64)))) 64)) (b := 1) (tgt := 65) hx hb (Nat.lt_of_le_of_lt (cn_le _ _) (by decide)) (by omega) d_SP_keepGood_58 (by decide) (fun c_27 => ?_) (fun c_27 => ?_)
              · skip
                refine lv_iconst (v := (nI 0)) hx hb d_SP_keepGood_65 (by decide) ?_
                refine lv_istore (lv' := [(5, .int (nI 0)), (0, .ref sp), (1, .int (nI fr)), (2, .int (nI bh)), (3, .int (nI la)), (4, .int (nI (fr + j)))]) hx hb d_SP_keepGood_66 hl (by decide) rfl (fun ls hl => ?_)
                refine lv_iload hx hb d_SP_keepGood_68 (lv_at hl 0 rfl) ?_
                refine lv_if_eq (tgt := 125) hx hb d_SP_keepGood_70 (by decide) (fun _ => ?_) (fun c9 => absurd (by decide : (nI 0) = 0) c9)
                refine lv_iinc (v := (nI ((fr + j) + 1))) (lv' := [(4, .int (nI ((fr + j) + 1))), (5, .int (nI 0)), (0, .ref sp), (1, .int (nI fr)), (2, .int (nI bh)), (3, .int (nI la))]) hx hb d_SP_keepGood_125 hl (k := 5) rfl (nI_1 _) (by decide) rfl (fun ls hl => ?_)
                refine lv_goto (tgt := 18) hx hb d_SP_keepGood_128 (by decide) ?_
                exact ih_18 Gd2 gc2 (j + 1) (by omega) (by first | assumption | omega) (kgI_f hk (by unfold okB; rw [decide_eq_false (p := 1 < cn (lb (bl &&& (Pi (fr + j) ^^^ (-1 : Int64)))) 64) (by have := c_27; omega), Bool.and_false]; rfl)) _ _ hP hD hS ls (lv_sub hl [2, 3, 4, 5, 0] rfl)
              · skip
                refine lv_iconst (v := (nI 1)) hx hb d_SP_keepGood_61 (by decide) ?_
                refine lv_goto (tgt := 66) hx hb d_SP_keepGood_62 (by decide) ?_
                refine lv_istore (lv' := [(5, .int (nI 1)), (0, .ref sp), (1, .int (nI fr)), (2, .int (nI bh)), (3, .int (nI la)), (4, .int (nI (fr + j)))]) hx hb d_SP_keepGood_66 hl (by decide) rfl (fun ls hl => ?_)
                refine lv_iload hx hb d_SP_keepGood_68 (lv_at hl 0 rfl) ?_
                refine lv_if_eq (tgt := 125) hx hb d_SP_keepGood_70 (by decide) (fun c9 => absurd c9 (by decide : ¬ (nI 1) = 0)) (fun _ => ?_)
                refine lv_aload_n hx hb d_SP_keepGood_73 rfl (lv_at hl 1 rfl) ?_
                refine va_get (D := (dC, dI)) (ci := 6) (v := .int (nI gc2)) (C := R_SP) (T := F_SP) (N := 7) hx hb hts in_SP hown hK.1 hP 0 rfl rfl 5 (by decide) (hts _ wfl_SP_37) (fun _ h9 => h9) rfl d_SP_keepGood_74 ?_
                refine lv_aload_n hx hb d_SP_keepGood_77 rfl (lv_at hl 1 rfl) ?_
                refine va_get (D := (dC, dI)) (ci := 6) (v := .ref gd) (C := R_SP) (T := F_SP) (N := 7) hx hb hts in_SP hown hK.1 hP 0 rfl rfl 4 (by decide) (hts _ wfl_SP_26) (fun _ h9 => h9) rfl d_SP_keepGood_78 ?_
                refine va_alen (v := nI 14) hx hb hK.1 hP 3 1 rfl rfl rfl d_SP_keepGood_81 ?_
                refine x_cmp_ge (a := gc2) (b := 14) (tgt := 125) hx hb (by omega) (by omega) d_SP_keepGood_82 (by decide) (fun c_30 => ?_) (fun c_30 => ?_)
                · skip
                  refine lv_iinc (v := (nI ((fr + j) + 1))) (lv' := [(4, .int (nI ((fr + j) + 1))), (5, .int (nI 1)), (0, .ref sp), (1, .int (nI fr)), (2, .int (nI bh)), (3, .int (nI la))]) hx hb d_SP_keepGood_125 hl (k := 5) rfl (nI_1 _) (by decide) rfl (fun ls hl => ?_)
                  refine lv_goto (tgt := 18) hx hb d_SP_keepGood_128 (by decide) ?_
                  exact ih_18 Gd2 gc2 (j + 1) (by omega) (by first | assumption | omega) (kgI_x hk c_30) _ _ hP hD hS ls (lv_sub hl [2, 3, 4, 5, 0] rfl)
                · skip
                  refine lv_aload_n hx hb d_SP_keepGood_85 rfl (lv_at hl 1 rfl) ?_
                  refine lv_aload_n hx hb d_SP_keepGood_86 rfl (lv_at hl 1 rfl) ?_
                  refine va_get (D := (dC, dI)) (ci := 6) (v := .ref pi) (C := R_SP) (T := F_SP) (N := 7) hx hb hts in_SP hown hK.1 hP 0 rfl rfl 1 (by decide) (hts _ wfl_SP_18) (fun _ h9 => h9) rfl d_SP_keepGood_87 ?_
                  refine lv_iload hx hb d_SP_keepGood_90 (lv_at hl 5 rfl) ?_
                  refine x_lald (n := 1274) (f := Pi) (j := (fr + j)) hx hb hK.1 hP 1 1 rfl rfl (by omega) (by omega) d_SP_keepGood_92 ?_
                  refine vp_callSi (va_Run.run (k_V (n := 1) (C := R_SP) (rest := []) ⟨hx, hb, hml, hown, hts⟩ (c_SP_isCrossed l dC dI cI cJ cZ sp gg pi bo gd pc (nI gc2) bl Pi Bo (by first | assumption | omega) (by first | assumption | omega) (Pi (fr + j))) wml_SP_85 wim_SP_isCrossed wsel_SP_isCrossed wini_SP wcode_SP_isCrossed (by decide +kernel) ⟨Nat.le_of_ble_eq_true rfl, Nat.le_of_ble_eq_true rfl⟩ (preV_R (q := (R_SP, F_SP, 7)) (ci := 6) (q0 := 0) (hP.sub (ws' := [(sp, .inr (6, [.ref gg, .ref pi, .ref bo, .int (nI pc), .ref gd, .int (nI gc2), .long bl])), (pi, .inl (cJ, 1274, .inr (.inl Pi))), (bo, .inl (cI, 92, .inl (nF Bo)))]) [0, 1, 2] rfl) hK rfl rfl) rfl hl.1 rfl (Nat.le_of_ble_eq_true rfl) d_SP_keepGood_93 ⟨Nat.zero_le _, Nat.zero_le _⟩)) (fun r_31 hr_32 => ?_)
                  refine xe_i (y := (bI (cxB Pi Bo (Pi (fr + j)) pc))) hr_32 ?_
                  refine x_if_ne (tgt := 125) hx hb d_SP_keepGood_96 (by decide) (fun c_33 => ?_) (fun c_33 => ?_)
                  · skip
                    refine lv_iinc (v := (nI ((fr + j) + 1))) (lv' := [(4, .int (nI ((fr + j) + 1))), (5, .int (nI 1)), (0, .ref sp), (1, .int (nI fr)), (2, .int (nI bh)), (3, .int (nI la))]) hx hb d_SP_keepGood_125 hl (k := 5) rfl (nI_1 _) (by decide) rfl (fun ls hl => ?_)
                    refine lv_goto (tgt := 18) hx hb d_SP_keepGood_128 (by decide) ?_
                    exact ih_18 Gd2 gc2 (j + 1) (by omega) (by first | assumption | omega) (kgI_f hk (by unfold okB; rw [c_33, Bool.not_true, Bool.and_false])) _ _ hP hD hS ls (lv_sub hl [2, 3, 4, 5, 0] rfl)
                  · skip
                    refine lv_aload_n hx hb d_SP_keepGood_99 rfl (lv_at hl 1 rfl) ?_
                    refine va_get (D := (dC, dI)) (ci := 6) (v := .ref gd) (C := R_SP) (T := F_SP) (N := 7) hx hb hts in_SP hown hK.1 hP 0 rfl rfl 4 (by decide) (hts _ wfl_SP_26) (fun _ h9 => h9) rfl d_SP_keepGood_100 ?_
                    refine lv_aload_n hx hb d_SP_keepGood_103 rfl (lv_at hl 1 rfl) ?_
                    refine va_get (D := (dC, dI)) (ci := 6) (v := .int (nI gc2)) (C := R_SP) (T := F_SP) (N := 7) hx hb hts in_SP hown hK.1 hP 0 rfl rfl 5 (by decide) (hts _ wfl_SP_37) (fun _ h9 => h9) rfl d_SP_keepGood_104 ?_
                    refine lv_aload_n hx hb d_SP_keepGood_107 rfl (lv_at hl 1 rfl) ?_
                    refine va_get (D := (dC, dI)) (ci := 6) (v := .ref pi) (C := R_SP) (T := F_SP) (N := 7) hx hb hts in_SP hown hK.1 hP 0 rfl rfl 1 (by decide) (hts _ wfl_SP_18) (fun _ h9 => h9) rfl d_SP_keepGood_108 ?_
                    refine lv_iload hx hb d_SP_keepGood_111 (lv_at hl 5 rfl) ?_
                    refine x_lald (n := 1274) (f := Pi) (j := (fr + j)) hx hb hK.1 hP 1 1 rfl rfl (by omega) (by omega) d_SP_keepGood_113 ?_
                    refine x_last (g := (va_up Gd2 gc2 (Pi (fr + j)))) hx hb hK.1 hP hD hS 3 1 rfl rfl rfl (by omega) (by omega) d_SP_keepGood_114 (fun H locs hP hD hS => ?_)
                    have hP : va_P (dC, dI) cls [(sp, .inr (6, [.ref gg, .ref pi, .ref bo, .int (nI pc), .ref gd, .int (nI gc2), .long bl])), (pi, .inl (cJ, 1274, .inr (.inl Pi))), (bo, .inl (cI, 92, .inl (nF Bo))), (gd, .inl (cJ, 14, .inr (.inl (va_up Gd2 gc2 (Pi (fr + j))))))] H := hP
                    have hD : va_D (ow [(sp, .inr (6, [.ref gg, .ref pi, .ref bo, .int (nI pc), .ref gd, .int (nI gc), .long bl])), (pi, .inl (cJ, 1274, .inr (.inl Pi))), (bo, .inl (cI, 92, .inl (nF Bo))), (gd, .inl (cJ, 14, .inr (.inl Gd)))]) [(sp, .inr (6, [.ref gg, .ref pi, .ref bo, .int (nI pc), .ref gd, .int (nI gc2), .long bl])), (pi, .inl (cJ, 1274, .inr (.inl Pi))), (bo, .inl (cI, 92, .inl (nF Bo))), (gd, .inl (cJ, 14, .inr (.inl (va_up Gd2 gc2 (Pi (fr + j))))))] := hD
                    refine lv_aload_n hx hb d_SP_keepGood_115 rfl (lv_at hl 1 rfl) ?_
                    refine lv_dup hx hb d_SP_keepGood_116 rfl ?_
                    refine va_get (D := (dC, dI)) (ci := 6) (v := .int (nI gc2)) (C := R_SP) (T := F_SP) (N := 7) hx hb hts in_SP hown hK.1 hP 0 rfl rfl 5 (by decide) (hts _ wfl_SP_37) (fun _ h9 => h9) rfl d_SP_keepGood_117 ?_
                    refine lv_iconst (v := (nI 1)) hx hb d_SP_keepGood_120 (by decide) ?_
                    refine lv_iadd hx hb d_SP_keepGood_121 ?_
                    refine xe_i (nI_add _ _) ?_
                    refine va_put (D := (dC, dI)) (ci := 6) (v := .int (nI (gc2 + 1))) (ty := .int) (C := R_SP) (T := F_SP) (N := 7) hx hb hts in_SP t_SP t_SP_ok n_SP hown hK.1 hP hD hS 0 rfl rfl 5 (by decide) (hts _ wfl_SP_37) (fun _ h9 => h9) rfl (by decide +kernel) rfl rfl (Nat.le_of_ble_eq_true rfl) d_SP_keepGood_122 (fun H locs hP hD hS => ?_)
                    have hP : va_P (dC, dI) cls [(sp, .inr (6, [.ref gg, .ref pi, .ref bo, .int (nI pc), .ref gd, .int (nI (gc2 + 1)), .long bl])), (pi, .inl (cJ, 1274, .inr (.inl Pi))), (bo, .inl (cI, 92, .inl (nF Bo))), (gd, .inl (cJ, 14, .inr (.inl (va_up Gd2 gc2 (Pi (fr + j))))))] H := hP
                    have hD : va_D (ow [(sp, .inr (6, [.ref gg, .ref pi, .ref bo, .int (nI pc), .ref gd, .int (nI gc), .long bl])), (pi, .inl (cJ, 1274, .inr (.inl Pi))), (bo, .inl (cI, 92, .inl (nF Bo))), (gd, .inl (cJ, 14, .inr (.inl Gd)))]) [(sp, .inr (6, [.ref gg, .ref pi, .ref bo, .int (nI pc), .ref gd, .int (nI (gc2 + 1)), .long bl])), (pi, .inl (cJ, 1274, .inr (.inl Pi))), (bo, .inl (cI, 92, .inl (nF Bo))), (gd, .inl (cJ, 14, .inr (.inl (va_up Gd2 gc2 (Pi (fr + j))))))] := hD
                    refine lv_iinc (v := (nI ((fr + j) + 1))) (lv' := [(4, .int (nI ((fr + j) + 1))), (5, .int (nI 1)), (0, .ref sp), (1, .int (nI fr)), (2, .int (nI bh)), (3, .int (nI la))]) hx hb d_SP_keepGood_125 hl (k := 5) rfl (nI_1 _) (by decide) rfl (fun ls hl => ?_)
                    refine lv_goto (tgt := 18) hx hb d_SP_keepGood_128 (by decide) ?_
                    exact ih_18 (va_up Gd2 gc2 (Pi (fr + j))) (gc2 + 1) (j + 1) (by omega) (by first | assumption | omega) (kgI_t hk (by unfold okB; rw [decide_eq_true c_23, decide_eq_true c_27, c_33]; rfl) c_30) _ _ hP hD hS ls (lv_sub hl [2, 3, 4, 5, 0] rfl)
      exact L18_19 ((la - (fr + 0)) + 1) Gd gc 0 (Nat.lt_succ_self _) (by first | assumption | omega) (kgI_0 hgc) _ _ hP hD hS ls (lv_sub hl [2, 3, 4, 1, 0] rfl)
    exact L14_18 (fr + 1) (by unfold lasN; rw [if_pos c_1]) (by omega) (by omega) _ _ hP hD hS ls (lv_sub hl [0, 1, 2] rfl)
