theorem d_CP_hasBit_0 : decode prog_1_method_23_code 0 = .ok (.lload_n 0, 1) := by decide +kernel
theorem d_CP_hasBit_1 : decode prog_1_method_23_code 1 = .ok (.iload_n 2, 1) := by decide +kernel
theorem d_CP_hasBit_2 : decode prog_1_method_23_code 2 = .ok (.lushr, 1) := by decide +kernel
theorem d_CP_hasBit_3 : decode prog_1_method_23_code 3 = .ok (.lconst 1, 1) := by decide +kernel
theorem d_CP_hasBit_4 : decode prog_1_method_23_code 4 = .ok (.land, 1) := by decide +kernel
theorem d_CP_hasBit_5 : decode prog_1_method_23_code 5 = .ok (.lconst 0, 1) := by decide +kernel
theorem d_CP_hasBit_6 : decode prog_1_method_23_code 6 = .ok (.lcmp, 1) := by decide +kernel
theorem d_CP_hasBit_7 : decode prog_1_method_23_code 7 = .ok (.ifCond .eq 7, 3) := by decide +kernel
theorem d_CP_hasBit_10 : decode prog_1_method_23_code 10 = .ok (.iconst 1, 1) := by decide +kernel
theorem d_CP_hasBit_11 : decode prog_1_method_23_code 11 = .ok (.goto 4, 3) := by decide +kernel
theorem d_CP_hasBit_14 : decode prog_1_method_23_code 14 = .ok (.iconst 0, 1) := by decide +kernel
theorem d_CP_hasBit_15 : decode prog_1_method_23_code 15 = .ok (.ireturn, 1) := by decide +kernel
set_option maxHeartbeats 4000000 in
set_option maxRecDepth 100000 in
theorem c_CP_hasBit (l : Launch) (dC : Nat → ClassId) (dI : Nat → Nat → Nat) (cI cJ cZ : ClassId) (x : Int64) (k : Nat) (hk : k < 64) : Met l ⟨"CutPoints", "hasBit", "(JI)Z"⟩ (Cond.code ⟨"CutPoints", "hasBit", "(JI)Z"⟩ prog_1_method_23_code 3 (some .boolean) :: TT) (rmk 0 0) (PR dC dI cI cJ cZ [.long x, .int (nI k)] []) (vp_Si (fun r => r = bI (lb x k))) 0 0 (fun _ => False) := by
  refine Met.ofW (cc := prog_1_method_23_code) (maxL := 3) (ret := (some .boolean)) (by decide) rfl ?_
  intro p e s m args below meth c s₁ B hml hv
  obtain ⟨rfl, hP, hK⟩ := hv
  have hx := B.exec
  have hb := B.bytes
  have hr := B.returns
  have hts : ∀ w ∈ TT, w.before _ s = true := fun w h => atoms_spec (ws := (Cond.code ⟨"CutPoints", "hasBit", "(JI)Z"⟩ prog_1_method_23_code 3 (some .boolean) :: TT)) B.pre w (List.mem_cons_of_mem _ h)
  have hown : s.vm.findClass "CutPoints" = some m.cls := findClass_of_methodNamed B.named
  have hlocks := B.notSynchronized
  have hl := lv_entry ([.long x, .int (nI k)]) (n := 3) (Nat.le_of_ble_eq_true rfl)
  rw [lg_entry_eq]
  generalize (lg_sl ([.long x, .int (nI k)]) ++ List.replicate (3 - (lg_sl ([.long x, .int (nI k)])).length) Slot.unset).toArray = ls at hl ⊢
  have hl : lv_has ls 3 [(0, .long x), (2, .int (nI k))] := hl
  refine lv_lload_n hx hb d_CP_hasBit_0 rfl (lv_at hl 0 rfl) ?_
  refine lv_iload_n hx hb d_CP_hasBit_1 rfl (lv_at hl 1 rfl) ?_
  refine lv_lushr (v := ((x.toUInt64 >>> ((nI k).toInt64.toUInt64 &&& Int64.toUInt64 63)).toInt64)) hx hb d_CP_hasBit_2 rfl ?_
  refine lv_lconst (v := 1) hx hb d_CP_hasBit_3 rfl ?_
  refine lv_land hx hb d_CP_hasBit_4 ?_
  refine lv_lconst (v := 0) hx hb d_CP_hasBit_5 rfl ?_
  refine x_lcmp_eq (tgt := 14) hx hb d_CP_hasBit_6 d_CP_hasBit_7 (by decide) (fun c_1 => ?_) (fun c_1 => ?_)
  · skip
    refine lv_iconst (v := (nI 0)) hx hb d_CP_hasBit_14 (by decide) ?_
    refine xe_i (y := bI false) rfl ?_
    exact W.zret (v := (bI false)) hx hb hr (bI_nar _) (fun t ht _ => ⟨_, rfl, (by rw [(l_bit x hk).mp c_1]), ht⟩) t_nil d_CP_hasBit_15
  · skip
    refine lv_iconst (v := (nI 1)) hx hb d_CP_hasBit_10 (by decide) ?_
    refine lv_goto (tgt := 15) hx hb d_CP_hasBit_11 (by decide) ?_
    refine xe_i (y := bI true) rfl ?_
    exact W.zret (v := (bI true)) hx hb hr (bI_nar _) (fun t ht _ => ⟨_, rfl, (by rw [eq_true_of_ne_false (fun h => c_1 ((l_bit x hk).mpr h))]), ht⟩) t_nil d_CP_hasBit_15
