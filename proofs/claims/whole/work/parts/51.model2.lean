theorem d_MO_within_0 : decode prog_9_method_3_code 0 = .ok (.iload_n 0, 1) := by decide +kernel
theorem d_MO_within_1 : decode prog_9_method_3_code 1 = .ok (.iload_n 1, 1) := by decide +kernel
theorem d_MO_within_2 : decode prog_9_method_3_code 2 = .ok (.if_icmp .lt 12, 3) := by decide +kernel
theorem d_MO_within_5 : decode prog_9_method_3_code 5 = .ok (.iload_n 0, 1) := by decide +kernel
theorem d_MO_within_6 : decode prog_9_method_3_code 6 = .ok (.iload_n 2, 1) := by decide +kernel
theorem d_MO_within_7 : decode prog_9_method_3_code 7 = .ok (.if_icmp .gt 7, 3) := by decide +kernel
theorem d_MO_within_10 : decode prog_9_method_3_code 10 = .ok (.iconst 1, 1) := by decide +kernel
theorem d_MO_within_11 : decode prog_9_method_3_code 11 = .ok (.goto 4, 3) := by decide +kernel
theorem d_MO_within_14 : decode prog_9_method_3_code 14 = .ok (.iconst 0, 1) := by decide +kernel
theorem d_MO_within_15 : decode prog_9_method_3_code 15 = .ok (.ireturn, 1) := by decide +kernel
set_option maxHeartbeats 4000000 in
set_option maxRecDepth 100000 in
theorem c_MO_within (l : Launch) (dC : Nat → ClassId) (dI : Nat → Nat → Nat) (cI cJ cZ : ClassId) (v lo hi : Int32) : Met l ⟨"CutPointsModel", "within", "(III)Z"⟩ (Cond.code ⟨"CutPointsModel", "within", "(III)Z"⟩ prog_9_method_3_code 3 (some .boolean) :: TT) (rmk 0 0) (PR dC dI cI cJ cZ [.int v, .int lo, .int hi] []) (vp_Si (fun r => r = bI (decide (lo ≤ v) && decide (v ≤ hi)))) 0 0 (fun _ => False) := by
  refine Met.ofW (cc := prog_9_method_3_code) (maxL := 3) (ret := (some .boolean)) (by decide) rfl ?_
  intro p e s m args below meth c s₁ BB9 hml hv
  obtain ⟨rfl, hP, hK⟩ := hv
  have hx := BB9.exec
  have hb := BB9.bytes
  have hr := BB9.returns
  have hts : ∀ w ∈ TT, w.before _ s = true := fun w h => atoms_spec (ws := (Cond.code ⟨"CutPointsModel", "within", "(III)Z"⟩ prog_9_method_3_code 3 (some .boolean) :: TT)) BB9.pre w (List.mem_cons_of_mem _ h)
  have hown : s.vm.findClass "CutPointsModel" = some m.cls := findClass_of_methodNamed BB9.named
  have hlocks := BB9.notSynchronized
  have hl := lv_entry ([.int v, .int lo, .int hi]) (n := 3) (Nat.le_of_ble_eq_true rfl)
  rw [lg_entry_eq]
  generalize (lg_sl ([.int v, .int lo, .int hi]) ++ List.replicate (3 - (lg_sl ([.int v, .int lo, .int hi])).length) Slot.unset).toArray = ls at hl ⊢
  have hl : lv_has ls 3 [(0, .int v), (1, .int lo), (2, .int hi)] := hl
  refine lv_iload_n hx hb d_MO_within_0 rfl (lv_at hl 0 rfl) ?_
  refine lv_iload_n hx hb d_MO_within_1 rfl (lv_at hl 1 rfl) ?_
  refine lv_icmp_lt (tgt := 14) hx hb d_MO_within_2 (by decide) (fun c_1 => ?_) (fun c_1 => ?_)
  · skip
    refine lv_iconst (v := (nI 0)) hx hb d_MO_within_14 (by decide) ?_
    refine xe_i (y := bI false) rfl ?_
    exact W.zret (v := (bI false)) hx hb hr (bI_nar _) (fun t9 ht9 _ => ⟨_, rfl, (by rw [decide_eq_false (Int32.not_le.mpr c_1)]; rfl), ht9⟩) t_nil d_MO_within_15
  · skip
    refine lv_iload_n hx hb d_MO_within_5 rfl (lv_at hl 0 rfl) ?_
    refine lv_iload_n hx hb d_MO_within_6 rfl (lv_at hl 2 rfl) ?_
    refine lv_icmp_gt (tgt := 14) hx hb d_MO_within_7 (by decide) (fun c_2 => ?_) (fun c_2 => ?_)
    · skip
      refine lv_iconst (v := (nI 0)) hx hb d_MO_within_14 (by decide) ?_
      refine xe_i (y := bI false) rfl ?_
      exact W.zret (v := (bI false)) hx hb hr (bI_nar _) (fun t9 ht9 _ => ⟨_, rfl, (by rw [decide_eq_false (p := v ≤ hi) (Int32.not_le.mpr c_2), Bool.and_false]), ht9⟩) t_nil d_MO_within_15
    · skip
      refine lv_iconst (v := (nI 1)) hx hb d_MO_within_10 (by decide) ?_
      refine lv_goto (tgt := 15) hx hb d_MO_within_11 (by decide) ?_
      refine xe_i (y := bI true) rfl ?_
      exact W.zret (v := (bI true)) hx hb hr (bI_nar _) (fun t9 ht9 _ => ⟨_, rfl, (by rw [decide_eq_true (Int32.not_lt.mp c_1), decide_eq_true (Int32.not_lt.mp c_2)]; rfl), ht9⟩) t_nil d_MO_within_15

theorem d_MO_many_0 : decode prog_9_method_4_code 0 = .ok (.iconst 0, 1) := by decide +kernel
theorem d_MO_many_1 : decode prog_9_method_4_code 1 = .ok (.istore_n 1, 1) := by decide +kernel
theorem d_MO_many_2 : decode prog_9_method_4_code 2 = .ok (.iconst 0, 1) := by decide +kernel
theorem d_MO_many_3 : decode prog_9_method_4_code 3 = .ok (.istore_n 2, 1) := by decide +kernel
theorem d_MO_many_4 : decode prog_9_method_4_code 4 = .ok (.iload_n 2, 1) := by decide +kernel
theorem d_MO_many_5 : decode prog_9_method_4_code 5 = .ok (.bipush 16, 2) := by decide +kernel
theorem d_MO_many_7 : decode prog_9_method_4_code 7 = .ok (.if_icmp .ge 17, 3) := by decide +kernel
theorem d_MO_many_10 : decode prog_9_method_4_code 10 = .ok (.iload_n 1, 1) := by decide +kernel
theorem d_MO_many_11 : decode prog_9_method_4_code 11 = .ok (.iload_n 0, 1) := by decide +kernel
theorem d_MO_many_12 : decode prog_9_method_4_code 12 = .ok (.iload_n 2, 1) := by decide +kernel
theorem d_MO_many_13 : decode prog_9_method_4_code 13 = .ok (.ishr, 1) := by decide +kernel
theorem d_MO_many_14 : decode prog_9_method_4_code 14 = .ok (.iconst 1, 1) := by decide +kernel
theorem d_MO_many_15 : decode prog_9_method_4_code 15 = .ok (.iand, 1) := by decide +kernel
theorem d_MO_many_16 : decode prog_9_method_4_code 16 = .ok (.iadd, 1) := by decide +kernel
theorem d_MO_many_17 : decode prog_9_method_4_code 17 = .ok (.istore_n 1, 1) := by decide +kernel
theorem d_MO_many_18 : decode prog_9_method_4_code 18 = .ok (.iinc 2 1, 3) := by decide +kernel
theorem d_MO_many_21 : decode prog_9_method_4_code 21 = .ok (.goto (-17), 3) := by decide +kernel
theorem d_MO_many_24 : decode prog_9_method_4_code 24 = .ok (.iload_n 1, 1) := by decide +kernel
theorem d_MO_many_25 : decode prog_9_method_4_code 25 = .ok (.ireturn, 1) := by decide +kernel
set_option maxHeartbeats 4000000 in
set_option maxRecDepth 100000 in
theorem c_MO_many (l : Launch) (dC : Nat → ClassId) (dI : Nat → Nat → Nat) (cI cJ cZ : ClassId) (x : Int32) : Met l ⟨"CutPointsModel", "many", "(I)I"⟩ (Cond.code ⟨"CutPointsModel", "many", "(I)I"⟩ prog_9_method_4_code 3 (some .int) :: TT) (rmk 0 0) (PR dC dI cI cJ cZ [.int x] []) (vp_Si (fun r => r = nI (cn (bt x) 16))) 0 0 (fun _ => False) := by
  refine Met.ofW (cc := prog_9_method_4_code) (maxL := 3) (ret := (some .int)) (by decide) rfl ?_
  intro p e s m args below meth c s₁ BB9 hml hv
  obtain ⟨rfl, hP, hK⟩ := hv
  have hx := BB9.exec
  have hb := BB9.bytes
  have hr := BB9.returns
  have hts : ∀ w ∈ TT, w.before _ s = true := fun w h => atoms_spec (ws := (Cond.code ⟨"CutPointsModel", "many", "(I)I"⟩ prog_9_method_4_code 3 (some .int) :: TT)) BB9.pre w (List.mem_cons_of_mem _ h)
  have hown : s.vm.findClass "CutPointsModel" = some m.cls := findClass_of_methodNamed BB9.named
  have hlocks := BB9.notSynchronized
  have hl := lv_entry ([.int x]) (n := 3) (Nat.le_of_ble_eq_true rfl)
  rw [lg_entry_eq]
  generalize (lg_sl ([.int x]) ++ List.replicate (3 - (lg_sl ([.int x])).length) Slot.unset).toArray = ls at hl ⊢
  have hl : lv_has ls 3 [(0, .int x)] := hl
  refine lv_iconst (v := (nI 0)) hx hb d_MO_many_0 (by decide) ?_
  refine lv_istore_n (lv' := [(1, .int (nI 0)), (0, .int x)]) hx hb d_MO_many_1 rfl hl (by decide) rfl (fun ls hl => ?_)
  refine lv_iconst (v := (nI 0)) hx hb d_MO_many_2 (by decide) ?_
  refine lv_istore_n (lv' := [(2, .int (nI 0)), (1, .int (nI 0)), (0, .int x)]) hx hb d_MO_many_3 rfl hl (by decide) rfl (fun ls hl => ?_)
  have L4_1 : ∀ (n : Nat) (i : Nat) (hn : 16 - i < n) (hi : i ≤ 16) (ls : Array Slot) (hl : lv_has ls 3 [(0, .int x), (1, .int (nI (cn (bt x) i))), (2, .int (nI i))]), W p l e (headSpec (Cond.code ⟨"CutPointsModel", "many", "(I)I"⟩ prog_9_method_4_code 3 (some .int) :: TT) (rmk 0 0)).room s m ([.int x] : List Value).toArray below meth c s.heap [] 0 0 (MQ below (vp_Si (fun r => r = nI (cn (bt x) 16))) ([.int x] : List Value).toArray s 0 0 (fun _ => False)) (F0 m 4 ls []) := by
    intro n_4
    induction n_4 with
    | zero =>
      intro i hn_4
      exact absurd hn_4 (Nat.not_lt_zero _)
    | succ n_4 ih_4 =>
      intro i hn_4 hi ls hl
      refine lv_iload_n hx hb d_MO_many_4 rfl (lv_at hl 2 rfl) ?_
      refine lv_bipush (v := (nI 16)) hx hb d_MO_many_5 (by decide) ?_
      refine x_cmp_ge (a := i) (b := 16) (tgt := 24) hx hb (by omega) (by omega) d_MO_many_7 (by decide) (fun c_2 => ?_) (fun c_2 => ?_)
      · skip
        refine lv_iload_n hx hb d_MO_many_24 rfl (lv_at hl 1 rfl) ?_
        exact W.iret (v := (nI (cn (bt x) i))) hx hb hr (fun t9 ht9 _ => ⟨_, rfl, (by have e9 : i = 16 := (by omega); subst e9; rfl), ht9⟩) t_nil d_MO_many_25
      · skip
        refine lv_iload_n hx hb d_MO_many_10 rfl (lv_at hl 1 rfl) ?_
        refine lv_iload_n hx hb d_MO_many_11 rfl (lv_at hl 0 rfl) ?_
        refine lv_iload_n hx hb d_MO_many_12 rfl (lv_at hl 2 rfl) ?_
        refine lv_ishr hx hb d_MO_many_13 ?_
        refine lv_iconst (v := (nI 1)) hx hb d_MO_many_14 (by decide) ?_
        refine lv_iand hx hb d_MO_many_15 ?_
        refine xe_i (y := (bI (bt x i))) (sh1 (by omega)) ?_
        refine lv_iadd hx hb d_MO_many_16 ?_
        refine xe_i (y := (nI (cn (bt x) i)) + (nI (Bool.toNat (bt x i)))) (by rw [bI_nI]) ?_
        refine xe_i (nI_add _ _) ?_
        refine lv_istore_n (lv' := [(1, .int (nI ((cn (bt x) i) + (Bool.toNat (bt x i))))), (0, .int x), (2, .int (nI i))]) hx hb d_MO_many_17 rfl hl (by decide) rfl (fun ls hl => ?_)
        refine lv_iinc (v := (nI (i + 1))) (lv' := [(2, .int (nI (i + 1))), (1, .int (nI ((cn (bt x) i) + (Bool.toNat (bt x i))))), (0, .int x)]) hx hb d_MO_many_18 hl (k := 2) rfl (nI_1 _) (by decide) rfl (fun ls hl => ?_)
        refine lv_goto (tgt := 4) hx hb d_MO_many_21 (by decide) ?_
        exact ih_4 (i + 1) (by omega) (by first | assumption | omega) ls (lv_sub hl [2, 1, 0] rfl)
  exact L4_1 ((16 - 0) + 1) 0 (Nat.lt_succ_self _) (by first | assumption | omega) ls (lv_sub hl [2, 1, 0] rfl)

theorem d_MO_least_0 : decode prog_9_method_5_code 0 = .ok (.iconst 0, 1) := by decide +kernel
theorem d_MO_least_1 : decode prog_9_method_5_code 1 = .ok (.istore_n 1, 1) := by decide +kernel
theorem d_MO_least_2 : decode prog_9_method_5_code 2 = .ok (.iload_n 1, 1) := by decide +kernel
theorem d_MO_least_3 : decode prog_9_method_5_code 3 = .ok (.bipush 16, 2) := by decide +kernel
theorem d_MO_least_5 : decode prog_9_method_5_code 5 = .ok (.if_icmp .ge 17, 3) := by decide +kernel
theorem d_MO_least_8 : decode prog_9_method_5_code 8 = .ok (.iload_n 0, 1) := by decide +kernel
theorem d_MO_least_9 : decode prog_9_method_5_code 9 = .ok (.iload_n 1, 1) := by decide +kernel
theorem d_MO_least_10 : decode prog_9_method_5_code 10 = .ok (.ishr, 1) := by decide +kernel
theorem d_MO_least_11 : decode prog_9_method_5_code 11 = .ok (.iconst 1, 1) := by decide +kernel
theorem d_MO_least_12 : decode prog_9_method_5_code 12 = .ok (.iand, 1) := by decide +kernel
theorem d_MO_least_13 : decode prog_9_method_5_code 13 = .ok (.ifCond .ne 9, 3) := by decide +kernel
theorem d_MO_least_16 : decode prog_9_method_5_code 16 = .ok (.iinc 1 1, 3) := by decide +kernel
theorem d_MO_least_19 : decode prog_9_method_5_code 19 = .ok (.goto (-17), 3) := by decide +kernel
theorem d_MO_least_22 : decode prog_9_method_5_code 22 = .ok (.iload_n 1, 1) := by decide +kernel
theorem d_MO_least_23 : decode prog_9_method_5_code 23 = .ok (.ireturn, 1) := by decide +kernel
set_option maxHeartbeats 4000000 in
set_option maxRecDepth 100000 in
theorem c_MO_least (l : Launch) (dC : Nat → ClassId) (dI : Nat → Nat → Nat) (cI cJ cZ : ClassId) (x : Int32) : Met l ⟨"CutPointsModel", "least", "(I)I"⟩ (Cond.code ⟨"CutPointsModel", "least", "(I)I"⟩ prog_9_method_5_code 2 (some .int) :: TT) (rmk 0 0) (PR dC dI cI cJ cZ [.int x] []) (vp_Si (fun r => r = nI (lsn (bt x) 16))) 0 0 (fun _ => False) := by
  refine Met.ofW (cc := prog_9_method_5_code) (maxL := 2) (ret := (some .int)) (by decide) rfl ?_
  intro p e s m args below meth c s₁ BB9 hml hv
  obtain ⟨rfl, hP, hK⟩ := hv
  have hx := BB9.exec
  have hb := BB9.bytes
  have hr := BB9.returns
  have hts : ∀ w ∈ TT, w.before _ s = true := fun w h => atoms_spec (ws := (Cond.code ⟨"CutPointsModel", "least", "(I)I"⟩ prog_9_method_5_code 2 (some .int) :: TT)) BB9.pre w (List.mem_cons_of_mem _ h)
  have hown : s.vm.findClass "CutPointsModel" = some m.cls := findClass_of_methodNamed BB9.named
  have hlocks := BB9.notSynchronized
  have hl := lv_entry ([.int x]) (n := 2) (Nat.le_of_ble_eq_true rfl)
  rw [lg_entry_eq]
  generalize (lg_sl ([.int x]) ++ List.replicate (2 - (lg_sl ([.int x])).length) Slot.unset).toArray = ls at hl ⊢
  have hl : lv_has ls 2 [(0, .int x)] := hl
  refine lv_iconst (v := (nI 0)) hx hb d_MO_least_0 (by decide) ?_
  refine lv_istore_n (lv' := [(1, .int (nI 0)), (0, .int x)]) hx hb d_MO_least_1 rfl hl (by decide) rfl (fun ls hl => ?_)
  have L2_1 : ∀ (n : Nat) (i : Nat) (hn : 16 - i < n) (hi : i ≤ 16) (hn : ∀ j, j < i → bt x j = false) (ls : Array Slot) (hl : lv_has ls 2 [(0, .int x), (1, .int (nI i))]), W p l e (headSpec (Cond.code ⟨"CutPointsModel", "least", "(I)I"⟩ prog_9_method_5_code 2 (some .int) :: TT) (rmk 0 0)).room s m ([.int x] : List Value).toArray below meth c s.heap [] 0 0 (MQ below (vp_Si (fun r => r = nI (lsn (bt x) 16))) ([.int x] : List Value).toArray s 0 0 (fun _ => False)) (F0 m 2 ls []) := by
    intro n_2
    induction n_2 with
    | zero =>
      intro i hn_2
      exact absurd hn_2 (Nat.not_lt_zero _)
    | succ n_2 ih_2 =>
      intro i hn_2 hi hn ls hl
      refine lv_iload_n hx hb d_MO_least_2 rfl (lv_at hl 1 rfl) ?_
      refine lv_bipush (v := (nI 16)) hx hb d_MO_least_3 (by decide) ?_
      refine x_cmp_ge (a := i) (b := 16) (tgt := 22) hx hb (by omega) (by omega) d_MO_least_5 (by decide) (fun c_2 => ?_) (fun c_2 => ?_)
      · skip
        refine lv_iload_n hx hb d_MO_least_22 rfl (lv_at hl 1 rfl) ?_
        exact W.iret (v := (nI i)) hx hb hr (fun t9 ht9 _ => ⟨_, rfl, (by rw [lsn_uniq (p := bt x) (n := 16) (k := i) hi hn (fun q9 => absurd q9 (by omega))]), ht9⟩) t_nil d_MO_least_23
      · skip
        refine lv_iload_n hx hb d_MO_least_8 rfl (lv_at hl 0 rfl) ?_
        refine lv_iload_n hx hb d_MO_least_9 rfl (lv_at hl 1 rfl) ?_
        refine lv_ishr hx hb d_MO_least_10 ?_
        refine lv_iconst (v := (nI 1)) hx hb d_MO_least_11 (by decide) ?_
        refine lv_iand hx hb d_MO_least_12 ?_
        refine xe_i (y := (bI (bt x i))) (sh1 (by omega)) ?_
        refine x_if_ne (tgt := 22) hx hb d_MO_least_13 (by decide) (fun c_3 => ?_) (fun c_3 => ?_)
        · skip
          refine lv_iload_n hx hb d_MO_least_22 rfl (lv_at hl 1 rfl) ?_
          exact W.iret (v := (nI i)) hx hb hr (fun t9 ht9 _ => ⟨_, rfl, (by rw [lsn_uniq (p := bt x) (n := 16) (k := i) hi hn (fun _ => c_3)]), ht9⟩) t_nil d_MO_least_23
        · skip
          refine lv_iinc (v := (nI (i + 1))) (lv' := [(1, .int (nI (i + 1))), (0, .int x)]) hx hb d_MO_least_16 hl (k := 1) rfl (nI_1 _) (by decide) rfl (fun ls hl => ?_)
          refine lv_goto (tgt := 2) hx hb d_MO_least_19 (by decide) ?_
          exact ih_2 (i + 1) (by omega) (by first | assumption | omega) (lt_s hn c_3) ls (lv_sub hl [1, 0] rfl)
  exact L2_1 ((16 - 0) + 1) 0 (Nat.lt_succ_self _) (by first | assumption | omega) (fun j hj => absurd hj (Nat.not_lt_zero _)) ls (lv_sub hl [1, 0] rfl)

theorem d_MO_isNode_0 : decode prog_9_method_8_code 0 = .ok (.iload_n 1, 1) := by decide +kernel
theorem d_MO_isNode_1 : decode prog_9_method_8_code 1 = .ok (.iconst 0, 1) := by decide +kernel
theorem d_MO_isNode_2 : decode prog_9_method_8_code 2 = .ok (.aload_n 0, 1) := by decide +kernel
theorem d_MO_isNode_3 : decode prog_9_method_8_code 3 = .ok (.getfield 42, 3) := by decide +kernel
theorem d_MO_isNode_6 : decode prog_9_method_8_code 6 = .ok (.iconst 1, 1) := by decide +kernel
theorem d_MO_isNode_7 : decode prog_9_method_8_code 7 = .ok (.isub, 1) := by decide +kernel
theorem d_MO_isNode_8 : decode prog_9_method_8_code 8 = .ok (.invokestatic 48, 3) := by decide +kernel
theorem d_MO_isNode_11 : decode prog_9_method_8_code 11 = .ok (.ireturn, 1) := by decide +kernel
set_option maxHeartbeats 4000000 in
set_option maxRecDepth 100000 in
theorem c_MO_isNode (l : Launch) (dC : Nat → ClassId) (dI : Nat → Nat → Nat) (cI cJ cZ : ClassId) (o fF fG fT fN fW fO fB fS fD : Nat) (th be bz sz : Int32) (nd ar : Nat) (x : Int32) (hnd : nd ≤ 14) : Met l ⟨"CutPointsModel", "isNode", "(I)Z"⟩ (Cond.code ⟨"CutPointsModel", "isNode", "(I)Z"⟩ prog_9_method_8_code 2 (some .boolean) :: TT) (rmk 1 22) (PR dC dI cI cJ cZ [.ref o, .int x] [(o, .inr (7, [.int th, .int (nI nd), .int (nI ar), .ref fF, .ref fG, .ref fT, .ref fN, .ref fW, .int be, .ref fO, .ref fB, .int bz, .ref fS, .ref fD, .int sz]))]) (vp_Si (fun r => r = bI (vd x nd))) 0 0 (fun _ => False) := by
  refine Met.ofW (cc := prog_9_method_8_code) (maxL := 2) (ret := (some .boolean)) (by decide) rfl ?_
  intro p e s m args below meth c s₁ BB9 hml hv
  obtain ⟨rfl, hP, hK⟩ := hv
  have hx := BB9.exec
  have hb := BB9.bytes
  have hr := BB9.returns
  have hts : ∀ w ∈ TT, w.before _ s = true := fun w h => atoms_spec (ws := (Cond.code ⟨"CutPointsModel", "isNode", "(I)Z"⟩ prog_9_method_8_code 2 (some .boolean) :: TT)) BB9.pre w (List.mem_cons_of_mem _ h)
  have hown : s.vm.findClass "CutPointsModel" = some m.cls := findClass_of_methodNamed BB9.named
  have hlocks := BB9.notSynchronized
  have hl := lv_entry ([.ref o, .int x]) (n := 2) (Nat.le_of_ble_eq_true rfl)
  rw [lg_entry_eq]
  generalize (lg_sl ([.ref o, .int x]) ++ List.replicate (2 - (lg_sl ([.ref o, .int x])).length) Slot.unset).toArray = ls at hl ⊢
  have hl : lv_has ls 2 [(0, .ref o), (1, .int x)] := hl
  refine lv_iload_n hx hb d_MO_isNode_0 rfl (lv_at hl 1 rfl) ?_
  refine lv_iconst (v := (nI 0)) hx hb d_MO_isNode_1 (by decide) ?_
  refine lv_aload_n hx hb d_MO_isNode_2 rfl (lv_at hl 0 rfl) ?_
  refine va_get (D := (dC, dI)) (ci := 7) (v := .int (nI nd)) (C := R_MO) (T := F_MO) (N := 15) hx hb hts in_MO hown hK.1 hP 0 rfl rfl 1 (by decide) (hts _ wfl_MO_42) (fun _ h9 => h9) rfl d_MO_isNode_3 ?_
  refine lv_iconst (v := (nI 1)) hx hb d_MO_isNode_6 (by decide) ?_
  refine lv_isub hx hb d_MO_isNode_7 ?_
  refine vp_callSi (va_Run.run (k_S (n := 3) (rest := []) ⟨hx, hb, hml, hown, hts⟩ (c_MO_within l dC dI cI cJ cZ x (nI 0) ((nI nd) - (nI 1))) wml_MO_48 wst_MO_within wini_MO wcode_MO_within (by decide +kernel) ⟨Nat.le_of_ble_eq_true rfl, Nat.le_of_ble_eq_true rfl⟩ (pre_R (hP.sub (ws' := []) [] rfl) hK) rfl hl.1 rfl (Nat.le_of_ble_eq_true rfl) d_MO_isNode_8 ⟨Nat.zero_le _, Nat.zero_le _⟩)) (fun r_1 hr_2 => ?_)
  refine xe_i (y := (bI (decide ((nI 0) ≤ x) && decide (x ≤ ((nI nd) - (nI 1)))))) hr_2 ?_
  refine xe_i (y := (bI (vd x nd))) (by rw [vd_w (by omega)]) ?_
  exact W.zret (v := (bI (vd x nd))) hx hb hr (bI_nar _) (fun t9 ht9 _ => ⟨_, rfl, rfl, ht9⟩) t_nil d_MO_isNode_11

theorem d_MO_isThere_0 : decode prog_9_method_9_code 0 = .ok (.iload_n 1, 1) := by decide +kernel
theorem d_MO_isThere_1 : decode prog_9_method_9_code 1 = .ok (.iconst 0, 1) := by decide +kernel
theorem d_MO_isThere_2 : decode prog_9_method_9_code 2 = .ok (.aload_n 0, 1) := by decide +kernel
theorem d_MO_isThere_3 : decode prog_9_method_9_code 3 = .ok (.getfield 45, 3) := by decide +kernel
theorem d_MO_isThere_6 : decode prog_9_method_9_code 6 = .ok (.iconst 1, 1) := by decide +kernel
theorem d_MO_isThere_7 : decode prog_9_method_9_code 7 = .ok (.isub, 1) := by decide +kernel
theorem d_MO_isThere_8 : decode prog_9_method_9_code 8 = .ok (.invokestatic 48, 3) := by decide +kernel
theorem d_MO_isThere_11 : decode prog_9_method_9_code 11 = .ok (.ifCond .eq 16, 3) := by decide +kernel
theorem d_MO_isThere_14 : decode prog_9_method_9_code 14 = .ok (.aload_n 0, 1) := by decide +kernel
theorem d_MO_isThere_15 : decode prog_9_method_9_code 15 = .ok (.getfield 16, 3) := by decide +kernel
theorem d_MO_isThere_18 : decode prog_9_method_9_code 18 = .ok (.iload_n 1, 1) := by decide +kernel
theorem d_MO_isThere_19 : decode prog_9_method_9_code 19 = .ok (.baload, 1) := by decide +kernel
theorem d_MO_isThere_20 : decode prog_9_method_9_code 20 = .ok (.ifCond .eq 7, 3) := by decide +kernel
theorem d_MO_isThere_23 : decode prog_9_method_9_code 23 = .ok (.iconst 1, 1) := by decide +kernel
theorem d_MO_isThere_24 : decode prog_9_method_9_code 24 = .ok (.goto 4, 3) := by decide +kernel
theorem d_MO_isThere_27 : decode prog_9_method_9_code 27 = .ok (.iconst 0, 1) := by decide +kernel
theorem d_MO_isThere_28 : decode prog_9_method_9_code 28 = .ok (.ireturn, 1) := by decide +kernel
set_option maxHeartbeats 4000000 in
set_option maxRecDepth 100000 in
theorem c_MO_isThere (l : Launch) (dC : Nat → ClassId) (dI : Nat → Nat → Nat) (cI cJ cZ : ClassId) (o fF fG fT fN fW fO fB fS fD : Nat) (th be bz sz : Int32) (nd ar : Nat) (P : Nat → Bool) (x : Int32) (har : ar ≤ 40) : Met l ⟨"CutPointsModel", "isThere", "(I)Z"⟩ (Cond.code ⟨"CutPointsModel", "isThere", "(I)Z"⟩ prog_9_method_9_code 2 (some .boolean) :: TT) (rmk 1 22) (PR dC dI cI cJ cZ [.ref o, .int x] [(o, .inr (7, [.int th, .int (nI nd), .int (nI ar), .ref fF, .ref fG, .ref fT, .ref fN, .ref fW, .int be, .ref fO, .ref fB, .int bz, .ref fS, .ref fD, .int sz])), (fT, .inl (cZ, 41, .inl (bF P)))]) (vp_Si (fun r => r = bI (vd x ar && P x.toNatClampNeg))) 0 0 (fun _ => False) := by
  refine Met.ofW (cc := prog_9_method_9_code) (maxL := 2) (ret := (some .boolean)) (by decide) rfl ?_
  intro p e s m args below meth c s₁ BB9 hml hv
  obtain ⟨rfl, hP, hK⟩ := hv
  have hx := BB9.exec
  have hb := BB9.bytes
  have hr := BB9.returns
  have hts : ∀ w ∈ TT, w.before _ s = true := fun w h => atoms_spec (ws := (Cond.code ⟨"CutPointsModel", "isThere", "(I)Z"⟩ prog_9_method_9_code 2 (some .boolean) :: TT)) BB9.pre w (List.mem_cons_of_mem _ h)
  have hown : s.vm.findClass "CutPointsModel" = some m.cls := findClass_of_methodNamed BB9.named
  have hlocks := BB9.notSynchronized
  have hl := lv_entry ([.ref o, .int x]) (n := 2) (Nat.le_of_ble_eq_true rfl)
  rw [lg_entry_eq]
  generalize (lg_sl ([.ref o, .int x]) ++ List.replicate (2 - (lg_sl ([.ref o, .int x])).length) Slot.unset).toArray = ls at hl ⊢
  have hl : lv_has ls 2 [(0, .ref o), (1, .int x)] := hl
  refine lv_iload_n hx hb d_MO_isThere_0 rfl (lv_at hl 1 rfl) ?_
  refine lv_iconst (v := (nI 0)) hx hb d_MO_isThere_1 (by decide) ?_
  refine lv_aload_n hx hb d_MO_isThere_2 rfl (lv_at hl 0 rfl) ?_
  refine va_get (D := (dC, dI)) (ci := 7) (v := .int (nI ar)) (C := R_MO) (T := F_MO) (N := 15) hx hb hts in_MO hown hK.1 hP 0 rfl rfl 2 (by decide) (hts _ wfl_MO_45) (fun _ h9 => h9) rfl d_MO_isThere_3 ?_
  refine lv_iconst (v := (nI 1)) hx hb d_MO_isThere_6 (by decide) ?_
  refine lv_isub hx hb d_MO_isThere_7 ?_
  refine vp_callSi (va_Run.run (k_S (n := 3) (rest := []) ⟨hx, hb, hml, hown, hts⟩ (c_MO_within l dC dI cI cJ cZ x (nI 0) ((nI ar) - (nI 1))) wml_MO_48 wst_MO_within wini_MO wcode_MO_within (by decide +kernel) ⟨Nat.le_of_ble_eq_true rfl, Nat.le_of_ble_eq_true rfl⟩ (pre_R (hP.sub (ws' := []) [] rfl) hK) rfl hl.1 rfl (Nat.le_of_ble_eq_true rfl) d_MO_isThere_8 ⟨Nat.zero_le _, Nat.zero_le _⟩)) (fun r_1 hr_2 => ?_)
  refine xe_i (y := (bI (decide ((nI 0) ≤ x) && decide (x ≤ ((nI ar) - (nI 1)))))) hr_2 ?_
  refine xe_i (y := (bI (vd x ar))) (by rw [vd_w (by omega)]) ?_
  refine x_if_eq (tgt := 27) hx hb d_MO_isThere_11 (by decide) (fun c_3 => ?_) (fun c_3 => ?_)
  · skip
    refine lv_iconst (v := (nI 0)) hx hb d_MO_isThere_27 (by decide) ?_
    refine xe_i (y := bI false) rfl ?_
    exact W.zret (v := (bI false)) hx hb hr (bI_nar _) (fun t9 ht9 _ => ⟨_, rfl, (by rw [c_3]; rfl), ht9⟩) t_nil d_MO_isThere_28
  · skip
    obtain ⟨j, hj, hxj⟩ := vd_t c_3 (by omega)
    refine lv_aload_n hx hb d_MO_isThere_14 rfl (lv_at hl 0 rfl) ?_
    refine va_get (D := (dC, dI)) (ci := 7) (v := .ref fT) (C := R_MO) (T := F_MO) (N := 15) hx hb hts in_MO hown hK.1 hP 0 rfl rfl 5 (by decide) (hts _ wfl_MO_16) (fun _ h9 => h9) rfl d_MO_isThere_15 ?_
    refine lv_iload_n hx hb d_MO_isThere_18 rfl (lv_at hl 1 rfl) ?_
    refine xe_i (y := (nI j)) hxj ?_
    refine x_zald (n := 41) (f := (bF P)) (j := j) hx hb hK.1 hP 1 2 rfl rfl (by omega) (by omega) d_MO_isThere_19 ?_
    refine xe_i (y := (bI (P j))) rfl ?_
    refine x_if_eq (tgt := 27) hx hb d_MO_isThere_20 (by decide) (fun c_4 => ?_) (fun c_4 => ?_)
    · skip
      refine lv_iconst (v := (nI 0)) hx hb d_MO_isThere_27 (by decide) ?_
      refine xe_i (y := bI false) rfl ?_
      exact W.zret (v := (bI false)) hx hb hr (bI_nar _) (fun t9 ht9 _ => ⟨_, rfl, (by rw [c_3, hxj, nI_clamp (by omega), c_4]; rfl), ht9⟩) t_nil d_MO_isThere_28
    · skip
      refine lv_iconst (v := (nI 1)) hx hb d_MO_isThere_23 (by decide) ?_
      refine lv_goto (tgt := 28) hx hb d_MO_isThere_24 (by decide) ?_
      refine xe_i (y := bI true) rfl ?_
      exact W.zret (v := (bI true)) hx hb hr (bI_nar _) (fun t9 ht9 _ => ⟨_, rfl, (by rw [c_3, hxj, nI_clamp (by omega), c_4]; rfl), ht9⟩) t_nil d_MO_isThere_28

theorem d_MO_look_0 : decode prog_9_method_12_code 0 = .ok (.iconst 0, 1) := by decide +kernel
theorem d_MO_look_1 : decode prog_9_method_12_code 1 = .ok (.istore 5, 2) := by decide +kernel
theorem d_MO_look_3 : decode prog_9_method_12_code 3 = .ok (.iload 5, 2) := by decide +kernel
theorem d_MO_look_5 : decode prog_9_method_12_code 5 = .ok (.bipush 14, 2) := by decide +kernel
theorem d_MO_look_7 : decode prog_9_method_12_code 7 = .ok (.if_icmp .ge 17, 3) := by decide +kernel
theorem d_MO_look_10 : decode prog_9_method_12_code 10 = .ok (.aload_n 0, 1) := by decide +kernel
theorem d_MO_look_11 : decode prog_9_method_12_code 11 = .ok (.getfield 20, 3) := by decide +kernel
theorem d_MO_look_14 : decode prog_9_method_12_code 14 = .ok (.iload 5, 2) := by decide +kernel
theorem d_MO_look_16 : decode prog_9_method_12_code 16 = .ok (.iconst 0, 1) := by decide +kernel
theorem d_MO_look_17 : decode prog_9_method_12_code 17 = .ok (.iastore, 1) := by decide +kernel
theorem d_MO_look_18 : decode prog_9_method_12_code 18 = .ok (.iinc 5 1, 3) := by decide +kernel
theorem d_MO_look_21 : decode prog_9_method_12_code 21 = .ok (.goto (-18), 3) := by decide +kernel
theorem d_MO_look_24 : decode prog_9_method_12_code 24 = .ok (.iconst 0, 1) := by decide +kernel
theorem d_MO_look_25 : decode prog_9_method_12_code 25 = .ok (.istore 5, 2) := by decide +kernel
theorem d_MO_look_27 : decode prog_9_method_12_code 27 = .ok (.iload 5, 2) := by decide +kernel
theorem d_MO_look_29 : decode prog_9_method_12_code 29 = .ok (.aload_n 0, 1) := by decide +kernel
theorem d_MO_look_30 : decode prog_9_method_12_code 30 = .ok (.getfield 45, 3) := by decide +kernel
theorem d_MO_look_33 : decode prog_9_method_12_code 33 = .ok (.iload 4, 2) := by decide +kernel
theorem d_MO_look_35 : decode prog_9_method_12_code 35 = .ok (.iadd, 1) := by decide +kernel
theorem d_MO_look_36 : decode prog_9_method_12_code 36 = .ok (.if_icmp .ge 160, 3) := by decide +kernel
theorem d_MO_look_39 : decode prog_9_method_12_code 39 = .ok (.iload 5, 2) := by decide +kernel
theorem d_MO_look_41 : decode prog_9_method_12_code 41 = .ok (.aload_n 0, 1) := by decide +kernel
theorem d_MO_look_42 : decode prog_9_method_12_code 42 = .ok (.getfield 45, 3) := by decide +kernel
theorem d_MO_look_45 : decode prog_9_method_12_code 45 = .ok (.if_icmp .eq 13, 3) := by decide +kernel
theorem d_MO_look_48 : decode prog_9_method_12_code 48 = .ok (.aload_n 0, 1) := by decide +kernel
theorem d_MO_look_49 : decode prog_9_method_12_code 49 = .ok (.getfield 16, 3) := by decide +kernel
theorem d_MO_look_52 : decode prog_9_method_12_code 52 = .ok (.iload 5, 2) := by decide +kernel
theorem d_MO_look_54 : decode prog_9_method_12_code 54 = .ok (.baload, 1) := by decide +kernel
theorem d_MO_look_55 : decode prog_9_method_12_code 55 = .ok (.ifCond .eq 7, 3) := by decide +kernel
theorem d_MO_look_58 : decode prog_9_method_12_code 58 = .ok (.iconst 1, 1) := by decide +kernel
theorem d_MO_look_59 : decode prog_9_method_12_code 59 = .ok (.goto 4, 3) := by decide +kernel
theorem d_MO_look_62 : decode prog_9_method_12_code 62 = .ok (.iconst 0, 1) := by decide +kernel
theorem d_MO_look_63 : decode prog_9_method_12_code 63 = .ok (.istore 6, 2) := by decide +kernel
theorem d_MO_look_65 : decode prog_9_method_12_code 65 = .ok (.iload_n 3, 1) := by decide +kernel
theorem d_MO_look_66 : decode prog_9_method_12_code 66 = .ok (.aload_n 0, 1) := by decide +kernel
theorem d_MO_look_67 : decode prog_9_method_12_code 67 = .ok (.getfield 7, 3) := by decide +kernel
theorem d_MO_look_70 : decode prog_9_method_12_code 70 = .ok (.iload 5, 2) := by decide +kernel
theorem d_MO_look_72 : decode prog_9_method_12_code 72 = .ok (.iaload, 1) := by decide +kernel
theorem d_MO_look_73 : decode prog_9_method_12_code 73 = .ok (.ishr, 1) := by decide +kernel
theorem d_MO_look_74 : decode prog_9_method_12_code 74 = .ok (.iconst 1, 1) := by decide +kernel
theorem d_MO_look_75 : decode prog_9_method_12_code 75 = .ok (.iand, 1) := by decide +kernel
theorem d_MO_look_76 : decode prog_9_method_12_code 76 = .ok (.ifCond .ne 21, 3) := by decide +kernel
theorem d_MO_look_79 : decode prog_9_method_12_code 79 = .ok (.iload_n 3, 1) := by decide +kernel
theorem d_MO_look_80 : decode prog_9_method_12_code 80 = .ok (.aload_n 0, 1) := by decide +kernel
theorem d_MO_look_81 : decode prog_9_method_12_code 81 = .ok (.getfield 13, 3) := by decide +kernel
theorem d_MO_look_84 : decode prog_9_method_12_code 84 = .ok (.iload 5, 2) := by decide +kernel
theorem d_MO_look_86 : decode prog_9_method_12_code 86 = .ok (.iaload, 1) := by decide +kernel
theorem d_MO_look_87 : decode prog_9_method_12_code 87 = .ok (.ishr, 1) := by decide +kernel
theorem d_MO_look_88 : decode prog_9_method_12_code 88 = .ok (.iconst 1, 1) := by decide +kernel
theorem d_MO_look_89 : decode prog_9_method_12_code 89 = .ok (.iand, 1) := by decide +kernel
theorem d_MO_look_90 : decode prog_9_method_12_code 90 = .ok (.ifCond .ne 7, 3) := by decide +kernel
theorem d_MO_look_93 : decode prog_9_method_12_code 93 = .ok (.iconst 1, 1) := by decide +kernel
theorem d_MO_look_94 : decode prog_9_method_12_code 94 = .ok (.goto 4, 3) := by decide +kernel
theorem d_MO_look_97 : decode prog_9_method_12_code 97 = .ok (.iconst 0, 1) := by decide +kernel
theorem d_MO_look_98 : decode prog_9_method_12_code 98 = .ok (.istore 7, 2) := by decide +kernel
theorem d_MO_look_100 : decode prog_9_method_12_code 100 = .ok (.iload 6, 2) := by decide +kernel
theorem d_MO_look_102 : decode prog_9_method_12_code 102 = .ok (.ifCond .eq 88, 3) := by decide +kernel
theorem d_MO_look_105 : decode prog_9_method_12_code 105 = .ok (.iload 7, 2) := by decide +kernel
theorem d_MO_look_107 : decode prog_9_method_12_code 107 = .ok (.ifCond .eq 83, 3) := by decide +kernel
theorem d_MO_look_110 : decode prog_9_method_12_code 110 = .ok (.iload 5, 2) := by decide +kernel
theorem d_MO_look_112 : decode prog_9_method_12_code 112 = .ok (.iload_n 1, 1) := by decide +kernel
theorem d_MO_look_113 : decode prog_9_method_12_code 113 = .ok (.if_icmp .eq 77, 3) := by decide +kernel
theorem d_MO_look_116 : decode prog_9_method_12_code 116 = .ok (.iload 5, 2) := by decide +kernel
theorem d_MO_look_118 : decode prog_9_method_12_code 118 = .ok (.iload_n 2, 1) := by decide +kernel
theorem d_MO_look_119 : decode prog_9_method_12_code 119 = .ok (.if_icmp .eq 71, 3) := by decide +kernel
theorem d_MO_look_122 : decode prog_9_method_12_code 122 = .ok (.aload_n 0, 1) := by decide +kernel
theorem d_MO_look_123 : decode prog_9_method_12_code 123 = .ok (.getfield 20, 3) := by decide +kernel
theorem d_MO_look_126 : decode prog_9_method_12_code 126 = .ok (.aload_n 0, 1) := by decide +kernel
theorem d_MO_look_127 : decode prog_9_method_12_code 127 = .ok (.getfield 7, 3) := by decide +kernel
theorem d_MO_look_130 : decode prog_9_method_12_code 130 = .ok (.iload 5, 2) := by decide +kernel
theorem d_MO_look_132 : decode prog_9_method_12_code 132 = .ok (.iaload, 1) := by decide +kernel
theorem d_MO_look_133 : decode prog_9_method_12_code 133 = .ok (.aload_n 0, 1) := by decide +kernel
theorem d_MO_look_134 : decode prog_9_method_12_code 134 = .ok (.getfield 20, 3) := by decide +kernel
theorem d_MO_look_137 : decode prog_9_method_12_code 137 = .ok (.aload_n 0, 1) := by decide +kernel
theorem d_MO_look_138 : decode prog_9_method_12_code 138 = .ok (.getfield 7, 3) := by decide +kernel
theorem d_MO_look_141 : decode prog_9_method_12_code 141 = .ok (.iload 5, 2) := by decide +kernel
theorem d_MO_look_143 : decode prog_9_method_12_code 143 = .ok (.iaload, 1) := by decide +kernel
theorem d_MO_look_144 : decode prog_9_method_12_code 144 = .ok (.iaload, 1) := by decide +kernel
theorem d_MO_look_145 : decode prog_9_method_12_code 145 = .ok (.iconst 1, 1) := by decide +kernel
theorem d_MO_look_146 : decode prog_9_method_12_code 146 = .ok (.aload_n 0, 1) := by decide +kernel
theorem d_MO_look_147 : decode prog_9_method_12_code 147 = .ok (.getfield 13, 3) := by decide +kernel
theorem d_MO_look_150 : decode prog_9_method_12_code 150 = .ok (.iload 5, 2) := by decide +kernel
theorem d_MO_look_152 : decode prog_9_method_12_code 152 = .ok (.iaload, 1) := by decide +kernel
theorem d_MO_look_153 : decode prog_9_method_12_code 153 = .ok (.ishl, 1) := by decide +kernel
theorem d_MO_look_154 : decode prog_9_method_12_code 154 = .ok (.ior, 1) := by decide +kernel
theorem d_MO_look_155 : decode prog_9_method_12_code 155 = .ok (.iastore, 1) := by decide +kernel
theorem d_MO_look_156 : decode prog_9_method_12_code 156 = .ok (.aload_n 0, 1) := by decide +kernel
theorem d_MO_look_157 : decode prog_9_method_12_code 157 = .ok (.getfield 20, 3) := by decide +kernel
theorem d_MO_look_160 : decode prog_9_method_12_code 160 = .ok (.aload_n 0, 1) := by decide +kernel
theorem d_MO_look_161 : decode prog_9_method_12_code 161 = .ok (.getfield 13, 3) := by decide +kernel
theorem d_MO_look_164 : decode prog_9_method_12_code 164 = .ok (.iload 5, 2) := by decide +kernel
theorem d_MO_look_166 : decode prog_9_method_12_code 166 = .ok (.iaload, 1) := by decide +kernel
theorem d_MO_look_167 : decode prog_9_method_12_code 167 = .ok (.aload_n 0, 1) := by decide +kernel
theorem d_MO_look_168 : decode prog_9_method_12_code 168 = .ok (.getfield 20, 3) := by decide +kernel
theorem d_MO_look_171 : decode prog_9_method_12_code 171 = .ok (.aload_n 0, 1) := by decide +kernel
theorem d_MO_look_172 : decode prog_9_method_12_code 172 = .ok (.getfield 13, 3) := by decide +kernel
theorem d_MO_look_175 : decode prog_9_method_12_code 175 = .ok (.iload 5, 2) := by decide +kernel
theorem d_MO_look_177 : decode prog_9_method_12_code 177 = .ok (.iaload, 1) := by decide +kernel
theorem d_MO_look_178 : decode prog_9_method_12_code 178 = .ok (.iaload, 1) := by decide +kernel
theorem d_MO_look_179 : decode prog_9_method_12_code 179 = .ok (.iconst 1, 1) := by decide +kernel
theorem d_MO_look_180 : decode prog_9_method_12_code 180 = .ok (.aload_n 0, 1) := by decide +kernel
theorem d_MO_look_181 : decode prog_9_method_12_code 181 = .ok (.getfield 7, 3) := by decide +kernel
theorem d_MO_look_184 : decode prog_9_method_12_code 184 = .ok (.iload 5, 2) := by decide +kernel
theorem d_MO_look_186 : decode prog_9_method_12_code 186 = .ok (.iaload, 1) := by decide +kernel
theorem d_MO_look_187 : decode prog_9_method_12_code 187 = .ok (.ishl, 1) := by decide +kernel
theorem d_MO_look_188 : decode prog_9_method_12_code 188 = .ok (.ior, 1) := by decide +kernel
theorem d_MO_look_189 : decode prog_9_method_12_code 189 = .ok (.iastore, 1) := by decide +kernel
theorem d_MO_look_190 : decode prog_9_method_12_code 190 = .ok (.iinc 5 1, 3) := by decide +kernel
theorem d_MO_look_193 : decode prog_9_method_12_code 193 = .ok (.goto (-166), 3) := by decide +kernel
theorem d_MO_look_196 : decode prog_9_method_12_code 196 = .ok (.return_, 1) := by decide +kernel
set_option maxHeartbeats 4000000 in
set_option maxRecDepth 100000 in
theorem c_MO_look (l : Launch) (dC : Nat → ClassId) (dI : Nat → Nat → Nat) (cI cJ cZ : ClassId) (o fF fG fT fN fW fO fB fS fD : Nat) (th be bz sz : Int32) (nd ar : Nat) (F G : Nat → Nat) (P : Nat → Bool) (hF : ∀ k, F k < 14) (hG : ∀ k, G k < 14) (N0 : Nat → Int32) (lo ot go : Int32) (mo : Nat) (hmo : ar + mo ≤ 41) : Met l ⟨"CutPointsModel", "look", "(IIII)V"⟩ (Cond.code ⟨"CutPointsModel", "look", "(IIII)V"⟩ prog_9_method_12_code 8 none :: TT) (rmk 0 0) (PM dC dI cI cJ cZ [.ref o, .int lo, .int ot, .int go, .int (nI mo)] [(o, .inr (7, [.int th, .int (nI nd), .int (nI ar), .ref fF, .ref fG, .ref fT, .ref fN, .ref fW, .int be, .ref fO, .ref fB, .int bz, .ref fS, .ref fD, .int sz])), (fF, .inl (cI, 41, .inl (nF F))), (fG, .inl (cI, 41, .inl (nF G))), (fT, .inl (cZ, 41, .inl (bF P))), (fN, .inl (cI, 14, .inl N0))]) (va_Qv (S := Nat → Int32) (fun u9 => NR (lkT ar mo P lo ot go F G) F G u9) (fun u9 t9 => va_P (dC, dI) cls ([(o, .inr (7, [.int th, .int (nI nd), .int (nI ar), .ref fF, .ref fG, .ref fT, .ref fN, .ref fW, .int be, .ref fO, .ref fB, .int bz, .ref fS, .ref fD, .int sz])), (fF, .inl (cI, 41, .inl (nF F))), (fG, .inl (cI, 41, .inl (nF G))), (fT, .inl (cZ, 41, .inl (bF P))), (fN, .inl (cI, 14, .inl u9))]) t9.heap) (ow [(o, .inr (7, [.int th, .int (nI nd), .int (nI ar), .ref fF, .ref fG, .ref fT, .ref fN, .ref fW, .int be, .ref fO, .ref fB, .int bz, .ref fS, .ref fD, .int sz])), (fF, .inl (cI, 41, .inl (nF F))), (fG, .inl (cI, 41, .inl (nF G))), (fT, .inl (cZ, 41, .inl (bF P))), (fN, .inl (cI, 14, .inl N0))])) 0 0 (ow [(o, .inr (7, [.int th, .int (nI nd), .int (nI ar), .ref fF, .ref fG, .ref fT, .ref fN, .ref fW, .int be, .ref fO, .ref fB, .int bz, .ref fS, .ref fD, .int sz])), (fF, .inl (cI, 41, .inl (nF F))), (fG, .inl (cI, 41, .inl (nF G))), (fT, .inl (cZ, 41, .inl (bF P))), (fN, .inl (cI, 14, .inl N0))]) := by
  refine Met.ofW (cc := prog_9_method_12_code) (maxL := 8) (ret := none) (by decide) rfl ?_
  intro p e s m args below meth c s₁ BB9 hml hv
  obtain ⟨rfl, hP, hK, hD0⟩ := hv
  have hx := BB9.exec
  have hb := BB9.bytes
  have hr := BB9.returns
  have hts : ∀ w ∈ TT, w.before _ s = true := fun w h => atoms_spec (ws := (Cond.code ⟨"CutPointsModel", "look", "(IIII)V"⟩ prog_9_method_12_code 8 none :: TT)) BB9.pre w (List.mem_cons_of_mem _ h)
  have hown : s.vm.findClass "CutPointsModel" = some m.cls := findClass_of_methodNamed BB9.named
  have hlocks := BB9.notSynchronized
  have hD := hD0.mine
  have hS : va_S (ow [(o, .inr (7, [.int th, .int (nI nd), .int (nI ar), .ref fF, .ref fG, .ref fT, .ref fN, .ref fW, .int be, .ref fO, .ref fB, .int bz, .ref fS, .ref fD, .int sz])), (fF, .inl (cI, 41, .inl (nF F))), (fG, .inl (cI, 41, .inl (nF G))), (fT, .inl (cZ, 41, .inl (bF P))), (fN, .inl (cI, 14, .inl N0))]) s.heap s.heap [] := va_S.rf
  have hl := lv_entry ([.ref o, .int lo, .int ot, .int go, .int (nI mo)]) (n := 8) (Nat.le_of_ble_eq_true rfl)
  rw [lg_entry_eq]
  generalize (lg_sl ([.ref o, .int lo, .int ot, .int go, .int (nI mo)]) ++ List.replicate (8 - (lg_sl ([.ref o, .int lo, .int ot, .int go, .int (nI mo)])).length) Slot.unset).toArray = ls at hl ⊢
  have hl : lv_has ls 8 [(0, .ref o), (1, .int lo), (2, .int ot), (3, .int go), (4, .int (nI mo))] := hl
  refine lv_iconst (v := (nI 0)) hx hb d_MO_look_0 (by decide) ?_
  refine lv_istore (lv' := [(5, .int (nI 0)), (0, .ref o), (1, .int lo), (2, .int ot), (3, .int go), (4, .int (nI mo))]) hx hb d_MO_look_1 hl (by decide) rfl (fun ls hl => ?_)
  have L3_1 : ∀ (n : Nat) (r1 : Nat → Int32) (i : Nat) (hn : 14 - i < n) (hi : i ≤ 14) (hz : ∀ j, j < i → r1 j = nI 0) (H : Heap) (locs : List Loc) (hP : va_P (dC, dI) cls [(o, .inr (7, [.int th, .int (nI nd), .int (nI ar), .ref fF, .ref fG, .ref fT, .ref fN, .ref fW, .int be, .ref fO, .ref fB, .int bz, .ref fS, .ref fD, .int sz])), (fF, .inl (cI, 41, .inl (nF F))), (fG, .inl (cI, 41, .inl (nF G))), (fT, .inl (cZ, 41, .inl (bF P))), (fN, .inl (cI, 14, .inl r1))] H) (hD : va_D (ow [(o, .inr (7, [.int th, .int (nI nd), .int (nI ar), .ref fF, .ref fG, .ref fT, .ref fN, .ref fW, .int be, .ref fO, .ref fB, .int bz, .ref fS, .ref fD, .int sz])), (fF, .inl (cI, 41, .inl (nF F))), (fG, .inl (cI, 41, .inl (nF G))), (fT, .inl (cZ, 41, .inl (bF P))), (fN, .inl (cI, 14, .inl N0))]) [(o, .inr (7, [.int th, .int (nI nd), .int (nI ar), .ref fF, .ref fG, .ref fT, .ref fN, .ref fW, .int be, .ref fO, .ref fB, .int bz, .ref fS, .ref fD, .int sz])), (fF, .inl (cI, 41, .inl (nF F))), (fG, .inl (cI, 41, .inl (nF G))), (fT, .inl (cZ, 41, .inl (bF P))), (fN, .inl (cI, 14, .inl r1))]) (hS : va_S (ow [(o, .inr (7, [.int th, .int (nI nd), .int (nI ar), .ref fF, .ref fG, .ref fT, .ref fN, .ref fW, .int be, .ref fO, .ref fB, .int bz, .ref fS, .ref fD, .int sz])), (fF, .inl (cI, 41, .inl (nF F))), (fG, .inl (cI, 41, .inl (nF G))), (fT, .inl (cZ, 41, .inl (bF P))), (fN, .inl (cI, 14, .inl N0))]) s.heap H locs) (ls : Array Slot) (hl : lv_has ls 8 [(0, .ref o), (1, .int lo), (2, .int ot), (3, .int go), (4, .int (nI mo)), (5, .int (nI i))]), W p l e (headSpec (Cond.code ⟨"CutPointsModel", "look", "(IIII)V"⟩ prog_9_method_12_code 8 none :: TT) (rmk 0 0)).room s m ([.ref o, .int lo, .int ot, .int go, .int (nI mo)] : List Value).toArray below meth c H locs 0 0 (MQ below (va_Qv (S := Nat → Int32) (fun u9 => NR (lkT ar mo P lo ot go F G) F G u9) (fun u9 t9 => va_P (dC, dI) cls ([(o, .inr (7, [.int th, .int (nI nd), .int (nI ar), .ref fF, .ref fG, .ref fT, .ref fN, .ref fW, .int be, .ref fO, .ref fB, .int bz, .ref fS, .ref fD, .int sz])), (fF, .inl (cI, 41, .inl (nF F))), (fG, .inl (cI, 41, .inl (nF G))), (fT, .inl (cZ, 41, .inl (bF P))), (fN, .inl (cI, 14, .inl u9))]) t9.heap) (ow [(o, .inr (7, [.int th, .int (nI nd), .int (nI ar), .ref fF, .ref fG, .ref fT, .ref fN, .ref fW, .int be, .ref fO, .ref fB, .int bz, .ref fS, .ref fD, .int sz])), (fF, .inl (cI, 41, .inl (nF F))), (fG, .inl (cI, 41, .inl (nF G))), (fT, .inl (cZ, 41, .inl (bF P))), (fN, .inl (cI, 14, .inl N0))])) ([.ref o, .int lo, .int ot, .int go, .int (nI mo)] : List Value).toArray s 0 0 (ow [(o, .inr (7, [.int th, .int (nI nd), .int (nI ar), .ref fF, .ref fG, .ref fT, .ref fN, .ref fW, .int be, .ref fO, .ref fB, .int bz, .ref fS, .ref fD, .int sz])), (fF, .inl (cI, 41, .inl (nF F))), (fG, .inl (cI, 41, .inl (nF G))), (fT, .inl (cZ, 41, .inl (bF P))), (fN, .inl (cI, 14, .inl N0))])) (F0 m 3 ls []) := by
    intro n_3
    induction n_3 with
    | zero =>
      intro r1 i hn_3
      exact absurd hn_3 (Nat.not_lt_zero _)
    | succ n_3 ih_3 =>
      intro r1 i hn_3 hi hz H locs hP hD hS ls hl
      refine lv_iload hx hb d_MO_look_3 (lv_at hl 5 rfl) ?_
      refine lv_bipush (v := (nI 14)) hx hb d_MO_look_5 (by decide) ?_
      refine x_cmp_ge (a := i) (b := 14) (tgt := 24) hx hb (by omega) (by omega) d_MO_look_7 (by decide) (fun c_2 => ?_) (fun c_2 => ?_)
      · skip
        refine lv_iconst (v := (nI 0)) hx hb d_MO_look_24 (by decide) ?_
        refine lv_istore (lv' := [(5, .int (nI 0)), (0, .ref o), (1, .int lo), (2, .int ot), (3, .int go), (4, .int (nI mo))]) hx hb d_MO_look_25 hl (by decide) rfl (fun ls hl => ?_)
        have L27_3 : ∀ (n : Nat) (r2 : Nat → Int32) (i : Nat) (hn : ar + mo - i < n) (hi2 : i ≤ ar + mo) (hn : NRi (lkT ar mo P lo ot go F G) F G r2 i) (H : Heap) (locs : List Loc) (hP : va_P (dC, dI) cls [(o, .inr (7, [.int th, .int (nI nd), .int (nI ar), .ref fF, .ref fG, .ref fT, .ref fN, .ref fW, .int be, .ref fO, .ref fB, .int bz, .ref fS, .ref fD, .int sz])), (fF, .inl (cI, 41, .inl (nF F))), (fG, .inl (cI, 41, .inl (nF G))), (fT, .inl (cZ, 41, .inl (bF P))), (fN, .inl (cI, 14, .inl r2))] H) (hD : va_D (ow [(o, .inr (7, [.int th, .int (nI nd), .int (nI ar), .ref fF, .ref fG, .ref fT, .ref fN, .ref fW, .int be, .ref fO, .ref fB, .int bz, .ref fS, .ref fD, .int sz])), (fF, .inl (cI, 41, .inl (nF F))), (fG, .inl (cI, 41, .inl (nF G))), (fT, .inl (cZ, 41, .inl (bF P))), (fN, .inl (cI, 14, .inl N0))]) [(o, .inr (7, [.int th, .int (nI nd), .int (nI ar), .ref fF, .ref fG, .ref fT, .ref fN, .ref fW, .int be, .ref fO, .ref fB, .int bz, .ref fS, .ref fD, .int sz])), (fF, .inl (cI, 41, .inl (nF F))), (fG, .inl (cI, 41, .inl (nF G))), (fT, .inl (cZ, 41, .inl (bF P))), (fN, .inl (cI, 14, .inl r2))]) (hS : va_S (ow [(o, .inr (7, [.int th, .int (nI nd), .int (nI ar), .ref fF, .ref fG, .ref fT, .ref fN, .ref fW, .int be, .ref fO, .ref fB, .int bz, .ref fS, .ref fD, .int sz])), (fF, .inl (cI, 41, .inl (nF F))), (fG, .inl (cI, 41, .inl (nF G))), (fT, .inl (cZ, 41, .inl (bF P))), (fN, .inl (cI, 14, .inl N0))]) s.heap H locs) (ls : Array Slot) (hl : lv_has ls 8 [(0, .ref o), (1, .int lo), (2, .int ot), (3, .int go), (4, .int (nI mo)), (5, .int (nI i))]), W p l e (headSpec (Cond.code ⟨"CutPointsModel", "look", "(IIII)V"⟩ prog_9_method_12_code 8 none :: TT) (rmk 0 0)).room s m ([.ref o, .int lo, .int ot, .int go, .int (nI mo)] : List Value).toArray below meth c H locs 0 0 (MQ below (va_Qv (S := Nat → Int32) (fun u9 => NR (lkT ar mo P lo ot go F G) F G u9) (fun u9 t9 => va_P (dC, dI) cls ([(o, .inr (7, [.int th, .int (nI nd), .int (nI ar), .ref fF, .ref fG, .ref fT, .ref fN, .ref fW, .int be, .ref fO, .ref fB, .int bz, .ref fS, .ref fD, .int sz])), (fF, .inl (cI, 41, .inl (nF F))), (fG, .inl (cI, 41, .inl (nF G))), (fT, .inl (cZ, 41, .inl (bF P))), (fN, .inl (cI, 14, .inl u9))]) t9.heap) (ow [(o, .inr (7, [.int th, .int (nI nd), .int (nI ar), .ref fF, .ref fG, .ref fT, .ref fN, .ref fW, .int be, .ref fO, .ref fB, .int bz, .ref fS, .ref fD, .int sz])), (fF, .inl (cI, 41, .inl (nF F))), (fG, .inl (cI, 41, .inl (nF G))), (fT, .inl (cZ, 41, .inl (bF P))), (fN, .inl (cI, 14, .inl N0))])) ([.ref o, .int lo, .int ot, .int go, .int (nI mo)] : List Value).toArray s 0 0 (ow [(o, .inr (7, [.int th, .int (nI nd), .int (nI ar), .ref fF, .ref fG, .ref fT, .ref fN, .ref fW, .int be, .ref fO, .ref fB, .int bz, .ref fS, .ref fD, .int sz])), (fF, .inl (cI, 41, .inl (nF F))), (fG, .inl (cI, 41, .inl (nF G))), (fT, .inl (cZ, 41, .inl (bF P))), (fN, .inl (cI, 14, .inl N0))])) (F0 m 27 ls []) := by
          intro n_27
          induction n_27 with
          | zero =>
            intro r2 i hn_27
            exact absurd hn_27 (Nat.not_lt_zero _)
          | succ n_27 ih_27 =>
            intro r2 i hn_27 hi2 hn H locs hP hD hS ls hl
            refine lv_iload hx hb d_MO_look_27 (lv_at hl 5 rfl) ?_
            refine lv_aload_n hx hb d_MO_look_29 rfl (lv_at hl 0 rfl) ?_
            refine va_get (D := (dC, dI)) (ci := 7) (v := .int (nI ar)) (C := R_MO) (T := F_MO) (N := 15) hx hb hts in_MO hown hK.1 hP 0 rfl rfl 2 (by decide) (hts _ wfl_MO_45) (fun _ h9 => h9) rfl d_MO_look_30 ?_
            refine lv_iload hx hb d_MO_look_33 (lv_at hl 4 rfl) ?_
            refine lv_iadd hx hb d_MO_look_35 ?_
            refine xe_i (nI_add _ _) ?_
            refine x_cmp_ge (a := i) (b := (ar + mo)) (tgt := 196) hx hb (by omega) (by omega) d_MO_look_36 (by decide) (fun c_4 => ?_) (fun c_4 => ?_)
            · skip
              exact W.vret hx hb hr (fun t9 ht9 _ => ⟨⟨(r2), rfl, (by have e9 : i = ar + mo := (by omega); subst e9; exact NR_lk hmo hn), by show va_P (dC, dI) cls _ t9.heap; rw [ht9]; exact hP⟩, hS.F ht9⟩) hS.2.2 d_MO_look_196
            · skip
              refine lv_iload hx hb d_MO_look_39 (lv_at hl 5 rfl) ?_
              refine lv_aload_n hx hb d_MO_look_41 rfl (lv_at hl 0 rfl) ?_
              refine va_get (D := (dC, dI)) (ci := 7) (v := .int (nI ar)) (C := R_MO) (T := F_MO) (N := 15) hx hb hts in_MO hown hK.1 hP 0 rfl rfl 2 (by decide) (hts _ wfl_MO_45) (fun _ h9 => h9) rfl d_MO_look_42 ?_
              refine x_cmp_eq (a := i) (b := ar) (tgt := 58) hx hb (by omega) (by omega) d_MO_look_45 (by decide) (fun c_5 => ?_) (fun c_5 => ?_)
              · skip
                refine lv_iconst (v := (nI 1)) hx hb d_MO_look_58 (by decide) ?_
                refine lv_goto (tgt := 63) hx hb d_MO_look_59 (by decide) ?_
                refine lv_istore (lv' := [(6, .int (nI 1)), (0, .ref o), (1, .int lo), (2, .int ot), (3, .int go), (4, .int (nI mo)), (5, .int (nI i))]) hx hb d_MO_look_63 hl (by decide) rfl (fun ls hl => ?_)
                refine lv_iload_n hx hb d_MO_look_65 rfl (lv_at hl 4 rfl) ?_
                refine lv_aload_n hx hb d_MO_look_66 rfl (lv_at hl 1 rfl) ?_
                refine va_get (D := (dC, dI)) (ci := 7) (v := .ref fF) (C := R_MO) (T := F_MO) (N := 15) hx hb hts in_MO hown hK.1 hP 0 rfl rfl 3 (by decide) (hts _ wfl_MO_7) (fun _ h9 => h9) rfl d_MO_look_67 ?_
                refine lv_iload hx hb d_MO_look_70 (lv_at hl 6 rfl) ?_
                refine x_iald (n := 41) (f := (nF F)) (j := i) hx hb hK.1 hP 1 0 rfl rfl (by omega) (by omega) d_MO_look_72 ?_
                refine xe_i (y := (nI (F i))) rfl ?_
                refine lv_ishr hx hb d_MO_look_73 ?_
                refine lv_iconst (v := (nI 1)) hx hb d_MO_look_74 (by decide) ?_
                refine lv_iand hx hb d_MO_look_75 ?_
                refine xe_i (y := (bI (bt go (F i)))) (sh1 (Nat.lt_trans (hF _) (by decide))) ?_
                refine x_if_ne (tgt := 97) hx hb d_MO_look_76 (by decide) (fun c_6 => ?_) (fun c_6 => ?_)
                · skip
                  refine lv_iconst (v := (nI 0)) hx hb d_MO_look_97 (by decide) ?_
                  refine lv_istore (lv' := [(7, .int (nI 0)), (6, .int (nI 1)), (0, .ref o), (1, .int lo), (2, .int ot), (3, .int go), (4, .int (nI mo)), (5, .int (nI i))]) hx hb d_MO_look_98 hl (by decide) rfl (fun ls hl => ?_)
                  refine lv_iload hx hb d_MO_look_100 (lv_at hl 1 rfl) ?_
                  refine lv_if_eq (tgt := 190) hx hb d_MO_look_102 (by decide) (fun c9 => absurd c9 (by decide : ¬ ((nI 1) : Int32) = 0)) (fun _ => ?_)
                  refine lv_iload hx hb d_MO_look_105 (lv_at hl 0 rfl) ?_
                  refine lv_if_eq (tgt := 190) hx hb d_MO_look_107 (by decide) (fun _ => ?_) (fun c9 => absurd (by decide : ((nI 0) : Int32) = 0) c9)
                  refine lv_iinc (v := (nI (i + 1))) (lv' := [(5, .int (nI (i + 1))), (7, .int (nI 0)), (6, .int (nI 1)), (0, .ref o), (1, .int lo), (2, .int ot), (3, .int go), (4, .int (nI mo))]) hx hb d_MO_look_190 hl (k := 7) rfl (nI_1 _) (by decide) rfl (fun ls hl => ?_)
                  refine lv_goto (tgt := 27) hx hb d_MO_look_193 (by decide) ?_
                  exact ih_27 r2 (i + 1) (by omega) (by first | assumption | omega) (NRi_f hn (lk_f (Or.inr (Or.inl c_6)))) _ _ hP hD hS ls (lv_sub hl [3, 4, 5, 6, 7, 0] rfl)
                · skip
                  refine lv_iload_n hx hb d_MO_look_79 rfl (lv_at hl 4 rfl) ?_
                  refine lv_aload_n hx hb d_MO_look_80 rfl (lv_at hl 1 rfl) ?_
                  refine va_get (D := (dC, dI)) (ci := 7) (v := .ref fG) (C := R_MO) (T := F_MO) (N := 15) hx hb hts in_MO hown hK.1 hP 0 rfl rfl 4 (by decide) (hts _ wfl_MO_13) (fun _ h9 => h9) rfl d_MO_look_81 ?_
                  refine lv_iload hx hb d_MO_look_84 (lv_at hl 6 rfl) ?_
                  refine x_iald (n := 41) (f := (nF G)) (j := i) hx hb hK.1 hP 2 0 rfl rfl (by omega) (by omega) d_MO_look_86 ?_
                  refine xe_i (y := (nI (G i))) rfl ?_
                  refine lv_ishr hx hb d_MO_look_87 ?_
                  refine lv_iconst (v := (nI 1)) hx hb d_MO_look_88 (by decide) ?_
                  refine lv_iand hx hb d_MO_look_89 ?_
                  refine xe_i (y := (bI (bt go (G i)))) (sh1 (Nat.lt_trans (hG _) (by decide))) ?_
                  refine x_if_ne (tgt := 97) hx hb d_MO_look_90 (by decide) (fun c_9 => ?_) (fun c_9 => ?_)
                  · skip
                    refine lv_iconst (v := (nI 0)) hx hb d_MO_look_97 (by decide) ?_
                    refine lv_istore (lv' := [(7, .int (nI 0)), (6, .int (nI 1)), (0, .ref o), (1, .int lo), (2, .int ot), (3, .int go), (4, .int (nI mo)), (5, .int (nI i))]) hx hb d_MO_look_98 hl (by decide) rfl (fun ls hl => ?_)
                    refine lv_iload hx hb d_MO_look_100 (lv_at hl 1 rfl) ?_
                    refine lv_if_eq (tgt := 190) hx hb d_MO_look_102 (by decide) (fun c9 => absurd c9 (by decide : ¬ ((nI 1) : Int32) = 0)) (fun _ => ?_)
                    refine lv_iload hx hb d_MO_look_105 (lv_at hl 0 rfl) ?_
                    refine lv_if_eq (tgt := 190) hx hb d_MO_look_107 (by decide) (fun _ => ?_) (fun c9 => absurd (by decide : ((nI 0) : Int32) = 0) c9)
                    refine lv_iinc (v := (nI (i + 1))) (lv' := [(5, .int (nI (i + 1))), (7, .int (nI 0)), (6, .int (nI 1)), (0, .ref o), (1, .int lo), (2, .int ot), (3, .int go), (4, .int (nI mo))]) hx hb d_MO_look_190 hl (k := 7) rfl (nI_1 _) (by decide) rfl (fun ls hl => ?_)
                    refine lv_goto (tgt := 27) hx hb d_MO_look_193 (by decide) ?_
                    exact ih_27 r2 (i + 1) (by omega) (by first | assumption | omega) (NRi_f hn (lk_f (Or.inr (Or.inr (Or.inl c_9))))) _ _ hP hD hS ls (lv_sub hl [3, 4, 5, 6, 7, 0] rfl)
                  · skip
                    refine lv_iconst (v := (nI 1)) hx hb d_MO_look_93 (by decide) ?_
                    refine lv_goto (tgt := 98) hx hb d_MO_look_94 (by decide) ?_
                    refine lv_istore (lv' := [(7, .int (nI 1)), (6, .int (nI 1)), (0, .ref o), (1, .int lo), (2, .int ot), (3, .int go), (4, .int (nI mo)), (5, .int (nI i))]) hx hb d_MO_look_98 hl (by decide) rfl (fun ls hl => ?_)
                    refine lv_iload hx hb d_MO_look_100 (lv_at hl 1 rfl) ?_
                    refine lv_if_eq (tgt := 190) hx hb d_MO_look_102 (by decide) (fun c9 => absurd c9 (by decide : ¬ ((nI 1) : Int32) = 0)) (fun _ => ?_)
                    refine lv_iload hx hb d_MO_look_105 (lv_at hl 0 rfl) ?_
                    refine lv_if_eq (tgt := 190) hx hb d_MO_look_107 (by decide) (fun c9 => absurd c9 (by decide : ¬ ((nI 1) : Int32) = 0)) (fun _ => ?_)
                    refine lv_iload hx hb d_MO_look_110 (lv_at hl 7 rfl) ?_
                    refine lv_iload_n hx hb d_MO_look_112 rfl (lv_at hl 3 rfl) ?_
                    refine lv_icmp_eq (tgt := 190) hx hb d_MO_look_113 (by decide) (fun c_14 => ?_) (fun c_14 => ?_)
                    · skip
                      refine lv_iinc (v := (nI (i + 1))) (lv' := [(5, .int (nI (i + 1))), (7, .int (nI 1)), (6, .int (nI 1)), (0, .ref o), (1, .int lo), (2, .int ot), (3, .int go), (4, .int (nI mo))]) hx hb d_MO_look_190 hl (k := 7) rfl (nI_1 _) (by decide) rfl (fun ls hl => ?_)
                      refine lv_goto (tgt := 27) hx hb d_MO_look_193 (by decide) ?_
                      exact ih_27 r2 (i + 1) (by omega) (by first | assumption | omega) (NRi_f hn (lk_f (Or.inr (Or.inr (Or.inr (Or.inl c_14)))))) _ _ hP hD hS ls (lv_sub hl [3, 4, 5, 6, 7, 0] rfl)
                    · skip
                      refine lv_iload hx hb d_MO_look_116 (lv_at hl 7 rfl) ?_
                      refine lv_iload_n hx hb d_MO_look_118 rfl (lv_at hl 4 rfl) ?_
                      refine lv_icmp_eq (tgt := 190) hx hb d_MO_look_119 (by decide) (fun c_15 => ?_) (fun c_15 => ?_)
                      · skip
                        refine lv_iinc (v := (nI (i + 1))) (lv' := [(5, .int (nI (i + 1))), (7, .int (nI 1)), (6, .int (nI 1)), (0, .ref o), (1, .int lo), (2, .int ot), (3, .int go), (4, .int (nI mo))]) hx hb d_MO_look_190 hl (k := 7) rfl (nI_1 _) (by decide) rfl (fun ls hl => ?_)
                        refine lv_goto (tgt := 27) hx hb d_MO_look_193 (by decide) ?_
                        exact ih_27 r2 (i + 1) (by omega) (by first | assumption | omega) (NRi_f hn (lk_f (Or.inr (Or.inr (Or.inr (Or.inr c_15)))))) _ _ hP hD hS ls (lv_sub hl [3, 4, 5, 6, 7, 0] rfl)
                      · skip
                        refine lv_aload_n hx hb d_MO_look_122 rfl (lv_at hl 2 rfl) ?_
                        refine va_get (D := (dC, dI)) (ci := 7) (v := .ref fN) (C := R_MO) (T := F_MO) (N := 15) hx hb hts in_MO hown hK.1 hP 0 rfl rfl 6 (by decide) (hts _ wfl_MO_20) (fun _ h9 => h9) rfl d_MO_look_123 ?_
                        refine lv_aload_n hx hb d_MO_look_126 rfl (lv_at hl 2 rfl) ?_
                        refine va_get (D := (dC, dI)) (ci := 7) (v := .ref fF) (C := R_MO) (T := F_MO) (N := 15) hx hb hts in_MO hown hK.1 hP 0 rfl rfl 3 (by decide) (hts _ wfl_MO_7) (fun _ h9 => h9) rfl d_MO_look_127 ?_
                        refine lv_iload hx hb d_MO_look_130 (lv_at hl 7 rfl) ?_
                        refine x_iald (n := 41) (f := (nF F)) (j := i) hx hb hK.1 hP 1 0 rfl rfl (by omega) (by omega) d_MO_look_132 ?_
                        refine xe_i (y := (nI (F i))) rfl ?_
                        refine lv_aload_n hx hb d_MO_look_133 rfl (lv_at hl 2 rfl) ?_
                        refine va_get (D := (dC, dI)) (ci := 7) (v := .ref fN) (C := R_MO) (T := F_MO) (N := 15) hx hb hts in_MO hown hK.1 hP 0 rfl rfl 6 (by decide) (hts _ wfl_MO_20) (fun _ h9 => h9) rfl d_MO_look_134 ?_
                        refine lv_aload_n hx hb d_MO_look_137 rfl (lv_at hl 2 rfl) ?_
                        refine va_get (D := (dC, dI)) (ci := 7) (v := .ref fF) (C := R_MO) (T := F_MO) (N := 15) hx hb hts in_MO hown hK.1 hP 0 rfl rfl 3 (by decide) (hts _ wfl_MO_7) (fun _ h9 => h9) rfl d_MO_look_138 ?_
                        refine lv_iload hx hb d_MO_look_141 (lv_at hl 7 rfl) ?_
                        refine x_iald (n := 41) (f := (nF F)) (j := i) hx hb hK.1 hP 1 0 rfl rfl (by omega) (by omega) d_MO_look_143 ?_
                        refine xe_i (y := (nI (F i))) rfl ?_
                        refine x_iald (n := 14) (f := r2) (j := (F i)) hx hb hK.1 hP 4 0 rfl rfl (hF _) (by omega) d_MO_look_144 ?_
                        refine lv_iconst (v := (nI 1)) hx hb d_MO_look_145 (by decide) ?_
                        refine lv_aload_n hx hb d_MO_look_146 rfl (lv_at hl 2 rfl) ?_
                        refine va_get (D := (dC, dI)) (ci := 7) (v := .ref fG) (C := R_MO) (T := F_MO) (N := 15) hx hb hts in_MO hown hK.1 hP 0 rfl rfl 4 (by decide) (hts _ wfl_MO_13) (fun _ h9 => h9) rfl d_MO_look_147 ?_
                        refine lv_iload hx hb d_MO_look_150 (lv_at hl 7 rfl) ?_
                        refine x_iald (n := 41) (f := (nF G)) (j := i) hx hb hK.1 hP 2 0 rfl rfl (by omega) (by omega) d_MO_look_152 ?_
                        refine xe_i (y := (nI (G i))) rfl ?_
                        refine lv_ishl hx hb d_MO_look_153 ?_
                        refine xe_i (y := (sb (G i))) rfl ?_
                        refine lv_ior hx hb d_MO_look_154 ?_
                        refine x_iast (g := (va_up r2 (F i) ((r2 (F i)) ||| (sb (G i))))) hx hb hK.1 hP hD hS 4 0 rfl rfl rfl (hF _) (by omega) d_MO_look_155 (fun H locs hP hD hS => ?_)
                        have hP : va_P (dC, dI) cls [(o, .inr (7, [.int th, .int (nI nd), .int (nI ar), .ref fF, .ref fG, .ref fT, .ref fN, .ref fW, .int be, .ref fO, .ref fB, .int bz, .ref fS, .ref fD, .int sz])), (fF, .inl (cI, 41, .inl (nF F))), (fG, .inl (cI, 41, .inl (nF G))), (fT, .inl (cZ, 41, .inl (bF P))), (fN, .inl (cI, 14, .inl (va_up r2 (F i) ((r2 (F i)) ||| (sb (G i))))))] H := hP
                        have hD : va_D (ow [(o, .inr (7, [.int th, .int (nI nd), .int (nI ar), .ref fF, .ref fG, .ref fT, .ref fN, .ref fW, .int be, .ref fO, .ref fB, .int bz, .ref fS, .ref fD, .int sz])), (fF, .inl (cI, 41, .inl (nF F))), (fG, .inl (cI, 41, .inl (nF G))), (fT, .inl (cZ, 41, .inl (bF P))), (fN, .inl (cI, 14, .inl N0))]) [(o, .inr (7, [.int th, .int (nI nd), .int (nI ar), .ref fF, .ref fG, .ref fT, .ref fN, .ref fW, .int be, .ref fO, .ref fB, .int bz, .ref fS, .ref fD, .int sz])), (fF, .inl (cI, 41, .inl (nF F))), (fG, .inl (cI, 41, .inl (nF G))), (fT, .inl (cZ, 41, .inl (bF P))), (fN, .inl (cI, 14, .inl (va_up r2 (F i) ((r2 (F i)) ||| (sb (G i))))))] := hD
                        refine lv_aload_n hx hb d_MO_look_156 rfl (lv_at hl 2 rfl) ?_
                        refine va_get (D := (dC, dI)) (ci := 7) (v := .ref fN) (C := R_MO) (T := F_MO) (N := 15) hx hb hts in_MO hown hK.1 hP 0 rfl rfl 6 (by decide) (hts _ wfl_MO_20) (fun _ h9 => h9) rfl d_MO_look_157 ?_
                        refine lv_aload_n hx hb d_MO_look_160 rfl (lv_at hl 2 rfl) ?_
                        refine va_get (D := (dC, dI)) (ci := 7) (v := .ref fG) (C := R_MO) (T := F_MO) (N := 15) hx hb hts in_MO hown hK.1 hP 0 rfl rfl 4 (by decide) (hts _ wfl_MO_13) (fun _ h9 => h9) rfl d_MO_look_161 ?_
                        refine lv_iload hx hb d_MO_look_164 (lv_at hl 7 rfl) ?_
                        refine x_iald (n := 41) (f := (nF G)) (j := i) hx hb hK.1 hP 2 0 rfl rfl (by omega) (by omega) d_MO_look_166 ?_
                        refine xe_i (y := (nI (G i))) rfl ?_
                        refine lv_aload_n hx hb d_MO_look_167 rfl (lv_at hl 2 rfl) ?_
                        refine va_get (D := (dC, dI)) (ci := 7) (v := .ref fN) (C := R_MO) (T := F_MO) (N := 15) hx hb hts in_MO hown hK.1 hP 0 rfl rfl 6 (by decide) (hts _ wfl_MO_20) (fun _ h9 => h9) rfl d_MO_look_168 ?_
                        refine lv_aload_n hx hb d_MO_look_171 rfl (lv_at hl 2 rfl) ?_
                        refine va_get (D := (dC, dI)) (ci := 7) (v := .ref fG) (C := R_MO) (T := F_MO) (N := 15) hx hb hts in_MO hown hK.1 hP 0 rfl rfl 4 (by decide) (hts _ wfl_MO_13) (fun _ h9 => h9) rfl d_MO_look_172 ?_
                        refine lv_iload hx hb d_MO_look_175 (lv_at hl 7 rfl) ?_
                        refine x_iald (n := 41) (f := (nF G)) (j := i) hx hb hK.1 hP 2 0 rfl rfl (by omega) (by omega) d_MO_look_177 ?_
                        refine xe_i (y := (nI (G i))) rfl ?_
                        refine x_iald (n := 14) (f := (va_up r2 (F i) ((r2 (F i)) ||| (sb (G i))))) (j := (G i)) hx hb hK.1 hP 4 0 rfl rfl (hG _) (by omega) d_MO_look_178 ?_
                        refine lv_iconst (v := (nI 1)) hx hb d_MO_look_179 (by decide) ?_
                        refine lv_aload_n hx hb d_MO_look_180 rfl (lv_at hl 2 rfl) ?_
                        refine va_get (D := (dC, dI)) (ci := 7) (v := .ref fF) (C := R_MO) (T := F_MO) (N := 15) hx hb hts in_MO hown hK.1 hP 0 rfl rfl 3 (by decide) (hts _ wfl_MO_7) (fun _ h9 => h9) rfl d_MO_look_181 ?_
                        refine lv_iload hx hb d_MO_look_184 (lv_at hl 7 rfl) ?_
                        refine x_iald (n := 41) (f := (nF F)) (j := i) hx hb hK.1 hP 1 0 rfl rfl (by omega) (by omega) d_MO_look_186 ?_
                        refine xe_i (y := (nI (F i))) rfl ?_
                        refine lv_ishl hx hb d_MO_look_187 ?_
                        refine xe_i (y := (sb (F i))) rfl ?_
                        refine lv_ior hx hb d_MO_look_188 ?_
                        refine x_iast (g := (va_up (va_up r2 (F i) ((r2 (F i)) ||| (sb (G i)))) (G i) (((va_up r2 (F i) ((r2 (F i)) ||| (sb (G i)))) (G i)) ||| (sb (F i))))) hx hb hK.1 hP hD hS 4 0 rfl rfl rfl (hG _) (by omega) d_MO_look_189 (fun H locs hP hD hS => ?_)
                        have hP : va_P (dC, dI) cls [(o, .inr (7, [.int th, .int (nI nd), .int (nI ar), .ref fF, .ref fG, .ref fT, .ref fN, .ref fW, .int be, .ref fO, .ref fB, .int bz, .ref fS, .ref fD, .int sz])), (fF, .inl (cI, 41, .inl (nF F))), (fG, .inl (cI, 41, .inl (nF G))), (fT, .inl (cZ, 41, .inl (bF P))), (fN, .inl (cI, 14, .inl (va_up (va_up r2 (F i) ((r2 (F i)) ||| (sb (G i)))) (G i) (((va_up r2 (F i) ((r2 (F i)) ||| (sb (G i)))) (G i)) ||| (sb (F i))))))] H := hP
                        have hD : va_D (ow [(o, .inr (7, [.int th, .int (nI nd), .int (nI ar), .ref fF, .ref fG, .ref fT, .ref fN, .ref fW, .int be, .ref fO, .ref fB, .int bz, .ref fS, .ref fD, .int sz])), (fF, .inl (cI, 41, .inl (nF F))), (fG, .inl (cI, 41, .inl (nF G))), (fT, .inl (cZ, 41, .inl (bF P))), (fN, .inl (cI, 14, .inl N0))]) [(o, .inr (7, [.int th, .int (nI nd), .int (nI ar), .ref fF, .ref fG, .ref fT, .ref fN, .ref fW, .int be, .ref fO, .ref fB, .int bz, .ref fS, .ref fD, .int sz])), (fF, .inl (cI, 41, .inl (nF F))), (fG, .inl (cI, 41, .inl (nF G))), (fT, .inl (cZ, 41, .inl (bF P))), (fN, .inl (cI, 14, .inl (va_up (va_up r2 (F i) ((r2 (F i)) ||| (sb (G i)))) (G i) (((va_up r2 (F i) ((r2 (F i)) ||| (sb (G i)))) (G i)) ||| (sb (F i))))))] := hD
                        refine lv_iinc (v := (nI (i + 1))) (lv' := [(5, .int (nI (i + 1))), (7, .int (nI 1)), (6, .int (nI 1)), (0, .ref o), (1, .int lo), (2, .int ot), (3, .int go), (4, .int (nI mo))]) hx hb d_MO_look_190 hl (k := 7) rfl (nI_1 _) (by decide) rfl (fun ls hl => ?_)
                        refine lv_goto (tgt := 27) hx hb d_MO_look_193 (by decide) ?_
                        exact ih_27 (va_up (va_up r2 (F i) ((r2 (F i)) ||| (sb (G i)))) (G i) (((va_up r2 (F i) ((r2 (F i)) ||| (sb (G i)))) (G i)) ||| (sb (F i)))) (i + 1) (by omega) (by first | assumption | omega) (NRi_t hF hG hn (lk_t (by assumption) (Or.inl c_5) c_6 c_9 c_14 c_15)) _ _ hP hD hS ls (lv_sub hl [3, 4, 5, 6, 7, 0] rfl)
              · skip
                refine lv_aload_n hx hb d_MO_look_48 rfl (lv_at hl 0 rfl) ?_
                refine va_get (D := (dC, dI)) (ci := 7) (v := .ref fT) (C := R_MO) (T := F_MO) (N := 15) hx hb hts in_MO hown hK.1 hP 0 rfl rfl 5 (by decide) (hts _ wfl_MO_16) (fun _ h9 => h9) rfl d_MO_look_49 ?_
                refine lv_iload hx hb d_MO_look_52 (lv_at hl 5 rfl) ?_
                refine x_zald (n := 41) (f := (bF P)) (j := i) hx hb hK.1 hP 3 2 rfl rfl (by omega) (by omega) d_MO_look_54 ?_
                refine xe_i (y := (bI (P i))) rfl ?_
                refine x_if_eq (tgt := 62) hx hb d_MO_look_55 (by decide) (fun c_16 => ?_) (fun c_16 => ?_)
                · skip
                  refine lv_iconst (v := (nI 0)) hx hb d_MO_look_62 (by decide) ?_
                  refine lv_istore (lv' := [(6, .int (nI 0)), (0, .ref o), (1, .int lo), (2, .int ot), (3, .int go), (4, .int (nI mo)), (5, .int (nI i))]) hx hb d_MO_look_63 hl (by decide) rfl (fun ls hl => ?_)
                  refine lv_iload_n hx hb d_MO_look_65 rfl (lv_at hl 4 rfl) ?_
                  refine lv_aload_n hx hb d_MO_look_66 rfl (lv_at hl 1 rfl) ?_
                  refine va_get (D := (dC, dI)) (ci := 7) (v := .ref fF) (C := R_MO) (T := F_MO) (N := 15) hx hb hts in_MO hown hK.1 hP 0 rfl rfl 3 (by decide) (hts _ wfl_MO_7) (fun _ h9 => h9) rfl d_MO_look_67 ?_
                  refine lv_iload hx hb d_MO_look_70 (lv_at hl 6 rfl) ?_
                  refine x_iald (n := 41) (f := (nF F)) (j := i) hx hb hK.1 hP 1 0 rfl rfl (by omega) (by omega) d_MO_look_72 ?_
                  refine xe_i (y := (nI (F i))) rfl ?_
                  refine lv_ishr hx hb d_MO_look_73 ?_
                  refine lv_iconst (v := (nI 1)) hx hb d_MO_look_74 (by decide) ?_
                  refine lv_iand hx hb d_MO_look_75 ?_
                  refine xe_i (y := (bI (bt go (F i)))) (sh1 (Nat.lt_trans (hF _) (by decide))) ?_
                  refine x_if_ne (tgt := 97) hx hb d_MO_look_76 (by decide) (fun c_17 => ?_) (fun c_17 => ?_)
                  · skip
                    refine lv_iconst (v := (nI 0)) hx hb d_MO_look_97 (by decide) ?_
                    refine lv_istore (lv' := [(7, .int (nI 0)), (6, .int (nI 0)), (0, .ref o), (1, .int lo), (2, .int ot), (3, .int go), (4, .int (nI mo)), (5, .int (nI i))]) hx hb d_MO_look_98 hl (by decide) rfl (fun ls hl => ?_)
                    refine lv_iload hx hb d_MO_look_100 (lv_at hl 1 rfl) ?_
                    refine lv_if_eq (tgt := 190) hx hb d_MO_look_102 (by decide) (fun _ => ?_) (fun c9 => absurd (by decide : ((nI 0) : Int32) = 0) c9)
                    refine lv_iinc (v := (nI (i + 1))) (lv' := [(5, .int (nI (i + 1))), (7, .int (nI 0)), (6, .int (nI 0)), (0, .ref o), (1, .int lo), (2, .int ot), (3, .int go), (4, .int (nI mo))]) hx hb d_MO_look_190 hl (k := 7) rfl (nI_1 _) (by decide) rfl (fun ls hl => ?_)
                    refine lv_goto (tgt := 27) hx hb d_MO_look_193 (by decide) ?_
                    exact ih_27 r2 (i + 1) (by omega) (by first | assumption | omega) (NRi_f hn (lk_f (Or.inl ⟨c_5, c_16⟩))) _ _ hP hD hS ls (lv_sub hl [3, 4, 5, 6, 7, 0] rfl)
                  · skip
                    refine lv_iload_n hx hb d_MO_look_79 rfl (lv_at hl 4 rfl) ?_
                    refine lv_aload_n hx hb d_MO_look_80 rfl (lv_at hl 1 rfl) ?_
                    refine va_get (D := (dC, dI)) (ci := 7) (v := .ref fG) (C := R_MO) (T := F_MO) (N := 15) hx hb hts in_MO hown hK.1 hP 0 rfl rfl 4 (by decide) (hts _ wfl_MO_13) (fun _ h9 => h9) rfl d_MO_look_81 ?_
                    refine lv_iload hx hb d_MO_look_84 (lv_at hl 6 rfl) ?_
                    refine x_iald (n := 41) (f := (nF G)) (j := i) hx hb hK.1 hP 2 0 rfl rfl (by omega) (by omega) d_MO_look_86 ?_
                    refine xe_i (y := (nI (G i))) rfl ?_
                    refine lv_ishr hx hb d_MO_look_87 ?_
                    refine lv_iconst (v := (nI 1)) hx hb d_MO_look_88 (by decide) ?_
                    refine lv_iand hx hb d_MO_look_89 ?_
                    refine xe_i (y := (bI (bt go (G i)))) (sh1 (Nat.lt_trans (hG _) (by decide))) ?_
                    refine x_if_ne (tgt := 97) hx hb d_MO_look_90 (by decide) (fun c_19 => ?_) (fun c_19 => ?_)
                    · skip
                      refine lv_iconst (v := (nI 0)) hx hb d_MO_look_97 (by decide) ?_
                      refine lv_istore (lv' := [(7, .int (nI 0)), (6, .int (nI 0)), (0, .ref o), (1, .int lo), (2, .int ot), (3, .int go), (4, .int (nI mo)), (5, .int (nI i))]) hx hb d_MO_look_98 hl (by decide) rfl (fun ls hl => ?_)
                      refine lv_iload hx hb d_MO_look_100 (lv_at hl 1 rfl) ?_
                      refine lv_if_eq (tgt := 190) hx hb d_MO_look_102 (by decide) (fun _ => ?_) (fun c9 => absurd (by decide : ((nI 0) : Int32) = 0) c9)
                      refine lv_iinc (v := (nI (i + 1))) (lv' := [(5, .int (nI (i + 1))), (7, .int (nI 0)), (6, .int (nI 0)), (0, .ref o), (1, .int lo), (2, .int ot), (3, .int go), (4, .int (nI mo))]) hx hb d_MO_look_190 hl (k := 7) rfl (nI_1 _) (by decide) rfl (fun ls hl => ?_)
                      refine lv_goto (tgt := 27) hx hb d_MO_look_193 (by decide) ?_
                      exact ih_27 r2 (i + 1) (by omega) (by first | assumption | omega) (NRi_f hn (lk_f (Or.inl ⟨c_5, c_16⟩))) _ _ hP hD hS ls (lv_sub hl [3, 4, 5, 6, 7, 0] rfl)
                    · skip
                      refine lv_iconst (v := (nI 1)) hx hb d_MO_look_93 (by decide) ?_
                      refine lv_goto (tgt := 98) hx hb d_MO_look_94 (by decide) ?_
                      refine lv_istore (lv' := [(7, .int (nI 1)), (6, .int (nI 0)), (0, .ref o), (1, .int lo), (2, .int ot), (3, .int go), (4, .int (nI mo)), (5, .int (nI i))]) hx hb d_MO_look_98 hl (by decide) rfl (fun ls hl => ?_)
                      refine lv_iload hx hb d_MO_look_100 (lv_at hl 1 rfl) ?_
                      refine lv_if_eq (tgt := 190) hx hb d_MO_look_102 (by decide) (fun _ => ?_) (fun c9 => absurd (by decide : ((nI 0) : Int32) = 0) c9)
                      refine lv_iinc (v := (nI (i + 1))) (lv' := [(5, .int (nI (i + 1))), (7, .int (nI 1)), (6, .int (nI 0)), (0, .ref o), (1, .int lo), (2, .int ot), (3, .int go), (4, .int (nI mo))]) hx hb d_MO_look_190 hl (k := 7) rfl (nI_1 _) (by decide) rfl (fun ls hl => ?_)
                      refine lv_goto (tgt := 27) hx hb d_MO_look_193 (by decide) ?_
                      exact ih_27 r2 (i + 1) (by omega) (by first | assumption | omega) (NRi_f hn (lk_f (Or.inl ⟨c_5, c_16⟩))) _ _ hP hD hS ls (lv_sub hl [3, 4, 5, 6, 7, 0] rfl)
                · skip
                  refine lv_iconst (v := (nI 1)) hx hb d_MO_look_58 (by decide) ?_
                  refine lv_goto (tgt := 63) hx hb d_MO_look_59 (by decide) ?_
                  refine lv_istore (lv' := [(6, .int (nI 1)), (0, .ref o), (1, .int lo), (2, .int ot), (3, .int go), (4, .int (nI mo)), (5, .int (nI i))]) hx hb d_MO_look_63 hl (by decide) rfl (fun ls hl => ?_)
                  refine lv_iload_n hx hb d_MO_look_65 rfl (lv_at hl 4 rfl) ?_
                  refine lv_aload_n hx hb d_MO_look_66 rfl (lv_at hl 1 rfl) ?_
                  refine va_get (D := (dC, dI)) (ci := 7) (v := .ref fF) (C := R_MO) (T := F_MO) (N := 15) hx hb hts in_MO hown hK.1 hP 0 rfl rfl 3 (by decide) (hts _ wfl_MO_7) (fun _ h9 => h9) rfl d_MO_look_67 ?_
                  refine lv_iload hx hb d_MO_look_70 (lv_at hl 6 rfl) ?_
                  refine x_iald (n := 41) (f := (nF F)) (j := i) hx hb hK.1 hP 1 0 rfl rfl (by omega) (by omega) d_MO_look_72 ?_
                  refine xe_i (y := (nI (F i))) rfl ?_
                  refine lv_ishr hx hb d_MO_look_73 ?_
                  refine lv_iconst (v := (nI 1)) hx hb d_MO_look_74 (by decide) ?_
                  refine lv_iand hx hb d_MO_look_75 ?_
                  refine xe_i (y := (bI (bt go (F i)))) (sh1 (Nat.lt_trans (hF _) (by decide))) ?_
                  refine x_if_ne (tgt := 97) hx hb d_MO_look_76 (by decide) (fun c_22 => ?_) (fun c_22 => ?_)
                  · skip
                    refine lv_iconst (v := (nI 0)) hx hb d_MO_look_97 (by decide) ?_
                    refine lv_istore (lv' := [(7, .int (nI 0)), (6, .int (nI 1)), (0, .ref o), (1, .int lo), (2, .int ot), (3, .int go), (4, .int (nI mo)), (5, .int (nI i))]) hx hb d_MO_look_98 hl (by decide) rfl (fun ls hl => ?_)
                    refine lv_iload hx hb d_MO_look_100 (lv_at hl 1 rfl) ?_
                    refine lv_if_eq (tgt := 190) hx hb d_MO_look_102 (by decide) (fun c9 => absurd c9 (by decide : ¬ ((nI 1) : Int32) = 0)) (fun _ => ?_)
                    refine lv_iload hx hb d_MO_look_105 (lv_at hl 0 rfl) ?_
                    refine lv_if_eq (tgt := 190) hx hb d_MO_look_107 (by decide) (fun _ => ?_) (fun c9 => absurd (by decide : ((nI 0) : Int32) = 0) c9)
                    refine lv_iinc (v := (nI (i + 1))) (lv' := [(5, .int (nI (i + 1))), (7, .int (nI 0)), (6, .int (nI 1)), (0, .ref o), (1, .int lo), (2, .int ot), (3, .int go), (4, .int (nI mo))]) hx hb d_MO_look_190 hl (k := 7) rfl (nI_1 _) (by decide) rfl (fun ls hl => ?_)
                    refine lv_goto (tgt := 27) hx hb d_MO_look_193 (by decide) ?_
                    exact ih_27 r2 (i + 1) (by omega) (by first | assumption | omega) (NRi_f hn (lk_f (Or.inr (Or.inl c_22)))) _ _ hP hD hS ls (lv_sub hl [3, 4, 5, 6, 7, 0] rfl)
                  · skip
                    refine lv_iload_n hx hb d_MO_look_79 rfl (lv_at hl 4 rfl) ?_
                    refine lv_aload_n hx hb d_MO_look_80 rfl (lv_at hl 1 rfl) ?_
                    refine va_get (D := (dC, dI)) (ci := 7) (v := .ref fG) (C := R_MO) (T := F_MO) (N := 15) hx hb hts in_MO hown hK.1 hP 0 rfl rfl 4 (by decide) (hts _ wfl_MO_13) (fun _ h9 => h9) rfl d_MO_look_81 ?_
                    refine lv_iload hx hb d_MO_look_84 (lv_at hl 6 rfl) ?_
                    refine x_iald (n := 41) (f := (nF G)) (j := i) hx hb hK.1 hP 2 0 rfl rfl (by omega) (by omega) d_MO_look_86 ?_
                    refine xe_i (y := (nI (G i))) rfl ?_
                    refine lv_ishr hx hb d_MO_look_87 ?_
                    refine lv_iconst (v := (nI 1)) hx hb d_MO_look_88 (by decide) ?_
                    refine lv_iand hx hb d_MO_look_89 ?_
                    refine xe_i (y := (bI (bt go (G i)))) (sh1 (Nat.lt_trans (hG _) (by decide))) ?_
                    refine x_if_ne (tgt := 97) hx hb d_MO_look_90 (by decide) (fun c_25 => ?_) (fun c_25 => ?_)
                    · skip
                      refine lv_iconst (v := (nI 0)) hx hb d_MO_look_97 (by decide) ?_
                      refine lv_istore (lv' := [(7, .int (nI 0)), (6, .int (nI 1)), (0, .ref o), (1, .int lo), (2, .int ot), (3, .int go), (4, .int (nI mo)), (5, .int (nI i))]) hx hb d_MO_look_98 hl (by decide) rfl (fun ls hl => ?_)
                      refine lv_iload hx hb d_MO_look_100 (lv_at hl 1 rfl) ?_
                      refine lv_if_eq (tgt := 190) hx hb d_MO_look_102 (by decide) (fun c9 => absurd c9 (by decide : ¬ ((nI 1) : Int32) = 0)) (fun _ => ?_)
                      refine lv_iload hx hb d_MO_look_105 (lv_at hl 0 rfl) ?_
                      refine lv_if_eq (tgt := 190) hx hb d_MO_look_107 (by decide) (fun _ => ?_) (fun c9 => absurd (by decide : ((nI 0) : Int32) = 0) c9)
                      refine lv_iinc (v := (nI (i + 1))) (lv' := [(5, .int (nI (i + 1))), (7, .int (nI 0)), (6, .int (nI 1)), (0, .ref o), (1, .int lo), (2, .int ot), (3, .int go), (4, .int (nI mo))]) hx hb d_MO_look_190 hl (k := 7) rfl (nI_1 _) (by decide) rfl (fun ls hl => ?_)
                      refine lv_goto (tgt := 27) hx hb d_MO_look_193 (by decide) ?_
                      exact ih_27 r2 (i + 1) (by omega) (by first | assumption | omega) (NRi_f hn (lk_f (Or.inr (Or.inr (Or.inl c_25))))) _ _ hP hD hS ls (lv_sub hl [3, 4, 5, 6, 7, 0] rfl)
                    · skip
                      refine lv_iconst (v := (nI 1)) hx hb d_MO_look_93 (by decide) ?_
                      refine lv_goto (tgt := 98) hx hb d_MO_look_94 (by decide) ?_
                      refine lv_istore (lv' := [(7, .int (nI 1)), (6, .int (nI 1)), (0, .ref o), (1, .int lo), (2, .int ot), (3, .int go), (4, .int (nI mo)), (5, .int (nI i))]) hx hb d_MO_look_98 hl (by decide) rfl (fun ls hl => ?_)
                      refine lv_iload hx hb d_MO_look_100 (lv_at hl 1 rfl) ?_
                      refine lv_if_eq (tgt := 190) hx hb d_MO_look_102 (by decide) (fun c9 => absurd c9 (by decide : ¬ ((nI 1) : Int32) = 0)) (fun _ => ?_)
                      refine lv_iload hx hb d_MO_look_105 (lv_at hl 0 rfl) ?_
                      refine lv_if_eq (tgt := 190) hx hb d_MO_look_107 (by decide) (fun c9 => absurd c9 (by decide : ¬ ((nI 1) : Int32) = 0)) (fun _ => ?_)
                      refine lv_iload hx hb d_MO_look_110 (lv_at hl 7 rfl) ?_
                      refine lv_iload_n hx hb d_MO_look_112 rfl (lv_at hl 3 rfl) ?_
                      refine lv_icmp_eq (tgt := 190) hx hb d_MO_look_113 (by decide) (fun c_30 => ?_) (fun c_30 => ?_)
                      · skip
                        refine lv_iinc (v := (nI (i + 1))) (lv' := [(5, .int (nI (i + 1))), (7, .int (nI 1)), (6, .int (nI 1)), (0, .ref o), (1, .int lo), (2, .int ot), (3, .int go), (4, .int (nI mo))]) hx hb d_MO_look_190 hl (k := 7) rfl (nI_1 _) (by decide) rfl (fun ls hl => ?_)
                        refine lv_goto (tgt := 27) hx hb d_MO_look_193 (by decide) ?_
                        exact ih_27 r2 (i + 1) (by omega) (by first | assumption | omega) (NRi_f hn (lk_f (Or.inr (Or.inr (Or.inr (Or.inl c_30)))))) _ _ hP hD hS ls (lv_sub hl [3, 4, 5, 6, 7, 0] rfl)
                      · skip
                        refine lv_iload hx hb d_MO_look_116 (lv_at hl 7 rfl) ?_
                        refine lv_iload_n hx hb d_MO_look_118 rfl (lv_at hl 4 rfl) ?_
                        refine lv_icmp_eq (tgt := 190) hx hb d_MO_look_119 (by decide) (fun c_31 => ?_) (fun c_31 => ?_)
                        · skip
                          refine lv_iinc (v := (nI (i + 1))) (lv' := [(5, .int (nI (i + 1))), (7, .int (nI 1)), (6, .int (nI 1)), (0, .ref o), (1, .int lo), (2, .int ot), (3, .int go), (4, .int (nI mo))]) hx hb d_MO_look_190 hl (k := 7) rfl (nI_1 _) (by decide) rfl (fun ls hl => ?_)
                          refine lv_goto (tgt := 27) hx hb d_MO_look_193 (by decide) ?_
                          exact ih_27 r2 (i + 1) (by omega) (by first | assumption | omega) (NRi_f hn (lk_f (Or.inr (Or.inr (Or.inr (Or.inr c_31)))))) _ _ hP hD hS ls (lv_sub hl [3, 4, 5, 6, 7, 0] rfl)
                        · skip
                          refine lv_aload_n hx hb d_MO_look_122 rfl (lv_at hl 2 rfl) ?_
                          refine va_get (D := (dC, dI)) (ci := 7) (v := .ref fN) (C := R_MO) (T := F_MO) (N := 15) hx hb hts in_MO hown hK.1 hP 0 rfl rfl 6 (by decide) (hts _ wfl_MO_20) (fun _ h9 => h9) rfl d_MO_look_123 ?_
                          refine lv_aload_n hx hb d_MO_look_126 rfl (lv_at hl 2 rfl) ?_
                          refine va_get (D := (dC, dI)) (ci := 7) (v := .ref fF) (C := R_MO) (T := F_MO) (N := 15) hx hb hts in_MO hown hK.1 hP 0 rfl rfl 3 (by decide) (hts _ wfl_MO_7) (fun _ h9 => h9) rfl d_MO_look_127 ?_
                          refine lv_iload hx hb d_MO_look_130 (lv_at hl 7 rfl) ?_
                          refine x_iald (n := 41) (f := (nF F)) (j := i) hx hb hK.1 hP 1 0 rfl rfl (by omega) (by omega) d_MO_look_132 ?_
                          refine xe_i (y := (nI (F i))) rfl ?_
                          refine lv_aload_n hx hb d_MO_look_133 rfl (lv_at hl 2 rfl) ?_
                          refine va_get (D := (dC, dI)) (ci := 7) (v := .ref fN) (C := R_MO) (T := F_MO) (N := 15) hx hb hts in_MO hown hK.1 hP 0 rfl rfl 6 (by decide) (hts _ wfl_MO_20) (fun _ h9 => h9) rfl d_MO_look_134 ?_
                          refine lv_aload_n hx hb d_MO_look_137 rfl (lv_at hl 2 rfl) ?_
                          refine va_get (D := (dC, dI)) (ci := 7) (v := .ref fF) (C := R_MO) (T := F_MO) (N := 15) hx hb hts in_MO hown hK.1 hP 0 rfl rfl 3 (by decide) (hts _ wfl_MO_7) (fun _ h9 => h9) rfl d_MO_look_138 ?_
                          refine lv_iload hx hb d_MO_look_141 (lv_at hl 7 rfl) ?_
                          refine x_iald (n := 41) (f := (nF F)) (j := i) hx hb hK.1 hP 1 0 rfl rfl (by omega) (by omega) d_MO_look_143 ?_
                          refine xe_i (y := (nI (F i))) rfl ?_
                          refine x_iald (n := 14) (f := r2) (j := (F i)) hx hb hK.1 hP 4 0 rfl rfl (hF _) (by omega) d_MO_look_144 ?_
                          refine lv_iconst (v := (nI 1)) hx hb d_MO_look_145 (by decide) ?_
                          refine lv_aload_n hx hb d_MO_look_146 rfl (lv_at hl 2 rfl) ?_
                          refine va_get (D := (dC, dI)) (ci := 7) (v := .ref fG) (C := R_MO) (T := F_MO) (N := 15) hx hb hts in_MO hown hK.1 hP 0 rfl rfl 4 (by decide) (hts _ wfl_MO_13) (fun _ h9 => h9) rfl d_MO_look_147 ?_
                          refine lv_iload hx hb d_MO_look_150 (lv_at hl 7 rfl) ?_
                          refine x_iald (n := 41) (f := (nF G)) (j := i) hx hb hK.1 hP 2 0 rfl rfl (by omega) (by omega) d_MO_look_152 ?_
                          refine xe_i (y := (nI (G i))) rfl ?_
                          refine lv_ishl hx hb d_MO_look_153 ?_
                          refine xe_i (y := (sb (G i))) rfl ?_
                          refine lv_ior hx hb d_MO_look_154 ?_
                          refine x_iast (g := (va_up r2 (F i) ((r2 (F i)) ||| (sb (G i))))) hx hb hK.1 hP hD hS 4 0 rfl rfl rfl (hF _) (by omega) d_MO_look_155 (fun H locs hP hD hS => ?_)
                          have hP : va_P (dC, dI) cls [(o, .inr (7, [.int th, .int (nI nd), .int (nI ar), .ref fF, .ref fG, .ref fT, .ref fN, .ref fW, .int be, .ref fO, .ref fB, .int bz, .ref fS, .ref fD, .int sz])), (fF, .inl (cI, 41, .inl (nF F))), (fG, .inl (cI, 41, .inl (nF G))), (fT, .inl (cZ, 41, .inl (bF P))), (fN, .inl (cI, 14, .inl (va_up r2 (F i) ((r2 (F i)) ||| (sb (G i))))))] H := hP
                          have hD : va_D (ow [(o, .inr (7, [.int th, .int (nI nd), .int (nI ar), .ref fF, .ref fG, .ref fT, .ref fN, .ref fW, .int be, .ref fO, .ref fB, .int bz, .ref fS, .ref fD, .int sz])), (fF, .inl (cI, 41, .inl (nF F))), (fG, .inl (cI, 41, .inl (nF G))), (fT, .inl (cZ, 41, .inl (bF P))), (fN, .inl (cI, 14, .inl N0))]) [(o, .inr (7, [.int th, .int (nI nd), .int (nI ar), .ref fF, .ref fG, .ref fT, .ref fN, .ref fW, .int be, .ref fO, .ref fB, .int bz, .ref fS, .ref fD, .int sz])), (fF, .inl (cI, 41, .inl (nF F))), (fG, .inl (cI, 41, .inl (nF G))), (fT, .inl (cZ, 41, .inl (bF P))), (fN, .inl (cI, 14, .inl (va_up r2 (F i) ((r2 (F i)) ||| (sb (G i))))))] := hD
                          refine lv_aload_n hx hb d_MO_look_156 rfl (lv_at hl 2 rfl) ?_
                          refine va_get (D := (dC, dI)) (ci := 7) (v := .ref fN) (C := R_MO) (T := F_MO) (N := 15) hx hb hts in_MO hown hK.1 hP 0 rfl rfl 6 (by decide) (hts _ wfl_MO_20) (fun _ h9 => h9) rfl d_MO_look_157 ?_
                          refine lv_aload_n hx hb d_MO_look_160 rfl (lv_at hl 2 rfl) ?_
                          refine va_get (D := (dC, dI)) (ci := 7) (v := .ref fG) (C := R_MO) (T := F_MO) (N := 15) hx hb hts in_MO hown hK.1 hP 0 rfl rfl 4 (by decide) (hts _ wfl_MO_13) (fun _ h9 => h9) rfl d_MO_look_161 ?_
                          refine lv_iload hx hb d_MO_look_164 (lv_at hl 7 rfl) ?_
                          refine x_iald (n := 41) (f := (nF G)) (j := i) hx hb hK.1 hP 2 0 rfl rfl (by omega) (by omega) d_MO_look_166 ?_
                          refine xe_i (y := (nI (G i))) rfl ?_
                          refine lv_aload_n hx hb d_MO_look_167 rfl (lv_at hl 2 rfl) ?_
                          refine va_get (D := (dC, dI)) (ci := 7) (v := .ref fN) (C := R_MO) (T := F_MO) (N := 15) hx hb hts in_MO hown hK.1 hP 0 rfl rfl 6 (by decide) (hts _ wfl_MO_20) (fun _ h9 => h9) rfl d_MO_look_168 ?_
                          refine lv_aload_n hx hb d_MO_look_171 rfl (lv_at hl 2 rfl) ?_
                          refine va_get (D := (dC, dI)) (ci := 7) (v := .ref fG) (C := R_MO) (T := F_MO) (N := 15) hx hb hts in_MO hown hK.1 hP 0 rfl rfl 4 (by decide) (hts _ wfl_MO_13) (fun _ h9 => h9) rfl d_MO_look_172 ?_
                          refine lv_iload hx hb d_MO_look_175 (lv_at hl 7 rfl) ?_
                          refine x_iald (n := 41) (f := (nF G)) (j := i) hx hb hK.1 hP 2 0 rfl rfl (by omega) (by omega) d_MO_look_177 ?_
                          refine xe_i (y := (nI (G i))) rfl ?_
                          refine x_iald (n := 14) (f := (va_up r2 (F i) ((r2 (F i)) ||| (sb (G i))))) (j := (G i)) hx hb hK.1 hP 4 0 rfl rfl (hG _) (by omega) d_MO_look_178 ?_
                          refine lv_iconst (v := (nI 1)) hx hb d_MO_look_179 (by decide) ?_
                          refine lv_aload_n hx hb d_MO_look_180 rfl (lv_at hl 2 rfl) ?_
                          refine va_get (D := (dC, dI)) (ci := 7) (v := .ref fF) (C := R_MO) (T := F_MO) (N := 15) hx hb hts in_MO hown hK.1 hP 0 rfl rfl 3 (by decide) (hts _ wfl_MO_7) (fun _ h9 => h9) rfl d_MO_look_181 ?_
                          refine lv_iload hx hb d_MO_look_184 (lv_at hl 7 rfl) ?_
                          refine x_iald (n := 41) (f := (nF F)) (j := i) hx hb hK.1 hP 1 0 rfl rfl (by omega) (by omega) d_MO_look_186 ?_
                          refine xe_i (y := (nI (F i))) rfl ?_
                          refine lv_ishl hx hb d_MO_look_187 ?_
                          refine xe_i (y := (sb (F i))) rfl ?_
                          refine lv_ior hx hb d_MO_look_188 ?_
                          refine x_iast (g := (va_up (va_up r2 (F i) ((r2 (F i)) ||| (sb (G i)))) (G i) (((va_up r2 (F i) ((r2 (F i)) ||| (sb (G i)))) (G i)) ||| (sb (F i))))) hx hb hK.1 hP hD hS 4 0 rfl rfl rfl (hG _) (by omega) d_MO_look_189 (fun H locs hP hD hS => ?_)
                          have hP : va_P (dC, dI) cls [(o, .inr (7, [.int th, .int (nI nd), .int (nI ar), .ref fF, .ref fG, .ref fT, .ref fN, .ref fW, .int be, .ref fO, .ref fB, .int bz, .ref fS, .ref fD, .int sz])), (fF, .inl (cI, 41, .inl (nF F))), (fG, .inl (cI, 41, .inl (nF G))), (fT, .inl (cZ, 41, .inl (bF P))), (fN, .inl (cI, 14, .inl (va_up (va_up r2 (F i) ((r2 (F i)) ||| (sb (G i)))) (G i) (((va_up r2 (F i) ((r2 (F i)) ||| (sb (G i)))) (G i)) ||| (sb (F i))))))] H := hP
                          have hD : va_D (ow [(o, .inr (7, [.int th, .int (nI nd), .int (nI ar), .ref fF, .ref fG, .ref fT, .ref fN, .ref fW, .int be, .ref fO, .ref fB, .int bz, .ref fS, .ref fD, .int sz])), (fF, .inl (cI, 41, .inl (nF F))), (fG, .inl (cI, 41, .inl (nF G))), (fT, .inl (cZ, 41, .inl (bF P))), (fN, .inl (cI, 14, .inl N0))]) [(o, .inr (7, [.int th, .int (nI nd), .int (nI ar), .ref fF, .ref fG, .ref fT, .ref fN, .ref fW, .int be, .ref fO, .ref fB, .int bz, .ref fS, .ref fD, .int sz])), (fF, .inl (cI, 41, .inl (nF F))), (fG, .inl (cI, 41, .inl (nF G))), (fT, .inl (cZ, 41, .inl (bF P))), (fN, .inl (cI, 14, .inl (va_up (va_up r2 (F i) ((r2 (F i)) ||| (sb (G i)))) (G i) (((va_up r2 (F i) ((r2 (F i)) ||| (sb (G i)))) (G i)) ||| (sb (F i))))))] := hD
                          refine lv_iinc (v := (nI (i + 1))) (lv' := [(5, .int (nI (i + 1))), (7, .int (nI 1)), (6, .int (nI 1)), (0, .ref o), (1, .int lo), (2, .int ot), (3, .int go), (4, .int (nI mo))]) hx hb d_MO_look_190 hl (k := 7) rfl (nI_1 _) (by decide) rfl (fun ls hl => ?_)
                          refine lv_goto (tgt := 27) hx hb d_MO_look_193 (by decide) ?_
                          exact ih_27 (va_up (va_up r2 (F i) ((r2 (F i)) ||| (sb (G i)))) (G i) (((va_up r2 (F i) ((r2 (F i)) ||| (sb (G i)))) (G i)) ||| (sb (F i)))) (i + 1) (by omega) (by first | assumption | omega) (NRi_t hF hG hn (lk_t (by assumption) (Or.inr c_16) c_22 c_25 c_30 c_31)) _ _ hP hD hS ls (lv_sub hl [3, 4, 5, 6, 7, 0] rfl)
        exact L27_3 ((ar + mo - 0) + 1) r1 0 (Nat.lt_succ_self _) (by first | assumption | omega) (NRi_0 (fun j hj => hz j (by omega))) _ _ hP hD hS ls (lv_sub hl [1, 2, 3, 4, 5, 0] rfl)
      · skip
        refine lv_aload_n hx hb d_MO_look_10 rfl (lv_at hl 0 rfl) ?_
        refine va_get (D := (dC, dI)) (ci := 7) (v := .ref fN) (C := R_MO) (T := F_MO) (N := 15) hx hb hts in_MO hown hK.1 hP 0 rfl rfl 6 (by decide) (hts _ wfl_MO_20) (fun _ h9 => h9) rfl d_MO_look_11 ?_
        refine lv_iload hx hb d_MO_look_14 (lv_at hl 5 rfl) ?_
        refine lv_iconst (v := (nI 0)) hx hb d_MO_look_16 (by decide) ?_
        refine x_iast (g := (va_up r1 i (nI 0))) hx hb hK.1 hP hD hS 4 0 rfl rfl rfl (by omega) (by omega) d_MO_look_17 (fun H locs hP hD hS => ?_)
        have hP : va_P (dC, dI) cls [(o, .inr (7, [.int th, .int (nI nd), .int (nI ar), .ref fF, .ref fG, .ref fT, .ref fN, .ref fW, .int be, .ref fO, .ref fB, .int bz, .ref fS, .ref fD, .int sz])), (fF, .inl (cI, 41, .inl (nF F))), (fG, .inl (cI, 41, .inl (nF G))), (fT, .inl (cZ, 41, .inl (bF P))), (fN, .inl (cI, 14, .inl (va_up r1 i (nI 0))))] H := hP
        have hD : va_D (ow [(o, .inr (7, [.int th, .int (nI nd), .int (nI ar), .ref fF, .ref fG, .ref fT, .ref fN, .ref fW, .int be, .ref fO, .ref fB, .int bz, .ref fS, .ref fD, .int sz])), (fF, .inl (cI, 41, .inl (nF F))), (fG, .inl (cI, 41, .inl (nF G))), (fT, .inl (cZ, 41, .inl (bF P))), (fN, .inl (cI, 14, .inl N0))]) [(o, .inr (7, [.int th, .int (nI nd), .int (nI ar), .ref fF, .ref fG, .ref fT, .ref fN, .ref fW, .int be, .ref fO, .ref fB, .int bz, .ref fS, .ref fD, .int sz])), (fF, .inl (cI, 41, .inl (nF F))), (fG, .inl (cI, 41, .inl (nF G))), (fT, .inl (cZ, 41, .inl (bF P))), (fN, .inl (cI, 14, .inl (va_up r1 i (nI 0))))] := hD
        refine lv_iinc (v := (nI (i + 1))) (lv' := [(5, .int (nI (i + 1))), (0, .ref o), (1, .int lo), (2, .int ot), (3, .int go), (4, .int (nI mo))]) hx hb d_MO_look_18 hl (k := 5) rfl (nI_1 _) (by decide) rfl (fun ls hl => ?_)
        refine lv_goto (tgt := 3) hx hb d_MO_look_21 (by decide) ?_
        exact ih_3 (va_up r1 i (nI 0)) (i + 1) (by omega) (by first | assumption | omega) (fill_s hz) _ _ hP hD hS ls (lv_sub hl [1, 2, 3, 4, 5, 0] rfl)
  exact L3_1 ((14 - 0) + 1) N0 0 (Nat.lt_succ_self _) (by first | assumption | omega) (fun j hj => absurd hj (Nat.not_lt_zero _)) _ _ hP hD hS ls (lv_sub hl [1, 2, 3, 4, 5, 0] rfl)

theorem d_MO_reach_0 : decode prog_9_method_13_code 0 = .ok (.iload_n 1, 1) := by decide +kernel
theorem d_MO_reach_1 : decode prog_9_method_13_code 1 = .ok (.istore_n 2, 1) := by decide +kernel
theorem d_MO_reach_2 : decode prog_9_method_13_code 2 = .ok (.iconst 1, 1) := by decide +kernel
theorem d_MO_reach_3 : decode prog_9_method_13_code 3 = .ok (.istore_n 3, 1) := by decide +kernel
theorem d_MO_reach_4 : decode prog_9_method_13_code 4 = .ok (.iload_n 3, 1) := by decide +kernel
theorem d_MO_reach_5 : decode prog_9_method_13_code 5 = .ok (.ifCond .eq 69, 3) := by decide +kernel
theorem d_MO_reach_8 : decode prog_9_method_13_code 8 = .ok (.iload_n 2, 1) := by decide +kernel
theorem d_MO_reach_9 : decode prog_9_method_13_code 9 = .ok (.istore 4, 2) := by decide +kernel
theorem d_MO_reach_11 : decode prog_9_method_13_code 11 = .ok (.iconst 0, 1) := by decide +kernel
theorem d_MO_reach_12 : decode prog_9_method_13_code 12 = .ok (.istore 5, 2) := by decide +kernel
theorem d_MO_reach_14 : decode prog_9_method_13_code 14 = .ok (.iload 5, 2) := by decide +kernel
theorem d_MO_reach_16 : decode prog_9_method_13_code 16 = .ok (.aload_n 0, 1) := by decide +kernel
theorem d_MO_reach_17 : decode prog_9_method_13_code 17 = .ok (.getfield 42, 3) := by decide +kernel
theorem d_MO_reach_20 : decode prog_9_method_13_code 20 = .ok (.if_icmp .ge 36, 3) := by decide +kernel
theorem d_MO_reach_23 : decode prog_9_method_13_code 23 = .ok (.iload_n 2, 1) := by decide +kernel
theorem d_MO_reach_24 : decode prog_9_method_13_code 24 = .ok (.iload 5, 2) := by decide +kernel
theorem d_MO_reach_26 : decode prog_9_method_13_code 26 = .ok (.ishr, 1) := by decide +kernel
theorem d_MO_reach_27 : decode prog_9_method_13_code 27 = .ok (.iconst 1, 1) := by decide +kernel
theorem d_MO_reach_28 : decode prog_9_method_13_code 28 = .ok (.iand, 1) := by decide +kernel
theorem d_MO_reach_29 : decode prog_9_method_13_code 29 = .ok (.iconst 1, 1) := by decide +kernel
theorem d_MO_reach_30 : decode prog_9_method_13_code 30 = .ok (.if_icmp .ne 16, 3) := by decide +kernel
theorem d_MO_reach_33 : decode prog_9_method_13_code 33 = .ok (.iload 4, 2) := by decide +kernel
theorem d_MO_reach_35 : decode prog_9_method_13_code 35 = .ok (.aload_n 0, 1) := by decide +kernel
theorem d_MO_reach_36 : decode prog_9_method_13_code 36 = .ok (.getfield 20, 3) := by decide +kernel
theorem d_MO_reach_39 : decode prog_9_method_13_code 39 = .ok (.iload 5, 2) := by decide +kernel
theorem d_MO_reach_41 : decode prog_9_method_13_code 41 = .ok (.iaload, 1) := by decide +kernel
theorem d_MO_reach_42 : decode prog_9_method_13_code 42 = .ok (.ior, 1) := by decide +kernel
theorem d_MO_reach_43 : decode prog_9_method_13_code 43 = .ok (.goto 5, 3) := by decide +kernel
theorem d_MO_reach_46 : decode prog_9_method_13_code 46 = .ok (.iload 4, 2) := by decide +kernel
theorem d_MO_reach_48 : decode prog_9_method_13_code 48 = .ok (.istore 4, 2) := by decide +kernel
theorem d_MO_reach_50 : decode prog_9_method_13_code 50 = .ok (.iinc 5 1, 3) := by decide +kernel
theorem d_MO_reach_53 : decode prog_9_method_13_code 53 = .ok (.goto (-39), 3) := by decide +kernel
theorem d_MO_reach_56 : decode prog_9_method_13_code 56 = .ok (.iload 4, 2) := by decide +kernel
theorem d_MO_reach_58 : decode prog_9_method_13_code 58 = .ok (.iload_n 2, 1) := by decide +kernel
theorem d_MO_reach_59 : decode prog_9_method_13_code 59 = .ok (.if_icmp .eq 7, 3) := by decide +kernel
theorem d_MO_reach_62 : decode prog_9_method_13_code 62 = .ok (.iconst 1, 1) := by decide +kernel
theorem d_MO_reach_63 : decode prog_9_method_13_code 63 = .ok (.goto 4, 3) := by decide +kernel
theorem d_MO_reach_66 : decode prog_9_method_13_code 66 = .ok (.iconst 0, 1) := by decide +kernel
theorem d_MO_reach_67 : decode prog_9_method_13_code 67 = .ok (.istore_n 3, 1) := by decide +kernel
theorem d_MO_reach_68 : decode prog_9_method_13_code 68 = .ok (.iload 4, 2) := by decide +kernel
theorem d_MO_reach_70 : decode prog_9_method_13_code 70 = .ok (.istore_n 2, 1) := by decide +kernel
theorem d_MO_reach_71 : decode prog_9_method_13_code 71 = .ok (.goto (-67), 3) := by decide +kernel
theorem d_MO_reach_74 : decode prog_9_method_13_code 74 = .ok (.iload_n 2, 1) := by decide +kernel
theorem d_MO_reach_75 : decode prog_9_method_13_code 75 = .ok (.ireturn, 1) := by decide +kernel
set_option maxHeartbeats 4000000 in
set_option maxRecDepth 100000 in
theorem c_MO_reach (l : Launch) (dC : Nat → ClassId) (dI : Nat → Nat → Nat) (cI cJ cZ : ClassId) (o fF fG fT fN fW fO fB fS fD : Nat) (th be bz sz : Int32) (nd ar : Nat) (T : Nat → Bool) (F G : Nat → Nat) (N : Nat → Int32) (hN : NR T F G N) (hT : tEn T F G nd) (st : Int32) (hnd : nd ≤ 14) : Met l ⟨"CutPointsModel", "reach", "(I)I"⟩ (Cond.code ⟨"CutPointsModel", "reach", "(I)I"⟩ prog_9_method_13_code 6 (some .int) :: TT) (rmk 0 0) (PR dC dI cI cJ cZ [.ref o, .int st] [(o, .inr (7, [.int th, .int (nI nd), .int (nI ar), .ref fF, .ref fG, .ref fT, .ref fN, .ref fW, .int be, .ref fO, .ref fB, .int bz, .ref fS, .ref fD, .int sz])), (fN, .inl (cI, 14, .inl N))]) (vp_Si (fun x => RcT T F G st x)) 0 0 (fun _ => False) := by
  refine Met.ofW (cc := prog_9_method_13_code) (maxL := 6) (ret := (some .int)) (by decide) rfl ?_
  intro p e s m args below meth c s₁ BB9 hml hv
  obtain ⟨rfl, hP, hK⟩ := hv
  have hx := BB9.exec
  have hb := BB9.bytes
  have hr := BB9.returns
  have hts : ∀ w ∈ TT, w.before _ s = true := fun w h => atoms_spec (ws := (Cond.code ⟨"CutPointsModel", "reach", "(I)I"⟩ prog_9_method_13_code 6 (some .int) :: TT)) BB9.pre w (List.mem_cons_of_mem _ h)
  have hown : s.vm.findClass "CutPointsModel" = some m.cls := findClass_of_methodNamed BB9.named
  have hlocks := BB9.notSynchronized
  have hl := lv_entry ([.ref o, .int st]) (n := 6) (Nat.le_of_ble_eq_true rfl)
  rw [lg_entry_eq]
  generalize (lg_sl ([.ref o, .int st]) ++ List.replicate (6 - (lg_sl ([.ref o, .int st])).length) Slot.unset).toArray = ls at hl ⊢
  have hl : lv_has ls 6 [(0, .ref o), (1, .int st)] := hl
  refine lv_iload_n hx hb d_MO_reach_0 rfl (lv_at hl 1 rfl) ?_
  refine lv_istore_n (lv' := [(2, .int st), (0, .ref o), (1, .int st)]) hx hb d_MO_reach_1 rfl hl (by decide) rfl (fun ls hl => ?_)
  refine lv_iconst (v := (nI 1)) hx hb d_MO_reach_2 (by decide) ?_
  refine lv_istore_n (lv' := [(3, .int (nI 1)), (2, .int st), (0, .ref o), (1, .int st)]) hx hb d_MO_reach_3 rfl hl (by decide) rfl (fun ls hl => ?_)
  have L4_1 : ∀ (n : Nat) (sn : Int32) (gb : Bool) (hn : 2 * (32 - cn (bt sn) 32) + gb.toNat < n) (ho : rcO T F G st sn gb) (ls : Array Slot) (hl : lv_has ls 6 [(0, .ref o), (1, .int st), (2, .int sn), (3, .int (bI gb))]), W p l e (headSpec (Cond.code ⟨"CutPointsModel", "reach", "(I)I"⟩ prog_9_method_13_code 6 (some .int) :: TT) (rmk 0 0)).room s m ([.ref o, .int st] : List Value).toArray below meth c s.heap [] 0 0 (MQ below (vp_Si (fun x => RcT T F G st x)) ([.ref o, .int st] : List Value).toArray s 0 0 (fun _ => False)) (F0 m 4 ls []) := by
    intro n_4
    induction n_4 with
    | zero =>
      intro sn gb hn_4
      exact absurd hn_4 (Nat.not_lt_zero _)
    | succ n_4 ih_4 =>
      intro sn gb hn_4 ho ls hl
      refine lv_iload_n hx hb d_MO_reach_4 rfl (lv_at hl 3 rfl) ?_
      refine x_if_eq (tgt := 74) hx hb d_MO_reach_5 (by decide) (fun c_2 => ?_) (fun c_2 => ?_)
      · skip
        refine lv_iload_n hx hb d_MO_reach_74 rfl (lv_at hl 2 rfl) ?_
        exact W.iret (v := sn) hx hb hr (fun t9 ht9 _ => ⟨_, rfl, (rcO_e ho c_2), ht9⟩) t_nil d_MO_reach_75
      · skip
        refine lv_iload_n hx hb d_MO_reach_8 rfl (lv_at hl 2 rfl) ?_
        refine lv_istore (lv' := [(4, .int sn), (0, .ref o), (1, .int st), (2, .int sn), (3, .int (bI gb))]) hx hb d_MO_reach_9 hl (by decide) rfl (fun ls hl => ?_)
        refine lv_iconst (v := (nI 0)) hx hb d_MO_reach_11 (by decide) ?_
        refine lv_istore (lv' := [(5, .int (nI 0)), (4, .int sn), (0, .ref o), (1, .int st), (2, .int sn), (3, .int (bI gb))]) hx hb d_MO_reach_12 hl (by decide) rfl (fun ls hl => ?_)
        have L14_3 : ∀ (n : Nat) (nx : Int32) (i : Nat) (hn : nd - i < n) (hi : i ≤ nd) (hj : rcJ N sn nx i) (ls : Array Slot) (hl : lv_has ls 6 [(0, .ref o), (1, .int st), (2, .int sn), (3, .int (bI gb)), (4, .int nx), (5, .int (nI i))]), W p l e (headSpec (Cond.code ⟨"CutPointsModel", "reach", "(I)I"⟩ prog_9_method_13_code 6 (some .int) :: TT) (rmk 0 0)).room s m ([.ref o, .int st] : List Value).toArray below meth c s.heap [] 0 0 (MQ below (vp_Si (fun x => RcT T F G st x)) ([.ref o, .int st] : List Value).toArray s 0 0 (fun _ => False)) (F0 m 14 ls []) := by
          intro n_14
          induction n_14 with
          | zero =>
            intro nx i hn_14
            exact absurd hn_14 (Nat.not_lt_zero _)
          | succ n_14 ih_14 =>
            intro nx i hn_14 hi hj ls hl
            refine lv_iload hx hb d_MO_reach_14 (lv_at hl 5 rfl) ?_
            refine lv_aload_n hx hb d_MO_reach_16 rfl (lv_at hl 0 rfl) ?_
            refine va_get (D := (dC, dI)) (ci := 7) (v := .int (nI nd)) (C := R_MO) (T := F_MO) (N := 15) hx hb hts in_MO hown hK.1 hP 0 rfl rfl 1 (by decide) (hts _ wfl_MO_42) (fun _ h9 => h9) rfl d_MO_reach_17 ?_
            refine x_cmp_ge (a := i) (b := nd) (tgt := 56) hx hb (by omega) (by omega) d_MO_reach_20 (by decide) (fun c_4 => ?_) (fun c_4 => ?_)
            · skip
              refine lv_iload hx hb d_MO_reach_56 (lv_at hl 4 rfl) ?_
              refine lv_iload_n hx hb d_MO_reach_58 rfl (lv_at hl 2 rfl) ?_
              refine lv_icmp_eq (tgt := 66) hx hb d_MO_reach_59 (by decide) (fun c_5 => ?_) (fun c_5 => ?_)
              · skip
                refine lv_iconst (v := (nI 0)) hx hb d_MO_reach_66 (by decide) ?_
                refine lv_istore_n (lv' := [(3, .int (nI 0)), (0, .ref o), (1, .int st), (2, .int sn), (4, .int nx), (5, .int (nI i))]) hx hb d_MO_reach_67 rfl hl (by decide) rfl (fun ls hl => ?_)
                refine lv_iload hx hb d_MO_reach_68 (lv_at hl 4 rfl) ?_
                refine lv_istore_n (lv' := [(2, .int nx), (3, .int (nI 0)), (0, .ref o), (1, .int st), (4, .int nx), (5, .int (nI i))]) hx hb d_MO_reach_70 rfl hl (by decide) rfl (fun ls hl => ?_)
                refine lv_goto (tgt := 4) hx hb d_MO_reach_71 (by decide) ?_
                exact ih_4 nx false (rc_d1 hn_4 c_2 c_5) (rcO_n hnd hN hT ho hj (by omega) (fun _ => c_5)) ls (lv_sub hl [2, 3, 0, 1] rfl)
              · skip
                refine lv_iconst (v := (nI 1)) hx hb d_MO_reach_62 (by decide) ?_
                refine lv_goto (tgt := 67) hx hb d_MO_reach_63 (by decide) ?_
                refine lv_istore_n (lv' := [(3, .int (nI 1)), (0, .ref o), (1, .int st), (2, .int sn), (4, .int nx), (5, .int (nI i))]) hx hb d_MO_reach_67 rfl hl (by decide) rfl (fun ls hl => ?_)
                refine lv_iload hx hb d_MO_reach_68 (lv_at hl 4 rfl) ?_
                refine lv_istore_n (lv' := [(2, .int nx), (3, .int (nI 1)), (0, .ref o), (1, .int st), (4, .int nx), (5, .int (nI i))]) hx hb d_MO_reach_70 rfl hl (by decide) rfl (fun ls hl => ?_)
                refine lv_goto (tgt := 4) hx hb d_MO_reach_71 (by decide) ?_
                exact ih_4 nx true (rc_d2 hn_4 c_2 hj c_5) (rcO_n hnd hN hT ho hj (by omega) (fun q9 => by cases q9)) ls (lv_sub hl [2, 3, 0, 1] rfl)
            · skip
              refine lv_iload_n hx hb d_MO_reach_23 rfl (lv_at hl 2 rfl) ?_
              refine lv_iload hx hb d_MO_reach_24 (lv_at hl 5 rfl) ?_
              refine lv_ishr hx hb d_MO_reach_26 ?_
              refine lv_iconst (v := (nI 1)) hx hb d_MO_reach_27 (by decide) ?_
              refine lv_iand hx hb d_MO_reach_28 ?_
              refine xe_i (y := (bI (bt sn i))) (sh1 (by omega)) ?_
              refine lv_iconst (v := (nI 1)) hx hb d_MO_reach_29 (by decide) ?_
              refine x_cmp1_ne (tgt := 46) hx hb d_MO_reach_30 (by decide) (fun c_6 => ?_) (fun c_6 => ?_)
              · skip
                refine lv_iload hx hb d_MO_reach_46 (lv_at hl 4 rfl) ?_
                refine lv_istore (lv' := [(4, .int nx), (0, .ref o), (1, .int st), (2, .int sn), (3, .int (bI gb)), (5, .int (nI i))]) hx hb d_MO_reach_48 hl (by decide) rfl (fun ls hl => ?_)
                refine lv_iinc (v := (nI (i + 1))) (lv' := [(5, .int (nI (i + 1))), (4, .int nx), (0, .ref o), (1, .int st), (2, .int sn), (3, .int (bI gb))]) hx hb d_MO_reach_50 hl (k := 5) rfl (nI_1 _) (by decide) rfl (fun ls hl => ?_)
                refine lv_goto (tgt := 14) hx hb d_MO_reach_53 (by decide) ?_
                exact ih_14 nx (i + 1) (by omega) (by first | assumption | omega) (rcJ_f hj c_6) ls (lv_sub hl [2, 3, 4, 5, 1, 0] rfl)
              · skip
                refine lv_iload hx hb d_MO_reach_33 (lv_at hl 4 rfl) ?_
                refine lv_aload_n hx hb d_MO_reach_35 rfl (lv_at hl 0 rfl) ?_
                refine va_get (D := (dC, dI)) (ci := 7) (v := .ref fN) (C := R_MO) (T := F_MO) (N := 15) hx hb hts in_MO hown hK.1 hP 0 rfl rfl 6 (by decide) (hts _ wfl_MO_20) (fun _ h9 => h9) rfl d_MO_reach_36 ?_
                refine lv_iload hx hb d_MO_reach_39 (lv_at hl 5 rfl) ?_
                refine x_iald (n := 14) (f := N) (j := i) hx hb hK.1 hP 1 0 rfl rfl (by omega) (by omega) d_MO_reach_41 ?_
                refine lv_ior hx hb d_MO_reach_42 ?_
                refine lv_goto (tgt := 48) hx hb d_MO_reach_43 (by decide) ?_
                refine lv_istore (lv' := [(4, .int (nx ||| (N i))), (0, .ref o), (1, .int st), (2, .int sn), (3, .int (bI gb)), (5, .int (nI i))]) hx hb d_MO_reach_48 hl (by decide) rfl (fun ls hl => ?_)
                refine lv_iinc (v := (nI (i + 1))) (lv' := [(5, .int (nI (i + 1))), (4, .int (nx ||| (N i))), (0, .ref o), (1, .int st), (2, .int sn), (3, .int (bI gb))]) hx hb d_MO_reach_50 hl (k := 5) rfl (nI_1 _) (by decide) rfl (fun ls hl => ?_)
                refine lv_goto (tgt := 14) hx hb d_MO_reach_53 (by decide) ?_
                exact ih_14 (nx ||| (N i)) (i + 1) (by omega) (by first | assumption | omega) (rcJ_t hj c_6) ls (lv_sub hl [2, 3, 4, 5, 1, 0] rfl)
        exact L14_3 ((nd - 0) + 1) sn 0 (Nat.lt_succ_self _) (by first | assumption | omega) (rcJ_0 N sn) ls (lv_sub hl [2, 3, 4, 5, 1, 0] rfl)
  exact L4_1 ((2 * (32 - cn (bt st) 32) + true.toNat) + 1) st true (Nat.lt_succ_self _) rcO_0 ls (lv_sub hl [2, 3, 1, 0] rfl)

theorem d_MO_partsOf_0 : decode prog_9_method_14_code 0 = .ok (.iload_n 1, 1) := by decide +kernel
theorem d_MO_partsOf_1 : decode prog_9_method_14_code 1 = .ok (.istore_n 2, 1) := by decide +kernel
theorem d_MO_partsOf_2 : decode prog_9_method_14_code 2 = .ok (.iconst 0, 1) := by decide +kernel
theorem d_MO_partsOf_3 : decode prog_9_method_14_code 3 = .ok (.istore_n 3, 1) := by decide +kernel
theorem d_MO_partsOf_4 : decode prog_9_method_14_code 4 = .ok (.iload_n 2, 1) := by decide +kernel
theorem d_MO_partsOf_5 : decode prog_9_method_14_code 5 = .ok (.ifCond .eq 24, 3) := by decide +kernel
theorem d_MO_partsOf_8 : decode prog_9_method_14_code 8 = .ok (.iload_n 2, 1) := by decide +kernel
theorem d_MO_partsOf_9 : decode prog_9_method_14_code 9 = .ok (.aload_n 0, 1) := by decide +kernel
theorem d_MO_partsOf_10 : decode prog_9_method_14_code 10 = .ok (.iconst 1, 1) := by decide +kernel
theorem d_MO_partsOf_11 : decode prog_9_method_14_code 11 = .ok (.iload_n 2, 1) := by decide +kernel
theorem d_MO_partsOf_12 : decode prog_9_method_14_code 12 = .ok (.invokestatic 56, 3) := by decide +kernel
theorem d_MO_partsOf_15 : decode prog_9_method_14_code 15 = .ok (.ishl, 1) := by decide +kernel
theorem d_MO_partsOf_16 : decode prog_9_method_14_code 16 = .ok (.invokevirtual 60, 3) := by decide +kernel
theorem d_MO_partsOf_19 : decode prog_9_method_14_code 19 = .ok (.iconst (-1), 1) := by decide +kernel
theorem d_MO_partsOf_20 : decode prog_9_method_14_code 20 = .ok (.ixor, 1) := by decide +kernel
theorem d_MO_partsOf_21 : decode prog_9_method_14_code 21 = .ok (.iand, 1) := by decide +kernel
theorem d_MO_partsOf_22 : decode prog_9_method_14_code 22 = .ok (.istore_n 2, 1) := by decide +kernel
theorem d_MO_partsOf_23 : decode prog_9_method_14_code 23 = .ok (.iinc 3 1, 3) := by decide +kernel
theorem d_MO_partsOf_26 : decode prog_9_method_14_code 26 = .ok (.goto (-22), 3) := by decide +kernel
theorem d_MO_partsOf_29 : decode prog_9_method_14_code 29 = .ok (.iload_n 3, 1) := by decide +kernel
theorem d_MO_partsOf_30 : decode prog_9_method_14_code 30 = .ok (.ireturn, 1) := by decide +kernel
set_option maxHeartbeats 4000000 in
set_option maxRecDepth 100000 in
theorem c_MO_partsOf (l : Launch) (dC : Nat → ClassId) (dI : Nat → Nat → Nat) (cI cJ cZ : ClassId) (o fF fG fT fN fW fO fB fS fD : Nat) (th be bz sz : Int32) (nd ar : Nat) (T : Nat → Bool) (F G : Nat → Nat) (N : Nat → Int32) (hN : NR T F G N) (hT : tEn T F G nd) (st : Int32) (hnd : nd ≤ 14) (h14 : ∀ y, bt st y = true → y < 14) : Met l ⟨"CutPointsModel", "partsOf", "(I)I"⟩ (Cond.code ⟨"CutPointsModel", "partsOf", "(I)I"⟩ prog_9_method_14_code 4 (some .int) :: TT) (rmk 1 25) (PR dC dI cI cJ cZ [.ref o, .int st] [(o, .inr (7, [.int th, .int (nI nd), .int (nI ar), .ref fF, .ref fG, .ref fT, .ref fN, .ref fW, .int be, .ref fO, .ref fB, .int bz, .ref fS, .ref fD, .int sz])), (fN, .inl (cI, 14, .inl N))]) (vp_Si (fun x => x = nI (cn (ldB T F G st) 16))) 0 0 (fun _ => False) := by
  refine Met.ofW (cc := prog_9_method_14_code) (maxL := 4) (ret := (some .int)) (by decide) rfl ?_
  intro p e s m args below meth c s₁ BB9 hml hv
  obtain ⟨rfl, hP, hK⟩ := hv
  have hx := BB9.exec
  have hb := BB9.bytes
  have hr := BB9.returns
  have hts : ∀ w ∈ TT, w.before _ s = true := fun w h => atoms_spec (ws := (Cond.code ⟨"CutPointsModel", "partsOf", "(I)I"⟩ prog_9_method_14_code 4 (some .int) :: TT)) BB9.pre w (List.mem_cons_of_mem _ h)
  have hown : s.vm.findClass "CutPointsModel" = some m.cls := findClass_of_methodNamed BB9.named
  have hlocks := BB9.notSynchronized
  have hl := lv_entry ([.ref o, .int st]) (n := 4) (Nat.le_of_ble_eq_true rfl)
  rw [lg_entry_eq]
  generalize (lg_sl ([.ref o, .int st]) ++ List.replicate (4 - (lg_sl ([.ref o, .int st])).length) Slot.unset).toArray = ls at hl ⊢
  have hl : lv_has ls 4 [(0, .ref o), (1, .int st)] := hl
  refine lv_iload_n hx hb d_MO_partsOf_0 rfl (lv_at hl 1 rfl) ?_
  refine lv_istore_n (lv' := [(2, .int st), (0, .ref o), (1, .int st)]) hx hb d_MO_partsOf_1 rfl hl (by decide) rfl (fun ls hl => ?_)
  refine lv_iconst (v := (nI 0)) hx hb d_MO_partsOf_2 (by decide) ?_
  refine lv_istore_n (lv' := [(3, .int (nI 0)), (2, .int st), (0, .ref o), (1, .int st)]) hx hb d_MO_partsOf_3 rfl hl (by decide) rfl (fun ls hl => ?_)
  have L4_1 : ∀ (n : Nat) (rs : Int32) (q : Nat) (m0 : Nat) (hn : 16 - m0 < n) (hm : m0 ≤ 16) (hp : prI T F G st rs m0) (hq : q = cn (ldB T F G st) m0) (ls : Array Slot) (hl : lv_has ls 4 [(0, .ref o), (1, .int st), (2, .int rs), (3, .int (nI q))]), W p l e (headSpec (Cond.code ⟨"CutPointsModel", "partsOf", "(I)I"⟩ prog_9_method_14_code 4 (some .int) :: TT) (rmk 1 25)).room s m ([.ref o, .int st] : List Value).toArray below meth c s.heap [] 0 0 (MQ below (vp_Si (fun x => x = nI (cn (ldB T F G st) 16))) ([.ref o, .int st] : List Value).toArray s 0 0 (fun _ => False)) (F0 m 4 ls []) := by
    intro n_4
    induction n_4 with
    | zero =>
      intro rs q m0 hn_4
      exact absurd hn_4 (Nat.not_lt_zero _)
    | succ n_4 ih_4 =>
      intro rs q m0 hn_4 hm hp hq ls hl
      refine lv_iload_n hx hb d_MO_partsOf_4 rfl (lv_at hl 2 rfl) ?_
      refine lv_if_eq (tgt := 29) hx hb d_MO_partsOf_5 (by decide) (fun c_2 => ?_) (fun c_2 => ?_)
      · skip
        refine lv_iload_n hx hb d_MO_partsOf_29 rfl (lv_at hl 3 rfl) ?_
        exact W.iret (v := (nI q)) hx hb hr (fun t9 ht9 _ => ⟨_, rfl, (by rw [pr_e hp hm c_2 hq]), ht9⟩) t_nil d_MO_partsOf_30
      · skip
        refine lv_iload_n hx hb d_MO_partsOf_8 rfl (lv_at hl 2 rfl) ?_
        refine lv_aload_n hx hb d_MO_partsOf_9 rfl (lv_at hl 0 rfl) ?_
        refine lv_iconst (v := (nI 1)) hx hb d_MO_partsOf_10 (by decide) ?_
        refine lv_iload_n hx hb d_MO_partsOf_11 rfl (lv_at hl 2 rfl) ?_
        refine vp_callSi (va_Run.run (k_S (n := 1) (rest := [.int (nI 1), .ref o, .int rs]) ⟨hx, hb, hml, hown, hts⟩ (c_MO_least l dC dI cI cJ cZ rs) wml_MO_56 wst_MO_least wini_MO wcode_MO_least (by decide +kernel) ⟨Nat.le_of_ble_eq_true rfl, Nat.le_of_ble_eq_true rfl⟩ (pre_R (hP.sub (ws' := []) [] rfl) hK) rfl hl.1 rfl (Nat.le_of_ble_eq_true rfl) d_MO_partsOf_12 ⟨Nat.zero_le _, Nat.zero_le _⟩)) (fun r_3 hr_4 => ?_)
        refine xe_i (y := (nI (lsn (bt rs) 16))) hr_4 ?_
        refine lv_ishl hx hb d_MO_partsOf_15 ?_
        refine xe_i (y := (sb (lsn (bt rs) 16))) rfl ?_
        refine vp_callSi (va_Run.run (k_V (n := 1) (C := R_MO) (rest := [.int rs]) ⟨hx, hb, hml, hown, hts⟩ (c_MO_reach l dC dI cI cJ cZ o fF fG fT fN fW fO fB fS fD th be bz sz nd ar T F G N hN hT (sb (lsn (bt rs) 16)) (by first | assumption | omega)) wml_MO_60 wim_MO_reach wsel_MO_reach wini_MO wcode_MO_reach (by decide +kernel) ⟨Nat.le_of_ble_eq_true rfl, Nat.le_of_ble_eq_true rfl⟩ (preV_R (q := (R_MO, F_MO, 15)) (ci := 7) (q0 := 0) (hP.sub (ws' := [(o, .inr (7, [.int th, .int (nI nd), .int (nI ar), .ref fF, .ref fG, .ref fT, .ref fN, .ref fW, .int be, .ref fO, .ref fB, .int bz, .ref fS, .ref fD, .int sz])), (fN, .inl (cI, 14, .inl N))]) [0, 1] rfl) hK rfl rfl) rfl hl.1 rfl (Nat.le_of_ble_eq_true rfl) d_MO_partsOf_16 ⟨Nat.zero_le _, Nat.zero_le _⟩)) (fun r_5 hr_6 => ?_)
        refine lv_iconst (v := (-1)) hx hb d_MO_partsOf_19 (by decide) ?_
        refine lv_ixor hx hb d_MO_partsOf_20 ?_
        refine lv_iand hx hb d_MO_partsOf_21 ?_
        refine lv_istore_n (lv' := [(2, .int (rs &&& (r_5 ^^^ (-1)))), (0, .ref o), (1, .int st), (3, .int (nI q))]) hx hb d_MO_partsOf_22 rfl hl (by decide) rfl (fun ls hl => ?_)
        refine lv_iinc (v := (nI (q + 1))) (lv' := [(3, .int (nI (q + 1))), (2, .int (rs &&& (r_5 ^^^ (-1)))), (0, .ref o), (1, .int st)]) hx hb d_MO_partsOf_23 hl (k := 3) rfl (nI_1 _) (by decide) rfl (fun ls hl => ?_)
        refine lv_goto (tgt := 4) hx hb d_MO_partsOf_26 (by decide) ?_
        exact ih_4 (rs &&& (r_5 ^^^ (-1))) (q + 1) (lsn (bt rs) 16 + 1) (by have := pr_l hp h14 c_2; omega) (by have := (pr_l hp h14 c_2).1; omega) (pr_n hp h14 c_2 hr_6 hq).1 (pr_n hp h14 c_2 hr_6 hq).2 ls (lv_sub hl [2, 3, 1, 0] rfl)
  exact L4_1 ((16 - 0) + 1) st 0 0 (Nat.lt_succ_self _) (by first | assumption | omega) prI_0 rfl ls (lv_sub hl [2, 3, 1, 0] rfl)
