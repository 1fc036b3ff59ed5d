theorem d_FL_comeFrom_0 : decode prog_3_method_9_code 0 = .ok (.iload_n 2, 1) := by decide +kernel
theorem d_FL_comeFrom_1 : decode prog_3_method_9_code 1 = .ok (.ifCond .ne 4, 3) := by decide +kernel
theorem d_FL_comeFrom_4 : decode prog_3_method_9_code 4 = .ok (.return_, 1) := by decide +kernel
theorem d_FL_comeFrom_5 : decode prog_3_method_9_code 5 = .ok (.aload_n 0, 1) := by decide +kernel
theorem d_FL_comeFrom_6 : decode prog_3_method_9_code 6 = .ok (.dup, 1) := by decide +kernel
theorem d_FL_comeFrom_7 : decode prog_3_method_9_code 7 = .ok (.getfield 67, 3) := by decide +kernel
theorem d_FL_comeFrom_10 : decode prog_3_method_9_code 10 = .ok (.iload_n 2, 1) := by decide +kernel
theorem d_FL_comeFrom_11 : decode prog_3_method_9_code 11 = .ok (.ior, 1) := by decide +kernel
theorem d_FL_comeFrom_12 : decode prog_3_method_9_code 12 = .ok (.putfield 67, 3) := by decide +kernel
theorem d_FL_comeFrom_15 : decode prog_3_method_9_code 15 = .ok (.iconst 0, 1) := by decide +kernel
theorem d_FL_comeFrom_16 : decode prog_3_method_9_code 16 = .ok (.istore_n 3, 1) := by decide +kernel
theorem d_FL_comeFrom_17 : decode prog_3_method_9_code 17 = .ok (.iload_n 3, 1) := by decide +kernel
theorem d_FL_comeFrom_18 : decode prog_3_method_9_code 18 = .ok (.bipush 28, 2) := by decide +kernel
theorem d_FL_comeFrom_20 : decode prog_3_method_9_code 20 = .ok (.if_icmp .ge 25, 3) := by decide +kernel
theorem d_FL_comeFrom_23 : decode prog_3_method_9_code 23 = .ok (.iload_n 2, 1) := by decide +kernel
theorem d_FL_comeFrom_24 : decode prog_3_method_9_code 24 = .ok (.i2l, 1) := by decide +kernel
theorem d_FL_comeFrom_25 : decode prog_3_method_9_code 25 = .ok (.iload_n 3, 1) := by decide +kernel
theorem d_FL_comeFrom_26 : decode prog_3_method_9_code 26 = .ok (.invokestatic 30, 3) := by decide +kernel
theorem d_FL_comeFrom_29 : decode prog_3_method_9_code 29 = .ok (.ifCond .eq 10, 3) := by decide +kernel
theorem d_FL_comeFrom_32 : decode prog_3_method_9_code 32 = .ok (.aload_n 0, 1) := by decide +kernel
theorem d_FL_comeFrom_33 : decode prog_3_method_9_code 33 = .ok (.getfield 18, 3) := by decide +kernel
theorem d_FL_comeFrom_36 : decode prog_3_method_9_code 36 = .ok (.iload_n 3, 1) := by decide +kernel
theorem d_FL_comeFrom_37 : decode prog_3_method_9_code 37 = .ok (.iload_n 1, 1) := by decide +kernel
theorem d_FL_comeFrom_38 : decode prog_3_method_9_code 38 = .ok (.iastore, 1) := by decide +kernel
theorem d_FL_comeFrom_39 : decode prog_3_method_9_code 39 = .ok (.iinc 3 1, 3) := by decide +kernel
theorem d_FL_comeFrom_42 : decode prog_3_method_9_code 42 = .ok (.goto (-25), 3) := by decide +kernel
theorem d_FL_comeFrom_45 : decode prog_3_method_9_code 45 = .ok (.return_, 1) := by decide +kernel
theorem cf_t {B2 B : Nat → Nat} {fr : Int32} {pt i : Nat} (hi : i < 28) (h : ∀ y, y < 28 → B2 y = if (decide (y < i) && bt fr y) = true then pt else B y) (c : bt fr i = true) : ∀ y, y < 28 → va_up B2 i pt y = if (decide (y < i + 1) && bt fr y) = true then pt else B y := by
  intro y hy
  by_cases e : y = i
  · subst e; rw [va_up_s]; simp [c]
  · rw [va_up_o _ e, h y hy]
    have : decide (y < i) = decide (y < i + 1) := decide_eq_decide.mpr (by omega)
    rw [this]
theorem cf_f {B2 B : Nat → Nat} {fr : Int32} {pt i : Nat} (h : ∀ y, y < 28 → B2 y = if (decide (y < i) && bt fr y) = true then pt else B y) (c : bt fr i = false) : ∀ y, y < 28 → B2 y = if (decide (y < i + 1) && bt fr y) = true then pt else B y := by
  intro y hy
  rw [h y hy]
  by_cases e : y = i
  · subst e; simp [c]
  · have : decide (y < i) = decide (y < i + 1) := decide_eq_decide.mpr (by omega)
    rw [this]
theorem or_0 (x : Int32) : x = x ||| 0 := b_ext (fun i _ => by rw [b_or, b_0, Bool.or_false])
theorem cf_e {B2 B : Nat → Nat} {fr : Int32} {pt i : Nat} (h : ∀ y, y < 28 → B2 y = if (decide (y < i) && bt fr y) = true then pt else B y) (hi : 28 ≤ i) : ∀ y, y < 28 → B2 y = if bt fr y = true then pt else B y := by
  intro y hy
  rw [h y hy, show decide (y < i) = true from decide_eq_true (by omega), Bool.true_and]
set_option maxHeartbeats 4000000 in
set_option maxRecDepth 100000 in
theorem c_FL_comeFrom (l : Launch) (dC : Nat → ClassId) (dI : Nat → Nat → Nat) (cI cJ cZ : ClassId) (fl rm op bf : Nat) (sn : Int32) (B : Nat → Nat) (pt : Nat) (fr : Int32) (hpt : pt < 28) : Met l ⟨"CutPoints$Flow", "comeFrom", "(II)V"⟩ (Cond.code ⟨"CutPoints$Flow", "comeFrom", "(II)V"⟩ prog_3_method_9_code 4 none :: TT) (rmk 1 22) (PM dC dI cI cJ cZ [.ref fl, .int (nI pt), .int fr] [(fl, .inr (4, [.ref rm, .ref op, .ref bf, .int sn])), (bf, .inl (cI, 28, .inl (nF B)))]) (va_Qv (S := Int32 × (Nat → Nat)) (fun u9 => u9.1 = sn ||| fr ∧ ∀ y, y < 28 → u9.2 y = if bt fr y = true then pt else B y) (fun u9 t9 => va_P (dC, dI) cls ([(fl, .inr (4, [.ref rm, .ref op, .ref bf, .int u9.1])), (bf, .inl (cI, 28, .inl (nF u9.2)))]) t9.heap) (ow [(fl, .inr (4, [.ref rm, .ref op, .ref bf, .int sn])), (bf, .inl (cI, 28, .inl (nF B)))])) 0 0 (ow [(fl, .inr (4, [.ref rm, .ref op, .ref bf, .int sn])), (bf, .inl (cI, 28, .inl (nF B)))]) := by
  refine Met.ofW (cc := prog_3_method_9_code) (maxL := 4) (ret := none) (by decide) rfl ?_
  intro p e s m args below meth c s₁ BB9 hml hv
  obtain ⟨rfl, hP, hK, hD0⟩ := hv
  have hx := BB9.exec
  have hb := BB9.bytes
  have hr := BB9.returns
  have hts : ∀ w ∈ TT, w.before _ s = true := fun w h => atoms_spec (ws := (Cond.code ⟨"CutPoints$Flow", "comeFrom", "(II)V"⟩ prog_3_method_9_code 4 none :: TT)) BB9.pre w (List.mem_cons_of_mem _ h)
  have hown : s.vm.findClass "CutPoints$Flow" = some m.cls := findClass_of_methodNamed BB9.named
  have hlocks := BB9.notSynchronized
  have hD := hD0.mine
  have hS : va_S (ow [(fl, .inr (4, [.ref rm, .ref op, .ref bf, .int sn])), (bf, .inl (cI, 28, .inl (nF B)))]) s.heap s.heap [] := va_S.rf
  have hl := lv_entry ([.ref fl, .int (nI pt), .int fr]) (n := 4) (Nat.le_of_ble_eq_true rfl)
  rw [lg_entry_eq]
  generalize (lg_sl ([.ref fl, .int (nI pt), .int fr]) ++ List.replicate (4 - (lg_sl ([.ref fl, .int (nI pt), .int fr])).length) Slot.unset).toArray = ls at hl ⊢
  have hl : lv_has ls 4 [(0, .ref fl), (1, .int (nI pt)), (2, .int fr)] := hl
  refine lv_iload_n hx hb d_FL_comeFrom_0 rfl (lv_at hl 2 rfl) ?_
  refine lv_if_ne (tgt := 5) hx hb d_FL_comeFrom_1 (by decide) (fun c_1 => ?_) (fun c_1 => ?_)
  · skip
    refine lv_aload_n hx hb d_FL_comeFrom_5 rfl (lv_at hl 0 rfl) ?_
    refine lv_dup hx hb d_FL_comeFrom_6 rfl ?_
    refine va_get (D := (dC, dI)) (ci := 4) (v := .int sn) (C := R_FL) (T := F_FL) (N := 4) hx hb hts in_FL hown hK.1 hP 0 rfl rfl 3 (by decide) (hts _ wfl_FL_67) (fun _ h9 => h9) rfl d_FL_comeFrom_7 ?_
    refine lv_iload_n hx hb d_FL_comeFrom_10 rfl (lv_at hl 2 rfl) ?_
    refine lv_ior hx hb d_FL_comeFrom_11 ?_
    refine va_put (D := (dC, dI)) (ci := 4) (v := .int (sn ||| fr)) (ty := .int) (C := R_FL) (T := F_FL) (N := 4) hx hb hts in_FL t_FL t_FL_ok n_FL hown hK.1 hP hD hS 0 rfl rfl 3 (by decide) (hts _ wfl_FL_67) (fun _ h9 => h9) rfl (by decide +kernel) rfl rfl (Nat.le_of_ble_eq_true rfl) d_FL_comeFrom_12 (fun H locs hP hD hS => ?_)
    have hP : va_P (dC, dI) cls [(fl, .inr (4, [.ref rm, .ref op, .ref bf, .int (sn ||| fr)])), (bf, .inl (cI, 28, .inl (nF B)))] H := hP
    have hD : va_D (ow [(fl, .inr (4, [.ref rm, .ref op, .ref bf, .int sn])), (bf, .inl (cI, 28, .inl (nF B)))]) [(fl, .inr (4, [.ref rm, .ref op, .ref bf, .int (sn ||| fr)])), (bf, .inl (cI, 28, .inl (nF B)))] := hD
    refine lv_iconst (v := (nI 0)) hx hb d_FL_comeFrom_15 (by decide) ?_
    refine lv_istore_n (lv' := [(3, .int (nI 0)), (0, .ref fl), (1, .int (nI pt)), (2, .int fr)]) hx hb d_FL_comeFrom_16 rfl hl (by decide) rfl (fun ls hl => ?_)
    have L17_2 : ∀ (n : Nat) (B2 : Nat → Nat) (i : Nat) (hn : 28 - i < n) (hi : i ≤ 28) (hj : ∀ y, y < 28 → B2 y = if (decide (y < i) && bt fr y) = true then pt else B y) (H : Heap) (locs : List Loc) (hP : va_P (dC, dI) cls [(fl, .inr (4, [.ref rm, .ref op, .ref bf, .int (sn ||| fr)])), (bf, .inl (cI, 28, .inl (nF B2)))] H) (hD : va_D (ow [(fl, .inr (4, [.ref rm, .ref op, .ref bf, .int sn])), (bf, .inl (cI, 28, .inl (nF B)))]) [(fl, .inr (4, [.ref rm, .ref op, .ref bf, .int (sn ||| fr)])), (bf, .inl (cI, 28, .inl (nF B2)))]) (hS : va_S (ow [(fl, .inr (4, [.ref rm, .ref op, .ref bf, .int sn])), (bf, .inl (cI, 28, .inl (nF B)))]) s.heap H locs) (ls : Array Slot) (hl : lv_has ls 4 [(0, .ref fl), (1, .int (nI pt)), (2, .int fr), (3, .int (nI i))]), W p l e (headSpec (Cond.code ⟨"CutPoints$Flow", "comeFrom", "(II)V"⟩ prog_3_method_9_code 4 none :: TT) (rmk 1 22)).room s m ([.ref fl, .int (nI pt), .int fr] : List Value).toArray below meth c H locs 0 0 (MQ below (va_Qv (S := Int32 × (Nat → Nat)) (fun u9 => u9.1 = sn ||| fr ∧ ∀ y, y < 28 → u9.2 y = if bt fr y = true then pt else B y) (fun u9 t9 => va_P (dC, dI) cls ([(fl, .inr (4, [.ref rm, .ref op, .ref bf, .int u9.1])), (bf, .inl (cI, 28, .inl (nF u9.2)))]) t9.heap) (ow [(fl, .inr (4, [.ref rm, .ref op, .ref bf, .int sn])), (bf, .inl (cI, 28, .inl (nF B)))])) ([.ref fl, .int (nI pt), .int fr] : List Value).toArray s 0 0 (ow [(fl, .inr (4, [.ref rm, .ref op, .ref bf, .int sn])), (bf, .inl (cI, 28, .inl (nF B)))])) (F0 m 17 ls []) := by
      intro n_17
      induction n_17 with
      | zero =>
        intro B2 i hn_17
        exact absurd hn_17 (Nat.not_lt_zero _)
      | succ n_17 ih_17 =>
        intro B2 i hn_17 hi hj H locs hP hD hS ls hl
        refine lv_iload_n hx hb d_FL_comeFrom_17 rfl (lv_at hl 3 rfl) ?_
        refine lv_bipush (v := (nI 28)) hx hb d_FL_comeFrom_18 (by decide) ?_
        refine x_cmp_ge (a := i) (b := 28) (tgt := 45) hx hb (by omega) (by omega) d_FL_comeFrom_20 (by decide) (fun c_3 => ?_) (fun c_3 => ?_)
        · skip
          exact W.vret hx hb hr (fun t9 ht9 _ => ⟨⟨((sn ||| fr), B2), rfl, ⟨rfl, cf_e hj (by assumption)⟩, by show va_P (dC, dI) cls _ t9.heap; rw [ht9]; exact hP⟩, hS.F ht9⟩) hS.2.2 d_FL_comeFrom_45
        · skip
          refine lv_iload_n hx hb d_FL_comeFrom_23 rfl (lv_at hl 2 rfl) ?_
          refine lv_i2l (v := fr.toInt64) hx hb d_FL_comeFrom_24 rfl ?_
          refine lv_iload_n hx hb d_FL_comeFrom_25 rfl (lv_at hl 3 rfl) ?_
          refine vp_callSi (va_Run.run (k_SN (n := 2) (rest := []) ⟨hx, hb, hml, hown, hts⟩ (c_CP_hasBit l dC dI cI cJ cZ fr.toInt64 i (by first | assumption | omega)) hK wmn_FL_30 wst_CP_hasBit wini_CP wcode_CP_hasBit (by decide +kernel) ⟨Nat.le_of_ble_eq_true rfl, Nat.le_of_ble_eq_true rfl⟩ (pre_R (hP.sub (ws' := []) [] rfl) hK) rfl hl.1 rfl (Nat.le_of_ble_eq_true rfl) d_FL_comeFrom_26 ⟨Nat.zero_le _, Nat.zero_le _⟩)) (fun r_4 hr_5 => ?_)
          refine xe_i (y := (bI (lb fr.toInt64 i))) hr_5 ?_
          refine xe_i (y := (bI (bt fr i))) (by rw [lb_i2l _ (by omega)]) ?_
          refine x_if_eq (tgt := 39) hx hb d_FL_comeFrom_29 (by decide) (fun c_6 => ?_) (fun c_6 => ?_)
          · skip
            refine lv_iinc (v := (nI (i + 1))) (lv' := [(3, .int (nI (i + 1))), (0, .ref fl), (1, .int (nI pt)), (2, .int fr)]) hx hb d_FL_comeFrom_39 hl (k := 3) rfl (nI_1 _) (by decide) rfl (fun ls hl => ?_)
            refine lv_goto (tgt := 17) hx hb d_FL_comeFrom_42 (by decide) ?_
            exact ih_17 B2 (i + 1) (by omega) (by first | assumption | omega) (cf_f hj c_6) _ _ hP hD hS ls (lv_sub hl [1, 2, 3, 0] rfl)
          · skip
            refine lv_aload_n hx hb d_FL_comeFrom_32 rfl (lv_at hl 0 rfl) ?_
            refine va_get (D := (dC, dI)) (ci := 4) (v := .ref bf) (C := R_FL) (T := F_FL) (N := 4) hx hb hts in_FL hown hK.1 hP 0 rfl rfl 2 (by decide) (hts _ wfl_FL_18) (fun _ h9 => h9) rfl d_FL_comeFrom_33 ?_
            refine lv_iload_n hx hb d_FL_comeFrom_36 rfl (lv_at hl 3 rfl) ?_
            refine lv_iload_n hx hb d_FL_comeFrom_37 rfl (lv_at hl 1 rfl) ?_
            refine x_iast (g := (nF (va_up B2 i pt))) hx hb hK.1 hP hD hS 1 0 rfl rfl (nF_up _ _ _) (by omega) (by omega) d_FL_comeFrom_38 (fun H locs hP hD hS => ?_)
            have hP : va_P (dC, dI) cls [(fl, .inr (4, [.ref rm, .ref op, .ref bf, .int (sn ||| fr)])), (bf, .inl (cI, 28, .inl (nF (va_up B2 i pt))))] H := hP
            have hD : va_D (ow [(fl, .inr (4, [.ref rm, .ref op, .ref bf, .int sn])), (bf, .inl (cI, 28, .inl (nF B)))]) [(fl, .inr (4, [.ref rm, .ref op, .ref bf, .int (sn ||| fr)])), (bf, .inl (cI, 28, .inl (nF (va_up B2 i pt))))] := hD
            refine lv_iinc (v := (nI (i + 1))) (lv' := [(3, .int (nI (i + 1))), (0, .ref fl), (1, .int (nI pt)), (2, .int fr)]) hx hb d_FL_comeFrom_39 hl (k := 3) rfl (nI_1 _) (by decide) rfl (fun ls hl => ?_)
            refine lv_goto (tgt := 17) hx hb d_FL_comeFrom_42 (by decide) ?_
            exact ih_17 (va_up B2 i pt) (i + 1) (by omega) (by first | assumption | omega) (cf_t (by assumption) hj c_6) _ _ hP hD hS ls (lv_sub hl [1, 2, 3, 0] rfl)
    exact L17_2 ((28 - 0) + 1) B 0 (Nat.lt_succ_self _) (by first | assumption | omega) (fun y _ => by simp) _ _ hP hD hS ls (lv_sub hl [1, 2, 3, 0] rfl)
  · skip
    exact W.vret hx hb hr (fun t9 ht9 _ => ⟨⟨(sn, B), rfl, ⟨by rw [c_1]; exact or_0 _, fun y _ => by rw [c_1, b_0]; rfl⟩, by show va_P (dC, dI) cls _ t9.heap; rw [ht9]; exact hP⟩, hS.F ht9⟩) hS.2.2 d_FL_comeFrom_4

theorem d_FL_search_0 : decode prog_3_method_8_code 0 = .ok (.aload_n 0, 1) := by decide +kernel
theorem d_FL_search_1 : decode prog_3_method_8_code 1 = .ok (.iconst 1, 1) := by decide +kernel
theorem d_FL_search_2 : decode prog_3_method_8_code 2 = .ok (.iload_n 1, 1) := by decide +kernel
theorem d_FL_search_3 : decode prog_3_method_8_code 3 = .ok (.ishl, 1) := by decide +kernel
theorem d_FL_search_4 : decode prog_3_method_8_code 4 = .ok (.putfield 67, 3) := by decide +kernel
theorem d_FL_search_7 : decode prog_3_method_8_code 7 = .ok (.iconst 0, 1) := by decide +kernel
theorem d_FL_search_8 : decode prog_3_method_8_code 8 = .ok (.istore_n 3, 1) := by decide +kernel
theorem d_FL_search_9 : decode prog_3_method_8_code 9 = .ok (.iconst 0, 1) := by decide +kernel
theorem d_FL_search_10 : decode prog_3_method_8_code 10 = .ok (.istore 4, 2) := by decide +kernel
theorem d_FL_search_12 : decode prog_3_method_8_code 12 = .ok (.iload 4, 2) := by decide +kernel
theorem d_FL_search_14 : decode prog_3_method_8_code 14 = .ok (.bipush 28, 2) := by decide +kernel
theorem d_FL_search_16 : decode prog_3_method_8_code 16 = .ok (.if_icmp .ge 71, 3) := by decide +kernel
theorem d_FL_search_19 : decode prog_3_method_8_code 19 = .ok (.aload_n 0, 1) := by decide +kernel
theorem d_FL_search_20 : decode prog_3_method_8_code 20 = .ok (.getfield 67, 3) := by decide +kernel
theorem d_FL_search_23 : decode prog_3_method_8_code 23 = .ok (.iload_n 3, 1) := by decide +kernel
theorem d_FL_search_24 : decode prog_3_method_8_code 24 = .ok (.if_icmp .eq 63, 3) := by decide +kernel
theorem d_FL_search_27 : decode prog_3_method_8_code 27 = .ok (.aload_n 0, 1) := by decide +kernel
theorem d_FL_search_28 : decode prog_3_method_8_code 28 = .ok (.getfield 67, 3) := by decide +kernel
theorem d_FL_search_31 : decode prog_3_method_8_code 31 = .ok (.istore_n 3, 1) := by decide +kernel
theorem d_FL_search_32 : decode prog_3_method_8_code 32 = .ok (.iconst 0, 1) := by decide +kernel
theorem d_FL_search_33 : decode prog_3_method_8_code 33 = .ok (.istore 5, 2) := by decide +kernel
theorem d_FL_search_35 : decode prog_3_method_8_code 35 = .ok (.iload 5, 2) := by decide +kernel
theorem d_FL_search_37 : decode prog_3_method_8_code 37 = .ok (.bipush 28, 2) := by decide +kernel
theorem d_FL_search_39 : decode prog_3_method_8_code 39 = .ok (.if_icmp .ge 42, 3) := by decide +kernel
theorem d_FL_search_42 : decode prog_3_method_8_code 42 = .ok (.aload_n 0, 1) := by decide +kernel
theorem d_FL_search_43 : decode prog_3_method_8_code 43 = .ok (.getfield 67, 3) := by decide +kernel
theorem d_FL_search_46 : decode prog_3_method_8_code 46 = .ok (.i2l, 1) := by decide +kernel
theorem d_FL_search_47 : decode prog_3_method_8_code 47 = .ok (.iload 5, 2) := by decide +kernel
theorem d_FL_search_49 : decode prog_3_method_8_code 49 = .ok (.invokestatic 30, 3) := by decide +kernel
theorem d_FL_search_52 : decode prog_3_method_8_code 52 = .ok (.ifCond .eq 23, 3) := by decide +kernel
theorem d_FL_search_55 : decode prog_3_method_8_code 55 = .ok (.aload_n 0, 1) := by decide +kernel
theorem d_FL_search_56 : decode prog_3_method_8_code 56 = .ok (.iload 5, 2) := by decide +kernel
theorem d_FL_search_58 : decode prog_3_method_8_code 58 = .ok (.aload_n 0, 1) := by decide +kernel
theorem d_FL_search_59 : decode prog_3_method_8_code 59 = .ok (.getfield 15, 3) := by decide +kernel
theorem d_FL_search_62 : decode prog_3_method_8_code 62 = .ok (.iload 5, 2) := by decide +kernel
theorem d_FL_search_64 : decode prog_3_method_8_code 64 = .ok (.iaload, 1) := by decide +kernel
theorem d_FL_search_65 : decode prog_3_method_8_code 65 = .ok (.aload_n 0, 1) := by decide +kernel
theorem d_FL_search_66 : decode prog_3_method_8_code 66 = .ok (.getfield 67, 3) := by decide +kernel
theorem d_FL_search_69 : decode prog_3_method_8_code 69 = .ok (.iconst (-1), 1) := by decide +kernel
theorem d_FL_search_70 : decode prog_3_method_8_code 70 = .ok (.ixor, 1) := by decide +kernel
theorem d_FL_search_71 : decode prog_3_method_8_code 71 = .ok (.iand, 1) := by decide +kernel
theorem d_FL_search_72 : decode prog_3_method_8_code 72 = .ok (.invokevirtual 71, 3) := by decide +kernel
theorem d_FL_search_75 : decode prog_3_method_8_code 75 = .ok (.iinc 5 1, 3) := by decide +kernel
theorem d_FL_search_78 : decode prog_3_method_8_code 78 = .ok (.goto (-43), 3) := by decide +kernel
theorem d_FL_search_81 : decode prog_3_method_8_code 81 = .ok (.iinc 4 1, 3) := by decide +kernel
theorem d_FL_search_84 : decode prog_3_method_8_code 84 = .ok (.goto (-72), 3) := by decide +kernel
theorem d_FL_search_87 : decode prog_3_method_8_code 87 = .ok (.aload_n 0, 1) := by decide +kernel
theorem d_FL_search_88 : decode prog_3_method_8_code 88 = .ok (.getfield 67, 3) := by decide +kernel
theorem d_FL_search_91 : decode prog_3_method_8_code 91 = .ok (.i2l, 1) := by decide +kernel
theorem d_FL_search_92 : decode prog_3_method_8_code 92 = .ok (.iload_n 2, 1) := by decide +kernel
theorem d_FL_search_93 : decode prog_3_method_8_code 93 = .ok (.invokestatic 30, 3) := by decide +kernel
theorem d_FL_search_96 : decode prog_3_method_8_code 96 = .ok (.ireturn, 1) := by decide +kernel
set_option maxHeartbeats 4000000 in
set_option maxRecDepth 100000 in
theorem c_FL_search (l : Launch) (dC : Nat → ClassId) (dI : Nat → Nat → Nat) (cI cJ cZ : ClassId) (fl rm op bf : Nat) (sn0 : Int32) (O : Nat → Int32) (B : Nat → Nat) (f t : Nat) (hf28 : f < 28) (ht28 : t < 28) (hlt : ∀ a b, oE O a b → b < 28) : Met l ⟨"CutPoints$Flow", "search", "(II)Z"⟩ (Cond.code ⟨"CutPoints$Flow", "search", "(II)Z"⟩ prog_3_method_8_code 6 (some .boolean) :: TT) (rmk 2 45) (PM dC dI cI cJ cZ [.ref fl, .int (nI f), .int (nI t)] [(fl, .inr (4, [.ref rm, .ref op, .ref bf, .int sn0])), (op, .inl (cI, 28, .inl O)), (bf, .inl (cI, 28, .inl (nF B)))]) (va_Qi (S := Int32 × (Nat → Nat)) (fun r u9 => r = bI (bt u9.1 t) ∧ TR O f u9.1 u9.2 ∧ ∀ a b, bt u9.1 a = true → oE O a b → bt u9.1 b = true) (fun u9 t9 => va_P (dC, dI) cls ([(fl, .inr (4, [.ref rm, .ref op, .ref bf, .int u9.1])), (op, .inl (cI, 28, .inl O)), (bf, .inl (cI, 28, .inl (nF u9.2)))]) t9.heap) (ow [(fl, .inr (4, [.ref rm, .ref op, .ref bf, .int sn0])), (op, .inl (cI, 28, .inl O)), (bf, .inl (cI, 28, .inl (nF B)))])) 0 0 (ow [(fl, .inr (4, [.ref rm, .ref op, .ref bf, .int sn0])), (op, .inl (cI, 28, .inl O)), (bf, .inl (cI, 28, .inl (nF B)))]) := by
  refine Met.ofW (cc := prog_3_method_8_code) (maxL := 6) (ret := (some .boolean)) (by decide) rfl ?_
  intro p e s m args below meth c s₁ BB9 hml hv
  obtain ⟨rfl, hP, hK, hD0⟩ := hv
  have hx := BB9.exec
  have hb := BB9.bytes
  have hr := BB9.returns
  have hts : ∀ w ∈ TT, w.before _ s = true := fun w h => atoms_spec (ws := (Cond.code ⟨"CutPoints$Flow", "search", "(II)Z"⟩ prog_3_method_8_code 6 (some .boolean) :: TT)) BB9.pre w (List.mem_cons_of_mem _ h)
  have hown : s.vm.findClass "CutPoints$Flow" = some m.cls := findClass_of_methodNamed BB9.named
  have hlocks := BB9.notSynchronized
  have hD := hD0.mine
  have hS : va_S (ow [(fl, .inr (4, [.ref rm, .ref op, .ref bf, .int sn0])), (op, .inl (cI, 28, .inl O)), (bf, .inl (cI, 28, .inl (nF B)))]) s.heap s.heap [] := va_S.rf
  have hl := lv_entry ([.ref fl, .int (nI f), .int (nI t)]) (n := 6) (Nat.le_of_ble_eq_true rfl)
  rw [lg_entry_eq]
  generalize (lg_sl ([.ref fl, .int (nI f), .int (nI t)]) ++ List.replicate (6 - (lg_sl ([.ref fl, .int (nI f), .int (nI t)])).length) Slot.unset).toArray = ls at hl ⊢
  have hl : lv_has ls 6 [(0, .ref fl), (1, .int (nI f)), (2, .int (nI t))] := hl
  refine lv_aload_n hx hb d_FL_search_0 rfl (lv_at hl 0 rfl) ?_
  refine lv_iconst (v := (nI 1)) hx hb d_FL_search_1 (by decide) ?_
  refine lv_iload_n hx hb d_FL_search_2 rfl (lv_at hl 1 rfl) ?_
  refine lv_ishl hx hb d_FL_search_3 ?_
  refine xe_i (y := (sb f)) rfl ?_
  refine va_put (D := (dC, dI)) (ci := 4) (v := .int (sb f)) (ty := .int) (C := R_FL) (T := F_FL) (N := 4) hx hb hts in_FL t_FL t_FL_ok n_FL hown hK.1 hP hD hS 0 rfl rfl 3 (by decide) (hts _ wfl_FL_67) (fun _ h9 => h9) rfl (by decide +kernel) rfl rfl (Nat.le_of_ble_eq_true rfl) d_FL_search_4 (fun H locs hP hD hS => ?_)
  have hP : va_P (dC, dI) cls [(fl, .inr (4, [.ref rm, .ref op, .ref bf, .int (sb f)])), (op, .inl (cI, 28, .inl O)), (bf, .inl (cI, 28, .inl (nF B)))] H := hP
  have hD : va_D (ow [(fl, .inr (4, [.ref rm, .ref op, .ref bf, .int sn0])), (op, .inl (cI, 28, .inl O)), (bf, .inl (cI, 28, .inl (nF B)))]) [(fl, .inr (4, [.ref rm, .ref op, .ref bf, .int (sb f)])), (op, .inl (cI, 28, .inl O)), (bf, .inl (cI, 28, .inl (nF B)))] := hD
  refine lv_iconst (v := (nI 0)) hx hb d_FL_search_7 (by decide) ?_
  refine lv_istore_n (lv' := [(3, .int (nI 0)), (0, .ref fl), (1, .int (nI f)), (2, .int (nI t))]) hx hb d_FL_search_8 rfl hl (by decide) rfl (fun ls hl => ?_)
  refine lv_iconst (v := (nI 0)) hx hb d_FL_search_9 (by decide) ?_
  refine lv_istore (lv' := [(4, .int (nI 0)), (3, .int (nI 0)), (0, .ref fl), (1, .int (nI f)), (2, .int (nI t))]) hx hb d_FL_search_10 hl (by decide) rfl (fun ls hl => ?_)
  have L12_1 : ∀ (n : Nat) (sn : Int32) (kn : Int32) (B2 : Nat → Nat) (rd : Nat) (hn : 28 - rd < n) (ho : seO O f sn kn B2 rd) (H : Heap) (locs : List Loc) (hP : va_P (dC, dI) cls [(fl, .inr (4, [.ref rm, .ref op, .ref bf, .int sn])), (op, .inl (cI, 28, .inl O)), (bf, .inl (cI, 28, .inl (nF B2)))] H) (hD : va_D (ow [(fl, .inr (4, [.ref rm, .ref op, .ref bf, .int sn0])), (op, .inl (cI, 28, .inl O)), (bf, .inl (cI, 28, .inl (nF B)))]) [(fl, .inr (4, [.ref rm, .ref op, .ref bf, .int sn])), (op, .inl (cI, 28, .inl O)), (bf, .inl (cI, 28, .inl (nF B2)))]) (hS : va_S (ow [(fl, .inr (4, [.ref rm, .ref op, .ref bf, .int sn0])), (op, .inl (cI, 28, .inl O)), (bf, .inl (cI, 28, .inl (nF B)))]) s.heap H locs) (ls : Array Slot) (hl : lv_has ls 6 [(0, .ref fl), (1, .int (nI f)), (2, .int (nI t)), (3, .int kn), (4, .int (nI rd))]), W p l e (headSpec (Cond.code ⟨"CutPoints$Flow", "search", "(II)Z"⟩ prog_3_method_8_code 6 (some .boolean) :: TT) (rmk 2 45)).room s m ([.ref fl, .int (nI f), .int (nI t)] : List Value).toArray below meth c H locs 0 0 (MQ below (va_Qi (S := Int32 × (Nat → Nat)) (fun r u9 => r = bI (bt u9.1 t) ∧ TR O f u9.1 u9.2 ∧ ∀ a b, bt u9.1 a = true → oE O a b → bt u9.1 b = true) (fun u9 t9 => va_P (dC, dI) cls ([(fl, .inr (4, [.ref rm, .ref op, .ref bf, .int u9.1])), (op, .inl (cI, 28, .inl O)), (bf, .inl (cI, 28, .inl (nF u9.2)))]) t9.heap) (ow [(fl, .inr (4, [.ref rm, .ref op, .ref bf, .int sn0])), (op, .inl (cI, 28, .inl O)), (bf, .inl (cI, 28, .inl (nF B)))])) ([.ref fl, .int (nI f), .int (nI t)] : List Value).toArray s 0 0 (ow [(fl, .inr (4, [.ref rm, .ref op, .ref bf, .int sn0])), (op, .inl (cI, 28, .inl O)), (bf, .inl (cI, 28, .inl (nF B)))])) (F0 m 12 ls []) := by
    intro n_12
    induction n_12 with
    | zero =>
      intro sn kn B2 rd hn_12
      exact absurd hn_12 (Nat.not_lt_zero _)
    | succ n_12 ih_12 =>
      intro sn kn B2 rd hn_12 ho H locs hP hD hS ls hl
      have hrd := ho.1
      refine lv_iload hx hb d_FL_search_12 (lv_at hl 4 rfl) ?_
      refine lv_bipush (v := (nI 28)) hx hb d_FL_search_14 (by decide) ?_
      refine x_cmp_ge (a := rd) (b := 28) (tgt := 87) hx hb (by omega) (by omega) d_FL_search_16 (by decide) (fun c_2 => ?_) (fun c_2 => ?_)
      · skip
        refine lv_aload_n hx hb d_FL_search_87 rfl (lv_at hl 0 rfl) ?_
        refine va_get (D := (dC, dI)) (ci := 4) (v := .int sn) (C := R_FL) (T := F_FL) (N := 4) hx hb hts in_FL hown hK.1 hP 0 rfl rfl 3 (by decide) (hts _ wfl_FL_67) (fun _ h9 => h9) rfl d_FL_search_88 ?_
        refine lv_i2l (v := sn.toInt64) hx hb d_FL_search_91 rfl ?_
        refine lv_iload_n hx hb d_FL_search_92 rfl (lv_at hl 2 rfl) ?_
        refine vp_callSi (va_Run.run (k_SN (n := 2) (rest := []) ⟨hx, hb, hml, hown, hts⟩ (c_CP_hasBit l dC dI cI cJ cZ sn.toInt64 t (by first | assumption | omega)) hK wmn_FL_30 wst_CP_hasBit wini_CP wcode_CP_hasBit (by decide +kernel) ⟨Nat.le_of_ble_eq_true rfl, Nat.le_of_ble_eq_true rfl⟩ (pre_R (hP.sub (ws' := []) [] rfl) hK) rfl hl.1 rfl (Nat.le_of_ble_eq_true rfl) d_FL_search_93 ⟨Nat.zero_le _, Nat.zero_le _⟩)) (fun r_3 hr_4 => ?_)
        refine xe_i (y := (bI (lb sn.toInt64 t))) hr_4 ?_
        refine xe_i (y := (bI (bt sn t))) (by rw [lb_i2l _ (by omega)]) ?_
        exact W.zret (v := (bI (bt sn t))) hx hb hr (bI_nar _) (fun t9 ht9 _ => ⟨⟨_, (sn, B2), rfl, ⟨rfl, seO_e ho (by first | exact Or.inl (by assumption) | exact Or.inr (by assumption))⟩, by show va_P (dC, dI) cls _ t9.heap; rw [ht9]; exact hP⟩, hS.F ht9⟩) hS.2.2 d_FL_search_96
      · skip
        refine lv_aload_n hx hb d_FL_search_19 rfl (lv_at hl 0 rfl) ?_
        refine va_get (D := (dC, dI)) (ci := 4) (v := .int sn) (C := R_FL) (T := F_FL) (N := 4) hx hb hts in_FL hown hK.1 hP 0 rfl rfl 3 (by decide) (hts _ wfl_FL_67) (fun _ h9 => h9) rfl d_FL_search_20 ?_
        refine lv_iload_n hx hb d_FL_search_23 rfl (lv_at hl 3 rfl) ?_
        refine lv_icmp_eq (tgt := 87) hx hb d_FL_search_24 (by decide) (fun c_5 => ?_) (fun c_5 => ?_)
        · skip
          refine lv_aload_n hx hb d_FL_search_87 rfl (lv_at hl 0 rfl) ?_
          refine va_get (D := (dC, dI)) (ci := 4) (v := .int sn) (C := R_FL) (T := F_FL) (N := 4) hx hb hts in_FL hown hK.1 hP 0 rfl rfl 3 (by decide) (hts _ wfl_FL_67) (fun _ h9 => h9) rfl d_FL_search_88 ?_
          refine lv_i2l (v := sn.toInt64) hx hb d_FL_search_91 rfl ?_
          refine lv_iload_n hx hb d_FL_search_92 rfl (lv_at hl 2 rfl) ?_
          refine vp_callSi (va_Run.run (k_SN (n := 2) (rest := []) ⟨hx, hb, hml, hown, hts⟩ (c_CP_hasBit l dC dI cI cJ cZ sn.toInt64 t (by first | assumption | omega)) hK wmn_FL_30 wst_CP_hasBit wini_CP wcode_CP_hasBit (by decide +kernel) ⟨Nat.le_of_ble_eq_true rfl, Nat.le_of_ble_eq_true rfl⟩ (pre_R (hP.sub (ws' := []) [] rfl) hK) rfl hl.1 rfl (Nat.le_of_ble_eq_true rfl) d_FL_search_93 ⟨Nat.zero_le _, Nat.zero_le _⟩)) (fun r_6 hr_7 => ?_)
          refine xe_i (y := (bI (lb sn.toInt64 t))) hr_7 ?_
          refine xe_i (y := (bI (bt sn t))) (by rw [lb_i2l _ (by omega)]) ?_
          exact W.zret (v := (bI (bt sn t))) hx hb hr (bI_nar _) (fun t9 ht9 _ => ⟨⟨_, (sn, B2), rfl, ⟨rfl, seO_e ho (by first | exact Or.inl (by assumption) | exact Or.inr (by assumption))⟩, by show va_P (dC, dI) cls _ t9.heap; rw [ht9]; exact hP⟩, hS.F ht9⟩) hS.2.2 d_FL_search_96
        · skip
          refine lv_aload_n hx hb d_FL_search_27 rfl (lv_at hl 0 rfl) ?_
          refine va_get (D := (dC, dI)) (ci := 4) (v := .int sn) (C := R_FL) (T := F_FL) (N := 4) hx hb hts in_FL hown hK.1 hP 0 rfl rfl 3 (by decide) (hts _ wfl_FL_67) (fun _ h9 => h9) rfl d_FL_search_28 ?_
          refine lv_istore_n (lv' := [(3, .int sn), (0, .ref fl), (1, .int (nI f)), (2, .int (nI t)), (4, .int (nI rd))]) hx hb d_FL_search_31 rfl hl (by decide) rfl (fun ls hl => ?_)
          refine lv_iconst (v := (nI 0)) hx hb d_FL_search_32 (by decide) ?_
          refine lv_istore (lv' := [(5, .int (nI 0)), (3, .int sn), (0, .ref fl), (1, .int (nI f)), (2, .int (nI t)), (4, .int (nI rd))]) hx hb d_FL_search_33 hl (by decide) rfl (fun ls hl => ?_)
          have L35_8 : ∀ (n : Nat) (s2 : Int32) (B3 : Nat → Nat) (i : Nat) (hn : 28 - i < n) (hi : i ≤ 28) (hj : seJ O f sn s2 B3 i) (H : Heap) (locs : List Loc) (hP : va_P (dC, dI) cls [(fl, .inr (4, [.ref rm, .ref op, .ref bf, .int s2])), (op, .inl (cI, 28, .inl O)), (bf, .inl (cI, 28, .inl (nF B3)))] H) (hD : va_D (ow [(fl, .inr (4, [.ref rm, .ref op, .ref bf, .int sn0])), (op, .inl (cI, 28, .inl O)), (bf, .inl (cI, 28, .inl (nF B)))]) [(fl, .inr (4, [.ref rm, .ref op, .ref bf, .int s2])), (op, .inl (cI, 28, .inl O)), (bf, .inl (cI, 28, .inl (nF B3)))]) (hS : va_S (ow [(fl, .inr (4, [.ref rm, .ref op, .ref bf, .int sn0])), (op, .inl (cI, 28, .inl O)), (bf, .inl (cI, 28, .inl (nF B)))]) s.heap H locs) (ls : Array Slot) (hl : lv_has ls 6 [(0, .ref fl), (1, .int (nI f)), (2, .int (nI t)), (3, .int sn), (4, .int (nI rd)), (5, .int (nI i))]), W p l e (headSpec (Cond.code ⟨"CutPoints$Flow", "search", "(II)Z"⟩ prog_3_method_8_code 6 (some .boolean) :: TT) (rmk 2 45)).room s m ([.ref fl, .int (nI f), .int (nI t)] : List Value).toArray below meth c H locs 0 0 (MQ below (va_Qi (S := Int32 × (Nat → Nat)) (fun r u9 => r = bI (bt u9.1 t) ∧ TR O f u9.1 u9.2 ∧ ∀ a b, bt u9.1 a = true → oE O a b → bt u9.1 b = true) (fun u9 t9 => va_P (dC, dI) cls ([(fl, .inr (4, [.ref rm, .ref op, .ref bf, .int u9.1])), (op, .inl (cI, 28, .inl O)), (bf, .inl (cI, 28, .inl (nF u9.2)))]) t9.heap) (ow [(fl, .inr (4, [.ref rm, .ref op, .ref bf, .int sn0])), (op, .inl (cI, 28, .inl O)), (bf, .inl (cI, 28, .inl (nF B)))])) ([.ref fl, .int (nI f), .int (nI t)] : List Value).toArray s 0 0 (ow [(fl, .inr (4, [.ref rm, .ref op, .ref bf, .int sn0])), (op, .inl (cI, 28, .inl O)), (bf, .inl (cI, 28, .inl (nF B)))])) (F0 m 35 ls []) := by
            intro n_35
            induction n_35 with
            | zero =>
              intro s2 B3 i hn_35
              exact absurd hn_35 (Nat.not_lt_zero _)
            | succ n_35 ih_35 =>
              intro s2 B3 i hn_35 hi hj H locs hP hD hS ls hl
              refine lv_iload hx hb d_FL_search_35 (lv_at hl 5 rfl) ?_
              refine lv_bipush (v := (nI 28)) hx hb d_FL_search_37 (by decide) ?_
              refine x_cmp_ge (a := i) (b := 28) (tgt := 81) hx hb (by omega) (by omega) d_FL_search_39 (by decide) (fun c_9 => ?_) (fun c_9 => ?_)
              · skip
                refine lv_iinc (v := (nI (rd + 1))) (lv' := [(4, .int (nI (rd + 1))), (0, .ref fl), (1, .int (nI f)), (2, .int (nI t)), (3, .int sn), (5, .int (nI i))]) hx hb d_FL_search_81 hl (k := 4) rfl (nI_1 _) (by decide) rfl (fun ls hl => ?_)
                refine lv_goto (tgt := 12) hx hb d_FL_search_84 (by decide) ?_
                exact ih_12 s2 sn B3 (rd + 1) (by omega) (seO_n ho (by assumption) (by assumption) hj (by assumption)) _ _ hP hD hS ls (lv_sub hl [1, 2, 3, 4, 0] rfl)
              · skip
                refine lv_aload_n hx hb d_FL_search_42 rfl (lv_at hl 0 rfl) ?_
                refine va_get (D := (dC, dI)) (ci := 4) (v := .int s2) (C := R_FL) (T := F_FL) (N := 4) hx hb hts in_FL hown hK.1 hP 0 rfl rfl 3 (by decide) (hts _ wfl_FL_67) (fun _ h9 => h9) rfl d_FL_search_43 ?_
                refine lv_i2l (v := s2.toInt64) hx hb d_FL_search_46 rfl ?_
                refine lv_iload hx hb d_FL_search_47 (lv_at hl 5 rfl) ?_
                refine vp_callSi (va_Run.run (k_SN (n := 2) (rest := []) ⟨hx, hb, hml, hown, hts⟩ (c_CP_hasBit l dC dI cI cJ cZ s2.toInt64 i (by first | assumption | omega)) hK wmn_FL_30 wst_CP_hasBit wini_CP wcode_CP_hasBit (by decide +kernel) ⟨Nat.le_of_ble_eq_true rfl, Nat.le_of_ble_eq_true rfl⟩ (pre_R (hP.sub (ws' := []) [] rfl) hK) rfl hl.1 rfl (Nat.le_of_ble_eq_true rfl) d_FL_search_49 ⟨Nat.zero_le _, Nat.zero_le _⟩)) (fun r_10 hr_11 => ?_)
                refine xe_i (y := (bI (lb s2.toInt64 i))) hr_11 ?_
                refine xe_i (y := (bI (bt s2 i))) (by rw [lb_i2l _ (by omega)]) ?_
                refine x_if_eq (tgt := 75) hx hb d_FL_search_52 (by decide) (fun c_12 => ?_) (fun c_12 => ?_)
                · skip
                  refine lv_iinc (v := (nI (i + 1))) (lv' := [(5, .int (nI (i + 1))), (0, .ref fl), (1, .int (nI f)), (2, .int (nI t)), (3, .int sn), (4, .int (nI rd))]) hx hb d_FL_search_75 hl (k := 5) rfl (nI_1 _) (by decide) rfl (fun ls hl => ?_)
                  refine lv_goto (tgt := 35) hx hb d_FL_search_78 (by decide) ?_
                  exact ih_35 s2 B3 (i + 1) (by omega) (by first | assumption | omega) (seJ_f hj c_12) _ _ hP hD hS ls (lv_sub hl [1, 2, 3, 4, 5, 0] rfl)
                · skip
                  refine lv_aload_n hx hb d_FL_search_55 rfl (lv_at hl 0 rfl) ?_
                  refine lv_iload hx hb d_FL_search_56 (lv_at hl 5 rfl) ?_
                  refine lv_aload_n hx hb d_FL_search_58 rfl (lv_at hl 0 rfl) ?_
                  refine va_get (D := (dC, dI)) (ci := 4) (v := .ref op) (C := R_FL) (T := F_FL) (N := 4) hx hb hts in_FL hown hK.1 hP 0 rfl rfl 1 (by decide) (hts _ wfl_FL_15) (fun _ h9 => h9) rfl d_FL_search_59 ?_
                  refine lv_iload hx hb d_FL_search_62 (lv_at hl 5 rfl) ?_
                  refine x_iald (n := 28) (f := O) (j := i) hx hb hK.1 hP 1 0 rfl rfl (by omega) (by omega) d_FL_search_64 ?_
                  refine lv_aload_n hx hb d_FL_search_65 rfl (lv_at hl 0 rfl) ?_
                  refine va_get (D := (dC, dI)) (ci := 4) (v := .int s2) (C := R_FL) (T := F_FL) (N := 4) hx hb hts in_FL hown hK.1 hP 0 rfl rfl 3 (by decide) (hts _ wfl_FL_67) (fun _ h9 => h9) rfl d_FL_search_66 ?_
                  refine lv_iconst (v := (-1)) hx hb d_FL_search_69 (by decide) ?_
                  refine lv_ixor hx hb d_FL_search_70 ?_
                  refine lv_iand hx hb d_FL_search_71 ?_
                  refine x_cv (k_V (n := 2) (C := R_FL) (rest := []) ⟨hx, hb, hml, hown, hts⟩ (c_FL_comeFrom l dC dI cI cJ cZ fl rm op bf s2 B3 i ((O i) &&& (s2 ^^^ (-1))) (by first | assumption | omega)) wml_FL_71 wim_FL_comeFrom wsel_FL_comeFrom wini_FL wcode_FL_comeFrom (by decide +kernel) ⟨Nat.le_of_ble_eq_true rfl, Nat.le_of_ble_eq_true rfl⟩ (preV_M (q := (R_FL, F_FL, 4)) (ci := 4) (q0 := 0) (hP.sub (ws' := [(fl, .inr (4, [.ref rm, .ref op, .ref bf, .int s2])), (bf, .inl (cI, 28, .inl (nF B3)))]) [0, 2] rfl) hK (hD.sub (ws' := [(fl, .inr (4, [.ref rm, .ref op, .ref bf, .int s2])), (bf, .inl (cI, 28, .inl (nF B3)))]) [0, 2] (by decide) rfl) rfl rfl) rfl hl.1 rfl (Nat.le_of_ble_eq_true rfl) d_FL_search_72 ⟨Nat.zero_le _, Nat.zero_le _⟩) hP hD hS [0, 2] rfl (fun _ => rfl) (fun u_13 H locs hu_13 hP hS => ?_)
                  obtain ⟨sn9_13, B9_13⟩ := u_13
                  have hP : va_P (dC, dI) cls [(fl, .inr (4, [.ref rm, .ref op, .ref bf, .int sn9_13])), (op, .inl (cI, 28, .inl O)), (bf, .inl (cI, 28, .inl (nF B9_13)))] H := hP
                  have hD := hD.addr (ws' := [(fl, .inr (4, [.ref rm, .ref op, .ref bf, .int sn9_13])), (op, .inl (cI, 28, .inl O)), (bf, .inl (cI, 28, .inl (nF B9_13)))]) rfl
                  refine lv_iinc (v := (nI (i + 1))) (lv' := [(5, .int (nI (i + 1))), (0, .ref fl), (1, .int (nI f)), (2, .int (nI t)), (3, .int sn), (4, .int (nI rd))]) hx hb d_FL_search_75 hl (k := 5) rfl (nI_1 _) (by decide) rfl (fun ls hl => ?_)
                  refine lv_goto (tgt := 35) hx hb d_FL_search_78 (by decide) ?_
                  exact ih_35 sn9_13 B9_13 (i + 1) (by omega) (by first | assumption | omega) (seJ_t hlt hj c_12 hu_13.1 hu_13.2) _ _ hP hD hS ls (lv_sub hl [1, 2, 3, 4, 5, 0] rfl)
          exact L35_8 ((28 - 0) + 1) sn B2 0 (Nat.lt_succ_self _) (by first | assumption | omega) (seJ_0 ho) _ _ hP hD hS ls (lv_sub hl [2, 3, 4, 1, 5, 0] rfl)
  exact L12_1 ((28 - 0) + 1) (sb f) (nI 0) B 0 (Nat.lt_succ_self _) (seO_0 hf28 B) _ _ hP hD hS ls (lv_sub hl [2, 3, 4, 1, 0] rfl)

theorem d_FL_push_0 : decode prog_3_method_10_code 0 = .ok (.iload_n 2, 1) := by decide +kernel
theorem d_FL_push_1 : decode prog_3_method_10_code 1 = .ok (.istore_n 3, 1) := by decide +kernel
theorem d_FL_push_2 : decode prog_3_method_10_code 2 = .ok (.iconst 0, 1) := by decide +kernel
theorem d_FL_push_3 : decode prog_3_method_10_code 3 = .ok (.istore 4, 2) := by decide +kernel
theorem d_FL_push_5 : decode prog_3_method_10_code 5 = .ok (.iload 4, 2) := by decide +kernel
theorem d_FL_push_7 : decode prog_3_method_10_code 7 = .ok (.bipush 28, 2) := by decide +kernel
theorem d_FL_push_9 : decode prog_3_method_10_code 9 = .ok (.if_icmp .ge 41, 3) := by decide +kernel
theorem d_FL_push_12 : decode prog_3_method_10_code 12 = .ok (.iload_n 3, 1) := by decide +kernel
theorem d_FL_push_13 : decode prog_3_method_10_code 13 = .ok (.iload_n 1, 1) := by decide +kernel
theorem d_FL_push_14 : decode prog_3_method_10_code 14 = .ok (.if_icmp .eq 36, 3) := by decide +kernel
theorem d_FL_push_17 : decode prog_3_method_10_code 17 = .ok (.aload_n 0, 1) := by decide +kernel
theorem d_FL_push_18 : decode prog_3_method_10_code 18 = .ok (.getfield 18, 3) := by decide +kernel
theorem d_FL_push_21 : decode prog_3_method_10_code 21 = .ok (.iload_n 3, 1) := by decide +kernel
theorem d_FL_push_22 : decode prog_3_method_10_code 22 = .ok (.iaload, 1) := by decide +kernel
theorem d_FL_push_23 : decode prog_3_method_10_code 23 = .ok (.istore 5, 2) := by decide +kernel
theorem d_FL_push_25 : decode prog_3_method_10_code 25 = .ok (.aload_n 0, 1) := by decide +kernel
theorem d_FL_push_26 : decode prog_3_method_10_code 26 = .ok (.iload 5, 2) := by decide +kernel
theorem d_FL_push_28 : decode prog_3_method_10_code 28 = .ok (.iload_n 3, 1) := by decide +kernel
theorem d_FL_push_29 : decode prog_3_method_10_code 29 = .ok (.iconst (-1), 1) := by decide +kernel
theorem d_FL_push_30 : decode prog_3_method_10_code 30 = .ok (.invokevirtual 40, 3) := by decide +kernel
theorem d_FL_push_33 : decode prog_3_method_10_code 33 = .ok (.aload_n 0, 1) := by decide +kernel
theorem d_FL_push_34 : decode prog_3_method_10_code 34 = .ok (.iload_n 3, 1) := by decide +kernel
theorem d_FL_push_35 : decode prog_3_method_10_code 35 = .ok (.iload 5, 2) := by decide +kernel
theorem d_FL_push_37 : decode prog_3_method_10_code 37 = .ok (.iconst 1, 1) := by decide +kernel
theorem d_FL_push_38 : decode prog_3_method_10_code 38 = .ok (.invokevirtual 40, 3) := by decide +kernel
theorem d_FL_push_41 : decode prog_3_method_10_code 41 = .ok (.iload 5, 2) := by decide +kernel
theorem d_FL_push_43 : decode prog_3_method_10_code 43 = .ok (.istore_n 3, 1) := by decide +kernel
theorem d_FL_push_44 : decode prog_3_method_10_code 44 = .ok (.iinc 4 1, 3) := by decide +kernel
theorem d_FL_push_47 : decode prog_3_method_10_code 47 = .ok (.goto (-42), 3) := by decide +kernel
theorem d_FL_push_50 : decode prog_3_method_10_code 50 = .ok (.return_, 1) := by decide +kernel
theorem dn_le {C : Nat → Nat} {k : Nat} (h : ∀ p, C p ≤ 50000) : ∀ p, va_up C k (C k - 1) p ≤ 100000 := fun p => by
  by_cases e : p = k
  · subst e; rw [va_up_s]; have := h p; omega
  · rw [va_up_o _ e]; have := h p; omega
set_option maxHeartbeats 4000000 in
set_option maxRecDepth 100000 in
theorem c_FL_push (l : Launch) (dC : Nat → ClassId) (dI : Nat → Nat → Nat) (cI cJ cZ : ClassId) (fl rm op bf : Nat) (sn : Int32) (C : Nat → Nat) (O : Nat → Int32) (B : Nat → Nat) (f t bd : Nat) (hO : OPI C O) (hT : TR O f sn B) (htt : bt sn t = true) (hCb : ∀ p, C p ≤ bd) (hbd : bd ≤ 40000) : Met l ⟨"CutPoints$Flow", "push", "(II)V"⟩ (Cond.code ⟨"CutPoints$Flow", "push", "(II)V"⟩ prog_3_method_10_code 6 none :: TT) (rmk 1 24) (PM dC dI cI cJ cZ [.ref fl, .int (nI f), .int (nI t)] [(fl, .inr (4, [.ref rm, .ref op, .ref bf, .int sn])), (rm, .inl (cI, 784, .inl (nF C))), (op, .inl (cI, 28, .inl O)), (bf, .inl (cI, 28, .inl (nF B)))]) (va_Qv (S := (Nat → Nat) × (Nat → Int32)) (fun u9 => OPI u9.1 u9.2 ∧ (∀ S : Nat → Bool, ct u9.1 S + (S f).toNat = ct C S + (S t).toNat) ∧ ∀ p, u9.1 p ≤ bd + 28) (fun u9 t9 => va_P (dC, dI) cls ([(fl, .inr (4, [.ref rm, .ref op, .ref bf, .int sn])), (rm, .inl (cI, 784, .inl (nF u9.1))), (op, .inl (cI, 28, .inl u9.2)), (bf, .inl (cI, 28, .inl (nF B)))]) t9.heap) (ow [(fl, .inr (4, [.ref rm, .ref op, .ref bf, .int sn])), (rm, .inl (cI, 784, .inl (nF C))), (op, .inl (cI, 28, .inl O)), (bf, .inl (cI, 28, .inl (nF B)))])) 0 0 (ow [(fl, .inr (4, [.ref rm, .ref op, .ref bf, .int sn])), (rm, .inl (cI, 784, .inl (nF C))), (op, .inl (cI, 28, .inl O)), (bf, .inl (cI, 28, .inl (nF B)))]) := by
  refine Met.ofW (cc := prog_3_method_10_code) (maxL := 6) (ret := none) (by decide) rfl ?_
  intro p e s m args below meth c s₁ BB9 hml hv
  obtain ⟨rfl, hP, hK, hD0⟩ := hv
  have hx := BB9.exec
  have hb := BB9.bytes
  have hr := BB9.returns
  have hts : ∀ w ∈ TT, w.before _ s = true := fun w h => atoms_spec (ws := (Cond.code ⟨"CutPoints$Flow", "push", "(II)V"⟩ prog_3_method_10_code 6 none :: TT)) BB9.pre w (List.mem_cons_of_mem _ h)
  have hown : s.vm.findClass "CutPoints$Flow" = some m.cls := findClass_of_methodNamed BB9.named
  have hlocks := BB9.notSynchronized
  have hD := hD0.mine
  have hS : va_S (ow [(fl, .inr (4, [.ref rm, .ref op, .ref bf, .int sn])), (rm, .inl (cI, 784, .inl (nF C))), (op, .inl (cI, 28, .inl O)), (bf, .inl (cI, 28, .inl (nF B)))]) s.heap s.heap [] := va_S.rf
  obtain ⟨d, hd1, hd2⟩ := hT.2.2
  have hdt := hd1 t htt
  have hc28 := cn_le (bt sn) 28
  have hf28 := (hT.2.1 f hT.1).1
  have ht28 := (hT.2.1 t htt).1
  have hl := lv_entry ([.ref fl, .int (nI f), .int (nI t)]) (n := 6) (Nat.le_of_ble_eq_true rfl)
  rw [lg_entry_eq]
  generalize (lg_sl ([.ref fl, .int (nI f), .int (nI t)]) ++ List.replicate (6 - (lg_sl ([.ref fl, .int (nI f), .int (nI t)])).length) Slot.unset).toArray = ls at hl ⊢
  have hl : lv_has ls 6 [(0, .ref fl), (1, .int (nI f)), (2, .int (nI t))] := hl
  refine lv_iload_n hx hb d_FL_push_0 rfl (lv_at hl 2 rfl) ?_
  refine lv_istore_n (lv' := [(3, .int (nI t)), (0, .ref fl), (1, .int (nI f)), (2, .int (nI t))]) hx hb d_FL_push_1 rfl hl (by decide) rfl (fun ls hl => ?_)
  refine lv_iconst (v := (nI 0)) hx hb d_FL_push_2 (by decide) ?_
  refine lv_istore (lv' := [(4, .int (nI 0)), (3, .int (nI t)), (0, .ref fl), (1, .int (nI f)), (2, .int (nI t))]) hx hb d_FL_push_3 hl (by decide) rfl (fun ls hl => ?_)
  have L5_1 : ∀ (n : Nat) (C2 : Nat → Nat) (O2 : Nat → Int32) (pt : Nat) (st : Nat) (hn : 28 - st < n) (hst : st ≤ 28) (hpu : puI C f t sn B d C2 pt st bd) (hO2 : OPI C2 O2) (H : Heap) (locs : List Loc) (hP : va_P (dC, dI) cls [(fl, .inr (4, [.ref rm, .ref op, .ref bf, .int sn])), (rm, .inl (cI, 784, .inl (nF C2))), (op, .inl (cI, 28, .inl O2)), (bf, .inl (cI, 28, .inl (nF B)))] H) (hD : va_D (ow [(fl, .inr (4, [.ref rm, .ref op, .ref bf, .int sn])), (rm, .inl (cI, 784, .inl (nF C))), (op, .inl (cI, 28, .inl O)), (bf, .inl (cI, 28, .inl (nF B)))]) [(fl, .inr (4, [.ref rm, .ref op, .ref bf, .int sn])), (rm, .inl (cI, 784, .inl (nF C2))), (op, .inl (cI, 28, .inl O2)), (bf, .inl (cI, 28, .inl (nF B)))]) (hS : va_S (ow [(fl, .inr (4, [.ref rm, .ref op, .ref bf, .int sn])), (rm, .inl (cI, 784, .inl (nF C))), (op, .inl (cI, 28, .inl O)), (bf, .inl (cI, 28, .inl (nF B)))]) s.heap H locs) (ls : Array Slot) (hl : lv_has ls 6 [(0, .ref fl), (1, .int (nI f)), (2, .int (nI t)), (3, .int (nI pt)), (4, .int (nI st))]), W p l e (headSpec (Cond.code ⟨"CutPoints$Flow", "push", "(II)V"⟩ prog_3_method_10_code 6 none :: TT) (rmk 1 24)).room s m ([.ref fl, .int (nI f), .int (nI t)] : List Value).toArray below meth c H locs 0 0 (MQ below (va_Qv (S := (Nat → Nat) × (Nat → Int32)) (fun u9 => OPI u9.1 u9.2 ∧ (∀ S : Nat → Bool, ct u9.1 S + (S f).toNat = ct C S + (S t).toNat) ∧ ∀ p, u9.1 p ≤ bd + 28) (fun u9 t9 => va_P (dC, dI) cls ([(fl, .inr (4, [.ref rm, .ref op, .ref bf, .int sn])), (rm, .inl (cI, 784, .inl (nF u9.1))), (op, .inl (cI, 28, .inl u9.2)), (bf, .inl (cI, 28, .inl (nF B)))]) t9.heap) (ow [(fl, .inr (4, [.ref rm, .ref op, .ref bf, .int sn])), (rm, .inl (cI, 784, .inl (nF C))), (op, .inl (cI, 28, .inl O)), (bf, .inl (cI, 28, .inl (nF B)))])) ([.ref fl, .int (nI f), .int (nI t)] : List Value).toArray s 0 0 (ow [(fl, .inr (4, [.ref rm, .ref op, .ref bf, .int sn])), (rm, .inl (cI, 784, .inl (nF C))), (op, .inl (cI, 28, .inl O)), (bf, .inl (cI, 28, .inl (nF B)))])) (F0 m 5 ls []) := by
    intro n_5
    induction n_5 with
    | zero =>
      intro C2 O2 pt st hn_5
      exact absurd hn_5 (Nat.not_lt_zero _)
    | succ n_5 ih_5 =>
      intro C2 O2 pt st hn_5 hst hpu hO2 H locs hP hD hS ls hl
      have hpt := (hT.2.1 _ hpu.1).1
      have hC2 : ∀ p, C2 p ≤ 50000 := fun p => by have := hpu.2.2.2.2 p; omega
      refine lv_iload hx hb d_FL_push_5 (lv_at hl 4 rfl) ?_
      refine lv_bipush (v := (nI 28)) hx hb d_FL_push_7 (by decide) ?_
      refine x_cmp_ge (a := st) (b := 28) (tgt := 50) hx hb (by omega) (by omega) d_FL_push_9 (by decide) (fun c_2 => ?_) (fun c_2 => ?_)
      · skip
        exact absurd hpu.2.1 (by omega)
      · skip
        refine lv_iload_n hx hb d_FL_push_12 rfl (lv_at hl 3 rfl) ?_
        refine lv_iload_n hx hb d_FL_push_13 rfl (lv_at hl 1 rfl) ?_
        refine x_cmp_eq (a := pt) (b := f) (tgt := 50) hx hb (by omega) (by omega) d_FL_push_14 (by decide) (fun c_3 => ?_) (fun c_3 => ?_)
        · skip
          exact W.vret hx hb hr (fun t9 ht9 _ => ⟨⟨(C2, O2), rfl, (by have e9 : pt = f := (by assumption); subst e9; exact ⟨hO2, hpu.2.2.1, fun p => Nat.le_trans (hpu.2.2.2.2 p) (by omega)⟩), by show va_P (dC, dI) cls _ t9.heap; rw [ht9]; exact hP⟩, hS.F ht9⟩) hS.2.2 d_FL_push_50
        · skip
          refine lv_aload_n hx hb d_FL_push_17 rfl (lv_at hl 0 rfl) ?_
          refine va_get (D := (dC, dI)) (ci := 4) (v := .ref bf) (C := R_FL) (T := F_FL) (N := 4) hx hb hts in_FL hown hK.1 hP 0 rfl rfl 2 (by decide) (hts _ wfl_FL_18) (fun _ h9 => h9) rfl d_FL_push_18 ?_
          refine lv_iload_n hx hb d_FL_push_21 rfl (lv_at hl 3 rfl) ?_
          refine x_iald (n := 28) (f := (nF B)) (j := pt) hx hb hK.1 hP 3 0 rfl rfl hpt (by omega) d_FL_push_22 ?_
          refine xe_i (y := (nI (B pt))) rfl ?_
          refine lv_istore (lv' := [(5, .int (nI (B pt))), (0, .ref fl), (1, .int (nI f)), (2, .int (nI t)), (3, .int (nI pt)), (4, .int (nI st))]) hx hb d_FL_push_23 hl (by decide) rfl (fun ls hl => ?_)
          refine lv_aload_n hx hb d_FL_push_25 rfl (lv_at hl 1 rfl) ?_
          refine lv_iload hx hb d_FL_push_26 (lv_at hl 0 rfl) ?_
          refine lv_iload_n hx hb d_FL_push_28 rfl (lv_at hl 4 rfl) ?_
          refine lv_iconst (v := (-1)) hx hb d_FL_push_29 (by decide) ?_
          refine x_cv (k_V (n := 3) (C := R_FL) (rest := []) ⟨hx, hb, hml, hown, hts⟩ (c_FL_change_m l dC dI cI cJ cZ fl rm op bf sn C2 O2 (B pt) pt (hT.2.1 _ (hd2 _ hpu.1 (by assumption)).1).1 hpt hO2 (fun p => Nat.le_trans (hC2 p) (by decide)) (by rw [hpu.2.2.2.1 _ hpu.1 (by assumption) (Nat.le_refl _)]; exact ((hO _ _ (hd2 _ hpu.1 (by assumption)).2.1.1).mp (hd2 _ hpu.1 (by assumption)).2.1.2).2)) wml_FL_40 wim_FL_change wsel_FL_change wini_FL wcode_FL_change (by decide +kernel) ⟨Nat.le_of_ble_eq_true rfl, Nat.le_of_ble_eq_true rfl⟩ (preV_M (q := (R_FL, F_FL, 4)) (ci := 4) (q0 := 0) (hP.sub (ws' := [(fl, .inr (4, [.ref rm, .ref op, .ref bf, .int sn])), (rm, .inl (cI, 784, .inl (nF C2))), (op, .inl (cI, 28, .inl O2))]) [0, 1, 2] rfl) hK (hD.sub (ws' := [(fl, .inr (4, [.ref rm, .ref op, .ref bf, .int sn])), (rm, .inl (cI, 784, .inl (nF C2))), (op, .inl (cI, 28, .inl O2))]) [0, 1, 2] (by decide) rfl) rfl rfl) rfl hl.1 rfl (Nat.le_of_ble_eq_true rfl) d_FL_push_30 ⟨Nat.zero_le _, Nat.zero_le _⟩) hP hD hS [0, 1, 2] rfl (fun _ => rfl) (fun u_4 H locs hu_4 hP hS => ?_)
          obtain ⟨O9_4, rfl⟩ : ∃ z, z = u_4 := ⟨_, rfl⟩
          have hP : va_P (dC, dI) cls [(fl, .inr (4, [.ref rm, .ref op, .ref bf, .int sn])), (rm, .inl (cI, 784, .inl (nF (va_up C2 ((B pt) * 28 + pt) (C2 ((B pt) * 28 + pt) - 1))))), (op, .inl (cI, 28, .inl O9_4)), (bf, .inl (cI, 28, .inl (nF B)))] H := hP
          have hD := hD.addr (ws' := [(fl, .inr (4, [.ref rm, .ref op, .ref bf, .int sn])), (rm, .inl (cI, 784, .inl (nF (va_up C2 ((B pt) * 28 + pt) (C2 ((B pt) * 28 + pt) - 1))))), (op, .inl (cI, 28, .inl O9_4)), (bf, .inl (cI, 28, .inl (nF B)))]) rfl
          refine lv_aload_n hx hb d_FL_push_33 rfl (lv_at hl 1 rfl) ?_
          refine lv_iload_n hx hb d_FL_push_34 rfl (lv_at hl 4 rfl) ?_
          refine lv_iload hx hb d_FL_push_35 (lv_at hl 0 rfl) ?_
          refine lv_iconst (v := (nI 1)) hx hb d_FL_push_37 (by decide) ?_
          refine x_cv (k_V (n := 3) (C := R_FL) (rest := []) ⟨hx, hb, hml, hown, hts⟩ (c_FL_change_p l dC dI cI cJ cZ fl rm op bf sn (va_up C2 ((B pt) * 28 + pt) (C2 ((B pt) * 28 + pt) - 1)) O9_4 pt (B pt) hpt (hT.2.1 _ (hd2 _ hpu.1 (by assumption)).1).1 hu_4 (fun p => dn_le hC2 p)) wml_FL_40 wim_FL_change wsel_FL_change wini_FL wcode_FL_change (by decide +kernel) ⟨Nat.le_of_ble_eq_true rfl, Nat.le_of_ble_eq_true rfl⟩ (preV_M (q := (R_FL, F_FL, 4)) (ci := 4) (q0 := 0) (hP.sub (ws' := [(fl, .inr (4, [.ref rm, .ref op, .ref bf, .int sn])), (rm, .inl (cI, 784, .inl (nF (va_up C2 ((B pt) * 28 + pt) (C2 ((B pt) * 28 + pt) - 1))))), (op, .inl (cI, 28, .inl O9_4))]) [0, 1, 2] rfl) hK (hD.sub (ws' := [(fl, .inr (4, [.ref rm, .ref op, .ref bf, .int sn])), (rm, .inl (cI, 784, .inl (nF (va_up C2 ((B pt) * 28 + pt) (C2 ((B pt) * 28 + pt) - 1))))), (op, .inl (cI, 28, .inl O9_4))]) [0, 1, 2] (by decide) rfl) rfl rfl) rfl hl.1 rfl (Nat.le_of_ble_eq_true rfl) d_FL_push_38 ⟨Nat.zero_le _, Nat.zero_le _⟩) hP hD hS [0, 1, 2] rfl (fun _ => rfl) (fun u_5 H locs hu_5 hP hS => ?_)
          obtain ⟨O9_5, rfl⟩ : ∃ z, z = u_5 := ⟨_, rfl⟩
          have hP : va_P (dC, dI) cls [(fl, .inr (4, [.ref rm, .ref op, .ref bf, .int sn])), (rm, .inl (cI, 784, .inl (nF (va_up (va_up C2 ((B pt) * 28 + pt) (C2 ((B pt) * 28 + pt) - 1)) (pt * 28 + (B pt)) ((va_up C2 ((B pt) * 28 + pt) (C2 ((B pt) * 28 + pt) - 1)) (pt * 28 + (B pt)) + 1))))), (op, .inl (cI, 28, .inl O9_5)), (bf, .inl (cI, 28, .inl (nF B)))] H := hP
          have hD := hD.addr (ws' := [(fl, .inr (4, [.ref rm, .ref op, .ref bf, .int sn])), (rm, .inl (cI, 784, .inl (nF (va_up (va_up C2 ((B pt) * 28 + pt) (C2 ((B pt) * 28 + pt) - 1)) (pt * 28 + (B pt)) ((va_up C2 ((B pt) * 28 + pt) (C2 ((B pt) * 28 + pt) - 1)) (pt * 28 + (B pt)) + 1))))), (op, .inl (cI, 28, .inl O9_5)), (bf, .inl (cI, 28, .inl (nF B)))]) rfl
          refine lv_iload hx hb d_FL_push_41 (lv_at hl 0 rfl) ?_
          refine lv_istore_n (lv' := [(3, .int (nI (B pt))), (5, .int (nI (B pt))), (0, .ref fl), (1, .int (nI f)), (2, .int (nI t)), (4, .int (nI st))]) hx hb d_FL_push_43 rfl hl (by decide) rfl (fun ls hl => ?_)
          refine lv_iinc (v := (nI (st + 1))) (lv' := [(4, .int (nI (st + 1))), (3, .int (nI (B pt))), (5, .int (nI (B pt))), (0, .ref fl), (1, .int (nI f)), (2, .int (nI t))]) hx hb d_FL_push_44 hl (k := 5) rfl (nI_1 _) (by decide) rfl (fun ls hl => ?_)
          refine lv_goto (tgt := 5) hx hb d_FL_push_47 (by decide) ?_
          exact ih_5 (va_up (va_up C2 ((B pt) * 28 + pt) (C2 ((B pt) * 28 + pt) - 1)) (pt * 28 + (B pt)) ((va_up C2 ((B pt) * 28 + pt) (C2 ((B pt) * 28 + pt) - 1)) (pt * 28 + (B pt)) + 1)) O9_5 (B pt) (st + 1) (by omega) (by first | assumption | omega) (puI_n hO hd2 (fun y hy => (hT.2.1 y hy).1) hpu (by assumption) rfl rfl) hu_5 _ _ hP hD hS ls (lv_sub hl [3, 4, 5, 1, 0] rfl)
  exact L5_1 ((28 - 0) + 1) C O t 0 (Nat.lt_succ_self _) (by first | assumption | omega) ⟨htt, by omega, fun _ => rfl, fun _ _ _ _ => rfl, hCb⟩ hO _ _ hP hD hS ls (lv_sub hl [2, 3, 4, 1, 0] rfl)

theorem d_FL_fill_0 : decode prog_3_method_5_code 0 = .ok (.iconst 0, 1) := by decide +kernel
theorem d_FL_fill_1 : decode prog_3_method_5_code 1 = .ok (.istore_n 3, 1) := by decide +kernel
theorem d_FL_fill_2 : decode prog_3_method_5_code 2 = .ok (.iload_n 3, 1) := by decide +kernel
theorem d_FL_fill_3 : decode prog_3_method_5_code 3 = .ok (.bipush 40, 2) := by decide +kernel
theorem d_FL_fill_5 : decode prog_3_method_5_code 5 = .ok (.if_icmp .gt 24, 3) := by decide +kernel
theorem d_FL_fill_8 : decode prog_3_method_5_code 8 = .ok (.aload_n 0, 1) := by decide +kernel
theorem d_FL_fill_9 : decode prog_3_method_5_code 9 = .ok (.iload_n 1, 1) := by decide +kernel
theorem d_FL_fill_10 : decode prog_3_method_5_code 10 = .ok (.iload_n 2, 1) := by decide +kernel
theorem d_FL_fill_11 : decode prog_3_method_5_code 11 = .ok (.invokevirtual 53, 3) := by decide +kernel
theorem d_FL_fill_14 : decode prog_3_method_5_code 14 = .ok (.ifCond .eq 15, 3) := by decide +kernel
theorem d_FL_fill_17 : decode prog_3_method_5_code 17 = .ok (.aload_n 0, 1) := by decide +kernel
theorem d_FL_fill_18 : decode prog_3_method_5_code 18 = .ok (.iload_n 1, 1) := by decide +kernel
theorem d_FL_fill_19 : decode prog_3_method_5_code 19 = .ok (.iload_n 2, 1) := by decide +kernel
theorem d_FL_fill_20 : decode prog_3_method_5_code 20 = .ok (.invokevirtual 57, 3) := by decide +kernel
theorem d_FL_fill_23 : decode prog_3_method_5_code 23 = .ok (.iinc 3 1, 3) := by decide +kernel
theorem d_FL_fill_26 : decode prog_3_method_5_code 26 = .ok (.goto (-24), 3) := by decide +kernel
theorem d_FL_fill_29 : decode prog_3_method_5_code 29 = .ok (.iload_n 3, 1) := by decide +kernel
theorem d_FL_fill_30 : decode prog_3_method_5_code 30 = .ok (.ireturn, 1) := by decide +kernel
set_option maxHeartbeats 4000000 in
set_option maxRecDepth 100000 in
theorem c_FL_fill (l : Launch) (dC : Nat → ClassId) (dI : Nat → Nat → Nat) (cI cJ cZ : ClassId) (fl rm op bf : Nat) (sn0 : Int32) (C : Nat → Nat) (O : Nat → Int32) (B : Nat → Nat) (f t : Nat) (hf28 : f < 28) (ht28 : t < 28) (hO : OPI C O) (hC : ∀ p, C p ≤ 300) (hcap : ∃ S0 : Nat → Bool, S0 f = true ∧ S0 t = false ∧ ct C S0 ≤ 40) : Met l ⟨"CutPoints$Flow", "fill", "(II)I"⟩ (Cond.code ⟨"CutPoints$Flow", "fill", "(II)I"⟩ prog_3_method_5_code 4 (some .int) :: TT) (rmk 3 70) (PM dC dI cI cJ cZ [.ref fl, .int (nI f), .int (nI t)] [(fl, .inr (4, [.ref rm, .ref op, .ref bf, .int sn0])), (rm, .inl (cI, 784, .inl (nF C))), (op, .inl (cI, 28, .inl O)), (bf, .inl (cI, 28, .inl (nF B)))]) (va_Qi (S := (Nat → Nat) × (Nat → Int32) × Int32 × (Nat → Nat)) (fun r u9 => ∃ fd, r = nI fd ∧ MC C f t fd u9.2.2.1) (fun u9 t9 => va_P (dC, dI) cls ([(fl, .inr (4, [.ref rm, .ref op, .ref bf, .int u9.2.2.1])), (rm, .inl (cI, 784, .inl (nF u9.1))), (op, .inl (cI, 28, .inl u9.2.1)), (bf, .inl (cI, 28, .inl (nF u9.2.2.2)))]) t9.heap) (ow [(fl, .inr (4, [.ref rm, .ref op, .ref bf, .int sn0])), (rm, .inl (cI, 784, .inl (nF C))), (op, .inl (cI, 28, .inl O)), (bf, .inl (cI, 28, .inl (nF B)))])) 0 0 (ow [(fl, .inr (4, [.ref rm, .ref op, .ref bf, .int sn0])), (rm, .inl (cI, 784, .inl (nF C))), (op, .inl (cI, 28, .inl O)), (bf, .inl (cI, 28, .inl (nF B)))]) := by
  refine Met.ofW (cc := prog_3_method_5_code) (maxL := 4) (ret := (some .int)) (by decide) rfl ?_
  intro p e s m args below meth c s₁ BB9 hml hv
  obtain ⟨rfl, hP, hK, hD0⟩ := hv
  have hx := BB9.exec
  have hb := BB9.bytes
  have hr := BB9.returns
  have hts : ∀ w ∈ TT, w.before _ s = true := fun w h => atoms_spec (ws := (Cond.code ⟨"CutPoints$Flow", "fill", "(II)I"⟩ prog_3_method_5_code 4 (some .int) :: TT)) BB9.pre w (List.mem_cons_of_mem _ h)
  have hown : s.vm.findClass "CutPoints$Flow" = some m.cls := findClass_of_methodNamed BB9.named
  have hlocks := BB9.notSynchronized
  have hD := hD0.mine
  have hS : va_S (ow [(fl, .inr (4, [.ref rm, .ref op, .ref bf, .int sn0])), (rm, .inl (cI, 784, .inl (nF C))), (op, .inl (cI, 28, .inl O)), (bf, .inl (cI, 28, .inl (nF B)))]) s.heap s.heap [] := va_S.rf
  have hl := lv_entry ([.ref fl, .int (nI f), .int (nI t)]) (n := 4) (Nat.le_of_ble_eq_true rfl)
  rw [lg_entry_eq]
  generalize (lg_sl ([.ref fl, .int (nI f), .int (nI t)]) ++ List.replicate (4 - (lg_sl ([.ref fl, .int (nI f), .int (nI t)])).length) Slot.unset).toArray = ls at hl ⊢
  have hl : lv_has ls 4 [(0, .ref fl), (1, .int (nI f)), (2, .int (nI t))] := hl
  refine lv_iconst (v := (nI 0)) hx hb d_FL_fill_0 (by decide) ?_
  refine lv_istore_n (lv' := [(3, .int (nI 0)), (0, .ref fl), (1, .int (nI f)), (2, .int (nI t))]) hx hb d_FL_fill_1 rfl hl (by decide) rfl (fun ls hl => ?_)
  have L2_1 : ∀ (n : Nat) (C2 : Nat → Nat) (O2 : Nat → Int32) (sn : Int32) (B2 : Nat → Nat) (fd : Nat) (hn : 41 - fd < n) (hfd : fd ≤ 41) (hfi : fiI C f t C2 O2 fd) (H : Heap) (locs : List Loc) (hP : va_P (dC, dI) cls [(fl, .inr (4, [.ref rm, .ref op, .ref bf, .int sn])), (rm, .inl (cI, 784, .inl (nF C2))), (op, .inl (cI, 28, .inl O2)), (bf, .inl (cI, 28, .inl (nF B2)))] H) (hD : va_D (ow [(fl, .inr (4, [.ref rm, .ref op, .ref bf, .int sn0])), (rm, .inl (cI, 784, .inl (nF C))), (op, .inl (cI, 28, .inl O)), (bf, .inl (cI, 28, .inl (nF B)))]) [(fl, .inr (4, [.ref rm, .ref op, .ref bf, .int sn])), (rm, .inl (cI, 784, .inl (nF C2))), (op, .inl (cI, 28, .inl O2)), (bf, .inl (cI, 28, .inl (nF B2)))]) (hS : va_S (ow [(fl, .inr (4, [.ref rm, .ref op, .ref bf, .int sn0])), (rm, .inl (cI, 784, .inl (nF C))), (op, .inl (cI, 28, .inl O)), (bf, .inl (cI, 28, .inl (nF B)))]) s.heap H locs) (ls : Array Slot) (hl : lv_has ls 4 [(0, .ref fl), (1, .int (nI f)), (2, .int (nI t)), (3, .int (nI fd))]), W p l e (headSpec (Cond.code ⟨"CutPoints$Flow", "fill", "(II)I"⟩ prog_3_method_5_code 4 (some .int) :: TT) (rmk 3 70)).room s m ([.ref fl, .int (nI f), .int (nI t)] : List Value).toArray below meth c H locs 0 0 (MQ below (va_Qi (S := (Nat → Nat) × (Nat → Int32) × Int32 × (Nat → Nat)) (fun r u9 => ∃ fd, r = nI fd ∧ MC C f t fd u9.2.2.1) (fun u9 t9 => va_P (dC, dI) cls ([(fl, .inr (4, [.ref rm, .ref op, .ref bf, .int u9.2.2.1])), (rm, .inl (cI, 784, .inl (nF u9.1))), (op, .inl (cI, 28, .inl u9.2.1)), (bf, .inl (cI, 28, .inl (nF u9.2.2.2)))]) t9.heap) (ow [(fl, .inr (4, [.ref rm, .ref op, .ref bf, .int sn0])), (rm, .inl (cI, 784, .inl (nF C))), (op, .inl (cI, 28, .inl O)), (bf, .inl (cI, 28, .inl (nF B)))])) ([.ref fl, .int (nI f), .int (nI t)] : List Value).toArray s 0 0 (ow [(fl, .inr (4, [.ref rm, .ref op, .ref bf, .int sn0])), (rm, .inl (cI, 784, .inl (nF C))), (op, .inl (cI, 28, .inl O)), (bf, .inl (cI, 28, .inl (nF B)))])) (F0 m 2 ls []) := by
    intro n_2
    induction n_2 with
    | zero =>
      intro C2 O2 sn B2 fd hn_2
      exact absurd hn_2 (Nat.not_lt_zero _)
    | succ n_2 ih_2 =>
      intro C2 O2 sn B2 fd hn_2 hfd hfi H locs hP hD hS ls hl
      refine lv_iload_n hx hb d_FL_fill_2 rfl (lv_at hl 3 rfl) ?_
      refine lv_bipush (v := (nI 40)) hx hb d_FL_fill_3 (by decide) ?_
      refine x_cmp_gt (a := fd) (b := 40) (tgt := 29) hx hb (by omega) (by omega) d_FL_fill_5 (by decide) (fun c_2 => ?_) (fun c_2 => ?_)
      · skip
        obtain ⟨S0, s1, s2, s3⟩ := hcap; exact absurd (hfi.2.1 S0 s1 s2) (by omega)
      · skip
        refine lv_aload_n hx hb d_FL_fill_8 rfl (lv_at hl 0 rfl) ?_
        refine lv_iload_n hx hb d_FL_fill_9 rfl (lv_at hl 1 rfl) ?_
        refine lv_iload_n hx hb d_FL_fill_10 rfl (lv_at hl 2 rfl) ?_
        refine x_ci (k_V (n := 2) (C := R_FL) (rest := []) ⟨hx, hb, hml, hown, hts⟩ (c_FL_search l dC dI cI cJ cZ fl rm op bf sn O2 B2 f t (by first | assumption | omega) (by first | assumption | omega) hfi.1.lt) wml_FL_53 wim_FL_search wsel_FL_search wini_FL wcode_FL_search (by decide +kernel) ⟨Nat.le_of_ble_eq_true rfl, Nat.le_of_ble_eq_true rfl⟩ (preV_M (q := (R_FL, F_FL, 4)) (ci := 4) (q0 := 0) (hP.sub (ws' := [(fl, .inr (4, [.ref rm, .ref op, .ref bf, .int sn])), (op, .inl (cI, 28, .inl O2)), (bf, .inl (cI, 28, .inl (nF B2)))]) [0, 2, 3] rfl) hK (hD.sub (ws' := [(fl, .inr (4, [.ref rm, .ref op, .ref bf, .int sn])), (op, .inl (cI, 28, .inl O2)), (bf, .inl (cI, 28, .inl (nF B2)))]) [0, 2, 3] (by decide) rfl) rfl rfl) rfl hl.1 rfl (Nat.le_of_ble_eq_true rfl) d_FL_fill_11 ⟨Nat.zero_le _, Nat.zero_le _⟩) hP hD hS [0, 2, 3] rfl (fun _ => rfl) (fun r_3 u_3 H locs hu_3 hP hS => ?_)
        obtain ⟨sn9_3, B9_3⟩ := u_3
        have hP : va_P (dC, dI) cls [(fl, .inr (4, [.ref rm, .ref op, .ref bf, .int sn9_3])), (rm, .inl (cI, 784, .inl (nF C2))), (op, .inl (cI, 28, .inl O2)), (bf, .inl (cI, 28, .inl (nF B9_3)))] H := hP
        have hD := hD.addr (ws' := [(fl, .inr (4, [.ref rm, .ref op, .ref bf, .int sn9_3])), (rm, .inl (cI, 784, .inl (nF C2))), (op, .inl (cI, 28, .inl O2)), (bf, .inl (cI, 28, .inl (nF B9_3)))]) rfl
        refine xe_i (y := (bI (bt sn9_3 t))) hu_3.1 ?_
        refine x_if_eq (tgt := 29) hx hb d_FL_fill_14 (by decide) (fun c_4 => ?_) (fun c_4 => ?_)
        · skip
          refine lv_iload_n hx hb d_FL_fill_29 rfl (lv_at hl 3 rfl) ?_
          exact W.iret (v := (nI fd)) hx hb hr (fun t9 ht9 _ => ⟨⟨_, (C2, O2, sn9_3, B9_3), rfl, ⟨_, rfl, fiI_e hfi hu_3.2.1 hu_3.2.2 c_4⟩, by show va_P (dC, dI) cls _ t9.heap; rw [ht9]; exact hP⟩, hS.F ht9⟩) hS.2.2 d_FL_fill_30
        · skip
          refine lv_aload_n hx hb d_FL_fill_17 rfl (lv_at hl 0 rfl) ?_
          refine lv_iload_n hx hb d_FL_fill_18 rfl (lv_at hl 1 rfl) ?_
          refine lv_iload_n hx hb d_FL_fill_19 rfl (lv_at hl 2 rfl) ?_
          refine x_cv (k_V (n := 2) (C := R_FL) (rest := []) ⟨hx, hb, hml, hown, hts⟩ (c_FL_push l dC dI cI cJ cZ fl rm op bf sn9_3 C2 O2 B9_3 f t (300 + 28 * fd) hfi.1 hu_3.2.1 c_4 hfi.2.2 (by omega)) wml_FL_57 wim_FL_push wsel_FL_push wini_FL wcode_FL_push (by decide +kernel) ⟨Nat.le_of_ble_eq_true rfl, Nat.le_of_ble_eq_true rfl⟩ (preV_M (q := (R_FL, F_FL, 4)) (ci := 4) (q0 := 0) (hP.sub (ws' := [(fl, .inr (4, [.ref rm, .ref op, .ref bf, .int sn9_3])), (rm, .inl (cI, 784, .inl (nF C2))), (op, .inl (cI, 28, .inl O2)), (bf, .inl (cI, 28, .inl (nF B9_3)))]) [0, 1, 2, 3] rfl) hK (hD.sub (ws' := [(fl, .inr (4, [.ref rm, .ref op, .ref bf, .int sn9_3])), (rm, .inl (cI, 784, .inl (nF C2))), (op, .inl (cI, 28, .inl O2)), (bf, .inl (cI, 28, .inl (nF B9_3)))]) [0, 1, 2, 3] (by decide) rfl) rfl rfl) rfl hl.1 rfl (Nat.le_of_ble_eq_true rfl) d_FL_fill_20 ⟨Nat.zero_le _, Nat.zero_le _⟩) hP hD hS [0, 1, 2, 3] rfl (fun _ => rfl) (fun u_5 H locs hu_5 hP hS => ?_)
          obtain ⟨C9_5, O9_5⟩ := u_5
          have hP : va_P (dC, dI) cls [(fl, .inr (4, [.ref rm, .ref op, .ref bf, .int sn9_3])), (rm, .inl (cI, 784, .inl (nF C9_5))), (op, .inl (cI, 28, .inl O9_5)), (bf, .inl (cI, 28, .inl (nF B9_3)))] H := hP
          have hD := hD.addr (ws' := [(fl, .inr (4, [.ref rm, .ref op, .ref bf, .int sn9_3])), (rm, .inl (cI, 784, .inl (nF C9_5))), (op, .inl (cI, 28, .inl O9_5)), (bf, .inl (cI, 28, .inl (nF B9_3)))]) rfl
          refine lv_iinc (v := (nI (fd + 1))) (lv' := [(3, .int (nI (fd + 1))), (0, .ref fl), (1, .int (nI f)), (2, .int (nI t))]) hx hb d_FL_fill_23 hl (k := 3) rfl (nI_1 _) (by decide) rfl (fun ls hl => ?_)
          refine lv_goto (tgt := 2) hx hb d_FL_fill_26 (by decide) ?_
          exact ih_2 C9_5 O9_5 sn9_3 B9_3 (fd + 1) (by omega) (by first | assumption | omega) (fiI_n hfi hu_5.1 hu_5.2.1 hu_5.2.2) _ _ hP hD hS ls (lv_sub hl [1, 2, 3, 0] rfl)
  exact L2_1 ((41 - 0) + 1) C O sn0 B 0 (Nat.lt_succ_self _) (by first | assumption | omega) ⟨hO, fun _ _ _ => Nat.add_zero _, fun p => Nat.le_trans (hC p) (by omega)⟩ _ _ hP hD hS ls (lv_sub hl [1, 2, 3, 0] rfl)
