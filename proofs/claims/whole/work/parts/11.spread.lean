theorem d_CP_spread_0 : decode prog_1_method_24_code 0 = .ok (.iconst 1, 1) := by decide +kernel
theorem d_CP_spread_1 : decode prog_1_method_24_code 1 = .ok (.iload_n 1, 1) := by decide +kernel
theorem d_CP_spread_2 : decode prog_1_method_24_code 2 = .ok (.ishl, 1) := by decide +kernel
theorem d_CP_spread_3 : decode prog_1_method_24_code 3 = .ok (.istore_n 3, 1) := by decide +kernel
theorem d_CP_spread_4 : decode prog_1_method_24_code 4 = .ok (.iconst 0, 1) := by decide +kernel
theorem d_CP_spread_5 : decode prog_1_method_24_code 5 = .ok (.istore 4, 2) := by decide +kernel
theorem d_CP_spread_7 : decode prog_1_method_24_code 7 = .ok (.iconst 0, 1) := by decide +kernel
theorem d_CP_spread_8 : decode prog_1_method_24_code 8 = .ok (.istore 5, 2) := by decide +kernel
theorem d_CP_spread_10 : decode prog_1_method_24_code 10 = .ok (.iload 5, 2) := by decide +kernel
theorem d_CP_spread_12 : decode prog_1_method_24_code 12 = .ok (.aload_n 0, 1) := by decide +kernel
theorem d_CP_spread_13 : decode prog_1_method_24_code 13 = .ok (.arraylength, 1) := by decide +kernel
theorem d_CP_spread_14 : decode prog_1_method_24_code 14 = .ok (.if_icmp .ge 53, 3) := by decide +kernel
theorem d_CP_spread_17 : decode prog_1_method_24_code 17 = .ok (.iload_n 3, 1) := by decide +kernel
theorem d_CP_spread_18 : decode prog_1_method_24_code 18 = .ok (.iload 4, 2) := by decide +kernel
theorem d_CP_spread_20 : decode prog_1_method_24_code 20 = .ok (.if_icmp .eq 47, 3) := by decide +kernel
theorem d_CP_spread_23 : decode prog_1_method_24_code 23 = .ok (.iload_n 3, 1) := by decide +kernel
theorem d_CP_spread_24 : decode prog_1_method_24_code 24 = .ok (.istore 4, 2) := by decide +kernel
theorem d_CP_spread_26 : decode prog_1_method_24_code 26 = .ok (.iconst 0, 1) := by decide +kernel
theorem d_CP_spread_27 : decode prog_1_method_24_code 27 = .ok (.istore 6, 2) := by decide +kernel
theorem d_CP_spread_29 : decode prog_1_method_24_code 29 = .ok (.iload 6, 2) := by decide +kernel
theorem d_CP_spread_31 : decode prog_1_method_24_code 31 = .ok (.aload_n 0, 1) := by decide +kernel
theorem d_CP_spread_32 : decode prog_1_method_24_code 32 = .ok (.arraylength, 1) := by decide +kernel
theorem d_CP_spread_33 : decode prog_1_method_24_code 33 = .ok (.if_icmp .ge 28, 3) := by decide +kernel
theorem d_CP_spread_36 : decode prog_1_method_24_code 36 = .ok (.iload_n 3, 1) := by decide +kernel
theorem d_CP_spread_37 : decode prog_1_method_24_code 37 = .ok (.i2l, 1) := by decide +kernel
theorem d_CP_spread_38 : decode prog_1_method_24_code 38 = .ok (.iload 6, 2) := by decide +kernel
theorem d_CP_spread_40 : decode prog_1_method_24_code 40 = .ok (.invokestatic 124, 3) := by decide +kernel
theorem d_CP_spread_43 : decode prog_1_method_24_code 43 = .ok (.ifCond .eq 12, 3) := by decide +kernel
theorem d_CP_spread_46 : decode prog_1_method_24_code 46 = .ok (.iload_n 3, 1) := by decide +kernel
theorem d_CP_spread_47 : decode prog_1_method_24_code 47 = .ok (.aload_n 0, 1) := by decide +kernel
theorem d_CP_spread_48 : decode prog_1_method_24_code 48 = .ok (.iload 6, 2) := by decide +kernel
theorem d_CP_spread_50 : decode prog_1_method_24_code 50 = .ok (.iaload, 1) := by decide +kernel
theorem d_CP_spread_51 : decode prog_1_method_24_code 51 = .ok (.iload_n 2, 1) := by decide +kernel
theorem d_CP_spread_52 : decode prog_1_method_24_code 52 = .ok (.iand, 1) := by decide +kernel
theorem d_CP_spread_53 : decode prog_1_method_24_code 53 = .ok (.ior, 1) := by decide +kernel
theorem d_CP_spread_54 : decode prog_1_method_24_code 54 = .ok (.istore_n 3, 1) := by decide +kernel
theorem d_CP_spread_55 : decode prog_1_method_24_code 55 = .ok (.iinc 6 1, 3) := by decide +kernel
theorem d_CP_spread_58 : decode prog_1_method_24_code 58 = .ok (.goto (-29), 3) := by decide +kernel
theorem d_CP_spread_61 : decode prog_1_method_24_code 61 = .ok (.iinc 5 1, 3) := by decide +kernel
theorem d_CP_spread_64 : decode prog_1_method_24_code 64 = .ok (.goto (-54), 3) := by decide +kernel
theorem d_CP_spread_67 : decode prog_1_method_24_code 67 = .ok (.iload_n 3, 1) := by decide +kernel
theorem d_CP_spread_68 : decode prog_1_method_24_code 68 = .ok (.ireturn, 1) := by decide +kernel
set_option maxHeartbeats 4000000 in
set_option maxRecDepth 100000 in
theorem c_CP_spread (l : Launch) (dC : Nat → ClassId) (dI : Nat → Nat → Nat) (cI cJ cZ : ClassId) (a : Nat) (r : Nat → Int32) (f : Nat) (w : Int32) (hf : f < 14) (hrw : ∀ a b, rE r w a b → b < 14) : Met l ⟨"CutPoints", "spread", "([III)I"⟩ (Cond.code ⟨"CutPoints", "spread", "([III)I"⟩ prog_1_method_24_code 7 (some .int) :: TT) (rmk 1 22) (PR dC dI cI cJ cZ [.ref a, .int (nI f), .int w] [(a, .inl (cI, 14, .inl r))]) (vp_Si (fun x => SpR r f w x)) 0 0 (fun _ => False) := by
  refine Met.ofW (cc := prog_1_method_24_code) (maxL := 7) (ret := (some .int)) (by decide) rfl ?_
  intro p e s m args below meth c s₁ B hml hv
  obtain ⟨rfl, hP, hK⟩ := hv
  have hx := B.exec
  have hb := B.bytes
  have hr := B.returns
  have hts : ∀ w ∈ TT, w.before _ s = true := fun w h => atoms_spec (ws := (Cond.code ⟨"CutPoints", "spread", "([III)I"⟩ prog_1_method_24_code 7 (some .int) :: TT)) B.pre w (List.mem_cons_of_mem _ h)
  have hown : s.vm.findClass "CutPoints" = some m.cls := findClass_of_methodNamed B.named
  have hlocks := B.notSynchronized
  have hl := lv_entry ([.ref a, .int (nI f), .int w]) (n := 7) (Nat.le_of_ble_eq_true rfl)
  rw [lg_entry_eq]
  generalize (lg_sl ([.ref a, .int (nI f), .int w]) ++ List.replicate (7 - (lg_sl ([.ref a, .int (nI f), .int w])).length) Slot.unset).toArray = ls at hl ⊢
  have hl : lv_has ls 7 [(0, .ref a), (1, .int (nI f)), (2, .int w)] := hl
  refine lv_iconst (v := (nI 1)) hx hb d_CP_spread_0 (by decide) ?_
  refine lv_iload_n hx hb d_CP_spread_1 rfl (lv_at hl 1 rfl) ?_
  refine lv_ishl hx hb d_CP_spread_2 ?_
  refine xe_i (y := (sb f)) rfl ?_
  refine lv_istore_n (lv' := [(3, .int (sb f)), (0, .ref a), (1, .int (nI f)), (2, .int w)]) hx hb d_CP_spread_3 rfl hl (by decide) rfl (fun ls hl => ?_)
  refine lv_iconst (v := (nI 0)) hx hb d_CP_spread_4 (by decide) ?_
  refine lv_istore (lv' := [(4, .int (nI 0)), (3, .int (sb f)), (0, .ref a), (1, .int (nI f)), (2, .int w)]) hx hb d_CP_spread_5 hl (by decide) rfl (fun ls hl => ?_)
  refine lv_iconst (v := (nI 0)) hx hb d_CP_spread_7 (by decide) ?_
  refine lv_istore (lv' := [(5, .int (nI 0)), (4, .int (nI 0)), (3, .int (sb f)), (0, .ref a), (1, .int (nI f)), (2, .int w)]) hx hb d_CP_spread_8 hl (by decide) rfl (fun ls hl => ?_)
  have L10_1 : ∀ (n : Nat) (sn : Int32) (bf : Int32) (rd : Nat) (hn : 14 - rd < n) (ho : spO r f w sn bf rd) (ls : Array Slot) (hl : lv_has ls 7 [(0, .ref a), (1, .int (nI f)), (2, .int w), (3, .int sn), (4, .int bf), (5, .int (nI rd))]), W p l e (headSpec (Cond.code ⟨"CutPoints", "spread", "([III)I"⟩ prog_1_method_24_code 7 (some .int) :: TT) (rmk 1 22)).room s m ([.ref a, .int (nI f), .int w] : List Value).toArray below meth c s.heap [] 0 0 (MQ below (vp_Si (fun x => SpR r f w x)) ([.ref a, .int (nI f), .int w] : List Value).toArray s 0 0 (fun _ => False)) (F0 m 10 ls []) := by
    intro n_10
    induction n_10 with
    | zero =>
      intro sn bf rd hn_10
      exact absurd hn_10 (Nat.not_lt_zero _)
    | succ n_10 ih_10 =>
      intro sn bf rd hn_10 ho ls hl
      have hrd := ho.1
      refine lv_iload hx hb d_CP_spread_10 (lv_at hl 5 rfl) ?_
      refine lv_aload_n hx hb d_CP_spread_12 rfl (lv_at hl 0 rfl) ?_
      refine va_alen (v := nI 14) hx hb hK.1 hP 0 0 rfl rfl rfl d_CP_spread_13 ?_
      refine x_cmp_ge (a := rd) (b := 14) (tgt := 67) hx hb (by omega) (by omega) d_CP_spread_14 (by decide) (fun c_2 => ?_) (fun c_2 => ?_)
      · skip
        refine lv_iload_n hx hb d_CP_spread_67 rfl (lv_at hl 3 rfl) ?_
        exact W.iret (v := sn) hx hb hr (fun t ht _ => ⟨_, rfl, (spO_end ho (by first | exact Or.inl (by assumption) | exact Or.inr (by assumption))), ht⟩) t_nil d_CP_spread_68
      · skip
        refine lv_iload_n hx hb d_CP_spread_17 rfl (lv_at hl 3 rfl) ?_
        refine lv_iload hx hb d_CP_spread_18 (lv_at hl 4 rfl) ?_
        refine lv_icmp_eq (tgt := 67) hx hb d_CP_spread_20 (by decide) (fun c_3 => ?_) (fun c_3 => ?_)
        · skip
          refine lv_iload_n hx hb d_CP_spread_67 rfl (lv_at hl 3 rfl) ?_
          exact W.iret (v := sn) hx hb hr (fun t ht _ => ⟨_, rfl, (spO_end ho (by first | exact Or.inl (by assumption) | exact Or.inr (by assumption))), ht⟩) t_nil d_CP_spread_68
        · skip
          refine lv_iload_n hx hb d_CP_spread_23 rfl (lv_at hl 3 rfl) ?_
          refine lv_istore (lv' := [(4, .int sn), (0, .ref a), (1, .int (nI f)), (2, .int w), (3, .int sn), (5, .int (nI rd))]) hx hb d_CP_spread_24 hl (by decide) rfl (fun ls hl => ?_)
          refine lv_iconst (v := (nI 0)) hx hb d_CP_spread_26 (by decide) ?_
          refine lv_istore (lv' := [(6, .int (nI 0)), (4, .int sn), (0, .ref a), (1, .int (nI f)), (2, .int w), (3, .int sn), (5, .int (nI rd))]) hx hb d_CP_spread_27 hl (by decide) rfl (fun ls hl => ?_)
          have L29_4 : ∀ (n : Nat) (s2 : Int32) (i : Nat) (hn : 14 - i < n) (hi : i ≤ 14) (hj : spJ r f w sn s2 i) (ls : Array Slot) (hl : lv_has ls 7 [(0, .ref a), (1, .int (nI f)), (2, .int w), (3, .int s2), (4, .int sn), (5, .int (nI rd)), (6, .int (nI i))]), W p l e (headSpec (Cond.code ⟨"CutPoints", "spread", "([III)I"⟩ prog_1_method_24_code 7 (some .int) :: TT) (rmk 1 22)).room s m ([.ref a, .int (nI f), .int w] : List Value).toArray below meth c s.heap [] 0 0 (MQ below (vp_Si (fun x => SpR r f w x)) ([.ref a, .int (nI f), .int w] : List Value).toArray s 0 0 (fun _ => False)) (F0 m 29 ls []) := by
            intro n_29
            induction n_29 with
            | zero =>
              intro s2 i hn_29
              exact absurd hn_29 (Nat.not_lt_zero _)
            | succ n_29 ih_29 =>
              intro s2 i hn_29 hi hj ls hl
              refine lv_iload hx hb d_CP_spread_29 (lv_at hl 6 rfl) ?_
              refine lv_aload_n hx hb d_CP_spread_31 rfl (lv_at hl 0 rfl) ?_
              refine va_alen (v := nI 14) hx hb hK.1 hP 0 0 rfl rfl rfl d_CP_spread_32 ?_
              refine x_cmp_ge (a := i) (b := 14) (tgt := 61) hx hb (by omega) (by omega) d_CP_spread_33 (by decide) (fun c_5 => ?_) (fun c_5 => ?_)
              · skip
                refine lv_iinc (v := (nI (rd + 1))) (lv' := [(5, .int (nI (rd + 1))), (0, .ref a), (1, .int (nI f)), (2, .int w), (3, .int s2), (4, .int sn), (6, .int (nI i))]) hx hb d_CP_spread_61 hl (k := 5) rfl (nI_1 _) (by decide) rfl (fun ls hl => ?_)
                refine lv_goto (tgt := 10) hx hb d_CP_spread_64 (by decide) ?_
                exact ih_10 s2 sn (rd + 1) (by omega) (spO_n ho (by assumption) (by assumption) hj (by assumption)) ls (lv_sub hl [1, 2, 3, 4, 5, 0] rfl)
              · skip
                refine lv_iload_n hx hb d_CP_spread_36 rfl (lv_at hl 3 rfl) ?_
                refine lv_i2l (v := s2.toInt64) hx hb d_CP_spread_37 rfl ?_
                refine lv_iload hx hb d_CP_spread_38 (lv_at hl 6 rfl) ?_
                refine vp_callSi (va_Run.run (k_S (n := 2) (rest := []) ⟨hx, hb, hml, hown, hts⟩ (c_CP_hasBit l dC dI cI cJ cZ s2.toInt64 i (by first | assumption | omega)) wml_CP_124 wst_CP_hasBit wini_CP wcode_CP_hasBit (by decide +kernel) ⟨Nat.le_of_ble_eq_true rfl, Nat.le_of_ble_eq_true rfl⟩ (pre_R (hP.sub (ws' := []) [] rfl) hK) rfl hl.1 rfl (Nat.le_of_ble_eq_true rfl) d_CP_spread_40 ⟨Nat.zero_le _, Nat.zero_le _⟩)) (fun r_6 hr_7 => ?_)
                refine xe_i (y := (bI (lb s2.toInt64 i))) hr_7 ?_
                refine xe_i (y := (bI (bt s2 i))) (by rw [lb_i2l _ (by omega)]) ?_
                refine x_if_eq (tgt := 55) hx hb d_CP_spread_43 (by decide) (fun c_8 => ?_) (fun c_8 => ?_)
                · skip
                  refine lv_iinc (v := (nI (i + 1))) (lv' := [(6, .int (nI (i + 1))), (0, .ref a), (1, .int (nI f)), (2, .int w), (3, .int s2), (4, .int sn), (5, .int (nI rd))]) hx hb d_CP_spread_55 hl (k := 6) rfl (nI_1 _) (by decide) rfl (fun ls hl => ?_)
                  refine lv_goto (tgt := 29) hx hb d_CP_spread_58 (by decide) ?_
                  exact ih_29 s2 (i + 1) (by omega) (by first | assumption | omega) (spJ_f hj c_8) ls (lv_sub hl [1, 2, 3, 4, 5, 6, 0] rfl)
                · skip
                  refine lv_iload_n hx hb d_CP_spread_46 rfl (lv_at hl 3 rfl) ?_
                  refine lv_aload_n hx hb d_CP_spread_47 rfl (lv_at hl 0 rfl) ?_
                  refine lv_iload hx hb d_CP_spread_48 (lv_at hl 6 rfl) ?_
                  refine x_iald (n := 14) (f := r) (j := i) hx hb hK.1 hP 0 0 rfl rfl (by omega) (by omega) d_CP_spread_50 ?_
                  refine lv_iload_n hx hb d_CP_spread_51 rfl (lv_at hl 2 rfl) ?_
                  refine lv_iand hx hb d_CP_spread_52 ?_
                  refine lv_ior hx hb d_CP_spread_53 ?_
                  refine lv_istore_n (lv' := [(3, .int (s2 ||| ((r i) &&& w))), (0, .ref a), (1, .int (nI f)), (2, .int w), (4, .int sn), (5, .int (nI rd)), (6, .int (nI i))]) hx hb d_CP_spread_54 rfl hl (by decide) rfl (fun ls hl => ?_)
                  refine lv_iinc (v := (nI (i + 1))) (lv' := [(6, .int (nI (i + 1))), (3, .int (s2 ||| ((r i) &&& w))), (0, .ref a), (1, .int (nI f)), (2, .int w), (4, .int sn), (5, .int (nI rd))]) hx hb d_CP_spread_55 hl (k := 6) rfl (nI_1 _) (by decide) rfl (fun ls hl => ?_)
                  refine lv_goto (tgt := 29) hx hb d_CP_spread_58 (by decide) ?_
                  exact ih_29 (s2 ||| ((r i) &&& w)) (i + 1) (by omega) (by first | assumption | omega) (spJ_t hrw (by assumption) hj c_8) ls (lv_sub hl [2, 3, 4, 1, 5, 6, 0] rfl)
          exact L29_4 ((14 - 0) + 1) sn 0 (Nat.lt_succ_self _) (by first | assumption | omega) (spJ_0 ho) ls (lv_sub hl [2, 3, 4, 5, 1, 6, 0] rfl)
  exact L10_1 ((14 - 0) + 1) (sb f) (nI 0) 0 (Nat.lt_succ_self _) (spO_0 hf) ls (lv_sub hl [3, 4, 5, 2, 1, 0] rfl)
