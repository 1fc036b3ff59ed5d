/-! ===== 87.law2: cases of the law ===== -/
set_option maxHeartbeats 8000000 in
set_option maxRecDepth 100000 in
theorem lw_count {p : Program} {l : Launch} {e : Env} {s : State} {m : MethodId} {args : Array Value} {below : List Frame} {meth : Method} {c : Code} {H : Heap} {locs : List Loc} {Q : State → Prop} {dC : Nat → ClassId} {dI : Nat → Nat → Nat} {cI cJ cZ : ClassId} {A0 : Nat → Prop} {sc L : Nat} {xs : Nat → Int32} {ls : Array Slot} (X : LX p s m args c dC dI cI cJ cZ A0 sc L xs) {i : Nat} (hi : i + 3 ≤ L) {ca : CA} {ma : MA} {u : CS} {v : MS} (hI : LI u v) (hP : va_P (dC, dI) cls (WL cI cJ cZ ca ma u v) H) (hD : va_D A0 (WL cI cJ cZ ca ma u v)) (hS : va_S A0 s.heap H locs) (hl : lv_has ls 4 [(0, .ref sc), (1, .ref ca.cp), (2, .ref ma.o), (3, .int (nI i))])
    (kk : ∀ (u1 : CS) (v1 : MS) (H1 : Heap) (locs1 : List Loc), LI u1 v1 → va_P (dC, dI) cls (WL cI cJ cZ ca ma u1 v1) H1 → va_D A0 (WL cI cJ cZ ca ma u1 v1) → va_S A0 s.heap H1 locs1 → W p l e room_1 s m args below meth c H1 locs1 40 19226 Q (F0 m 609 ls [])) : W p l e room_1 s m args below meth c H locs 40 19226 Q (F0 m 204 ls []) := by
  obtain ⟨hx, hb, hml, hown, hts, hK, hX, hbl, hbA, hL⟩ := X
  have hRc : 40 ≤ room_1.cells := Nat.le_of_ble_eq_true rfl
  have hRs : 19226 ≤ room_1.slots := Nat.le_of_ble_eq_true rfl
  obtain ⟨nd, ar, pr, F, G, N, Fm, Rs, A, z, Se, al, br, N2, Fm2, Rs2, A2, zi2, S2, al2, br2, Cr, Op, Bf, sn, Ld, zi, Sg, Pi, Bo, pci, Gd, gci, bl0⟩ := u
  obtain ⟨th, ndm, arm, be, bz, sz, F', G', P, Nm, Wm, Td, Ob, Sp, D⟩ := v
  obtain ⟨hGA, hSK, hB0, e1, e2, hF, hG, hLK, hTd⟩ := hI
  have e1 : nd = ndm := e1
  have e2 : ar = arm := e2
  subst e1
  subst e2
  have hGA : GAR F G nd ar pr := hGA
  have hSK : SKI (lb pr) F G nd N Fm A Se z al br := hSK
  have hB0 : Bo 0 = 0 := hB0
  have hF : ∀ k, F' k < 14 := hF
  have hG : ∀ k, G' k < 14 := hG
  have hLK : LK F G pr F' G' P ar := hLK
  have hTd : ∀ k, Td k < 3 := hTd
  have hnd14 : nd ≤ 14 := hGA.1
  have har : ar ≤ 40 := hGA.2.1
  have hM := (lk_M hLK hGA).1
  have hNE := (lk_M hLK hGA).2
  refine lv_aload_n hx hb d_LW_law_204 rfl (lv_at hl 1 rfl) ?_
  refine lv_aload_n hx hb d_LW_law_205 rfl (lv_at hl 0 rfl) ?_
  refine lv_iload_n hx hb d_LW_law_206 rfl (lv_at hl 3 rfl) ?_
  refine lv_iconst (v := (nI 1)) hx hb d_LW_law_207 (by decide) ?_
  refine lv_iadd hx hb d_LW_law_208 ?_
  refine xe_i (nI_add _ _) ?_
  refine x_sld hx hb hX hbl hbA hS (by omega) hL d_LW_law_209 ?_
  rcases cnt_cases (xs (i + 1)) with ex | ex | ex | ex | ex | ex | ex | ex | ex | hout
  · skip
    rw [ex]
    refine vp_callSi (va_Run.run (k_V (n := 1) (C := R_CP) (rest := []) ⟨hx, hb, hml, hown, hts⟩ (c_CP_count_0 l dC dI cI cJ cZ ca.cp ca.g ca.k ca.k2 ca.fl ca.co ca.sp ca.a1 ca.a2 nd ar pr F G (by first | assumption | omega) ca.nr ca.fr ca.rs ca.at_ ca.h al br N Fm A ca.b1 z Se (by first | assumption | omega)) wml_LW_32 wim_CP_count wsel_CP_count wini_CP wcode_CP_count (by decide +kernel) ⟨Nat.le_of_ble_eq_true rfl, Nat.le_of_ble_eq_true rfl⟩ (preV_R (q := (R_CP, F_CP, 6)) (ci := 0) (q0 := 0) (hP.sub (ws' := [(ca.cp, .inr (0, [.ref ca.g, .ref ca.k, .ref ca.k2, .ref ca.fl, .ref ca.co, .ref ca.sp])), (ca.g, .inr (1, [.ref ca.a1, .ref ca.a2, .int (nI nd), .int (nI ar), .long pr]))]) [0, 1] rfl) hK rfl rfl) rfl hl.1 rfl (Nat.le_of_ble_eq_true rfl) d_LW_law_210 ⟨hRc, hRs⟩)) (fun r_1 hr_2 => ?_)
    refine xe_i (y := (nI nd)) hr_2 ?_
    refine lv_aload_n hx hb d_LW_law_213 rfl (lv_at hl 2 rfl) ?_
    refine lv_aload_n hx hb d_LW_law_214 rfl (lv_at hl 0 rfl) ?_
    refine lv_iload_n hx hb d_LW_law_215 rfl (lv_at hl 3 rfl) ?_
    refine lv_iconst (v := (nI 1)) hx hb d_LW_law_216 (by decide) ?_
    refine lv_iadd hx hb d_LW_law_217 ?_
    refine xe_i (nI_add _ _) ?_
    refine x_sld hx hb hX hbl hbA hS (by omega) hL d_LW_law_218 ?_
    rw [ex]
    refine x_ci (k_V (n := 1) (C := R_MO) (rest := [.int (nI nd)]) ⟨hx, hb, hml, hown, hts⟩ (c_MO_count_0 l dC dI cI cJ cZ ma.o ma.fF ma.fG ma.fT ma.fN ma.fW ma.fO ma.fB ma.fS ma.fD th be bz sz nd ar) wml_LW_35 wim_MO_count wsel_MO_count wini_MO wcode_MO_count (by decide +kernel) ⟨Nat.le_of_ble_eq_true rfl, Nat.le_of_ble_eq_true rfl⟩ (preV_M (q := (R_MO, F_MO, 15)) (ci := 7) (q0 := 0) (hP.sub (ws' := [(ma.o, .inr (7, [.int th, .int (nI nd), .int (nI ar), .ref ma.fF, .ref ma.fG, .ref ma.fT, .ref ma.fN, .ref ma.fW, .int be, .ref ma.fO, .ref ma.fB, .int bz, .ref ma.fS, .ref ma.fD, .int sz]))]) [30] rfl) hK (hD.sub (ws' := [(ma.o, .inr (7, [.int th, .int (nI nd), .int (nI ar), .ref ma.fF, .ref ma.fG, .ref ma.fT, .ref ma.fN, .ref ma.fW, .int be, .ref ma.fO, .ref ma.fB, .int bz, .ref ma.fS, .ref ma.fD, .int sz]))]) [30] (by decide) rfl) rfl rfl) rfl hl.1 rfl (Nat.le_of_ble_eq_true rfl) d_LW_law_219 ⟨hRc, hRs⟩) hP hD hS [30] rfl (fun _ => rfl) (fun r_3 u_3 H locs hu_3 hP hS => ?_)
    have hP : va_P (dC, dI) cls (WL cI cJ cZ ca ma ⟨nd, ar, pr, F, G, N, Fm, Rs, A, z, Se, al, br, N2, Fm2, Rs2, A2, zi2, S2, al2, br2, Cr, Op, Bf, sn, Ld, zi, Sg, Pi, Bo, pci, Gd, gci, bl0⟩ ⟨(nI 0), nd, ar, be, bz, sz, F', G', P, Nm, Wm, Td, Ob, Sp, D⟩) H := hP
    have hD := hD.addr (ws' := (WL cI cJ cZ ca ma ⟨nd, ar, pr, F, G, N, Fm, Rs, A, z, Se, al, br, N2, Fm2, Rs2, A2, zi2, S2, al2, br2, Cr, Op, Bf, sn, Ld, zi, Sg, Pi, Bo, pci, Gd, gci, bl0⟩ ⟨(nI 0), nd, ar, be, bz, sz, F', G', P, Nm, Wm, Td, Ob, Sp, D⟩)) rfl
    have hag : r_3 = (nI nd) := hu_3
    refine xe_i (y := (nI nd)) hag ?_
    refine lv_icmp_eq (tgt := 609) hx hb d_LW_law_222 (by decide) (fun _ => ?_) (fun q9 => absurd rfl q9)
    exact kk ⟨nd, ar, pr, F, G, N, Fm, Rs, A, z, Se, al, br, N2, Fm2, Rs2, A2, zi2, S2, al2, br2, Cr, Op, Bf, sn, Ld, zi, Sg, Pi, Bo, pci, Gd, gci, bl0⟩ ⟨(nI 0), nd, ar, be, bz, sz, F', G', P, Nm, Wm, Td, Ob, Sp, D⟩ H locs ⟨hGA, hSK, hB0, rfl, rfl, hF, hG, hLK, hTd⟩ hP hD hS
  · skip
    rw [ex]
    refine vp_callSi (va_Run.run (k_V (n := 1) (C := R_CP) (rest := []) ⟨hx, hb, hml, hown, hts⟩ (c_CP_count_1 l dC dI cI cJ cZ ca.cp ca.g ca.k ca.k2 ca.fl ca.co ca.sp ca.a1 ca.a2 nd ar pr F G (by first | assumption | omega) ca.nr ca.fr ca.rs ca.at_ ca.h al br N Fm A ca.b1 z Se (by first | assumption | omega)) wml_LW_32 wim_CP_count wsel_CP_count wini_CP wcode_CP_count (by decide +kernel) ⟨Nat.le_of_ble_eq_true rfl, Nat.le_of_ble_eq_true rfl⟩ (preV_R (q := (R_CP, F_CP, 6)) (ci := 0) (q0 := 0) (hP.sub (ws' := [(ca.cp, .inr (0, [.ref ca.g, .ref ca.k, .ref ca.k2, .ref ca.fl, .ref ca.co, .ref ca.sp])), (ca.g, .inr (1, [.ref ca.a1, .ref ca.a2, .int (nI nd), .int (nI ar), .long pr]))]) [0, 1] rfl) hK rfl rfl) rfl hl.1 rfl (Nat.le_of_ble_eq_true rfl) d_LW_law_210 ⟨hRc, hRs⟩)) (fun r_4 hr_5 => ?_)
    refine xe_i (y := (nI (cn (lb pr) 64))) hr_5 ?_
    refine lv_aload_n hx hb d_LW_law_213 rfl (lv_at hl 2 rfl) ?_
    refine lv_aload_n hx hb d_LW_law_214 rfl (lv_at hl 0 rfl) ?_
    refine lv_iload_n hx hb d_LW_law_215 rfl (lv_at hl 3 rfl) ?_
    refine lv_iconst (v := (nI 1)) hx hb d_LW_law_216 (by decide) ?_
    refine lv_iadd hx hb d_LW_law_217 ?_
    refine xe_i (nI_add _ _) ?_
    refine x_sld hx hb hX hbl hbA hS (by omega) hL d_LW_law_218 ?_
    rw [ex]
    refine x_ci (k_V (n := 1) (C := R_MO) (rest := [.int (nI (cn (lb pr) 64))]) ⟨hx, hb, hml, hown, hts⟩ (c_MO_count_1 l dC dI cI cJ cZ ma.o ma.fF ma.fG ma.fT ma.fN ma.fW ma.fO ma.fB ma.fS ma.fD th be bz sz nd ar P (by first | assumption | omega)) wml_LW_35 wim_MO_count wsel_MO_count wini_MO wcode_MO_count (by decide +kernel) ⟨Nat.le_of_ble_eq_true rfl, Nat.le_of_ble_eq_true rfl⟩ (preV_M (q := (R_MO, F_MO, 15)) (ci := 7) (q0 := 0) (hP.sub (ws' := [(ma.o, .inr (7, [.int th, .int (nI nd), .int (nI ar), .ref ma.fF, .ref ma.fG, .ref ma.fT, .ref ma.fN, .ref ma.fW, .int be, .ref ma.fO, .ref ma.fB, .int bz, .ref ma.fS, .ref ma.fD, .int sz])), (ma.fT, .inl (cZ, 41, .inl (bF P)))]) [30, 33] rfl) hK (hD.sub (ws' := [(ma.o, .inr (7, [.int th, .int (nI nd), .int (nI ar), .ref ma.fF, .ref ma.fG, .ref ma.fT, .ref ma.fN, .ref ma.fW, .int be, .ref ma.fO, .ref ma.fB, .int bz, .ref ma.fS, .ref ma.fD, .int sz])), (ma.fT, .inl (cZ, 41, .inl (bF P)))]) [30, 33] (by decide) rfl) rfl rfl) rfl hl.1 rfl (Nat.le_of_ble_eq_true rfl) d_LW_law_219 ⟨hRc, hRs⟩) hP hD hS [30, 33] rfl (fun _ => rfl) (fun r_6 u_6 H locs hu_6 hP hS => ?_)
    have hP : va_P (dC, dI) cls (WL cI cJ cZ ca ma ⟨nd, ar, pr, F, G, N, Fm, Rs, A, z, Se, al, br, N2, Fm2, Rs2, A2, zi2, S2, al2, br2, Cr, Op, Bf, sn, Ld, zi, Sg, Pi, Bo, pci, Gd, gci, bl0⟩ ⟨(nI 0), nd, ar, be, bz, sz, F', G', P, Nm, Wm, Td, Ob, Sp, D⟩) H := hP
    have hD := hD.addr (ws' := (WL cI cJ cZ ca ma ⟨nd, ar, pr, F, G, N, Fm, Rs, A, z, Se, al, br, N2, Fm2, Rs2, A2, zi2, S2, al2, br2, Cr, Op, Bf, sn, Ld, zi, Sg, Pi, Bo, pci, Gd, gci, bl0⟩ ⟨(nI 0), nd, ar, be, bz, sz, F', G', P, Nm, Wm, Td, Ob, Sp, D⟩)) rfl
    have hag : r_6 = (nI (cn (lb pr) 64)) := hu_6.trans (congrArg nI (cnt_eq hLK).symm)
    refine xe_i (y := (nI (cn (lb pr) 64))) hag ?_
    refine lv_icmp_eq (tgt := 609) hx hb d_LW_law_222 (by decide) (fun _ => ?_) (fun q9 => absurd rfl q9)
    exact kk ⟨nd, ar, pr, F, G, N, Fm, Rs, A, z, Se, al, br, N2, Fm2, Rs2, A2, zi2, S2, al2, br2, Cr, Op, Bf, sn, Ld, zi, Sg, Pi, Bo, pci, Gd, gci, bl0⟩ ⟨(nI 0), nd, ar, be, bz, sz, F', G', P, Nm, Wm, Td, Ob, Sp, D⟩ H locs ⟨hGA, hSK, hB0, rfl, rfl, hF, hG, hLK, hTd⟩ hP hD hS
  · skip
    rw [ex]
    refine vp_callSi (va_Run.run (k_V (n := 1) (C := R_CP) (rest := []) ⟨hx, hb, hml, hown, hts⟩ (c_CP_count_2 l dC dI cI cJ cZ ca.cp ca.g ca.k ca.k2 ca.fl ca.co ca.sp ca.a1 ca.a2 nd ar pr F G (by first | assumption | omega) ca.nr ca.fr ca.rs ca.at_ ca.h al br N Fm A ca.b1 z Se (by first | assumption | omega)) wml_LW_32 wim_CP_count wsel_CP_count wini_CP wcode_CP_count (by decide +kernel) ⟨Nat.le_of_ble_eq_true rfl, Nat.le_of_ble_eq_true rfl⟩ (preV_R (q := (R_CP, F_CP, 6)) (ci := 0) (q0 := 0) (hP.sub (ws' := [(ca.cp, .inr (0, [.ref ca.g, .ref ca.k, .ref ca.k2, .ref ca.fl, .ref ca.co, .ref ca.sp])), (ca.k, .inr (2, [.ref ca.nr, .ref ca.fr, .ref ca.rs, .ref ca.at_, .ref ca.h, .int al, .long br])), (ca.nr, .inl (cI, 14, .inl N))]) [0, 4, 5] rfl) hK rfl rfl) rfl hl.1 rfl (Nat.le_of_ble_eq_true rfl) d_LW_law_210 ⟨hRc, hRs⟩)) (fun r_7 hr_8 => ?_)
    refine xe_i (y := (nI (cn (lead N al) 14))) hr_8 ?_
    refine lv_aload_n hx hb d_LW_law_213 rfl (lv_at hl 2 rfl) ?_
    refine lv_aload_n hx hb d_LW_law_214 rfl (lv_at hl 0 rfl) ?_
    refine lv_iload_n hx hb d_LW_law_215 rfl (lv_at hl 3 rfl) ?_
    refine lv_iconst (v := (nI 1)) hx hb d_LW_law_216 (by decide) ?_
    refine lv_iadd hx hb d_LW_law_217 ?_
    refine xe_i (nI_add _ _) ?_
    refine x_sld hx hb hX hbl hbA hS (by omega) hL d_LW_law_218 ?_
    rw [ex]
    refine x_ci (k_V (n := 1) (C := R_MO) (rest := [.int (nI (cn (lead N al) 14))]) ⟨hx, hb, hml, hown, hts⟩ (c_MO_count_2 l dC dI cI cJ cZ ma.o ma.fF ma.fG ma.fT ma.fN ma.fW ma.fO ma.fB ma.fS ma.fD th be bz sz nd ar F' G' P (by first | assumption | omega) (by first | assumption | omega) (by first | assumption | omega) (by first | assumption | omega) (by first | assumption | omega) Nm) wml_LW_35 wim_MO_count wsel_MO_count wini_MO wcode_MO_count (by decide +kernel) ⟨Nat.le_of_ble_eq_true rfl, Nat.le_of_ble_eq_true rfl⟩ (preV_M (q := (R_MO, F_MO, 15)) (ci := 7) (q0 := 0) (hP.sub (ws' := [(ma.o, .inr (7, [.int th, .int (nI nd), .int (nI ar), .ref ma.fF, .ref ma.fG, .ref ma.fT, .ref ma.fN, .ref ma.fW, .int be, .ref ma.fO, .ref ma.fB, .int bz, .ref ma.fS, .ref ma.fD, .int sz])), (ma.fF, .inl (cI, 41, .inl (nF F'))), (ma.fG, .inl (cI, 41, .inl (nF G'))), (ma.fT, .inl (cZ, 41, .inl (bF P))), (ma.fN, .inl (cI, 14, .inl Nm))]) [30, 31, 32, 33, 34] rfl) hK (hD.sub (ws' := [(ma.o, .inr (7, [.int th, .int (nI nd), .int (nI ar), .ref ma.fF, .ref ma.fG, .ref ma.fT, .ref ma.fN, .ref ma.fW, .int be, .ref ma.fO, .ref ma.fB, .int bz, .ref ma.fS, .ref ma.fD, .int sz])), (ma.fF, .inl (cI, 41, .inl (nF F'))), (ma.fG, .inl (cI, 41, .inl (nF G'))), (ma.fT, .inl (cZ, 41, .inl (bF P))), (ma.fN, .inl (cI, 14, .inl Nm))]) [30, 31, 32, 33, 34] (by decide) rfl) rfl rfl) rfl hl.1 rfl (Nat.le_of_ble_eq_true rfl) d_LW_law_219 ⟨hRc, hRs⟩) hP hD hS [30, 31, 32, 33, 34] rfl (fun _ => rfl) (fun r_9 u_9 H locs hu_9 hP hS => ?_)
    obtain ⟨N9_9, rfl⟩ : ∃ z, z = u_9 := ⟨_, rfl⟩
    have hP : va_P (dC, dI) cls (WL cI cJ cZ ca ma ⟨nd, ar, pr, F, G, N, Fm, Rs, A, z, Se, al, br, N2, Fm2, Rs2, A2, zi2, S2, al2, br2, Cr, Op, Bf, sn, Ld, zi, Sg, Pi, Bo, pci, Gd, gci, bl0⟩ ⟨(nI 0), nd, ar, be, bz, sz, F', G', P, N9_9, Wm, Td, Ob, Sp, D⟩) H := hP
    have hD := hD.addr (ws' := (WL cI cJ cZ ca ma ⟨nd, ar, pr, F, G, N, Fm, Rs, A, z, Se, al, br, N2, Fm2, Rs2, A2, zi2, S2, al2, br2, Cr, Op, Bf, sn, Ld, zi, Sg, Pi, Bo, pci, Gd, gci, bl0⟩ ⟨(nI 0), nd, ar, be, bz, sz, F', G', P, N9_9, Wm, Td, Ob, Sp, D⟩)) rfl
    have hag : r_9 = (nI (cn (lead N al) 14)) := hu_9.trans (congrArg nI (parts_eq hLK hSK).symm)
    refine xe_i (y := (nI (cn (lead N al) 14))) hag ?_
    refine lv_icmp_eq (tgt := 609) hx hb d_LW_law_222 (by decide) (fun _ => ?_) (fun q9 => absurd rfl q9)
    exact kk ⟨nd, ar, pr, F, G, N, Fm, Rs, A, z, Se, al, br, N2, Fm2, Rs2, A2, zi2, S2, al2, br2, Cr, Op, Bf, sn, Ld, zi, Sg, Pi, Bo, pci, Gd, gci, bl0⟩ ⟨(nI 0), nd, ar, be, bz, sz, F', G', P, N9_9, Wm, Td, Ob, Sp, D⟩ H locs ⟨hGA, hSK, hB0, rfl, rfl, hF, hG, hLK, hTd⟩ hP hD hS
  · skip
    rw [ex]
    refine vp_callSi (va_Run.run (k_V (n := 1) (C := R_CP) (rest := []) ⟨hx, hb, hml, hown, hts⟩ (c_CP_count_3 l dC dI cI cJ cZ ca.cp ca.g ca.k ca.k2 ca.fl ca.co ca.sp ca.a1 ca.a2 nd ar pr F G (by first | assumption | omega) ca.nr ca.fr ca.rs ca.at_ ca.h al br N Fm A ca.b1 z Se (by first | assumption | omega)) wml_LW_32 wim_CP_count wsel_CP_count wini_CP wcode_CP_count (by decide +kernel) ⟨Nat.le_of_ble_eq_true rfl, Nat.le_of_ble_eq_true rfl⟩ (preV_R (q := (R_CP, F_CP, 6)) (ci := 0) (q0 := 0) (hP.sub (ws' := [(ca.cp, .inr (0, [.ref ca.g, .ref ca.k, .ref ca.k2, .ref ca.fl, .ref ca.co, .ref ca.sp])), (ca.k, .inr (2, [.ref ca.nr, .ref ca.fr, .ref ca.rs, .ref ca.at_, .ref ca.h, .int al, .long br]))]) [0, 4] rfl) hK rfl rfl) rfl hl.1 rfl (Nat.le_of_ble_eq_true rfl) d_LW_law_210 ⟨hRc, hRs⟩)) (fun r_10 hr_11 => ?_)
    refine xe_i (y := (nI (cn (lb br) 64))) hr_11 ?_
    refine lv_aload_n hx hb d_LW_law_213 rfl (lv_at hl 2 rfl) ?_
    refine lv_aload_n hx hb d_LW_law_214 rfl (lv_at hl 0 rfl) ?_
    refine lv_iload_n hx hb d_LW_law_215 rfl (lv_at hl 3 rfl) ?_
    refine lv_iconst (v := (nI 1)) hx hb d_LW_law_216 (by decide) ?_
    refine lv_iadd hx hb d_LW_law_217 ?_
    refine xe_i (nI_add _ _) ?_
    refine x_sld hx hb hX hbl hbA hS (by omega) hL d_LW_law_218 ?_
    rw [ex]
    refine x_ci (k_V (n := 1) (C := R_MO) (rest := [.int (nI (cn (lb br) 64))]) ⟨hx, hb, hml, hown, hts⟩ (c_MO_count_3 l dC dI cI cJ cZ ma.o ma.fF ma.fG ma.fT ma.fN ma.fW ma.fO ma.fB ma.fS ma.fD th be bz sz nd ar F' G' P (by first | assumption | omega) (by first | assumption | omega) (by first | assumption | omega) (by first | assumption | omega) (by first | assumption | omega) Nm) wml_LW_35 wim_MO_count wsel_MO_count wini_MO wcode_MO_count (by decide +kernel) ⟨Nat.le_of_ble_eq_true rfl, Nat.le_of_ble_eq_true rfl⟩ (preV_M (q := (R_MO, F_MO, 15)) (ci := 7) (q0 := 0) (hP.sub (ws' := [(ma.o, .inr (7, [.int th, .int (nI nd), .int (nI ar), .ref ma.fF, .ref ma.fG, .ref ma.fT, .ref ma.fN, .ref ma.fW, .int be, .ref ma.fO, .ref ma.fB, .int bz, .ref ma.fS, .ref ma.fD, .int sz])), (ma.fF, .inl (cI, 41, .inl (nF F'))), (ma.fG, .inl (cI, 41, .inl (nF G'))), (ma.fT, .inl (cZ, 41, .inl (bF P))), (ma.fN, .inl (cI, 14, .inl Nm))]) [30, 31, 32, 33, 34] rfl) hK (hD.sub (ws' := [(ma.o, .inr (7, [.int th, .int (nI nd), .int (nI ar), .ref ma.fF, .ref ma.fG, .ref ma.fT, .ref ma.fN, .ref ma.fW, .int be, .ref ma.fO, .ref ma.fB, .int bz, .ref ma.fS, .ref ma.fD, .int sz])), (ma.fF, .inl (cI, 41, .inl (nF F'))), (ma.fG, .inl (cI, 41, .inl (nF G'))), (ma.fT, .inl (cZ, 41, .inl (bF P))), (ma.fN, .inl (cI, 14, .inl Nm))]) [30, 31, 32, 33, 34] (by decide) rfl) rfl rfl) rfl hl.1 rfl (Nat.le_of_ble_eq_true rfl) d_LW_law_219 ⟨hRc, hRs⟩) hP hD hS [30, 31, 32, 33, 34] rfl (fun _ => rfl) (fun r_12 u_12 H locs hu_12 hP hS => ?_)
    obtain ⟨N9_12, rfl⟩ : ∃ z, z = u_12 := ⟨_, rfl⟩
    have hP : va_P (dC, dI) cls (WL cI cJ cZ ca ma ⟨nd, ar, pr, F, G, N, Fm, Rs, A, z, Se, al, br, N2, Fm2, Rs2, A2, zi2, S2, al2, br2, Cr, Op, Bf, sn, Ld, zi, Sg, Pi, Bo, pci, Gd, gci, bl0⟩ ⟨(nI 0), nd, ar, be, bz, sz, F', G', P, N9_12, Wm, Td, Ob, Sp, D⟩) H := hP
    have hD := hD.addr (ws' := (WL cI cJ cZ ca ma ⟨nd, ar, pr, F, G, N, Fm, Rs, A, z, Se, al, br, N2, Fm2, Rs2, A2, zi2, S2, al2, br2, Cr, Op, Bf, sn, Ld, zi, Sg, Pi, Bo, pci, Gd, gci, bl0⟩ ⟨(nI 0), nd, ar, be, bz, sz, F', G', P, N9_12, Wm, Td, Ob, Sp, D⟩)) rfl
    have hag : r_12 = (nI (cn (lb br) 64)) := hu_12.trans (congrArg nI (brc_eq hLK hSK).symm)
    refine xe_i (y := (nI (cn (lb br) 64))) hag ?_
    refine lv_icmp_eq (tgt := 609) hx hb d_LW_law_222 (by decide) (fun _ => ?_) (fun q9 => absurd rfl q9)
    exact kk ⟨nd, ar, pr, F, G, N, Fm, Rs, A, z, Se, al, br, N2, Fm2, Rs2, A2, zi2, S2, al2, br2, Cr, Op, Bf, sn, Ld, zi, Sg, Pi, Bo, pci, Gd, gci, bl0⟩ ⟨(nI 0), nd, ar, be, bz, sz, F', G', P, N9_12, Wm, Td, Ob, Sp, D⟩ H locs ⟨hGA, hSK, hB0, rfl, rfl, hF, hG, hLK, hTd⟩ hP hD hS
  · skip
    rw [ex]
    refine vp_callSi (va_Run.run (k_V (n := 1) (C := R_CP) (rest := []) ⟨hx, hb, hml, hown, hts⟩ (c_CP_count_4 l dC dI cI cJ cZ ca.cp ca.g ca.k ca.k2 ca.fl ca.co ca.sp ca.a1 ca.a2 nd ar pr F G (by first | assumption | omega) ca.nr ca.fr ca.rs ca.at_ ca.h al br N Fm A ca.b1 z Se (by first | assumption | omega)) wml_LW_32 wim_CP_count wsel_CP_count wini_CP wcode_CP_count (by decide +kernel) ⟨Nat.le_of_ble_eq_true rfl, Nat.le_of_ble_eq_true rfl⟩ (preV_R (q := (R_CP, F_CP, 6)) (ci := 0) (q0 := 0) (hP.sub (ws' := [(ca.cp, .inr (0, [.ref ca.g, .ref ca.k, .ref ca.k2, .ref ca.fl, .ref ca.co, .ref ca.sp])), (ca.k, .inr (2, [.ref ca.nr, .ref ca.fr, .ref ca.rs, .ref ca.at_, .ref ca.h, .int al, .long br])), (ca.nr, .inl (cI, 14, .inl N))]) [0, 4, 5] rfl) hK rfl rfl) rfl hl.1 rfl (Nat.le_of_ble_eq_true rfl) d_LW_law_210 ⟨hRc, hRs⟩)) (fun r_13 hr_14 => ?_)
    refine xe_i (y := (nI (cn (cutB N al) 14))) hr_14 ?_
    refine lv_aload_n hx hb d_LW_law_213 rfl (lv_at hl 2 rfl) ?_
    refine lv_aload_n hx hb d_LW_law_214 rfl (lv_at hl 0 rfl) ?_
    refine lv_iload_n hx hb d_LW_law_215 rfl (lv_at hl 3 rfl) ?_
    refine lv_iconst (v := (nI 1)) hx hb d_LW_law_216 (by decide) ?_
    refine lv_iadd hx hb d_LW_law_217 ?_
    refine xe_i (nI_add _ _) ?_
    refine x_sld hx hb hX hbl hbA hS (by omega) hL d_LW_law_218 ?_
    rw [ex]
    refine x_ci (k_V (n := 1) (C := R_MO) (rest := [.int (nI (cn (cutB N al) 14))]) ⟨hx, hb, hml, hown, hts⟩ (c_MO_count_4 l dC dI cI cJ cZ ma.o ma.fF ma.fG ma.fT ma.fN ma.fW ma.fO ma.fB ma.fS ma.fD th be bz sz nd ar F' G' P (by first | assumption | omega) (by first | assumption | omega) (by first | assumption | omega) (by first | assumption | omega) (by first | assumption | omega) Nm) wml_LW_35 wim_MO_count wsel_MO_count wini_MO wcode_MO_count (by decide +kernel) ⟨Nat.le_of_ble_eq_true rfl, Nat.le_of_ble_eq_true rfl⟩ (preV_M (q := (R_MO, F_MO, 15)) (ci := 7) (q0 := 0) (hP.sub (ws' := [(ma.o, .inr (7, [.int th, .int (nI nd), .int (nI ar), .ref ma.fF, .ref ma.fG, .ref ma.fT, .ref ma.fN, .ref ma.fW, .int be, .ref ma.fO, .ref ma.fB, .int bz, .ref ma.fS, .ref ma.fD, .int sz])), (ma.fF, .inl (cI, 41, .inl (nF F'))), (ma.fG, .inl (cI, 41, .inl (nF G'))), (ma.fT, .inl (cZ, 41, .inl (bF P))), (ma.fN, .inl (cI, 14, .inl Nm))]) [30, 31, 32, 33, 34] rfl) hK (hD.sub (ws' := [(ma.o, .inr (7, [.int th, .int (nI nd), .int (nI ar), .ref ma.fF, .ref ma.fG, .ref ma.fT, .ref ma.fN, .ref ma.fW, .int be, .ref ma.fO, .ref ma.fB, .int bz, .ref ma.fS, .ref ma.fD, .int sz])), (ma.fF, .inl (cI, 41, .inl (nF F'))), (ma.fG, .inl (cI, 41, .inl (nF G'))), (ma.fT, .inl (cZ, 41, .inl (bF P))), (ma.fN, .inl (cI, 14, .inl Nm))]) [30, 31, 32, 33, 34] (by decide) rfl) rfl rfl) rfl hl.1 rfl (Nat.le_of_ble_eq_true rfl) d_LW_law_219 ⟨hRc, hRs⟩) hP hD hS [30, 31, 32, 33, 34] rfl (fun _ => rfl) (fun r_15 u_15 H locs hu_15 hP hS => ?_)
    obtain ⟨N9_15, rfl⟩ : ∃ z, z = u_15 := ⟨_, rfl⟩
    have hP : va_P (dC, dI) cls (WL cI cJ cZ ca ma ⟨nd, ar, pr, F, G, N, Fm, Rs, A, z, Se, al, br, N2, Fm2, Rs2, A2, zi2, S2, al2, br2, Cr, Op, Bf, sn, Ld, zi, Sg, Pi, Bo, pci, Gd, gci, bl0⟩ ⟨(nI 0), nd, ar, be, bz, sz, F', G', P, N9_15, Wm, Td, Ob, Sp, D⟩) H := hP
    have hD := hD.addr (ws' := (WL cI cJ cZ ca ma ⟨nd, ar, pr, F, G, N, Fm, Rs, A, z, Se, al, br, N2, Fm2, Rs2, A2, zi2, S2, al2, br2, Cr, Op, Bf, sn, Ld, zi, Sg, Pi, Bo, pci, Gd, gci, bl0⟩ ⟨(nI 0), nd, ar, be, bz, sz, F', G', P, N9_15, Wm, Td, Ob, Sp, D⟩)) rfl
    have hag : r_15 = (nI (cn (cutB N al) 14)) := hu_15.trans (congrArg nI (cut_eq hLK hSK).symm)
    refine xe_i (y := (nI (cn (cutB N al) 14))) hag ?_
    refine lv_icmp_eq (tgt := 609) hx hb d_LW_law_222 (by decide) (fun _ => ?_) (fun q9 => absurd rfl q9)
    exact kk ⟨nd, ar, pr, F, G, N, Fm, Rs, A, z, Se, al, br, N2, Fm2, Rs2, A2, zi2, S2, al2, br2, Cr, Op, Bf, sn, Ld, zi, Sg, Pi, Bo, pci, Gd, gci, bl0⟩ ⟨(nI 0), nd, ar, be, bz, sz, F', G', P, N9_15, Wm, Td, Ob, Sp, D⟩ H locs ⟨hGA, hSK, hB0, rfl, rfl, hF, hG, hLK, hTd⟩ hP hD hS
  · skip
    rw [ex]
    refine vp_callSi (va_Run.run (k_V (n := 1) (C := R_CP) (rest := []) ⟨hx, hb, hml, hown, hts⟩ (c_CP_count_5 l dC dI cI cJ cZ ca.cp ca.g ca.k ca.k2 ca.fl ca.co ca.sp ca.a1 ca.a2 nd ar pr F G (by first | assumption | omega) ca.nr ca.fr ca.rs ca.at_ ca.h al br N Fm A ca.b1 z Se (by first | assumption | omega)) wml_LW_32 wim_CP_count wsel_CP_count wini_CP wcode_CP_count (by decide +kernel) ⟨Nat.le_of_ble_eq_true rfl, Nat.le_of_ble_eq_true rfl⟩ (preV_R (q := (R_CP, F_CP, 6)) (ci := 0) (q0 := 0) (hP.sub (ws' := [(ca.cp, .inr (0, [.ref ca.g, .ref ca.k, .ref ca.k2, .ref ca.fl, .ref ca.co, .ref ca.sp])), (ca.k, .inr (2, [.ref ca.nr, .ref ca.fr, .ref ca.rs, .ref ca.at_, .ref ca.h, .int al, .long br])), (ca.h, .inr (3, [.ref ca.b1, .int (nI z)]))]) [0, 4, 9] rfl) hK rfl rfl) rfl hl.1 rfl (Nat.le_of_ble_eq_true rfl) d_LW_law_210 ⟨hRc, hRs⟩)) (fun r_16 hr_17 => ?_)
    refine xe_i (y := (nI z)) hr_17 ?_
    refine lv_aload_n hx hb d_LW_law_213 rfl (lv_at hl 2 rfl) ?_
    refine lv_aload_n hx hb d_LW_law_214 rfl (lv_at hl 0 rfl) ?_
    refine lv_iload_n hx hb d_LW_law_215 rfl (lv_at hl 3 rfl) ?_
    refine lv_iconst (v := (nI 1)) hx hb d_LW_law_216 (by decide) ?_
    refine lv_iadd hx hb d_LW_law_217 ?_
    refine xe_i (nI_add _ _) ?_
    refine x_sld hx hb hX hbl hbA hS (by omega) hL d_LW_law_218 ?_
    rw [ex]
    refine x_ci (k_V (n := 1) (C := R_MO) (rest := [.int (nI z)]) ⟨hx, hb, hml, hown, hts⟩ (c_MO_count_5 l dC dI cI cJ cZ ma.o ma.fF ma.fG ma.fT ma.fN ma.fW ma.fO ma.fB ma.fS ma.fD th be bz sz nd ar F' G' P (by first | assumption | omega) (by first | assumption | omega) (by first | assumption | omega) (by first | assumption | omega) (by first | assumption | omega) Nm) wml_LW_35 wim_MO_count wsel_MO_count wini_MO wcode_MO_count (by decide +kernel) ⟨Nat.le_of_ble_eq_true rfl, Nat.le_of_ble_eq_true rfl⟩ (preV_M (q := (R_MO, F_MO, 15)) (ci := 7) (q0 := 0) (hP.sub (ws' := [(ma.o, .inr (7, [.int th, .int (nI nd), .int (nI ar), .ref ma.fF, .ref ma.fG, .ref ma.fT, .ref ma.fN, .ref ma.fW, .int be, .ref ma.fO, .ref ma.fB, .int bz, .ref ma.fS, .ref ma.fD, .int sz])), (ma.fF, .inl (cI, 41, .inl (nF F'))), (ma.fG, .inl (cI, 41, .inl (nF G'))), (ma.fT, .inl (cZ, 41, .inl (bF P))), (ma.fN, .inl (cI, 14, .inl Nm))]) [30, 31, 32, 33, 34] rfl) hK (hD.sub (ws' := [(ma.o, .inr (7, [.int th, .int (nI nd), .int (nI ar), .ref ma.fF, .ref ma.fG, .ref ma.fT, .ref ma.fN, .ref ma.fW, .int be, .ref ma.fO, .ref ma.fB, .int bz, .ref ma.fS, .ref ma.fD, .int sz])), (ma.fF, .inl (cI, 41, .inl (nF F'))), (ma.fG, .inl (cI, 41, .inl (nF G'))), (ma.fT, .inl (cZ, 41, .inl (bF P))), (ma.fN, .inl (cI, 14, .inl Nm))]) [30, 31, 32, 33, 34] (by decide) rfl) rfl rfl) rfl hl.1 rfl (Nat.le_of_ble_eq_true rfl) d_LW_law_219 ⟨hRc, hRs⟩) hP hD hS [30, 31, 32, 33, 34] rfl (fun _ => rfl) (fun r_18 u_18 H locs hu_18 hP hS => ?_)
    obtain ⟨N9_18, rfl⟩ : ∃ z, z = u_18 := ⟨_, rfl⟩
    have hP : va_P (dC, dI) cls (WL cI cJ cZ ca ma ⟨nd, ar, pr, F, G, N, Fm, Rs, A, z, Se, al, br, N2, Fm2, Rs2, A2, zi2, S2, al2, br2, Cr, Op, Bf, sn, Ld, zi, Sg, Pi, Bo, pci, Gd, gci, bl0⟩ ⟨(nI 0), nd, ar, be, bz, sz, F', G', P, N9_18, Wm, Td, Ob, Sp, D⟩) H := hP
    have hD := hD.addr (ws' := (WL cI cJ cZ ca ma ⟨nd, ar, pr, F, G, N, Fm, Rs, A, z, Se, al, br, N2, Fm2, Rs2, A2, zi2, S2, al2, br2, Cr, Op, Bf, sn, Ld, zi, Sg, Pi, Bo, pci, Gd, gci, bl0⟩ ⟨(nI 0), nd, ar, be, bz, sz, F', G', P, N9_18, Wm, Td, Ob, Sp, D⟩)) rfl
    have hag : r_18 = (nI z) := hu_18.trans (congrArg nI (blc_eq hLK hSK.1 hSK.2.2.2.2.1).symm)
    refine xe_i (y := (nI z)) hag ?_
    refine lv_icmp_eq (tgt := 609) hx hb d_LW_law_222 (by decide) (fun _ => ?_) (fun q9 => absurd rfl q9)
    exact kk ⟨nd, ar, pr, F, G, N, Fm, Rs, A, z, Se, al, br, N2, Fm2, Rs2, A2, zi2, S2, al2, br2, Cr, Op, Bf, sn, Ld, zi, Sg, Pi, Bo, pci, Gd, gci, bl0⟩ ⟨(nI 0), nd, ar, be, bz, sz, F', G', P, N9_18, Wm, Td, Ob, Sp, D⟩ H locs ⟨hGA, hSK, hB0, rfl, rfl, hF, hG, hLK, hTd⟩ hP hD hS
  · skip
    rw [ex]
    refine vp_callSi (va_Run.run (k_V (n := 1) (C := R_CP) (rest := []) ⟨hx, hb, hml, hown, hts⟩ (c_CP_count_6 l dC dI cI cJ cZ ca.cp ca.g ca.k ca.k2 ca.fl ca.co ca.sp ca.a1 ca.a2 nd ar pr F G (by first | assumption | omega) ca.nr ca.fr ca.rs ca.at_ ca.h al br N Fm A ca.b1 z Se (by first | assumption | omega)) wml_LW_32 wim_CP_count wsel_CP_count wini_CP wcode_CP_count (by decide +kernel) ⟨Nat.le_of_ble_eq_true rfl, Nat.le_of_ble_eq_true rfl⟩ (preV_R (q := (R_CP, F_CP, 6)) (ci := 0) (q0 := 0) (hP.sub (ws' := [(ca.cp, .inr (0, [.ref ca.g, .ref ca.k, .ref ca.k2, .ref ca.fl, .ref ca.co, .ref ca.sp])), (ca.k, .inr (2, [.ref ca.nr, .ref ca.fr, .ref ca.rs, .ref ca.at_, .ref ca.h, .int al, .long br])), (ca.fr, .inl (cI, 14, .inl Fm))]) [0, 4, 6] rfl) hK rfl rfl) rfl hl.1 rfl (Nat.le_of_ble_eq_true rfl) d_LW_law_210 ⟨hRc, hRs⟩)) (fun r_19 hr_20 => ?_)
    refine xe_i (y := (nI (cn (lead Fm al) 14))) hr_20 ?_
    refine lv_aload_n hx hb d_LW_law_213 rfl (lv_at hl 2 rfl) ?_
    refine lv_aload_n hx hb d_LW_law_214 rfl (lv_at hl 0 rfl) ?_
    refine lv_iload_n hx hb d_LW_law_215 rfl (lv_at hl 3 rfl) ?_
    refine lv_iconst (v := (nI 1)) hx hb d_LW_law_216 (by decide) ?_
    refine lv_iadd hx hb d_LW_law_217 ?_
    refine xe_i (nI_add _ _) ?_
    refine x_sld hx hb hX hbl hbA hS (by omega) hL d_LW_law_218 ?_
    rw [ex]
    refine x_ci (k_V (n := 1) (C := R_MO) (rest := [.int (nI (cn (lead Fm al) 14))]) ⟨hx, hb, hml, hown, hts⟩ (c_MO_count_6 l dC dI cI cJ cZ ma.o ma.fF ma.fG ma.fT ma.fN ma.fW ma.fO ma.fB ma.fS ma.fD th be bz sz nd ar F' G' P (by first | assumption | omega) (by first | assumption | omega) (by first | assumption | omega) (by first | assumption | omega) (by first | assumption | omega) Nm Wm) wml_LW_35 wim_MO_count wsel_MO_count wini_MO wcode_MO_count (by decide +kernel) ⟨Nat.le_of_ble_eq_true rfl, Nat.le_of_ble_eq_true rfl⟩ (preV_M (q := (R_MO, F_MO, 15)) (ci := 7) (q0 := 0) (hP.sub (ws' := [(ma.o, .inr (7, [.int th, .int (nI nd), .int (nI ar), .ref ma.fF, .ref ma.fG, .ref ma.fT, .ref ma.fN, .ref ma.fW, .int be, .ref ma.fO, .ref ma.fB, .int bz, .ref ma.fS, .ref ma.fD, .int sz])), (ma.fF, .inl (cI, 41, .inl (nF F'))), (ma.fG, .inl (cI, 41, .inl (nF G'))), (ma.fT, .inl (cZ, 41, .inl (bF P))), (ma.fN, .inl (cI, 14, .inl Nm)), (ma.fW, .inl (cI, 14, .inl Wm))]) [30, 31, 32, 33, 34, 35] rfl) hK (hD.sub (ws' := [(ma.o, .inr (7, [.int th, .int (nI nd), .int (nI ar), .ref ma.fF, .ref ma.fG, .ref ma.fT, .ref ma.fN, .ref ma.fW, .int be, .ref ma.fO, .ref ma.fB, .int bz, .ref ma.fS, .ref ma.fD, .int sz])), (ma.fF, .inl (cI, 41, .inl (nF F'))), (ma.fG, .inl (cI, 41, .inl (nF G'))), (ma.fT, .inl (cZ, 41, .inl (bF P))), (ma.fN, .inl (cI, 14, .inl Nm)), (ma.fW, .inl (cI, 14, .inl Wm))]) [30, 31, 32, 33, 34, 35] (by decide) rfl) rfl rfl) rfl hl.1 rfl (Nat.le_of_ble_eq_true rfl) d_LW_law_219 ⟨hRc, hRs⟩) hP hD hS [30, 31, 32, 33, 34, 35] rfl (fun _ => rfl) (fun r_21 u_21 H locs hu_21 hP hS => ?_)
    obtain ⟨N9_21, W9_21⟩ := u_21
    have hP : va_P (dC, dI) cls (WL cI cJ cZ ca ma ⟨nd, ar, pr, F, G, N, Fm, Rs, A, z, Se, al, br, N2, Fm2, Rs2, A2, zi2, S2, al2, br2, Cr, Op, Bf, sn, Ld, zi, Sg, Pi, Bo, pci, Gd, gci, bl0⟩ ⟨(nI 0), nd, ar, be, bz, sz, F', G', P, N9_21, W9_21, Td, Ob, Sp, D⟩) H := hP
    have hD := hD.addr (ws' := (WL cI cJ cZ ca ma ⟨nd, ar, pr, F, G, N, Fm, Rs, A, z, Se, al, br, N2, Fm2, Rs2, A2, zi2, S2, al2, br2, Cr, Op, Bf, sn, Ld, zi, Sg, Pi, Bo, pci, Gd, gci, bl0⟩ ⟨(nI 0), nd, ar, be, bz, sz, F', G', P, N9_21, W9_21, Td, Ob, Sp, D⟩)) rfl
    obtain ⟨kx_22, ek_22, hk_22⟩ := hu_21
    refine xe_i (y := (nI kx_22)) ek_22 ?_
    have hag : (nI kx_22) = (nI (cn (lead Fm al) 14)) := by
      obtain ⟨W9, w1, w2⟩ := hk_22
      rw [w2, twc_eq hLK hSK w1]
    refine xe_i (y := (nI (cn (lead Fm al) 14))) hag ?_
    refine lv_icmp_eq (tgt := 609) hx hb d_LW_law_222 (by decide) (fun _ => ?_) (fun q9 => absurd rfl q9)
    exact kk ⟨nd, ar, pr, F, G, N, Fm, Rs, A, z, Se, al, br, N2, Fm2, Rs2, A2, zi2, S2, al2, br2, Cr, Op, Bf, sn, Ld, zi, Sg, Pi, Bo, pci, Gd, gci, bl0⟩ ⟨(nI 0), nd, ar, be, bz, sz, F', G', P, N9_21, W9_21, Td, Ob, Sp, D⟩ H locs ⟨hGA, hSK, hB0, rfl, rfl, hF, hG, hLK, hTd⟩ hP hD hS
  · skip
    rw [ex]
    refine vp_callSi (va_Run.run (k_V (n := 1) (C := R_CP) (rest := []) ⟨hx, hb, hml, hown, hts⟩ (c_CP_count_7 l dC dI cI cJ cZ ca.cp ca.g ca.k ca.k2 ca.fl ca.co ca.sp ca.a1 ca.a2 nd ar pr F G (by first | assumption | omega) ca.nr ca.fr ca.rs ca.at_ ca.h al br N Fm A ca.b1 z Se (by first | assumption | omega)) wml_LW_32 wim_CP_count wsel_CP_count wini_CP wcode_CP_count (by decide +kernel) ⟨Nat.le_of_ble_eq_true rfl, Nat.le_of_ble_eq_true rfl⟩ (preV_R (q := (R_CP, F_CP, 6)) (ci := 0) (q0 := 0) (hP.sub (ws' := [(ca.cp, .inr (0, [.ref ca.g, .ref ca.k, .ref ca.k2, .ref ca.fl, .ref ca.co, .ref ca.sp])), (ca.k, .inr (2, [.ref ca.nr, .ref ca.fr, .ref ca.rs, .ref ca.at_, .ref ca.h, .int al, .long br])), (ca.fr, .inl (cI, 14, .inl Fm)), (ca.at_, .inl (cJ, 14, .inr (.inl A)))]) [0, 4, 6, 8] rfl) hK rfl rfl) rfl hl.1 rfl (Nat.le_of_ble_eq_true rfl) d_LW_law_210 ⟨hRc, hRs⟩)) (fun r_23 hr_24 => ?_)
    refine xe_i (y := (nI (need Fm al A br))) hr_24 ?_
    refine lv_aload_n hx hb d_LW_law_213 rfl (lv_at hl 2 rfl) ?_
    refine lv_aload_n hx hb d_LW_law_214 rfl (lv_at hl 0 rfl) ?_
    refine lv_iload_n hx hb d_LW_law_215 rfl (lv_at hl 3 rfl) ?_
    refine lv_iconst (v := (nI 1)) hx hb d_LW_law_216 (by decide) ?_
    refine lv_iadd hx hb d_LW_law_217 ?_
    refine xe_i (nI_add _ _) ?_
    refine x_sld hx hb hX hbl hbA hS (by omega) hL d_LW_law_218 ?_
    rw [ex]
    refine x_ci (k_V (n := 1) (C := R_MO) (rest := [.int (nI (need Fm al A br))]) ⟨hx, hb, hml, hown, hts⟩ (c_MO_count_7 l dC dI cI cJ cZ ma.o ma.fF ma.fG ma.fT ma.fN ma.fW ma.fO ma.fB ma.fS ma.fD th be bz sz nd ar F' G' P (by first | assumption | omega) (by first | assumption | omega) (by first | assumption | omega) (by first | assumption | omega) (by first | assumption | omega) Nm Wm) wml_LW_35 wim_MO_count wsel_MO_count wini_MO wcode_MO_count (by decide +kernel) ⟨Nat.le_of_ble_eq_true rfl, Nat.le_of_ble_eq_true rfl⟩ (preV_M (q := (R_MO, F_MO, 15)) (ci := 7) (q0 := 0) (hP.sub (ws' := [(ma.o, .inr (7, [.int th, .int (nI nd), .int (nI ar), .ref ma.fF, .ref ma.fG, .ref ma.fT, .ref ma.fN, .ref ma.fW, .int be, .ref ma.fO, .ref ma.fB, .int bz, .ref ma.fS, .ref ma.fD, .int sz])), (ma.fF, .inl (cI, 41, .inl (nF F'))), (ma.fG, .inl (cI, 41, .inl (nF G'))), (ma.fT, .inl (cZ, 41, .inl (bF P))), (ma.fN, .inl (cI, 14, .inl Nm)), (ma.fW, .inl (cI, 14, .inl Wm))]) [30, 31, 32, 33, 34, 35] rfl) hK (hD.sub (ws' := [(ma.o, .inr (7, [.int th, .int (nI nd), .int (nI ar), .ref ma.fF, .ref ma.fG, .ref ma.fT, .ref ma.fN, .ref ma.fW, .int be, .ref ma.fO, .ref ma.fB, .int bz, .ref ma.fS, .ref ma.fD, .int sz])), (ma.fF, .inl (cI, 41, .inl (nF F'))), (ma.fG, .inl (cI, 41, .inl (nF G'))), (ma.fT, .inl (cZ, 41, .inl (bF P))), (ma.fN, .inl (cI, 14, .inl Nm)), (ma.fW, .inl (cI, 14, .inl Wm))]) [30, 31, 32, 33, 34, 35] (by decide) rfl) rfl rfl) rfl hl.1 rfl (Nat.le_of_ble_eq_true rfl) d_LW_law_219 ⟨hRc, hRs⟩) hP hD hS [30, 31, 32, 33, 34, 35] rfl (fun _ => rfl) (fun r_25 u_25 H locs hu_25 hP hS => ?_)
    obtain ⟨N9_25, W9_25⟩ := u_25
    have hP : va_P (dC, dI) cls (WL cI cJ cZ ca ma ⟨nd, ar, pr, F, G, N, Fm, Rs, A, z, Se, al, br, N2, Fm2, Rs2, A2, zi2, S2, al2, br2, Cr, Op, Bf, sn, Ld, zi, Sg, Pi, Bo, pci, Gd, gci, bl0⟩ ⟨(nI 0), nd, ar, be, bz, sz, F', G', P, N9_25, W9_25, Td, Ob, Sp, D⟩) H := hP
    have hD := hD.addr (ws' := (WL cI cJ cZ ca ma ⟨nd, ar, pr, F, G, N, Fm, Rs, A, z, Se, al, br, N2, Fm2, Rs2, A2, zi2, S2, al2, br2, Cr, Op, Bf, sn, Ld, zi, Sg, Pi, Bo, pci, Gd, gci, bl0⟩ ⟨(nI 0), nd, ar, be, bz, sz, F', G', P, N9_25, W9_25, Td, Ob, Sp, D⟩)) rfl
    obtain ⟨kx_26, ek_26, hk_26⟩ := hu_25
    refine xe_i (y := (nI kx_26)) ek_26 ?_
    have hag : (nI kx_26) = (nI (need Fm al A br)) := congrArg nI (need_eq hLK hSK hk_26).symm
    refine xe_i (y := (nI (need Fm al A br))) hag ?_
    refine lv_icmp_eq (tgt := 609) hx hb d_LW_law_222 (by decide) (fun _ => ?_) (fun q9 => absurd rfl q9)
    exact kk ⟨nd, ar, pr, F, G, N, Fm, Rs, A, z, Se, al, br, N2, Fm2, Rs2, A2, zi2, S2, al2, br2, Cr, Op, Bf, sn, Ld, zi, Sg, Pi, Bo, pci, Gd, gci, bl0⟩ ⟨(nI 0), nd, ar, be, bz, sz, F', G', P, N9_25, W9_25, Td, Ob, Sp, D⟩ H locs ⟨hGA, hSK, hB0, rfl, rfl, hF, hG, hLK, hTd⟩ hP hD hS
  · skip
    rw [ex]
    refine x_ci (k_V (n := 1) (C := R_CP) (rest := []) ⟨hx, hb, hml, hown, hts⟩ (c_CP_count_8 l dC dI cI cJ cZ ca.cp ca.g ca.k ca.k2 ca.fl ca.co ca.sp ca.a1 ca.a2 nd ar pr F G (by first | assumption | omega) ca.nr ca.fr ca.rs ca.at_ ca.h al br N Fm A ca.b1 z Se (by first | assumption | omega) Rs) wml_LW_32 wim_CP_count wsel_CP_count wini_CP wcode_CP_count (by decide +kernel) ⟨Nat.le_of_ble_eq_true rfl, Nat.le_of_ble_eq_true rfl⟩ (preV_M (q := (R_CP, F_CP, 6)) (ci := 0) (q0 := 0) (hP.sub (ws' := [(ca.cp, .inr (0, [.ref ca.g, .ref ca.k, .ref ca.k2, .ref ca.fl, .ref ca.co, .ref ca.sp])), (ca.k, .inr (2, [.ref ca.nr, .ref ca.fr, .ref ca.rs, .ref ca.at_, .ref ca.h, .int al, .long br])), (ca.nr, .inl (cI, 14, .inl N)), (ca.rs, .inl (cI, 14, .inl Rs))]) [0, 4, 5, 7] rfl) hK (hD.sub (ws' := [(ca.cp, .inr (0, [.ref ca.g, .ref ca.k, .ref ca.k2, .ref ca.fl, .ref ca.co, .ref ca.sp])), (ca.k, .inr (2, [.ref ca.nr, .ref ca.fr, .ref ca.rs, .ref ca.at_, .ref ca.h, .int al, .long br])), (ca.nr, .inl (cI, 14, .inl N)), (ca.rs, .inl (cI, 14, .inl Rs))]) [0, 4, 5, 7] (by decide) rfl) rfl rfl) rfl hl.1 rfl (Nat.le_of_ble_eq_true rfl) d_LW_law_210 ⟨hRc, hRs⟩) hP hD hS [0, 4, 5, 7] rfl (fun _ => rfl) (fun r_27 u_27 H locs hu_27 hP hS => ?_)
    obtain ⟨R9_27, rfl⟩ : ∃ z, z = u_27 := ⟨_, rfl⟩
    have hP : va_P (dC, dI) cls (WL cI cJ cZ ca ma ⟨nd, ar, pr, F, G, N, Fm, R9_27, A, z, Se, al, br, N2, Fm2, Rs2, A2, zi2, S2, al2, br2, Cr, Op, Bf, sn, Ld, zi, Sg, Pi, Bo, pci, Gd, gci, bl0⟩ ⟨th, nd, ar, be, bz, sz, F', G', P, Nm, Wm, Td, Ob, Sp, D⟩) H := hP
    have hD := hD.addr (ws' := (WL cI cJ cZ ca ma ⟨nd, ar, pr, F, G, N, Fm, R9_27, A, z, Se, al, br, N2, Fm2, Rs2, A2, zi2, S2, al2, br2, Cr, Op, Bf, sn, Ld, zi, Sg, Pi, Bo, pci, Gd, gci, bl0⟩ ⟨th, nd, ar, be, bz, sz, F', G', P, Nm, Wm, Td, Ob, Sp, D⟩)) rfl
    obtain ⟨kx_28, ek_28, hk_28⟩ := hu_27
    refine xe_i (y := (nI kx_28)) ek_28 ?_
    refine lv_aload_n hx hb d_LW_law_213 rfl (lv_at hl 2 rfl) ?_
    refine lv_aload_n hx hb d_LW_law_214 rfl (lv_at hl 0 rfl) ?_
    refine lv_iload_n hx hb d_LW_law_215 rfl (lv_at hl 3 rfl) ?_
    refine lv_iconst (v := (nI 1)) hx hb d_LW_law_216 (by decide) ?_
    refine lv_iadd hx hb d_LW_law_217 ?_
    refine xe_i (nI_add _ _) ?_
    refine x_sld hx hb hX hbl hbA hS (by omega) hL d_LW_law_218 ?_
    rw [ex]
    refine x_ci (k_V (n := 1) (C := R_MO) (rest := [.int (nI kx_28)]) ⟨hx, hb, hml, hown, hts⟩ (c_MO_count_8 l dC dI cI cJ cZ ma.o ma.fF ma.fG ma.fT ma.fN ma.fW ma.fO ma.fB ma.fS ma.fD th be bz sz nd ar F' G' P (by first | assumption | omega) (by first | assumption | omega) (by first | assumption | omega) (by first | assumption | omega) (by first | assumption | omega) (by first | assumption | omega) Nm) wml_LW_35 wim_MO_count wsel_MO_count wini_MO wcode_MO_count (by decide +kernel) ⟨Nat.le_of_ble_eq_true rfl, Nat.le_of_ble_eq_true rfl⟩ (preV_M (q := (R_MO, F_MO, 15)) (ci := 7) (q0 := 0) (hP.sub (ws' := [(ma.o, .inr (7, [.int th, .int (nI nd), .int (nI ar), .ref ma.fF, .ref ma.fG, .ref ma.fT, .ref ma.fN, .ref ma.fW, .int be, .ref ma.fO, .ref ma.fB, .int bz, .ref ma.fS, .ref ma.fD, .int sz])), (ma.fF, .inl (cI, 41, .inl (nF F'))), (ma.fG, .inl (cI, 41, .inl (nF G'))), (ma.fT, .inl (cZ, 41, .inl (bF P))), (ma.fN, .inl (cI, 14, .inl Nm))]) [30, 31, 32, 33, 34] rfl) hK (hD.sub (ws' := [(ma.o, .inr (7, [.int th, .int (nI nd), .int (nI ar), .ref ma.fF, .ref ma.fG, .ref ma.fT, .ref ma.fN, .ref ma.fW, .int be, .ref ma.fO, .ref ma.fB, .int bz, .ref ma.fS, .ref ma.fD, .int sz])), (ma.fF, .inl (cI, 41, .inl (nF F'))), (ma.fG, .inl (cI, 41, .inl (nF G'))), (ma.fT, .inl (cZ, 41, .inl (bF P))), (ma.fN, .inl (cI, 14, .inl Nm))]) [30, 31, 32, 33, 34] (by decide) rfl) rfl rfl) rfl hl.1 rfl (Nat.le_of_ble_eq_true rfl) d_LW_law_219 ⟨hRc, hRs⟩) hP hD hS [30, 31, 32, 33, 34] rfl (fun _ => rfl) (fun r_29 u_29 H locs hu_29 hP hS => ?_)
    obtain ⟨N9_29, rfl⟩ : ∃ z, z = u_29 := ⟨_, rfl⟩
    have hP : va_P (dC, dI) cls (WL cI cJ cZ ca ma ⟨nd, ar, pr, F, G, N, Fm, R9_27, A, z, Se, al, br, N2, Fm2, Rs2, A2, zi2, S2, al2, br2, Cr, Op, Bf, sn, Ld, zi, Sg, Pi, Bo, pci, Gd, gci, bl0⟩ ⟨(nI 0), nd, ar, be, bz, sz, F', G', P, N9_29, Wm, Td, Ob, Sp, D⟩) H := hP
    have hD := hD.addr (ws' := (WL cI cJ cZ ca ma ⟨nd, ar, pr, F, G, N, Fm, R9_27, A, z, Se, al, br, N2, Fm2, Rs2, A2, zi2, S2, al2, br2, Cr, Op, Bf, sn, Ld, zi, Sg, Pi, Bo, pci, Gd, gci, bl0⟩ ⟨(nI 0), nd, ar, be, bz, sz, F', G', P, N9_29, Wm, Td, Ob, Sp, D⟩)) rfl
    obtain ⟨kx_30, ek_30, hk_30⟩ := hu_29
    refine xe_i (y := (nI kx_30)) ek_30 ?_
    have hag : (nI kx_30) = (nI kx_28) := by
      obtain ⟨y1, a1, a2⟩ := hk_28
      obtain ⟨y2, b1, b2⟩ := hk_30
      have e9 := worn_eq hLK hSK a1 b1
      subst e9
      rw [a2, b2, cn_skip (p := bt y1) (m := 16) (l := 32) (by omega) (fun b hb9 _ => by rw [Bool.eq_false_iff]; intro q9; have := hSK.al14 b (wr_lt a1 b q9); omega)]
    refine xe_i (y := (nI kx_28)) hag ?_
    refine lv_icmp_eq (tgt := 609) hx hb d_LW_law_222 (by decide) (fun _ => ?_) (fun q9 => absurd rfl q9)
    exact kk ⟨nd, ar, pr, F, G, N, Fm, R9_27, A, z, Se, al, br, N2, Fm2, Rs2, A2, zi2, S2, al2, br2, Cr, Op, Bf, sn, Ld, zi, Sg, Pi, Bo, pci, Gd, gci, bl0⟩ ⟨(nI 0), nd, ar, be, bz, sz, F', G', P, N9_29, Wm, Td, Ob, Sp, D⟩ H locs ⟨hGA, hSK, hB0, rfl, rfl, hF, hG, hLK, hTd⟩ hP hD hS
  · skip
    refine vp_callSi (va_Run.run (k_V (n := 1) (C := R_CP) (rest := []) ⟨hx, hb, hml, hown, hts⟩ (c_CP_count_x l dC dI cI cJ cZ ca.cp ca.g ca.k ca.k2 ca.fl ca.co ca.sp (xs (i + 1)) (by first | assumption | omega)) wml_LW_32 wim_CP_count wsel_CP_count wini_CP wcode_CP_count (by decide +kernel) ⟨Nat.le_of_ble_eq_true rfl, Nat.le_of_ble_eq_true rfl⟩ (preV_R (q := (R_CP, F_CP, 6)) (ci := 0) (q0 := 0) (hP.sub (ws' := [(ca.cp, .inr (0, [.ref ca.g, .ref ca.k, .ref ca.k2, .ref ca.fl, .ref ca.co, .ref ca.sp]))]) [0] rfl) hK rfl rfl) rfl hl.1 rfl (Nat.le_of_ble_eq_true rfl) d_LW_law_210 ⟨hRc, hRs⟩)) (fun r_31 hr_32 => ?_)
    refine xe_i (y := (-2)) hr_32 ?_
    refine lv_aload_n hx hb d_LW_law_213 rfl (lv_at hl 2 rfl) ?_
    refine lv_aload_n hx hb d_LW_law_214 rfl (lv_at hl 0 rfl) ?_
    refine lv_iload_n hx hb d_LW_law_215 rfl (lv_at hl 3 rfl) ?_
    refine lv_iconst (v := (nI 1)) hx hb d_LW_law_216 (by decide) ?_
    refine lv_iadd hx hb d_LW_law_217 ?_
    refine xe_i (nI_add _ _) ?_
    refine x_sld hx hb hX hbl hbA hS (by omega) hL d_LW_law_218 ?_
    refine x_ci (k_V (n := 1) (C := R_MO) (rest := [.int (-2)]) ⟨hx, hb, hml, hown, hts⟩ (c_MO_count_x l dC dI cI cJ cZ ma.o ma.fF ma.fG ma.fT ma.fN ma.fW ma.fO ma.fB ma.fS ma.fD th be bz sz nd ar (xs (i + 1)) (by first | assumption | omega)) wml_LW_35 wim_MO_count wsel_MO_count wini_MO wcode_MO_count (by decide +kernel) ⟨Nat.le_of_ble_eq_true rfl, Nat.le_of_ble_eq_true rfl⟩ (preV_M (q := (R_MO, F_MO, 15)) (ci := 7) (q0 := 0) (hP.sub (ws' := [(ma.o, .inr (7, [.int th, .int (nI nd), .int (nI ar), .ref ma.fF, .ref ma.fG, .ref ma.fT, .ref ma.fN, .ref ma.fW, .int be, .ref ma.fO, .ref ma.fB, .int bz, .ref ma.fS, .ref ma.fD, .int sz]))]) [30] rfl) hK (hD.sub (ws' := [(ma.o, .inr (7, [.int th, .int (nI nd), .int (nI ar), .ref ma.fF, .ref ma.fG, .ref ma.fT, .ref ma.fN, .ref ma.fW, .int be, .ref ma.fO, .ref ma.fB, .int bz, .ref ma.fS, .ref ma.fD, .int sz]))]) [30] (by decide) rfl) rfl rfl) rfl hl.1 rfl (Nat.le_of_ble_eq_true rfl) d_LW_law_219 ⟨hRc, hRs⟩) hP hD hS [30] rfl (fun _ => rfl) (fun r_33 u_33 H locs hu_33 hP hS => ?_)
    have hP : va_P (dC, dI) cls (WL cI cJ cZ ca ma ⟨nd, ar, pr, F, G, N, Fm, Rs, A, z, Se, al, br, N2, Fm2, Rs2, A2, zi2, S2, al2, br2, Cr, Op, Bf, sn, Ld, zi, Sg, Pi, Bo, pci, Gd, gci, bl0⟩ ⟨(nI 0), nd, ar, be, bz, sz, F', G', P, Nm, Wm, Td, Ob, Sp, D⟩) H := hP
    have hD := hD.addr (ws' := (WL cI cJ cZ ca ma ⟨nd, ar, pr, F, G, N, Fm, Rs, A, z, Se, al, br, N2, Fm2, Rs2, A2, zi2, S2, al2, br2, Cr, Op, Bf, sn, Ld, zi, Sg, Pi, Bo, pci, Gd, gci, bl0⟩ ⟨(nI 0), nd, ar, be, bz, sz, F', G', P, Nm, Wm, Td, Ob, Sp, D⟩)) rfl
    have hag : r_33 = (-2) := hu_33
    refine xe_i (y := (-2)) hag ?_
    refine lv_icmp_eq (tgt := 609) hx hb d_LW_law_222 (by decide) (fun _ => ?_) (fun q9 => absurd rfl q9)
    exact kk ⟨nd, ar, pr, F, G, N, Fm, Rs, A, z, Se, al, br, N2, Fm2, Rs2, A2, zi2, S2, al2, br2, Cr, Op, Bf, sn, Ld, zi, Sg, Pi, Bo, pci, Gd, gci, bl0⟩ ⟨(nI 0), nd, ar, be, bz, sz, F', G', P, Nm, Wm, Td, Ob, Sp, D⟩ H locs ⟨hGA, hSK, hB0, rfl, rfl, hF, hG, hLK, hTd⟩ hP hD hS

set_option maxHeartbeats 8000000 in
set_option maxRecDepth 100000 in
theorem lw_part {p : Program} {l : Launch} {e : Env} {s : State} {m : MethodId} {args : Array Value} {below : List Frame} {meth : Method} {c : Code} {H : Heap} {locs : List Loc} {Q : State → Prop} {dC : Nat → ClassId} {dI : Nat → Nat → Nat} {cI cJ cZ : ClassId} {A0 : Nat → Prop} {sc L : Nat} {xs : Nat → Int32} {ls : Array Slot} (X : LX p s m args c dC dI cI cJ cZ A0 sc L xs) {i : Nat} (hi : i + 3 ≤ L) {ca : CA} {ma : MA} {u : CS} {v : MS} (hI : LI u v) (hP : va_P (dC, dI) cls (WL cI cJ cZ ca ma u v) H) (hD : va_D A0 (WL cI cJ cZ ca ma u v)) (hS : va_S A0 s.heap H locs) (hl : lv_has ls 4 [(0, .ref sc), (1, .ref ca.cp), (2, .ref ma.o), (3, .int (nI i))])
    (kk : ∀ (u1 : CS) (v1 : MS) (H1 : Heap) (locs1 : List Loc), LI u1 v1 → va_P (dC, dI) cls (WL cI cJ cZ ca ma u1 v1) H1 → va_D A0 (WL cI cJ cZ ca ma u1 v1) → va_S A0 s.heap H1 locs1 → W p l e room_1 s m args below meth c H1 locs1 40 19226 Q (F0 m 609 ls [])) : W p l e room_1 s m args below meth c H locs 40 19226 Q (F0 m 227 ls []) := by
  obtain ⟨hx, hb, hml, hown, hts, hK, hX, hbl, hbA, hL⟩ := X
  have hRc : 40 ≤ room_1.cells := Nat.le_of_ble_eq_true rfl
  have hRs : 19226 ≤ room_1.slots := Nat.le_of_ble_eq_true rfl
  obtain ⟨nd, ar, pr, F, G, N, Fm, Rs, A, z, Se, al, br, N2, Fm2, Rs2, A2, zi2, S2, al2, br2, Cr, Op, Bf, sn, Ld, zi, Sg, Pi, Bo, pci, Gd, gci, bl0⟩ := u
  obtain ⟨th, ndm, arm, be, bz, sz, F', G', P, Nm, Wm, Td, Ob, Sp, D⟩ := v
  obtain ⟨hGA, hSK, hB0, e1, e2, hF, hG, hLK, hTd⟩ := hI
  have e1 : nd = ndm := e1
  have e2 : ar = arm := e2
  subst e1
  subst e2
  have hGA : GAR F G nd ar pr := hGA
  have hSK : SKI (lb pr) F G nd N Fm A Se z al br := hSK
  have hB0 : Bo 0 = 0 := hB0
  have hF : ∀ k, F' k < 14 := hF
  have hG : ∀ k, G' k < 14 := hG
  have hLK : LK F G pr F' G' P ar := hLK
  have hTd : ∀ k, Td k < 3 := hTd
  have hnd14 : nd ≤ 14 := hGA.1
  have har : ar ≤ 40 := hGA.2.1
  have hM := (lk_M hLK hGA).1
  have hNE := (lk_M hLK hGA).2
  refine lv_aload_n hx hb d_LW_law_227 rfl (lv_at hl 1 rfl) ?_
  refine lv_aload_n hx hb d_LW_law_228 rfl (lv_at hl 0 rfl) ?_
  refine lv_iload_n hx hb d_LW_law_229 rfl (lv_at hl 3 rfl) ?_
  refine lv_iconst (v := (nI 1)) hx hb d_LW_law_230 (by decide) ?_
  refine lv_iadd hx hb d_LW_law_231 ?_
  refine xe_i (nI_add _ _) ?_
  refine x_sld hx hb hX hbl hbA hS (by omega) hL d_LW_law_232 ?_
  cases hv : vd (xs (i + 1)) nd
  · skip
    have hbad := hv
    refine vp_callSi (va_Run.run (k_V (n := 1) (C := R_CP) (rest := []) ⟨hx, hb, hml, hown, hts⟩ (c_CP_part_b l dC dI cI cJ cZ ca.cp ca.g ca.k ca.k2 ca.fl ca.co ca.sp ca.a1 ca.a2 nd ar pr (xs (i + 1)) (by first | assumption | omega) (by first | assumption | omega)) wml_LW_36 wim_CP_part wsel_CP_part wini_CP wcode_CP_part (by decide +kernel) ⟨Nat.le_of_ble_eq_true rfl, Nat.le_of_ble_eq_true rfl⟩ (preV_R (q := (R_CP, F_CP, 6)) (ci := 0) (q0 := 0) (hP.sub (ws' := [(ca.cp, .inr (0, [.ref ca.g, .ref ca.k, .ref ca.k2, .ref ca.fl, .ref ca.co, .ref ca.sp])), (ca.g, .inr (1, [.ref ca.a1, .ref ca.a2, .int (nI nd), .int (nI ar), .long pr]))]) [0, 1] rfl) hK rfl rfl) rfl hl.1 rfl (Nat.le_of_ble_eq_true rfl) d_LW_law_233 ⟨hRc, hRs⟩)) (fun r_1 hr_2 => ?_)
    refine xe_i (y := (-1)) hr_2 ?_
    refine lv_aload_n hx hb d_LW_law_236 rfl (lv_at hl 2 rfl) ?_
    refine lv_aload_n hx hb d_LW_law_237 rfl (lv_at hl 0 rfl) ?_
    refine lv_iload_n hx hb d_LW_law_238 rfl (lv_at hl 3 rfl) ?_
    refine lv_iconst (v := (nI 1)) hx hb d_LW_law_239 (by decide) ?_
    refine lv_iadd hx hb d_LW_law_240 ?_
    refine xe_i (nI_add _ _) ?_
    refine x_sld hx hb hX hbl hbA hS (by omega) hL d_LW_law_241 ?_
    refine x_ci (k_V (n := 1) (C := R_MO) (rest := [.int (-1)]) ⟨hx, hb, hml, hown, hts⟩ (c_MO_part_b l dC dI cI cJ cZ ma.o ma.fF ma.fG ma.fT ma.fN ma.fW ma.fO ma.fB ma.fS ma.fD th be bz sz nd ar (xs (i + 1)) (by first | assumption | omega) (by first | assumption | omega)) wml_LW_39 wim_MO_part wsel_MO_part wini_MO wcode_MO_part (by decide +kernel) ⟨Nat.le_of_ble_eq_true rfl, Nat.le_of_ble_eq_true rfl⟩ (preV_M (q := (R_MO, F_MO, 15)) (ci := 7) (q0 := 0) (hP.sub (ws' := [(ma.o, .inr (7, [.int th, .int (nI nd), .int (nI ar), .ref ma.fF, .ref ma.fG, .ref ma.fT, .ref ma.fN, .ref ma.fW, .int be, .ref ma.fO, .ref ma.fB, .int bz, .ref ma.fS, .ref ma.fD, .int sz]))]) [30] rfl) hK (hD.sub (ws' := [(ma.o, .inr (7, [.int th, .int (nI nd), .int (nI ar), .ref ma.fF, .ref ma.fG, .ref ma.fT, .ref ma.fN, .ref ma.fW, .int be, .ref ma.fO, .ref ma.fB, .int bz, .ref ma.fS, .ref ma.fD, .int sz]))]) [30] (by decide) rfl) rfl rfl) rfl hl.1 rfl (Nat.le_of_ble_eq_true rfl) d_LW_law_242 ⟨hRc, hRs⟩) hP hD hS [30] rfl (fun _ => rfl) (fun r_3 u_3 H locs hu_3 hP hS => ?_)
    have hP : va_P (dC, dI) cls (WL cI cJ cZ ca ma ⟨nd, ar, pr, F, G, N, Fm, Rs, A, z, Se, al, br, N2, Fm2, Rs2, A2, zi2, S2, al2, br2, Cr, Op, Bf, sn, Ld, zi, Sg, Pi, Bo, pci, Gd, gci, bl0⟩ ⟨(nI 0), nd, ar, be, bz, sz, F', G', P, Nm, Wm, Td, Ob, Sp, D⟩) H := hP
    have hD := hD.addr (ws' := (WL cI cJ cZ ca ma ⟨nd, ar, pr, F, G, N, Fm, Rs, A, z, Se, al, br, N2, Fm2, Rs2, A2, zi2, S2, al2, br2, Cr, Op, Bf, sn, Ld, zi, Sg, Pi, Bo, pci, Gd, gci, bl0⟩ ⟨(nI 0), nd, ar, be, bz, sz, F', G', P, Nm, Wm, Td, Ob, Sp, D⟩)) rfl
    have hag : r_3 = (-1) := hu_3
    refine xe_i (y := (-1)) hag ?_
    refine lv_icmp_eq (tgt := 609) hx hb d_LW_law_245 (by decide) (fun _ => ?_) (fun q9 => absurd rfl q9)
    exact kk ⟨nd, ar, pr, F, G, N, Fm, Rs, A, z, Se, al, br, N2, Fm2, Rs2, A2, zi2, S2, al2, br2, Cr, Op, Bf, sn, Ld, zi, Sg, Pi, Bo, pci, Gd, gci, bl0⟩ ⟨(nI 0), nd, ar, be, bz, sz, F', G', P, Nm, Wm, Td, Ob, Sp, D⟩ H locs ⟨hGA, hSK, hB0, rfl, rfl, hF, hG, hLK, hTd⟩ hP hD hS
  · skip
    obtain ⟨x, hxn, ex⟩ := vd_t hv (by omega)
    rw [ex]
    refine vp_callSi (va_Run.run (k_V (n := 1) (C := R_CP) (rest := []) ⟨hx, hb, hml, hown, hts⟩ (c_CP_part_k l dC dI cI cJ cZ ca.cp ca.g ca.k ca.k2 ca.fl ca.co ca.sp ca.a1 ca.a2 nd ar pr F G (by first | assumption | omega) ca.nr ca.fr ca.rs ca.at_ ca.h al br N Fm A ca.b1 z Se (by first | assumption | omega) x (by first | assumption | omega)) wml_LW_36 wim_CP_part wsel_CP_part wini_CP wcode_CP_part (by decide +kernel) ⟨Nat.le_of_ble_eq_true rfl, Nat.le_of_ble_eq_true rfl⟩ (preV_R (q := (R_CP, F_CP, 6)) (ci := 0) (q0 := 0) (hP.sub (ws' := [(ca.cp, .inr (0, [.ref ca.g, .ref ca.k, .ref ca.k2, .ref ca.fl, .ref ca.co, .ref ca.sp])), (ca.g, .inr (1, [.ref ca.a1, .ref ca.a2, .int (nI nd), .int (nI ar), .long pr])), (ca.k, .inr (2, [.ref ca.nr, .ref ca.fr, .ref ca.rs, .ref ca.at_, .ref ca.h, .int al, .long br])), (ca.nr, .inl (cI, 14, .inl N))]) [0, 1, 4, 5] rfl) hK rfl rfl) rfl hl.1 rfl (Nat.le_of_ble_eq_true rfl) d_LW_law_233 ⟨hRc, hRs⟩)) (fun r_4 hr_5 => ?_)
    obtain ⟨kx_6, ek_6, hk_6⟩ := hr_5
    refine xe_i (y := (nI kx_6)) ek_6 ?_
    refine lv_aload_n hx hb d_LW_law_236 rfl (lv_at hl 2 rfl) ?_
    refine lv_aload_n hx hb d_LW_law_237 rfl (lv_at hl 0 rfl) ?_
    refine lv_iload_n hx hb d_LW_law_238 rfl (lv_at hl 3 rfl) ?_
    refine lv_iconst (v := (nI 1)) hx hb d_LW_law_239 (by decide) ?_
    refine lv_iadd hx hb d_LW_law_240 ?_
    refine xe_i (nI_add _ _) ?_
    refine x_sld hx hb hX hbl hbA hS (by omega) hL d_LW_law_241 ?_
    rw [ex]
    refine x_ci (k_V (n := 1) (C := R_MO) (rest := [.int (nI kx_6)]) ⟨hx, hb, hml, hown, hts⟩ (c_MO_part_k l dC dI cI cJ cZ ma.o ma.fF ma.fG ma.fT ma.fN ma.fW ma.fO ma.fB ma.fS ma.fD th be bz sz nd ar F' G' P (by first | assumption | omega) (by first | assumption | omega) (by first | assumption | omega) (by first | assumption | omega) (by first | assumption | omega) Nm x (by first | assumption | omega)) wml_LW_39 wim_MO_part wsel_MO_part wini_MO wcode_MO_part (by decide +kernel) ⟨Nat.le_of_ble_eq_true rfl, Nat.le_of_ble_eq_true rfl⟩ (preV_M (q := (R_MO, F_MO, 15)) (ci := 7) (q0 := 0) (hP.sub (ws' := [(ma.o, .inr (7, [.int th, .int (nI nd), .int (nI ar), .ref ma.fF, .ref ma.fG, .ref ma.fT, .ref ma.fN, .ref ma.fW, .int be, .ref ma.fO, .ref ma.fB, .int bz, .ref ma.fS, .ref ma.fD, .int sz])), (ma.fF, .inl (cI, 41, .inl (nF F'))), (ma.fG, .inl (cI, 41, .inl (nF G'))), (ma.fT, .inl (cZ, 41, .inl (bF P))), (ma.fN, .inl (cI, 14, .inl Nm))]) [30, 31, 32, 33, 34] rfl) hK (hD.sub (ws' := [(ma.o, .inr (7, [.int th, .int (nI nd), .int (nI ar), .ref ma.fF, .ref ma.fG, .ref ma.fT, .ref ma.fN, .ref ma.fW, .int be, .ref ma.fO, .ref ma.fB, .int bz, .ref ma.fS, .ref ma.fD, .int sz])), (ma.fF, .inl (cI, 41, .inl (nF F'))), (ma.fG, .inl (cI, 41, .inl (nF G'))), (ma.fT, .inl (cZ, 41, .inl (bF P))), (ma.fN, .inl (cI, 14, .inl Nm))]) [30, 31, 32, 33, 34] (by decide) rfl) rfl rfl) rfl hl.1 rfl (Nat.le_of_ble_eq_true rfl) d_LW_law_242 ⟨hRc, hRs⟩) hP hD hS [30, 31, 32, 33, 34] rfl (fun _ => rfl) (fun r_7 u_7 H locs hu_7 hP hS => ?_)
    obtain ⟨N9_7, rfl⟩ : ∃ z, z = u_7 := ⟨_, rfl⟩
    have hP : va_P (dC, dI) cls (WL cI cJ cZ ca ma ⟨nd, ar, pr, F, G, N, Fm, Rs, A, z, Se, al, br, N2, Fm2, Rs2, A2, zi2, S2, al2, br2, Cr, Op, Bf, sn, Ld, zi, Sg, Pi, Bo, pci, Gd, gci, bl0⟩ ⟨(nI 0), nd, ar, be, bz, sz, F', G', P, N9_7, Wm, Td, Ob, Sp, D⟩) H := hP
    have hD := hD.addr (ws' := (WL cI cJ cZ ca ma ⟨nd, ar, pr, F, G, N, Fm, Rs, A, z, Se, al, br, N2, Fm2, Rs2, A2, zi2, S2, al2, br2, Cr, Op, Bf, sn, Ld, zi, Sg, Pi, Bo, pci, Gd, gci, bl0⟩ ⟨(nI 0), nd, ar, be, bz, sz, F', G', P, N9_7, Wm, Td, Ob, Sp, D⟩)) rfl
    obtain ⟨kx_8, ek_8, hk_8⟩ := hu_7
    refine xe_i (y := (nI kx_8)) ek_8 ?_
    have hag : (nI kx_8) = (nI kx_6) := by
      obtain ⟨p1, a1, a2⟩ := hk_6
      obtain ⟨p2, b1, b2⟩ := hk_8
      have e9 := part_eq hLK hSK hxn a1 b1
      rw [b2, a2, ← e9.1, lsn_part (m := 32) hnd14 hxn e9.2.2 (by omega)]
    refine xe_i (y := (nI kx_6)) hag ?_
    refine lv_icmp_eq (tgt := 609) hx hb d_LW_law_245 (by decide) (fun _ => ?_) (fun q9 => absurd rfl q9)
    exact kk ⟨nd, ar, pr, F, G, N, Fm, Rs, A, z, Se, al, br, N2, Fm2, Rs2, A2, zi2, S2, al2, br2, Cr, Op, Bf, sn, Ld, zi, Sg, Pi, Bo, pci, Gd, gci, bl0⟩ ⟨(nI 0), nd, ar, be, bz, sz, F', G', P, N9_7, Wm, Td, Ob, Sp, D⟩ H locs ⟨hGA, hSK, hB0, rfl, rfl, hF, hG, hLK, hTd⟩ hP hD hS

set_option maxHeartbeats 8000000 in
set_option maxRecDepth 100000 in
theorem lw_bridge {p : Program} {l : Launch} {e : Env} {s : State} {m : MethodId} {args : Array Value} {below : List Frame} {meth : Method} {c : Code} {H : Heap} {locs : List Loc} {Q : State → Prop} {dC : Nat → ClassId} {dI : Nat → Nat → Nat} {cI cJ cZ : ClassId} {A0 : Nat → Prop} {sc L : Nat} {xs : Nat → Int32} {ls : Array Slot} (X : LX p s m args c dC dI cI cJ cZ A0 sc L xs) {i : Nat} (hi : i + 3 ≤ L) {ca : CA} {ma : MA} {u : CS} {v : MS} (hI : LI u v) (hP : va_P (dC, dI) cls (WL cI cJ cZ ca ma u v) H) (hD : va_D A0 (WL cI cJ cZ ca ma u v)) (hS : va_S A0 s.heap H locs) (hl : lv_has ls 4 [(0, .ref sc), (1, .ref ca.cp), (2, .ref ma.o), (3, .int (nI i))])
    (kk : ∀ (u1 : CS) (v1 : MS) (H1 : Heap) (locs1 : List Loc), LI u1 v1 → va_P (dC, dI) cls (WL cI cJ cZ ca ma u1 v1) H1 → va_D A0 (WL cI cJ cZ ca ma u1 v1) → va_S A0 s.heap H1 locs1 → W p l e room_1 s m args below meth c H1 locs1 40 19226 Q (F0 m 609 ls [])) : W p l e room_1 s m args below meth c H locs 40 19226 Q (F0 m 250 ls []) := by
  obtain ⟨hx, hb, hml, hown, hts, hK, hX, hbl, hbA, hL⟩ := X
  have hRc : 40 ≤ room_1.cells := Nat.le_of_ble_eq_true rfl
  have hRs : 19226 ≤ room_1.slots := Nat.le_of_ble_eq_true rfl
  obtain ⟨nd, ar, pr, F, G, N, Fm, Rs, A, z, Se, al, br, N2, Fm2, Rs2, A2, zi2, S2, al2, br2, Cr, Op, Bf, sn, Ld, zi, Sg, Pi, Bo, pci, Gd, gci, bl0⟩ := u
  obtain ⟨th, ndm, arm, be, bz, sz, F', G', P, Nm, Wm, Td, Ob, Sp, D⟩ := v
  obtain ⟨hGA, hSK, hB0, e1, e2, hF, hG, hLK, hTd⟩ := hI
  have e1 : nd = ndm := e1
  have e2 : ar = arm := e2
  subst e1
  subst e2
  have hGA : GAR F G nd ar pr := hGA
  have hSK : SKI (lb pr) F G nd N Fm A Se z al br := hSK
  have hB0 : Bo 0 = 0 := hB0
  have hF : ∀ k, F' k < 14 := hF
  have hG : ∀ k, G' k < 14 := hG
  have hLK : LK F G pr F' G' P ar := hLK
  have hTd : ∀ k, Td k < 3 := hTd
  have hnd14 : nd ≤ 14 := hGA.1
  have har : ar ≤ 40 := hGA.2.1
  have hM := (lk_M hLK hGA).1
  have hNE := (lk_M hLK hGA).2
  refine lv_aload_n hx hb d_LW_law_250 rfl (lv_at hl 1 rfl) ?_
  refine lv_aload_n hx hb d_LW_law_251 rfl (lv_at hl 0 rfl) ?_
  refine lv_iload_n hx hb d_LW_law_252 rfl (lv_at hl 3 rfl) ?_
  refine lv_iconst (v := (nI 1)) hx hb d_LW_law_253 (by decide) ?_
  refine lv_iadd hx hb d_LW_law_254 ?_
  refine xe_i (nI_add _ _) ?_
  refine x_sld hx hb hX hbl hbA hS (by omega) hL d_LW_law_255 ?_
  cases hv : (vd (xs (i + 1)) ar && lb pr (xs (i + 1)).toNatClampNeg)
  · skip
    have hbad := hv
    have hbadP := bad_P hLK hv
    refine vp_callSi (va_Run.run (k_V (n := 1) (C := R_CP) (rest := []) ⟨hx, hb, hml, hown, hts⟩ (c_CP_bridge_b l dC dI cI cJ cZ ca.cp ca.g ca.k ca.k2 ca.fl ca.co ca.sp ca.a1 ca.a2 nd ar pr (xs (i + 1)) (by first | assumption | omega) (by first | assumption | omega)) wml_LW_40 wim_CP_bridge wsel_CP_bridge wini_CP wcode_CP_bridge (by decide +kernel) ⟨Nat.le_of_ble_eq_true rfl, Nat.le_of_ble_eq_true rfl⟩ (preV_R (q := (R_CP, F_CP, 6)) (ci := 0) (q0 := 0) (hP.sub (ws' := [(ca.cp, .inr (0, [.ref ca.g, .ref ca.k, .ref ca.k2, .ref ca.fl, .ref ca.co, .ref ca.sp])), (ca.g, .inr (1, [.ref ca.a1, .ref ca.a2, .int (nI nd), .int (nI ar), .long pr]))]) [0, 1] rfl) hK rfl rfl) rfl hl.1 rfl (Nat.le_of_ble_eq_true rfl) d_LW_law_256 ⟨hRc, hRs⟩)) (fun r_1 hr_2 => ?_)
    refine xe_i (y := (-1)) hr_2 ?_
    refine lv_aload_n hx hb d_LW_law_259 rfl (lv_at hl 2 rfl) ?_
    refine lv_aload_n hx hb d_LW_law_260 rfl (lv_at hl 0 rfl) ?_
    refine lv_iload_n hx hb d_LW_law_261 rfl (lv_at hl 3 rfl) ?_
    refine lv_iconst (v := (nI 1)) hx hb d_LW_law_262 (by decide) ?_
    refine lv_iadd hx hb d_LW_law_263 ?_
    refine xe_i (nI_add _ _) ?_
    refine x_sld hx hb hX hbl hbA hS (by omega) hL d_LW_law_264 ?_
    refine x_ci (k_V (n := 1) (C := R_MO) (rest := [.int (-1)]) ⟨hx, hb, hml, hown, hts⟩ (c_MO_bridge_b l dC dI cI cJ cZ ma.o ma.fF ma.fG ma.fT ma.fN ma.fW ma.fO ma.fB ma.fS ma.fD th be bz sz nd ar P (xs (i + 1)) (by first | assumption | omega) (by first | assumption | omega)) wml_LW_43 wim_MO_bridge wsel_MO_bridge wini_MO wcode_MO_bridge (by decide +kernel) ⟨Nat.le_of_ble_eq_true rfl, Nat.le_of_ble_eq_true rfl⟩ (preV_M (q := (R_MO, F_MO, 15)) (ci := 7) (q0 := 0) (hP.sub (ws' := [(ma.o, .inr (7, [.int th, .int (nI nd), .int (nI ar), .ref ma.fF, .ref ma.fG, .ref ma.fT, .ref ma.fN, .ref ma.fW, .int be, .ref ma.fO, .ref ma.fB, .int bz, .ref ma.fS, .ref ma.fD, .int sz])), (ma.fT, .inl (cZ, 41, .inl (bF P)))]) [30, 33] rfl) hK (hD.sub (ws' := [(ma.o, .inr (7, [.int th, .int (nI nd), .int (nI ar), .ref ma.fF, .ref ma.fG, .ref ma.fT, .ref ma.fN, .ref ma.fW, .int be, .ref ma.fO, .ref ma.fB, .int bz, .ref ma.fS, .ref ma.fD, .int sz])), (ma.fT, .inl (cZ, 41, .inl (bF P)))]) [30, 33] (by decide) rfl) rfl rfl) rfl hl.1 rfl (Nat.le_of_ble_eq_true rfl) d_LW_law_265 ⟨hRc, hRs⟩) hP hD hS [30, 33] rfl (fun _ => rfl) (fun r_3 u_3 H locs hu_3 hP hS => ?_)
    have hP : va_P (dC, dI) cls (WL cI cJ cZ ca ma ⟨nd, ar, pr, F, G, N, Fm, Rs, A, z, Se, al, br, N2, Fm2, Rs2, A2, zi2, S2, al2, br2, Cr, Op, Bf, sn, Ld, zi, Sg, Pi, Bo, pci, Gd, gci, bl0⟩ ⟨(nI 0), nd, ar, be, bz, sz, F', G', P, Nm, Wm, Td, Ob, Sp, D⟩) H := hP
    have hD := hD.addr (ws' := (WL cI cJ cZ ca ma ⟨nd, ar, pr, F, G, N, Fm, Rs, A, z, Se, al, br, N2, Fm2, Rs2, A2, zi2, S2, al2, br2, Cr, Op, Bf, sn, Ld, zi, Sg, Pi, Bo, pci, Gd, gci, bl0⟩ ⟨(nI 0), nd, ar, be, bz, sz, F', G', P, Nm, Wm, Td, Ob, Sp, D⟩)) rfl
    have hag : r_3 = (-1) := hu_3
    refine xe_i (y := (-1)) hag ?_
    refine lv_icmp_eq (tgt := 609) hx hb d_LW_law_268 (by decide) (fun _ => ?_) (fun q9 => absurd rfl q9)
    exact kk ⟨nd, ar, pr, F, G, N, Fm, Rs, A, z, Se, al, br, N2, Fm2, Rs2, A2, zi2, S2, al2, br2, Cr, Op, Bf, sn, Ld, zi, Sg, Pi, Bo, pci, Gd, gci, bl0⟩ ⟨(nI 0), nd, ar, be, bz, sz, F', G', P, Nm, Wm, Td, Ob, Sp, D⟩ H locs ⟨hGA, hSK, hB0, rfl, rfl, hF, hG, hLK, hTd⟩ hP hD hS
  · skip
    obtain ⟨x, hxn, ex, hxl⟩ := ok_P hv har
    have hPx : P x = true := (lk_P hLK hxn).trans hxl
    rw [ex]
    refine vp_callSi (va_Run.run (k_V (n := 1) (C := R_CP) (rest := []) ⟨hx, hb, hml, hown, hts⟩ (c_CP_bridge_k l dC dI cI cJ cZ ca.cp ca.g ca.k ca.k2 ca.fl ca.co ca.sp ca.a1 ca.a2 nd ar pr F G (by first | assumption | omega) ca.nr ca.fr ca.rs ca.at_ ca.h al br N Fm A ca.b1 z Se (by first | assumption | omega) x (by first | assumption | omega) (by first | assumption | omega)) wml_LW_40 wim_CP_bridge wsel_CP_bridge wini_CP wcode_CP_bridge (by decide +kernel) ⟨Nat.le_of_ble_eq_true rfl, Nat.le_of_ble_eq_true rfl⟩ (preV_R (q := (R_CP, F_CP, 6)) (ci := 0) (q0 := 0) (hP.sub (ws' := [(ca.cp, .inr (0, [.ref ca.g, .ref ca.k, .ref ca.k2, .ref ca.fl, .ref ca.co, .ref ca.sp])), (ca.g, .inr (1, [.ref ca.a1, .ref ca.a2, .int (nI nd), .int (nI ar), .long pr])), (ca.k, .inr (2, [.ref ca.nr, .ref ca.fr, .ref ca.rs, .ref ca.at_, .ref ca.h, .int al, .long br]))]) [0, 1, 4] rfl) hK rfl rfl) rfl hl.1 rfl (Nat.le_of_ble_eq_true rfl) d_LW_law_256 ⟨hRc, hRs⟩)) (fun r_4 hr_5 => ?_)
    refine xe_i (y := (bI (lb br x))) hr_5 ?_
    refine lv_aload_n hx hb d_LW_law_259 rfl (lv_at hl 2 rfl) ?_
    refine lv_aload_n hx hb d_LW_law_260 rfl (lv_at hl 0 rfl) ?_
    refine lv_iload_n hx hb d_LW_law_261 rfl (lv_at hl 3 rfl) ?_
    refine lv_iconst (v := (nI 1)) hx hb d_LW_law_262 (by decide) ?_
    refine lv_iadd hx hb d_LW_law_263 ?_
    refine xe_i (nI_add _ _) ?_
    refine x_sld hx hb hX hbl hbA hS (by omega) hL d_LW_law_264 ?_
    rw [ex]
    refine x_ci (k_V (n := 1) (C := R_MO) (rest := [.int (bI (lb br x))]) ⟨hx, hb, hml, hown, hts⟩ (c_MO_bridge_k l dC dI cI cJ cZ ma.o ma.fF ma.fG ma.fT ma.fN ma.fW ma.fO ma.fB ma.fS ma.fD th be bz sz nd ar F' G' P (by first | assumption | omega) (by first | assumption | omega) (by first | assumption | omega) (by first | assumption | omega) (by first | assumption | omega) Nm x (by first | assumption | omega) (by first | assumption | omega)) wml_LW_43 wim_MO_bridge wsel_MO_bridge wini_MO wcode_MO_bridge (by decide +kernel) ⟨Nat.le_of_ble_eq_true rfl, Nat.le_of_ble_eq_true rfl⟩ (preV_M (q := (R_MO, F_MO, 15)) (ci := 7) (q0 := 0) (hP.sub (ws' := [(ma.o, .inr (7, [.int th, .int (nI nd), .int (nI ar), .ref ma.fF, .ref ma.fG, .ref ma.fT, .ref ma.fN, .ref ma.fW, .int be, .ref ma.fO, .ref ma.fB, .int bz, .ref ma.fS, .ref ma.fD, .int sz])), (ma.fF, .inl (cI, 41, .inl (nF F'))), (ma.fG, .inl (cI, 41, .inl (nF G'))), (ma.fT, .inl (cZ, 41, .inl (bF P))), (ma.fN, .inl (cI, 14, .inl Nm))]) [30, 31, 32, 33, 34] rfl) hK (hD.sub (ws' := [(ma.o, .inr (7, [.int th, .int (nI nd), .int (nI ar), .ref ma.fF, .ref ma.fG, .ref ma.fT, .ref ma.fN, .ref ma.fW, .int be, .ref ma.fO, .ref ma.fB, .int bz, .ref ma.fS, .ref ma.fD, .int sz])), (ma.fF, .inl (cI, 41, .inl (nF F'))), (ma.fG, .inl (cI, 41, .inl (nF G'))), (ma.fT, .inl (cZ, 41, .inl (bF P))), (ma.fN, .inl (cI, 14, .inl Nm))]) [30, 31, 32, 33, 34] (by decide) rfl) rfl rfl) rfl hl.1 rfl (Nat.le_of_ble_eq_true rfl) d_LW_law_265 ⟨hRc, hRs⟩) hP hD hS [30, 31, 32, 33, 34] rfl (fun _ => rfl) (fun r_6 u_6 H locs hu_6 hP hS => ?_)
    obtain ⟨N9_6, rfl⟩ : ∃ z, z = u_6 := ⟨_, rfl⟩
    have hP : va_P (dC, dI) cls (WL cI cJ cZ ca ma ⟨nd, ar, pr, F, G, N, Fm, Rs, A, z, Se, al, br, N2, Fm2, Rs2, A2, zi2, S2, al2, br2, Cr, Op, Bf, sn, Ld, zi, Sg, Pi, Bo, pci, Gd, gci, bl0⟩ ⟨(nI 0), nd, ar, be, bz, sz, F', G', P, N9_6, Wm, Td, Ob, Sp, D⟩) H := hP
    have hD := hD.addr (ws' := (WL cI cJ cZ ca ma ⟨nd, ar, pr, F, G, N, Fm, Rs, A, z, Se, al, br, N2, Fm2, Rs2, A2, zi2, S2, al2, br2, Cr, Op, Bf, sn, Ld, zi, Sg, Pi, Bo, pci, Gd, gci, bl0⟩ ⟨(nI 0), nd, ar, be, bz, sz, F', G', P, N9_6, Wm, Td, Ob, Sp, D⟩)) rfl
    have hag : r_6 = (bI (lb br x)) := hu_6.trans (by rw [brd_eq hLK hSK hxn hxl])
    refine xe_i (y := (bI (lb br x))) hag ?_
    refine lv_icmp_eq (tgt := 609) hx hb d_LW_law_268 (by decide) (fun _ => ?_) (fun q9 => absurd rfl q9)
    exact kk ⟨nd, ar, pr, F, G, N, Fm, Rs, A, z, Se, al, br, N2, Fm2, Rs2, A2, zi2, S2, al2, br2, Cr, Op, Bf, sn, Ld, zi, Sg, Pi, Bo, pci, Gd, gci, bl0⟩ ⟨(nI 0), nd, ar, be, bz, sz, F', G', P, N9_6, Wm, Td, Ob, Sp, D⟩ H locs ⟨hGA, hSK, hB0, rfl, rfl, hF, hG, hLK, hTd⟩ hP hD hS

set_option maxHeartbeats 8000000 in
set_option maxRecDepth 100000 in
theorem lw_falls {p : Program} {l : Launch} {e : Env} {s : State} {m : MethodId} {args : Array Value} {below : List Frame} {meth : Method} {c : Code} {H : Heap} {locs : List Loc} {Q : State → Prop} {dC : Nat → ClassId} {dI : Nat → Nat → Nat} {cI cJ cZ : ClassId} {A0 : Nat → Prop} {sc L : Nat} {xs : Nat → Int32} {ls : Array Slot} (X : LX p s m args c dC dI cI cJ cZ A0 sc L xs) {i : Nat} (hi : i + 3 ≤ L) {ca : CA} {ma : MA} {u : CS} {v : MS} (hI : LI u v) (hP : va_P (dC, dI) cls (WL cI cJ cZ ca ma u v) H) (hD : va_D A0 (WL cI cJ cZ ca ma u v)) (hS : va_S A0 s.heap H locs) (hl : lv_has ls 4 [(0, .ref sc), (1, .ref ca.cp), (2, .ref ma.o), (3, .int (nI i))])
    (kk : ∀ (u1 : CS) (v1 : MS) (H1 : Heap) (locs1 : List Loc), LI u1 v1 → va_P (dC, dI) cls (WL cI cJ cZ ca ma u1 v1) H1 → va_D A0 (WL cI cJ cZ ca ma u1 v1) → va_S A0 s.heap H1 locs1 → W p l e room_1 s m args below meth c H1 locs1 40 19226 Q (F0 m 609 ls [])) : W p l e room_1 s m args below meth c H locs 40 19226 Q (F0 m 273 ls []) := by
  obtain ⟨hx, hb, hml, hown, hts, hK, hX, hbl, hbA, hL⟩ := X
  have hRc : 40 ≤ room_1.cells := Nat.le_of_ble_eq_true rfl
  have hRs : 19226 ≤ room_1.slots := Nat.le_of_ble_eq_true rfl
  obtain ⟨nd, ar, pr, F, G, N, Fm, Rs, A, z, Se, al, br, N2, Fm2, Rs2, A2, zi2, S2, al2, br2, Cr, Op, Bf, sn, Ld, zi, Sg, Pi, Bo, pci, Gd, gci, bl0⟩ := u
  obtain ⟨th, ndm, arm, be, bz, sz, F', G', P, Nm, Wm, Td, Ob, Sp, D⟩ := v
  obtain ⟨hGA, hSK, hB0, e1, e2, hF, hG, hLK, hTd⟩ := hI
  have e1 : nd = ndm := e1
  have e2 : ar = arm := e2
  subst e1
  subst e2
  have hGA : GAR F G nd ar pr := hGA
  have hSK : SKI (lb pr) F G nd N Fm A Se z al br := hSK
  have hB0 : Bo 0 = 0 := hB0
  have hF : ∀ k, F' k < 14 := hF
  have hG : ∀ k, G' k < 14 := hG
  have hLK : LK F G pr F' G' P ar := hLK
  have hTd : ∀ k, Td k < 3 := hTd
  have hnd14 : nd ≤ 14 := hGA.1
  have har : ar ≤ 40 := hGA.2.1
  have hM := (lk_M hLK hGA).1
  have hNE := (lk_M hLK hGA).2
  refine lv_aload_n hx hb d_LW_law_273 rfl (lv_at hl 1 rfl) ?_
  refine lv_aload_n hx hb d_LW_law_274 rfl (lv_at hl 0 rfl) ?_
  refine lv_iload_n hx hb d_LW_law_275 rfl (lv_at hl 3 rfl) ?_
  refine lv_iconst (v := (nI 1)) hx hb d_LW_law_276 (by decide) ?_
  refine lv_iadd hx hb d_LW_law_277 ?_
  refine xe_i (nI_add _ _) ?_
  refine x_sld hx hb hX hbl hbA hS (by omega) hL d_LW_law_278 ?_
  cases hv : vd (xs (i + 1)) nd
  · skip
    have hbad := hv
    refine vp_callSi (va_Run.run (k_V (n := 1) (C := R_CP) (rest := []) ⟨hx, hb, hml, hown, hts⟩ (c_CP_falls_b l dC dI cI cJ cZ ca.cp ca.g ca.k ca.k2 ca.fl ca.co ca.sp ca.a1 ca.a2 nd ar pr (xs (i + 1)) (by first | assumption | omega) (by first | assumption | omega)) wml_LW_44 wim_CP_falls wsel_CP_falls wini_CP wcode_CP_falls (by decide +kernel) ⟨Nat.le_of_ble_eq_true rfl, Nat.le_of_ble_eq_true rfl⟩ (preV_R (q := (R_CP, F_CP, 6)) (ci := 0) (q0 := 0) (hP.sub (ws' := [(ca.cp, .inr (0, [.ref ca.g, .ref ca.k, .ref ca.k2, .ref ca.fl, .ref ca.co, .ref ca.sp])), (ca.g, .inr (1, [.ref ca.a1, .ref ca.a2, .int (nI nd), .int (nI ar), .long pr]))]) [0, 1] rfl) hK rfl rfl) rfl hl.1 rfl (Nat.le_of_ble_eq_true rfl) d_LW_law_279 ⟨hRc, hRs⟩)) (fun r_1 hr_2 => ?_)
    refine xe_i (y := (-1)) hr_2 ?_
    refine lv_aload_n hx hb d_LW_law_282 rfl (lv_at hl 2 rfl) ?_
    refine lv_aload_n hx hb d_LW_law_283 rfl (lv_at hl 0 rfl) ?_
    refine lv_iload_n hx hb d_LW_law_284 rfl (lv_at hl 3 rfl) ?_
    refine lv_iconst (v := (nI 1)) hx hb d_LW_law_285 (by decide) ?_
    refine lv_iadd hx hb d_LW_law_286 ?_
    refine xe_i (nI_add _ _) ?_
    refine x_sld hx hb hX hbl hbA hS (by omega) hL d_LW_law_287 ?_
    refine x_ci (k_V (n := 1) (C := R_MO) (rest := [.int (-1)]) ⟨hx, hb, hml, hown, hts⟩ (c_MO_falls_b l dC dI cI cJ cZ ma.o ma.fF ma.fG ma.fT ma.fN ma.fW ma.fO ma.fB ma.fS ma.fD th be bz sz nd ar (xs (i + 1)) (by first | assumption | omega) (by first | assumption | omega)) wml_LW_47 wim_MO_falls wsel_MO_falls wini_MO wcode_MO_falls (by decide +kernel) ⟨Nat.le_of_ble_eq_true rfl, Nat.le_of_ble_eq_true rfl⟩ (preV_M (q := (R_MO, F_MO, 15)) (ci := 7) (q0 := 0) (hP.sub (ws' := [(ma.o, .inr (7, [.int th, .int (nI nd), .int (nI ar), .ref ma.fF, .ref ma.fG, .ref ma.fT, .ref ma.fN, .ref ma.fW, .int be, .ref ma.fO, .ref ma.fB, .int bz, .ref ma.fS, .ref ma.fD, .int sz]))]) [30] rfl) hK (hD.sub (ws' := [(ma.o, .inr (7, [.int th, .int (nI nd), .int (nI ar), .ref ma.fF, .ref ma.fG, .ref ma.fT, .ref ma.fN, .ref ma.fW, .int be, .ref ma.fO, .ref ma.fB, .int bz, .ref ma.fS, .ref ma.fD, .int sz]))]) [30] (by decide) rfl) rfl rfl) rfl hl.1 rfl (Nat.le_of_ble_eq_true rfl) d_LW_law_288 ⟨hRc, hRs⟩) hP hD hS [30] rfl (fun _ => rfl) (fun r_3 u_3 H locs hu_3 hP hS => ?_)
    have hP : va_P (dC, dI) cls (WL cI cJ cZ ca ma ⟨nd, ar, pr, F, G, N, Fm, Rs, A, z, Se, al, br, N2, Fm2, Rs2, A2, zi2, S2, al2, br2, Cr, Op, Bf, sn, Ld, zi, Sg, Pi, Bo, pci, Gd, gci, bl0⟩ ⟨(nI 0), nd, ar, be, bz, sz, F', G', P, Nm, Wm, Td, Ob, Sp, D⟩) H := hP
    have hD := hD.addr (ws' := (WL cI cJ cZ ca ma ⟨nd, ar, pr, F, G, N, Fm, Rs, A, z, Se, al, br, N2, Fm2, Rs2, A2, zi2, S2, al2, br2, Cr, Op, Bf, sn, Ld, zi, Sg, Pi, Bo, pci, Gd, gci, bl0⟩ ⟨(nI 0), nd, ar, be, bz, sz, F', G', P, Nm, Wm, Td, Ob, Sp, D⟩)) rfl
    have hag : r_3 = (-1) := hu_3
    refine xe_i (y := (-1)) hag ?_
    refine lv_icmp_eq (tgt := 609) hx hb d_LW_law_291 (by decide) (fun _ => ?_) (fun q9 => absurd rfl q9)
    exact kk ⟨nd, ar, pr, F, G, N, Fm, Rs, A, z, Se, al, br, N2, Fm2, Rs2, A2, zi2, S2, al2, br2, Cr, Op, Bf, sn, Ld, zi, Sg, Pi, Bo, pci, Gd, gci, bl0⟩ ⟨(nI 0), nd, ar, be, bz, sz, F', G', P, Nm, Wm, Td, Ob, Sp, D⟩ H locs ⟨hGA, hSK, hB0, rfl, rfl, hF, hG, hLK, hTd⟩ hP hD hS
  · skip
    obtain ⟨x, hxn, ex⟩ := vd_t hv (by omega)
    rw [ex]
    refine vp_callSi (va_Run.run (k_V (n := 1) (C := R_CP) (rest := []) ⟨hx, hb, hml, hown, hts⟩ (c_CP_falls_k l dC dI cI cJ cZ ca.cp ca.g ca.k ca.k2 ca.fl ca.co ca.sp ca.a1 ca.a2 nd ar pr F G (by first | assumption | omega) ca.nr ca.fr ca.rs ca.at_ ca.h al br N Fm A ca.b1 z Se (by first | assumption | omega) x (by first | assumption | omega)) wml_LW_44 wim_CP_falls wsel_CP_falls wini_CP wcode_CP_falls (by decide +kernel) ⟨Nat.le_of_ble_eq_true rfl, Nat.le_of_ble_eq_true rfl⟩ (preV_R (q := (R_CP, F_CP, 6)) (ci := 0) (q0 := 0) (hP.sub (ws' := [(ca.cp, .inr (0, [.ref ca.g, .ref ca.k, .ref ca.k2, .ref ca.fl, .ref ca.co, .ref ca.sp])), (ca.g, .inr (1, [.ref ca.a1, .ref ca.a2, .int (nI nd), .int (nI ar), .long pr])), (ca.k, .inr (2, [.ref ca.nr, .ref ca.fr, .ref ca.rs, .ref ca.at_, .ref ca.h, .int al, .long br])), (ca.nr, .inl (cI, 14, .inl N))]) [0, 1, 4, 5] rfl) hK rfl rfl) rfl hl.1 rfl (Nat.le_of_ble_eq_true rfl) d_LW_law_279 ⟨hRc, hRs⟩)) (fun r_4 hr_5 => ?_)
    obtain ⟨kx_6, ek_6, hk_6⟩ := hr_5
    refine xe_i (y := (nI kx_6)) ek_6 ?_
    refine lv_aload_n hx hb d_LW_law_282 rfl (lv_at hl 2 rfl) ?_
    refine lv_aload_n hx hb d_LW_law_283 rfl (lv_at hl 0 rfl) ?_
    refine lv_iload_n hx hb d_LW_law_284 rfl (lv_at hl 3 rfl) ?_
    refine lv_iconst (v := (nI 1)) hx hb d_LW_law_285 (by decide) ?_
    refine lv_iadd hx hb d_LW_law_286 ?_
    refine xe_i (nI_add _ _) ?_
    refine x_sld hx hb hX hbl hbA hS (by omega) hL d_LW_law_287 ?_
    rw [ex]
    refine x_ci (k_V (n := 1) (C := R_MO) (rest := [.int (nI kx_6)]) ⟨hx, hb, hml, hown, hts⟩ (c_MO_falls_k l dC dI cI cJ cZ ma.o ma.fF ma.fG ma.fT ma.fN ma.fW ma.fO ma.fB ma.fS ma.fD th be bz sz nd ar F' G' P (by first | assumption | omega) (by first | assumption | omega) (by first | assumption | omega) (by first | assumption | omega) (by first | assumption | omega) Nm x (by first | assumption | omega)) wml_LW_47 wim_MO_falls wsel_MO_falls wini_MO wcode_MO_falls (by decide +kernel) ⟨Nat.le_of_ble_eq_true rfl, Nat.le_of_ble_eq_true rfl⟩ (preV_M (q := (R_MO, F_MO, 15)) (ci := 7) (q0 := 0) (hP.sub (ws' := [(ma.o, .inr (7, [.int th, .int (nI nd), .int (nI ar), .ref ma.fF, .ref ma.fG, .ref ma.fT, .ref ma.fN, .ref ma.fW, .int be, .ref ma.fO, .ref ma.fB, .int bz, .ref ma.fS, .ref ma.fD, .int sz])), (ma.fF, .inl (cI, 41, .inl (nF F'))), (ma.fG, .inl (cI, 41, .inl (nF G'))), (ma.fT, .inl (cZ, 41, .inl (bF P))), (ma.fN, .inl (cI, 14, .inl Nm))]) [30, 31, 32, 33, 34] rfl) hK (hD.sub (ws' := [(ma.o, .inr (7, [.int th, .int (nI nd), .int (nI ar), .ref ma.fF, .ref ma.fG, .ref ma.fT, .ref ma.fN, .ref ma.fW, .int be, .ref ma.fO, .ref ma.fB, .int bz, .ref ma.fS, .ref ma.fD, .int sz])), (ma.fF, .inl (cI, 41, .inl (nF F'))), (ma.fG, .inl (cI, 41, .inl (nF G'))), (ma.fT, .inl (cZ, 41, .inl (bF P))), (ma.fN, .inl (cI, 14, .inl Nm))]) [30, 31, 32, 33, 34] (by decide) rfl) rfl rfl) rfl hl.1 rfl (Nat.le_of_ble_eq_true rfl) d_LW_law_288 ⟨hRc, hRs⟩) hP hD hS [30, 31, 32, 33, 34] rfl (fun _ => rfl) (fun r_7 u_7 H locs hu_7 hP hS => ?_)
    obtain ⟨N9_7, rfl⟩ : ∃ z, z = u_7 := ⟨_, rfl⟩
    have hP : va_P (dC, dI) cls (WL cI cJ cZ ca ma ⟨nd, ar, pr, F, G, N, Fm, Rs, A, z, Se, al, br, N2, Fm2, Rs2, A2, zi2, S2, al2, br2, Cr, Op, Bf, sn, Ld, zi, Sg, Pi, Bo, pci, Gd, gci, bl0⟩ ⟨(nI 0), nd, ar, be, bz, sz, F', G', P, N9_7, Wm, Td, Ob, Sp, D⟩) H := hP
    have hD := hD.addr (ws' := (WL cI cJ cZ ca ma ⟨nd, ar, pr, F, G, N, Fm, Rs, A, z, Se, al, br, N2, Fm2, Rs2, A2, zi2, S2, al2, br2, Cr, Op, Bf, sn, Ld, zi, Sg, Pi, Bo, pci, Gd, gci, bl0⟩ ⟨(nI 0), nd, ar, be, bz, sz, F', G', P, N9_7, Wm, Td, Ob, Sp, D⟩)) rfl
    obtain ⟨kx_8, ek_8, hk_8⟩ := hu_7
    refine xe_i (y := (nI kx_8)) ek_8 ?_
    have hag : (nI kx_8) = (nI kx_6) := congrArg nI (falls_eq hLK hSK hxn hk_6 hk_8).symm
    refine xe_i (y := (nI kx_6)) hag ?_
    refine lv_icmp_eq (tgt := 609) hx hb d_LW_law_291 (by decide) (fun _ => ?_) (fun q9 => absurd rfl q9)
    exact kk ⟨nd, ar, pr, F, G, N, Fm, Rs, A, z, Se, al, br, N2, Fm2, Rs2, A2, zi2, S2, al2, br2, Cr, Op, Bf, sn, Ld, zi, Sg, Pi, Bo, pci, Gd, gci, bl0⟩ ⟨(nI 0), nd, ar, be, bz, sz, F', G', P, N9_7, Wm, Td, Ob, Sp, D⟩ H locs ⟨hGA, hSK, hB0, rfl, rfl, hF, hG, hLK, hTd⟩ hP hD hS

set_option maxHeartbeats 8000000 in
set_option maxRecDepth 100000 in
theorem lw_block {p : Program} {l : Launch} {e : Env} {s : State} {m : MethodId} {args : Array Value} {below : List Frame} {meth : Method} {c : Code} {H : Heap} {locs : List Loc} {Q : State → Prop} {dC : Nat → ClassId} {dI : Nat → Nat → Nat} {cI cJ cZ : ClassId} {A0 : Nat → Prop} {sc L : Nat} {xs : Nat → Int32} {ls : Array Slot} (X : LX p s m args c dC dI cI cJ cZ A0 sc L xs) {i : Nat} (hi : i + 3 ≤ L) {ca : CA} {ma : MA} {u : CS} {v : MS} (hI : LI u v) (hP : va_P (dC, dI) cls (WL cI cJ cZ ca ma u v) H) (hD : va_D A0 (WL cI cJ cZ ca ma u v)) (hS : va_S A0 s.heap H locs) (hl : lv_has ls 4 [(0, .ref sc), (1, .ref ca.cp), (2, .ref ma.o), (3, .int (nI i))])
    (kk : ∀ (u1 : CS) (v1 : MS) (H1 : Heap) (locs1 : List Loc), LI u1 v1 → va_P (dC, dI) cls (WL cI cJ cZ ca ma u1 v1) H1 → va_D A0 (WL cI cJ cZ ca ma u1 v1) → va_S A0 s.heap H1 locs1 → W p l e room_1 s m args below meth c H1 locs1 40 19226 Q (F0 m 609 ls [])) : W p l e room_1 s m args below meth c H locs 40 19226 Q (F0 m 296 ls []) := by
  obtain ⟨hx, hb, hml, hown, hts, hK, hX, hbl, hbA, hL⟩ := X
  have hRc : 40 ≤ room_1.cells := Nat.le_of_ble_eq_true rfl
  have hRs : 19226 ≤ room_1.slots := Nat.le_of_ble_eq_true rfl
  obtain ⟨nd, ar, pr, F, G, N, Fm, Rs, A, z, Se, al, br, N2, Fm2, Rs2, A2, zi2, S2, al2, br2, Cr, Op, Bf, sn, Ld, zi, Sg, Pi, Bo, pci, Gd, gci, bl0⟩ := u
  obtain ⟨th, ndm, arm, be, bz, sz, F', G', P, Nm, Wm, Td, Ob, Sp, D⟩ := v
  obtain ⟨hGA, hSK, hB0, e1, e2, hF, hG, hLK, hTd⟩ := hI
  have e1 : nd = ndm := e1
  have e2 : ar = arm := e2
  subst e1
  subst e2
  have hGA : GAR F G nd ar pr := hGA
  have hSK : SKI (lb pr) F G nd N Fm A Se z al br := hSK
  have hB0 : Bo 0 = 0 := hB0
  have hF : ∀ k, F' k < 14 := hF
  have hG : ∀ k, G' k < 14 := hG
  have hLK : LK F G pr F' G' P ar := hLK
  have hTd : ∀ k, Td k < 3 := hTd
  have hnd14 : nd ≤ 14 := hGA.1
  have har : ar ≤ 40 := hGA.2.1
  have hM := (lk_M hLK hGA).1
  have hNE := (lk_M hLK hGA).2
  refine lv_aload_n hx hb d_LW_law_296 rfl (lv_at hl 1 rfl) ?_
  refine lv_aload_n hx hb d_LW_law_297 rfl (lv_at hl 0 rfl) ?_
  refine lv_iload_n hx hb d_LW_law_298 rfl (lv_at hl 3 rfl) ?_
  refine lv_iconst (v := (nI 1)) hx hb d_LW_law_299 (by decide) ?_
  refine lv_iadd hx hb d_LW_law_300 ?_
  refine xe_i (nI_add _ _) ?_
  refine x_sld hx hb hX hbl hbA hS (by omega) hL d_LW_law_301 ?_
  cases hv : (vd (xs (i + 1)) ar && lb pr (xs (i + 1)).toNatClampNeg)
  · skip
    have hbad := hv
    have hbadP := bad_P hLK hv
    refine vp_callSi (va_Run.run (k_V (n := 1) (C := R_CP) (rest := []) ⟨hx, hb, hml, hown, hts⟩ (c_CP_block_b l dC dI cI cJ cZ ca.cp ca.g ca.k ca.k2 ca.fl ca.co ca.sp ca.a1 ca.a2 nd ar pr (xs (i + 1)) (by first | assumption | omega) (by first | assumption | omega)) wml_LW_48 wim_CP_block wsel_CP_block wini_CP wcode_CP_block (by decide +kernel) ⟨Nat.le_of_ble_eq_true rfl, Nat.le_of_ble_eq_true rfl⟩ (preV_R (q := (R_CP, F_CP, 6)) (ci := 0) (q0 := 0) (hP.sub (ws' := [(ca.cp, .inr (0, [.ref ca.g, .ref ca.k, .ref ca.k2, .ref ca.fl, .ref ca.co, .ref ca.sp])), (ca.g, .inr (1, [.ref ca.a1, .ref ca.a2, .int (nI nd), .int (nI ar), .long pr]))]) [0, 1] rfl) hK rfl rfl) rfl hl.1 rfl (Nat.le_of_ble_eq_true rfl) d_LW_law_302 ⟨hRc, hRs⟩)) (fun r_1 hr_2 => ?_)
    refine xe_i (y := (-1)) hr_2 ?_
    refine lv_aload_n hx hb d_LW_law_305 rfl (lv_at hl 2 rfl) ?_
    refine lv_aload_n hx hb d_LW_law_306 rfl (lv_at hl 0 rfl) ?_
    refine lv_iload_n hx hb d_LW_law_307 rfl (lv_at hl 3 rfl) ?_
    refine lv_iconst (v := (nI 1)) hx hb d_LW_law_308 (by decide) ?_
    refine lv_iadd hx hb d_LW_law_309 ?_
    refine xe_i (nI_add _ _) ?_
    refine x_sld hx hb hX hbl hbA hS (by omega) hL d_LW_law_310 ?_
    refine x_ci (k_V (n := 1) (C := R_MO) (rest := [.int (-1)]) ⟨hx, hb, hml, hown, hts⟩ (c_MO_block_b l dC dI cI cJ cZ ma.o ma.fF ma.fG ma.fT ma.fN ma.fW ma.fO ma.fB ma.fS ma.fD th be bz sz nd ar P (xs (i + 1)) (by first | assumption | omega) (by first | assumption | omega)) wml_LW_51 wim_MO_block wsel_MO_block wini_MO wcode_MO_block (by decide +kernel) ⟨Nat.le_of_ble_eq_true rfl, Nat.le_of_ble_eq_true rfl⟩ (preV_M (q := (R_MO, F_MO, 15)) (ci := 7) (q0 := 0) (hP.sub (ws' := [(ma.o, .inr (7, [.int th, .int (nI nd), .int (nI ar), .ref ma.fF, .ref ma.fG, .ref ma.fT, .ref ma.fN, .ref ma.fW, .int be, .ref ma.fO, .ref ma.fB, .int bz, .ref ma.fS, .ref ma.fD, .int sz])), (ma.fT, .inl (cZ, 41, .inl (bF P)))]) [30, 33] rfl) hK (hD.sub (ws' := [(ma.o, .inr (7, [.int th, .int (nI nd), .int (nI ar), .ref ma.fF, .ref ma.fG, .ref ma.fT, .ref ma.fN, .ref ma.fW, .int be, .ref ma.fO, .ref ma.fB, .int bz, .ref ma.fS, .ref ma.fD, .int sz])), (ma.fT, .inl (cZ, 41, .inl (bF P)))]) [30, 33] (by decide) rfl) rfl rfl) rfl hl.1 rfl (Nat.le_of_ble_eq_true rfl) d_LW_law_311 ⟨hRc, hRs⟩) hP hD hS [30, 33] rfl (fun _ => rfl) (fun r_3 u_3 H locs hu_3 hP hS => ?_)
    have hP : va_P (dC, dI) cls (WL cI cJ cZ ca ma ⟨nd, ar, pr, F, G, N, Fm, Rs, A, z, Se, al, br, N2, Fm2, Rs2, A2, zi2, S2, al2, br2, Cr, Op, Bf, sn, Ld, zi, Sg, Pi, Bo, pci, Gd, gci, bl0⟩ ⟨(nI 0), nd, ar, be, bz, sz, F', G', P, Nm, Wm, Td, Ob, Sp, D⟩) H := hP
    have hD := hD.addr (ws' := (WL cI cJ cZ ca ma ⟨nd, ar, pr, F, G, N, Fm, Rs, A, z, Se, al, br, N2, Fm2, Rs2, A2, zi2, S2, al2, br2, Cr, Op, Bf, sn, Ld, zi, Sg, Pi, Bo, pci, Gd, gci, bl0⟩ ⟨(nI 0), nd, ar, be, bz, sz, F', G', P, Nm, Wm, Td, Ob, Sp, D⟩)) rfl
    have hag : r_3 = (-1) := hu_3
    refine xe_i (y := (-1)) hag ?_
    refine lv_icmp_eq (tgt := 609) hx hb d_LW_law_314 (by decide) (fun _ => ?_) (fun q9 => absurd rfl q9)
    exact kk ⟨nd, ar, pr, F, G, N, Fm, Rs, A, z, Se, al, br, N2, Fm2, Rs2, A2, zi2, S2, al2, br2, Cr, Op, Bf, sn, Ld, zi, Sg, Pi, Bo, pci, Gd, gci, bl0⟩ ⟨(nI 0), nd, ar, be, bz, sz, F', G', P, Nm, Wm, Td, Ob, Sp, D⟩ H locs ⟨hGA, hSK, hB0, rfl, rfl, hF, hG, hLK, hTd⟩ hP hD hS
  · skip
    obtain ⟨x, hxn, ex, hxl⟩ := ok_P hv har
    have hPx : P x = true := (lk_P hLK hxn).trans hxl
    rw [ex]
    refine vp_callSi (va_Run.run (k_V (n := 1) (C := R_CP) (rest := []) ⟨hx, hb, hml, hown, hts⟩ (c_CP_block_k l dC dI cI cJ cZ ca.cp ca.g ca.k ca.k2 ca.fl ca.co ca.sp ca.a1 ca.a2 nd ar pr F G (by first | assumption | omega) ca.nr ca.fr ca.rs ca.at_ ca.h al br N Fm A ca.b1 z Se (by first | assumption | omega) x (by first | assumption | omega) (by first | assumption | omega)) wml_LW_48 wim_CP_block wsel_CP_block wini_CP wcode_CP_block (by decide +kernel) ⟨Nat.le_of_ble_eq_true rfl, Nat.le_of_ble_eq_true rfl⟩ (preV_R (q := (R_CP, F_CP, 6)) (ci := 0) (q0 := 0) (hP.sub (ws' := [(ca.cp, .inr (0, [.ref ca.g, .ref ca.k, .ref ca.k2, .ref ca.fl, .ref ca.co, .ref ca.sp])), (ca.g, .inr (1, [.ref ca.a1, .ref ca.a2, .int (nI nd), .int (nI ar), .long pr])), (ca.k, .inr (2, [.ref ca.nr, .ref ca.fr, .ref ca.rs, .ref ca.at_, .ref ca.h, .int al, .long br])), (ca.h, .inr (3, [.ref ca.b1, .int (nI z)])), (ca.b1, .inl (cJ, 41, .inr (.inl Se)))]) [0, 1, 4, 9, 10] rfl) hK rfl rfl) rfl hl.1 rfl (Nat.le_of_ble_eq_true rfl) d_LW_law_302 ⟨hRc, hRs⟩)) (fun r_4 hr_5 => ?_)
    obtain ⟨kx_6, ek_6, hk_6⟩ := hr_5
    refine xe_i (y := (nI kx_6)) ek_6 ?_
    refine lv_aload_n hx hb d_LW_law_305 rfl (lv_at hl 2 rfl) ?_
    refine lv_aload_n hx hb d_LW_law_306 rfl (lv_at hl 0 rfl) ?_
    refine lv_iload_n hx hb d_LW_law_307 rfl (lv_at hl 3 rfl) ?_
    refine lv_iconst (v := (nI 1)) hx hb d_LW_law_308 (by decide) ?_
    refine lv_iadd hx hb d_LW_law_309 ?_
    refine xe_i (nI_add _ _) ?_
    refine x_sld hx hb hX hbl hbA hS (by omega) hL d_LW_law_310 ?_
    rw [ex]
    refine x_ci (k_V (n := 1) (C := R_MO) (rest := [.int (nI kx_6)]) ⟨hx, hb, hml, hown, hts⟩ (c_MO_block_k l dC dI cI cJ cZ ma.o ma.fF ma.fG ma.fT ma.fN ma.fW ma.fO ma.fB ma.fS ma.fD th be bz sz nd ar F' G' P (by first | assumption | omega) (by first | assumption | omega) (by first | assumption | omega) (by first | assumption | omega) (by first | assumption | omega) Nm x (by first | assumption | omega) (by first | assumption | omega)) wml_LW_51 wim_MO_block wsel_MO_block wini_MO wcode_MO_block (by decide +kernel) ⟨Nat.le_of_ble_eq_true rfl, Nat.le_of_ble_eq_true rfl⟩ (preV_M (q := (R_MO, F_MO, 15)) (ci := 7) (q0 := 0) (hP.sub (ws' := [(ma.o, .inr (7, [.int th, .int (nI nd), .int (nI ar), .ref ma.fF, .ref ma.fG, .ref ma.fT, .ref ma.fN, .ref ma.fW, .int be, .ref ma.fO, .ref ma.fB, .int bz, .ref ma.fS, .ref ma.fD, .int sz])), (ma.fF, .inl (cI, 41, .inl (nF F'))), (ma.fG, .inl (cI, 41, .inl (nF G'))), (ma.fT, .inl (cZ, 41, .inl (bF P))), (ma.fN, .inl (cI, 14, .inl Nm))]) [30, 31, 32, 33, 34] rfl) hK (hD.sub (ws' := [(ma.o, .inr (7, [.int th, .int (nI nd), .int (nI ar), .ref ma.fF, .ref ma.fG, .ref ma.fT, .ref ma.fN, .ref ma.fW, .int be, .ref ma.fO, .ref ma.fB, .int bz, .ref ma.fS, .ref ma.fD, .int sz])), (ma.fF, .inl (cI, 41, .inl (nF F'))), (ma.fG, .inl (cI, 41, .inl (nF G'))), (ma.fT, .inl (cZ, 41, .inl (bF P))), (ma.fN, .inl (cI, 14, .inl Nm))]) [30, 31, 32, 33, 34] (by decide) rfl) rfl rfl) rfl hl.1 rfl (Nat.le_of_ble_eq_true rfl) d_LW_law_311 ⟨hRc, hRs⟩) hP hD hS [30, 31, 32, 33, 34] rfl (fun _ => rfl) (fun r_7 u_7 H locs hu_7 hP hS => ?_)
    obtain ⟨N9_7, rfl⟩ : ∃ z, z = u_7 := ⟨_, rfl⟩
    have hP : va_P (dC, dI) cls (WL cI cJ cZ ca ma ⟨nd, ar, pr, F, G, N, Fm, Rs, A, z, Se, al, br, N2, Fm2, Rs2, A2, zi2, S2, al2, br2, Cr, Op, Bf, sn, Ld, zi, Sg, Pi, Bo, pci, Gd, gci, bl0⟩ ⟨(nI 0), nd, ar, be, bz, sz, F', G', P, N9_7, Wm, Td, Ob, Sp, D⟩) H := hP
    have hD := hD.addr (ws' := (WL cI cJ cZ ca ma ⟨nd, ar, pr, F, G, N, Fm, Rs, A, z, Se, al, br, N2, Fm2, Rs2, A2, zi2, S2, al2, br2, Cr, Op, Bf, sn, Ld, zi, Sg, Pi, Bo, pci, Gd, gci, bl0⟩ ⟨(nI 0), nd, ar, be, bz, sz, F', G', P, N9_7, Wm, Td, Ob, Sp, D⟩)) rfl
    obtain ⟨kx_8, ek_8, hk_8⟩ := hu_7
    refine xe_i (y := (nI kx_8)) ek_8 ?_
    have hag : (nI kx_8) = (nI kx_6) := by
      obtain ⟨y9, c1, c2⟩ := hk_6
      rw [c2, blk_eq hLK hSK.1 hSK.2.2.2.2.1 hxn hxl c1 hk_8]
    refine xe_i (y := (nI kx_6)) hag ?_
    refine lv_icmp_eq (tgt := 609) hx hb d_LW_law_314 (by decide) (fun _ => ?_) (fun q9 => absurd rfl q9)
    exact kk ⟨nd, ar, pr, F, G, N, Fm, Rs, A, z, Se, al, br, N2, Fm2, Rs2, A2, zi2, S2, al2, br2, Cr, Op, Bf, sn, Ld, zi, Sg, Pi, Bo, pci, Gd, gci, bl0⟩ ⟨(nI 0), nd, ar, be, bz, sz, F', G', P, N9_7, Wm, Td, Ob, Sp, D⟩ H locs ⟨hGA, hSK, hB0, rfl, rfl, hF, hG, hLK, hTd⟩ hP hD hS

set_option maxHeartbeats 8000000 in
set_option maxRecDepth 100000 in
theorem lw_twin {p : Program} {l : Launch} {e : Env} {s : State} {m : MethodId} {args : Array Value} {below : List Frame} {meth : Method} {c : Code} {H : Heap} {locs : List Loc} {Q : State → Prop} {dC : Nat → ClassId} {dI : Nat → Nat → Nat} {cI cJ cZ : ClassId} {A0 : Nat → Prop} {sc L : Nat} {xs : Nat → Int32} {ls : Array Slot} (X : LX p s m args c dC dI cI cJ cZ A0 sc L xs) {i : Nat} (hi : i + 3 ≤ L) {ca : CA} {ma : MA} {u : CS} {v : MS} (hI : LI u v) (hP : va_P (dC, dI) cls (WL cI cJ cZ ca ma u v) H) (hD : va_D A0 (WL cI cJ cZ ca ma u v)) (hS : va_S A0 s.heap H locs) (hl : lv_has ls 4 [(0, .ref sc), (1, .ref ca.cp), (2, .ref ma.o), (3, .int (nI i))])
    (kk : ∀ (u1 : CS) (v1 : MS) (H1 : Heap) (locs1 : List Loc), LI u1 v1 → va_P (dC, dI) cls (WL cI cJ cZ ca ma u1 v1) H1 → va_D A0 (WL cI cJ cZ ca ma u1 v1) → va_S A0 s.heap H1 locs1 → W p l e room_1 s m args below meth c H1 locs1 40 19226 Q (F0 m 609 ls [])) : W p l e room_1 s m args below meth c H locs 40 19226 Q (F0 m 319 ls []) := by
  obtain ⟨hx, hb, hml, hown, hts, hK, hX, hbl, hbA, hL⟩ := X
  have hRc : 40 ≤ room_1.cells := Nat.le_of_ble_eq_true rfl
  have hRs : 19226 ≤ room_1.slots := Nat.le_of_ble_eq_true rfl
  obtain ⟨nd, ar, pr, F, G, N, Fm, Rs, A, z, Se, al, br, N2, Fm2, Rs2, A2, zi2, S2, al2, br2, Cr, Op, Bf, sn, Ld, zi, Sg, Pi, Bo, pci, Gd, gci, bl0⟩ := u
  obtain ⟨th, ndm, arm, be, bz, sz, F', G', P, Nm, Wm, Td, Ob, Sp, D⟩ := v
  obtain ⟨hGA, hSK, hB0, e1, e2, hF, hG, hLK, hTd⟩ := hI
  have e1 : nd = ndm := e1
  have e2 : ar = arm := e2
  subst e1
  subst e2
  have hGA : GAR F G nd ar pr := hGA
  have hSK : SKI (lb pr) F G nd N Fm A Se z al br := hSK
  have hB0 : Bo 0 = 0 := hB0
  have hF : ∀ k, F' k < 14 := hF
  have hG : ∀ k, G' k < 14 := hG
  have hLK : LK F G pr F' G' P ar := hLK
  have hTd : ∀ k, Td k < 3 := hTd
  have hnd14 : nd ≤ 14 := hGA.1
  have har : ar ≤ 40 := hGA.2.1
  have hM := (lk_M hLK hGA).1
  have hNE := (lk_M hLK hGA).2
  refine lv_aload_n hx hb d_LW_law_319 rfl (lv_at hl 1 rfl) ?_
  refine lv_aload_n hx hb d_LW_law_320 rfl (lv_at hl 0 rfl) ?_
  refine lv_iload_n hx hb d_LW_law_321 rfl (lv_at hl 3 rfl) ?_
  refine lv_iconst (v := (nI 1)) hx hb d_LW_law_322 (by decide) ?_
  refine lv_iadd hx hb d_LW_law_323 ?_
  refine xe_i (nI_add _ _) ?_
  refine x_sld hx hb hX hbl hbA hS (by omega) hL d_LW_law_324 ?_
  cases hv : vd (xs (i + 1)) nd
  · skip
    have hbad := hv
    refine vp_callSi (va_Run.run (k_V (n := 1) (C := R_CP) (rest := []) ⟨hx, hb, hml, hown, hts⟩ (c_CP_twin_b l dC dI cI cJ cZ ca.cp ca.g ca.k ca.k2 ca.fl ca.co ca.sp ca.a1 ca.a2 nd ar pr (xs (i + 1)) (by first | assumption | omega) (by first | assumption | omega)) wml_LW_52 wim_CP_twin wsel_CP_twin wini_CP wcode_CP_twin (by decide +kernel) ⟨Nat.le_of_ble_eq_true rfl, Nat.le_of_ble_eq_true rfl⟩ (preV_R (q := (R_CP, F_CP, 6)) (ci := 0) (q0 := 0) (hP.sub (ws' := [(ca.cp, .inr (0, [.ref ca.g, .ref ca.k, .ref ca.k2, .ref ca.fl, .ref ca.co, .ref ca.sp])), (ca.g, .inr (1, [.ref ca.a1, .ref ca.a2, .int (nI nd), .int (nI ar), .long pr]))]) [0, 1] rfl) hK rfl rfl) rfl hl.1 rfl (Nat.le_of_ble_eq_true rfl) d_LW_law_325 ⟨hRc, hRs⟩)) (fun r_1 hr_2 => ?_)
    refine xe_i (y := (-1)) hr_2 ?_
    refine lv_aload_n hx hb d_LW_law_328 rfl (lv_at hl 2 rfl) ?_
    refine lv_aload_n hx hb d_LW_law_329 rfl (lv_at hl 0 rfl) ?_
    refine lv_iload_n hx hb d_LW_law_330 rfl (lv_at hl 3 rfl) ?_
    refine lv_iconst (v := (nI 1)) hx hb d_LW_law_331 (by decide) ?_
    refine lv_iadd hx hb d_LW_law_332 ?_
    refine xe_i (nI_add _ _) ?_
    refine x_sld hx hb hX hbl hbA hS (by omega) hL d_LW_law_333 ?_
    refine x_ci (k_V (n := 1) (C := R_MO) (rest := [.int (-1)]) ⟨hx, hb, hml, hown, hts⟩ (c_MO_twin_b l dC dI cI cJ cZ ma.o ma.fF ma.fG ma.fT ma.fN ma.fW ma.fO ma.fB ma.fS ma.fD th be bz sz nd ar (xs (i + 1)) (by first | assumption | omega) (by first | assumption | omega)) wml_LW_55 wim_MO_twin wsel_MO_twin wini_MO wcode_MO_twin (by decide +kernel) ⟨Nat.le_of_ble_eq_true rfl, Nat.le_of_ble_eq_true rfl⟩ (preV_M (q := (R_MO, F_MO, 15)) (ci := 7) (q0 := 0) (hP.sub (ws' := [(ma.o, .inr (7, [.int th, .int (nI nd), .int (nI ar), .ref ma.fF, .ref ma.fG, .ref ma.fT, .ref ma.fN, .ref ma.fW, .int be, .ref ma.fO, .ref ma.fB, .int bz, .ref ma.fS, .ref ma.fD, .int sz]))]) [30] rfl) hK (hD.sub (ws' := [(ma.o, .inr (7, [.int th, .int (nI nd), .int (nI ar), .ref ma.fF, .ref ma.fG, .ref ma.fT, .ref ma.fN, .ref ma.fW, .int be, .ref ma.fO, .ref ma.fB, .int bz, .ref ma.fS, .ref ma.fD, .int sz]))]) [30] (by decide) rfl) rfl rfl) rfl hl.1 rfl (Nat.le_of_ble_eq_true rfl) d_LW_law_334 ⟨hRc, hRs⟩) hP hD hS [30] rfl (fun _ => rfl) (fun r_3 u_3 H locs hu_3 hP hS => ?_)
    have hP : va_P (dC, dI) cls (WL cI cJ cZ ca ma ⟨nd, ar, pr, F, G, N, Fm, Rs, A, z, Se, al, br, N2, Fm2, Rs2, A2, zi2, S2, al2, br2, Cr, Op, Bf, sn, Ld, zi, Sg, Pi, Bo, pci, Gd, gci, bl0⟩ ⟨(nI 0), nd, ar, be, bz, sz, F', G', P, Nm, Wm, Td, Ob, Sp, D⟩) H := hP
    have hD := hD.addr (ws' := (WL cI cJ cZ ca ma ⟨nd, ar, pr, F, G, N, Fm, Rs, A, z, Se, al, br, N2, Fm2, Rs2, A2, zi2, S2, al2, br2, Cr, Op, Bf, sn, Ld, zi, Sg, Pi, Bo, pci, Gd, gci, bl0⟩ ⟨(nI 0), nd, ar, be, bz, sz, F', G', P, Nm, Wm, Td, Ob, Sp, D⟩)) rfl
    have hag : r_3 = (-1) := hu_3
    refine xe_i (y := (-1)) hag ?_
    refine lv_icmp_eq (tgt := 609) hx hb d_LW_law_337 (by decide) (fun _ => ?_) (fun q9 => absurd rfl q9)
    exact kk ⟨nd, ar, pr, F, G, N, Fm, Rs, A, z, Se, al, br, N2, Fm2, Rs2, A2, zi2, S2, al2, br2, Cr, Op, Bf, sn, Ld, zi, Sg, Pi, Bo, pci, Gd, gci, bl0⟩ ⟨(nI 0), nd, ar, be, bz, sz, F', G', P, Nm, Wm, Td, Ob, Sp, D⟩ H locs ⟨hGA, hSK, hB0, rfl, rfl, hF, hG, hLK, hTd⟩ hP hD hS
  · skip
    obtain ⟨x, hxn, ex⟩ := vd_t hv (by omega)
    rw [ex]
    refine vp_callSi (va_Run.run (k_V (n := 1) (C := R_CP) (rest := []) ⟨hx, hb, hml, hown, hts⟩ (c_CP_twin_k l dC dI cI cJ cZ ca.cp ca.g ca.k ca.k2 ca.fl ca.co ca.sp ca.a1 ca.a2 nd ar pr F G (by first | assumption | omega) ca.nr ca.fr ca.rs ca.at_ ca.h al br N Fm A ca.b1 z Se (by first | assumption | omega) x (by first | assumption | omega)) wml_LW_52 wim_CP_twin wsel_CP_twin wini_CP wcode_CP_twin (by decide +kernel) ⟨Nat.le_of_ble_eq_true rfl, Nat.le_of_ble_eq_true rfl⟩ (preV_R (q := (R_CP, F_CP, 6)) (ci := 0) (q0 := 0) (hP.sub (ws' := [(ca.cp, .inr (0, [.ref ca.g, .ref ca.k, .ref ca.k2, .ref ca.fl, .ref ca.co, .ref ca.sp])), (ca.g, .inr (1, [.ref ca.a1, .ref ca.a2, .int (nI nd), .int (nI ar), .long pr])), (ca.k, .inr (2, [.ref ca.nr, .ref ca.fr, .ref ca.rs, .ref ca.at_, .ref ca.h, .int al, .long br])), (ca.fr, .inl (cI, 14, .inl Fm))]) [0, 1, 4, 6] rfl) hK rfl rfl) rfl hl.1 rfl (Nat.le_of_ble_eq_true rfl) d_LW_law_325 ⟨hRc, hRs⟩)) (fun r_4 hr_5 => ?_)
    obtain ⟨kx_6, ek_6, hk_6⟩ := hr_5
    refine xe_i (y := (nI kx_6)) ek_6 ?_
    refine lv_aload_n hx hb d_LW_law_328 rfl (lv_at hl 2 rfl) ?_
    refine lv_aload_n hx hb d_LW_law_329 rfl (lv_at hl 0 rfl) ?_
    refine lv_iload_n hx hb d_LW_law_330 rfl (lv_at hl 3 rfl) ?_
    refine lv_iconst (v := (nI 1)) hx hb d_LW_law_331 (by decide) ?_
    refine lv_iadd hx hb d_LW_law_332 ?_
    refine xe_i (nI_add _ _) ?_
    refine x_sld hx hb hX hbl hbA hS (by omega) hL d_LW_law_333 ?_
    rw [ex]
    refine x_ci (k_V (n := 1) (C := R_MO) (rest := [.int (nI kx_6)]) ⟨hx, hb, hml, hown, hts⟩ (c_MO_twin_k l dC dI cI cJ cZ ma.o ma.fF ma.fG ma.fT ma.fN ma.fW ma.fO ma.fB ma.fS ma.fD th be bz sz nd ar F' G' P (by first | assumption | omega) (by first | assumption | omega) (by first | assumption | omega) (by first | assumption | omega) (by first | assumption | omega) Wm Nm x (by first | assumption | omega)) wml_LW_55 wim_MO_twin wsel_MO_twin wini_MO wcode_MO_twin (by decide +kernel) ⟨Nat.le_of_ble_eq_true rfl, Nat.le_of_ble_eq_true rfl⟩ (preV_M (q := (R_MO, F_MO, 15)) (ci := 7) (q0 := 0) (hP.sub (ws' := [(ma.o, .inr (7, [.int th, .int (nI nd), .int (nI ar), .ref ma.fF, .ref ma.fG, .ref ma.fT, .ref ma.fN, .ref ma.fW, .int be, .ref ma.fO, .ref ma.fB, .int bz, .ref ma.fS, .ref ma.fD, .int sz])), (ma.fF, .inl (cI, 41, .inl (nF F'))), (ma.fG, .inl (cI, 41, .inl (nF G'))), (ma.fT, .inl (cZ, 41, .inl (bF P))), (ma.fN, .inl (cI, 14, .inl Nm)), (ma.fW, .inl (cI, 14, .inl Wm))]) [30, 31, 32, 33, 34, 35] rfl) hK (hD.sub (ws' := [(ma.o, .inr (7, [.int th, .int (nI nd), .int (nI ar), .ref ma.fF, .ref ma.fG, .ref ma.fT, .ref ma.fN, .ref ma.fW, .int be, .ref ma.fO, .ref ma.fB, .int bz, .ref ma.fS, .ref ma.fD, .int sz])), (ma.fF, .inl (cI, 41, .inl (nF F'))), (ma.fG, .inl (cI, 41, .inl (nF G'))), (ma.fT, .inl (cZ, 41, .inl (bF P))), (ma.fN, .inl (cI, 14, .inl Nm)), (ma.fW, .inl (cI, 14, .inl Wm))]) [30, 31, 32, 33, 34, 35] (by decide) rfl) rfl rfl) rfl hl.1 rfl (Nat.le_of_ble_eq_true rfl) d_LW_law_334 ⟨hRc, hRs⟩) hP hD hS [30, 31, 32, 33, 34, 35] rfl (fun _ => rfl) (fun r_7 u_7 H locs hu_7 hP hS => ?_)
    obtain ⟨N9_7, W9_7⟩ := u_7
    have hP : va_P (dC, dI) cls (WL cI cJ cZ ca ma ⟨nd, ar, pr, F, G, N, Fm, Rs, A, z, Se, al, br, N2, Fm2, Rs2, A2, zi2, S2, al2, br2, Cr, Op, Bf, sn, Ld, zi, Sg, Pi, Bo, pci, Gd, gci, bl0⟩ ⟨(nI 0), nd, ar, be, bz, sz, F', G', P, N9_7, W9_7, Td, Ob, Sp, D⟩) H := hP
    have hD := hD.addr (ws' := (WL cI cJ cZ ca ma ⟨nd, ar, pr, F, G, N, Fm, Rs, A, z, Se, al, br, N2, Fm2, Rs2, A2, zi2, S2, al2, br2, Cr, Op, Bf, sn, Ld, zi, Sg, Pi, Bo, pci, Gd, gci, bl0⟩ ⟨(nI 0), nd, ar, be, bz, sz, F', G', P, N9_7, W9_7, Td, Ob, Sp, D⟩)) rfl
    obtain ⟨kx_8, ek_8, hk_8⟩ := hu_7
    refine xe_i (y := (nI kx_8)) ek_8 ?_
    have hag : (nI kx_8) = (nI kx_6) := by
      obtain ⟨p1, a1, a2⟩ := hk_6
      obtain ⟨W9, b1, b2⟩ := hk_8
      rw [b2, a2, twin_eq hLK hSK b1 hxn a1]
    refine xe_i (y := (nI kx_6)) hag ?_
    refine lv_icmp_eq (tgt := 609) hx hb d_LW_law_337 (by decide) (fun _ => ?_) (fun q9 => absurd rfl q9)
    exact kk ⟨nd, ar, pr, F, G, N, Fm, Rs, A, z, Se, al, br, N2, Fm2, Rs2, A2, zi2, S2, al2, br2, Cr, Op, Bf, sn, Ld, zi, Sg, Pi, Bo, pci, Gd, gci, bl0⟩ ⟨(nI 0), nd, ar, be, bz, sz, F', G', P, N9_7, W9_7, Td, Ob, Sp, D⟩ H locs ⟨hGA, hSK, hB0, rfl, rfl, hF, hG, hLK, hTd⟩ hP hD hS

