/-! ===== 88.law3: cases of the law ===== -/
set_option maxHeartbeats 8000000 in
set_option maxRecDepth 100000 in
theorem lw_arcs {p : Program} {l : Launch} {e : Env} {s : State} {m : MethodId} {args : Array Value} {below : List Frame} {meth : Method} {c : Code} {H : Heap} {locs : List Loc} {Q : State → Prop} {dC : Nat → ClassId} {dI : Nat → Nat → Nat} {cI cJ cZ : ClassId} {A0 : Nat → Prop} {sc L : Nat} {xs : Nat → Int32} {ls : Array Slot} (X : LX p s m args c dC dI cI cJ cZ A0 sc L xs) {i : Nat} (hi : i + 3 ≤ L) {ca : CA} {ma : MA} {u : CS} {v : MS} (hI : LI u v) (hP : va_P (dC, dI) cls (WL cI cJ cZ ca ma u v) H) (hD : va_D A0 (WL cI cJ cZ ca ma u v)) (hS : va_S A0 s.heap H locs) (hl : lv_has ls 4 [(0, .ref sc), (1, .ref ca.cp), (2, .ref ma.o), (3, .int (nI i))])
    (kk : ∀ (u1 : CS) (v1 : MS) (H1 : Heap) (locs1 : List Loc), LI u1 v1 → va_P (dC, dI) cls (WL cI cJ cZ ca ma u1 v1) H1 → va_D A0 (WL cI cJ cZ ca ma u1 v1) → va_S A0 s.heap H1 locs1 → W p l e room_1 s m args below meth c H1 locs1 40 19226 Q (F0 m 609 ls [])) : W p l e room_1 s m args below meth c H locs 40 19226 Q (F0 m 342 ls []) := by
  obtain ⟨hx, hb, hml, hown, hts, hK, hX, hbl, hbA, hL⟩ := X
  have hRc : 40 ≤ room_1.cells := Nat.le_of_ble_eq_true rfl
  have hRs : 19226 ≤ room_1.slots := Nat.le_of_ble_eq_true rfl
  obtain ⟨nd, ar, pr, F, G, N, Fm, Rs, A, z, Se, al, br, N2, Fm2, Rs2, A2, zi2, S2, al2, br2, Cr, Op, Bf, sn, Ld, zi, Sg, Pi, Bo, pci, Gd, gci, bl0⟩ := u
  obtain ⟨th, ndm, arm, be, bz, sz, F', G', P, Nm, Wm, Td, Ob, Sp, D⟩ := v
  obtain ⟨hGA, hSK, hB0, e1, e2, hF, hG, hLK, hTd⟩ := hI
  have e1 : nd = ndm := e1
  have e2 : ar = arm := e2
  subst e1
  subst e2
  have hGA : GAR F G nd ar pr := hGA
  have hSK : SKI (lb pr) F G nd N Fm A Se z al br := hSK
  have hB0 : Bo 0 = 0 := hB0
  have hF : ∀ k, F' k < 14 := hF
  have hG : ∀ k, G' k < 14 := hG
  have hLK : LK F G pr F' G' P ar := hLK
  have hTd : ∀ k, Td k < 3 := hTd
  have hnd14 : nd ≤ 14 := hGA.1
  have har : ar ≤ 40 := hGA.2.1
  have hM := (lk_M hLK hGA).1
  have hNE := (lk_M hLK hGA).2
  refine lv_aload_n hx hb d_LW_law_342 rfl (lv_at hl 1 rfl) ?_
  refine lv_aload_n hx hb d_LW_law_343 rfl (lv_at hl 0 rfl) ?_
  refine lv_iload_n hx hb d_LW_law_344 rfl (lv_at hl 3 rfl) ?_
  refine lv_iconst (v := (nI 1)) hx hb d_LW_law_345 (by decide) ?_
  refine lv_iadd hx hb d_LW_law_346 ?_
  refine xe_i (nI_add _ _) ?_
  refine x_sld hx hb hX hbl hbA hS (by omega) hL d_LW_law_347 ?_
  refine lv_aload_n hx hb d_LW_law_348 rfl (lv_at hl 0 rfl) ?_
  refine lv_iload_n hx hb d_LW_law_349 rfl (lv_at hl 3 rfl) ?_
  refine lv_iconst (v := (nI 2)) hx hb d_LW_law_350 (by decide) ?_
  refine lv_iadd hx hb d_LW_law_351 ?_
  refine xe_i (nI_add _ _) ?_
  refine x_sld hx hb hX hbl hbA hS (by omega) hL d_LW_law_352 ?_
  cases hv : (vd (xs (i + 1)) nd && vd (xs (i + 2)) nd)
  · skip
    have hbad := hv
    refine vp_callSi (va_Run.run (k_V (n := 2) (C := R_CP) (rest := []) ⟨hx, hb, hml, hown, hts⟩ (c_CP_arcs_b l dC dI cI cJ cZ ca.cp ca.g ca.k ca.k2 ca.fl ca.co ca.sp ca.a1 ca.a2 nd ar pr (xs (i + 1)) (xs (i + 2)) (by first | assumption | omega) (by first | assumption | omega)) wml_LW_56 wim_CP_arcs wsel_CP_arcs wini_CP wcode_CP_arcs (by decide +kernel) ⟨Nat.le_of_ble_eq_true rfl, Nat.le_of_ble_eq_true rfl⟩ (preV_R (q := (R_CP, F_CP, 6)) (ci := 0) (q0 := 0) (hP.sub (ws' := [(ca.cp, .inr (0, [.ref ca.g, .ref ca.k, .ref ca.k2, .ref ca.fl, .ref ca.co, .ref ca.sp])), (ca.g, .inr (1, [.ref ca.a1, .ref ca.a2, .int (nI nd), .int (nI ar), .long pr]))]) [0, 1] rfl) hK rfl rfl) rfl hl.1 rfl (Nat.le_of_ble_eq_true rfl) d_LW_law_353 ⟨hRc, hRs⟩)) (fun r_1 hr_2 => ?_)
    refine xe_i (y := (-1)) hr_2 ?_
    refine lv_aload_n hx hb d_LW_law_356 rfl (lv_at hl 2 rfl) ?_
    refine lv_aload_n hx hb d_LW_law_357 rfl (lv_at hl 0 rfl) ?_
    refine lv_iload_n hx hb d_LW_law_358 rfl (lv_at hl 3 rfl) ?_
    refine lv_iconst (v := (nI 1)) hx hb d_LW_law_359 (by decide) ?_
    refine lv_iadd hx hb d_LW_law_360 ?_
    refine xe_i (nI_add _ _) ?_
    refine x_sld hx hb hX hbl hbA hS (by omega) hL d_LW_law_361 ?_
    refine lv_aload_n hx hb d_LW_law_362 rfl (lv_at hl 0 rfl) ?_
    refine lv_iload_n hx hb d_LW_law_363 rfl (lv_at hl 3 rfl) ?_
    refine lv_iconst (v := (nI 2)) hx hb d_LW_law_364 (by decide) ?_
    refine lv_iadd hx hb d_LW_law_365 ?_
    refine xe_i (nI_add _ _) ?_
    refine x_sld hx hb hX hbl hbA hS (by omega) hL d_LW_law_366 ?_
    refine x_ci (k_V (n := 2) (C := R_MO) (rest := [.int (-1)]) ⟨hx, hb, hml, hown, hts⟩ (c_MO_arcs_b l dC dI cI cJ cZ ma.o ma.fF ma.fG ma.fT ma.fN ma.fW ma.fO ma.fB ma.fS ma.fD th be bz sz nd ar (xs (i + 1)) (xs (i + 2)) (by first | assumption | omega) (by first | assumption | omega)) wml_LW_59 wim_MO_arcs wsel_MO_arcs wini_MO wcode_MO_arcs (by decide +kernel) ⟨Nat.le_of_ble_eq_true rfl, Nat.le_of_ble_eq_true rfl⟩ (preV_M (q := (R_MO, F_MO, 15)) (ci := 7) (q0 := 0) (hP.sub (ws' := [(ma.o, .inr (7, [.int th, .int (nI nd), .int (nI ar), .ref ma.fF, .ref ma.fG, .ref ma.fT, .ref ma.fN, .ref ma.fW, .int be, .ref ma.fO, .ref ma.fB, .int bz, .ref ma.fS, .ref ma.fD, .int sz]))]) [30] rfl) hK (hD.sub (ws' := [(ma.o, .inr (7, [.int th, .int (nI nd), .int (nI ar), .ref ma.fF, .ref ma.fG, .ref ma.fT, .ref ma.fN, .ref ma.fW, .int be, .ref ma.fO, .ref ma.fB, .int bz, .ref ma.fS, .ref ma.fD, .int sz]))]) [30] (by decide) rfl) rfl rfl) rfl hl.1 rfl (Nat.le_of_ble_eq_true rfl) d_LW_law_367 ⟨hRc, hRs⟩) hP hD hS [30] rfl (fun _ => rfl) (fun r_3 u_3 H locs hu_3 hP hS => ?_)
    have hP : va_P (dC, dI) cls (WL cI cJ cZ ca ma ⟨nd, ar, pr, F, G, N, Fm, Rs, A, z, Se, al, br, N2, Fm2, Rs2, A2, zi2, S2, al2, br2, Cr, Op, Bf, sn, Ld, zi, Sg, Pi, Bo, pci, Gd, gci, bl0⟩ ⟨(nI 0), nd, ar, be, bz, sz, F', G', P, Nm, Wm, Td, Ob, Sp, D⟩) H := hP
    have hD := hD.addr (ws' := (WL cI cJ cZ ca ma ⟨nd, ar, pr, F, G, N, Fm, Rs, A, z, Se, al, br, N2, Fm2, Rs2, A2, zi2, S2, al2, br2, Cr, Op, Bf, sn, Ld, zi, Sg, Pi, Bo, pci, Gd, gci, bl0⟩ ⟨(nI 0), nd, ar, be, bz, sz, F', G', P, Nm, Wm, Td, Ob, Sp, D⟩)) rfl
    have hag : r_3 = (-1) := hu_3
    refine xe_i (y := (-1)) hag ?_
    refine lv_icmp_eq (tgt := 609) hx hb d_LW_law_370 (by decide) (fun _ => ?_) (fun q9 => absurd rfl q9)
    exact kk ⟨nd, ar, pr, F, G, N, Fm, Rs, A, z, Se, al, br, N2, Fm2, Rs2, A2, zi2, S2, al2, br2, Cr, Op, Bf, sn, Ld, zi, Sg, Pi, Bo, pci, Gd, gci, bl0⟩ ⟨(nI 0), nd, ar, be, bz, sz, F', G', P, Nm, Wm, Td, Ob, Sp, D⟩ H locs ⟨hGA, hSK, hB0, rfl, rfl, hF, hG, hLK, hTd⟩ hP hD hS
  · skip
    obtain ⟨⟨x, ha, ex⟩, ⟨y, hb_, ey⟩⟩ := two_ok hnd14 hv
    by_cases hab : x = y
    · skip
      rw [ex, ey]
      refine vp_callSi (va_Run.run (k_V (n := 2) (C := R_CP) (rest := []) ⟨hx, hb, hml, hown, hts⟩ (c_CP_arcs_s l dC dI cI cJ cZ ca.cp ca.g ca.k ca.k2 ca.fl ca.co ca.sp ca.a1 ca.a2 nd ar pr x y (by first | assumption | omega) (by first | assumption | omega) (by first | assumption | omega)) wml_LW_56 wim_CP_arcs wsel_CP_arcs wini_CP wcode_CP_arcs (by decide +kernel) ⟨Nat.le_of_ble_eq_true rfl, Nat.le_of_ble_eq_true rfl⟩ (preV_R (q := (R_CP, F_CP, 6)) (ci := 0) (q0 := 0) (hP.sub (ws' := [(ca.cp, .inr (0, [.ref ca.g, .ref ca.k, .ref ca.k2, .ref ca.fl, .ref ca.co, .ref ca.sp])), (ca.g, .inr (1, [.ref ca.a1, .ref ca.a2, .int (nI nd), .int (nI ar), .long pr]))]) [0, 1] rfl) hK rfl rfl) rfl hl.1 rfl (Nat.le_of_ble_eq_true rfl) d_LW_law_353 ⟨hRc, hRs⟩)) (fun r_4 hr_5 => ?_)
      refine xe_i (y := (-3)) hr_5 ?_
      refine lv_aload_n hx hb d_LW_law_356 rfl (lv_at hl 2 rfl) ?_
      refine lv_aload_n hx hb d_LW_law_357 rfl (lv_at hl 0 rfl) ?_
      refine lv_iload_n hx hb d_LW_law_358 rfl (lv_at hl 3 rfl) ?_
      refine lv_iconst (v := (nI 1)) hx hb d_LW_law_359 (by decide) ?_
      refine lv_iadd hx hb d_LW_law_360 ?_
      refine xe_i (nI_add _ _) ?_
      refine x_sld hx hb hX hbl hbA hS (by omega) hL d_LW_law_361 ?_
      refine lv_aload_n hx hb d_LW_law_362 rfl (lv_at hl 0 rfl) ?_
      refine lv_iload_n hx hb d_LW_law_363 rfl (lv_at hl 3 rfl) ?_
      refine lv_iconst (v := (nI 2)) hx hb d_LW_law_364 (by decide) ?_
      refine lv_iadd hx hb d_LW_law_365 ?_
      refine xe_i (nI_add _ _) ?_
      refine x_sld hx hb hX hbl hbA hS (by omega) hL d_LW_law_366 ?_
      rw [ex, ey]
      refine x_ci (k_V (n := 2) (C := R_MO) (rest := [.int (-3)]) ⟨hx, hb, hml, hown, hts⟩ (c_MO_arcs_s l dC dI cI cJ cZ ma.o ma.fF ma.fG ma.fT ma.fN ma.fW ma.fO ma.fB ma.fS ma.fD th be bz sz nd ar x y (by first | assumption | omega) (by first | assumption | omega) (by first | assumption | omega)) wml_LW_59 wim_MO_arcs wsel_MO_arcs wini_MO wcode_MO_arcs (by decide +kernel) ⟨Nat.le_of_ble_eq_true rfl, Nat.le_of_ble_eq_true rfl⟩ (preV_M (q := (R_MO, F_MO, 15)) (ci := 7) (q0 := 0) (hP.sub (ws' := [(ma.o, .inr (7, [.int th, .int (nI nd), .int (nI ar), .ref ma.fF, .ref ma.fG, .ref ma.fT, .ref ma.fN, .ref ma.fW, .int be, .ref ma.fO, .ref ma.fB, .int bz, .ref ma.fS, .ref ma.fD, .int sz]))]) [30] rfl) hK (hD.sub (ws' := [(ma.o, .inr (7, [.int th, .int (nI nd), .int (nI ar), .ref ma.fF, .ref ma.fG, .ref ma.fT, .ref ma.fN, .ref ma.fW, .int be, .ref ma.fO, .ref ma.fB, .int bz, .ref ma.fS, .ref ma.fD, .int sz]))]) [30] (by decide) rfl) rfl rfl) rfl hl.1 rfl (Nat.le_of_ble_eq_true rfl) d_LW_law_367 ⟨hRc, hRs⟩) hP hD hS [30] rfl (fun _ => rfl) (fun r_6 u_6 H locs hu_6 hP hS => ?_)
      have hP : va_P (dC, dI) cls (WL cI cJ cZ ca ma ⟨nd, ar, pr, F, G, N, Fm, Rs, A, z, Se, al, br, N2, Fm2, Rs2, A2, zi2, S2, al2, br2, Cr, Op, Bf, sn, Ld, zi, Sg, Pi, Bo, pci, Gd, gci, bl0⟩ ⟨(nI 0), nd, ar, be, bz, sz, F', G', P, Nm, Wm, Td, Ob, Sp, D⟩) H := hP
      have hD := hD.addr (ws' := (WL cI cJ cZ ca ma ⟨nd, ar, pr, F, G, N, Fm, Rs, A, z, Se, al, br, N2, Fm2, Rs2, A2, zi2, S2, al2, br2, Cr, Op, Bf, sn, Ld, zi, Sg, Pi, Bo, pci, Gd, gci, bl0⟩ ⟨(nI 0), nd, ar, be, bz, sz, F', G', P, Nm, Wm, Td, Ob, Sp, D⟩)) rfl
      have hag : r_6 = (-3) := hu_6
      refine xe_i (y := (-3)) hag ?_
      refine lv_icmp_eq (tgt := 609) hx hb d_LW_law_370 (by decide) (fun _ => ?_) (fun q9 => absurd rfl q9)
      exact kk ⟨nd, ar, pr, F, G, N, Fm, Rs, A, z, Se, al, br, N2, Fm2, Rs2, A2, zi2, S2, al2, br2, Cr, Op, Bf, sn, Ld, zi, Sg, Pi, Bo, pci, Gd, gci, bl0⟩ ⟨(nI 0), nd, ar, be, bz, sz, F', G', P, Nm, Wm, Td, Ob, Sp, D⟩ H locs ⟨hGA, hSK, hB0, rfl, rfl, hF, hG, hLK, hTd⟩ hP hD hS
    · skip
      rw [ex, ey]
      refine x_ci (k_V (n := 2) (C := R_CP) (rest := []) ⟨hx, hb, hml, hown, hts⟩ (c_CP_arcs_k l dC dI cI cJ cZ ca.cp ca.g ca.k ca.k2 ca.fl ca.co ca.sp ca.a1 ca.a2 nd ar pr F G (by first | assumption | omega) ca.nr ca.fr ca.rs ca.at_ ca.h al br N Fm A ca.b1 z Se (by first | assumption | omega) ca.rm ca.op ca.bf sn Cr Op Bf x y (by first | assumption | omega) (by first | assumption | omega) (by first | assumption | omega)) wml_LW_56 wim_CP_arcs wsel_CP_arcs wini_CP wcode_CP_arcs (by decide +kernel) ⟨Nat.le_of_ble_eq_true rfl, Nat.le_of_ble_eq_true rfl⟩ (preV_M (q := (R_CP, F_CP, 6)) (ci := 0) (q0 := 0) (hP.sub (ws' := [(ca.cp, .inr (0, [.ref ca.g, .ref ca.k, .ref ca.k2, .ref ca.fl, .ref ca.co, .ref ca.sp])), (ca.g, .inr (1, [.ref ca.a1, .ref ca.a2, .int (nI nd), .int (nI ar), .long pr])), (ca.a1, .inl (cI, 41, .inl (nF F))), (ca.a2, .inl (cI, 41, .inl (nF G))), (ca.fl, .inr (4, [.ref ca.rm, .ref ca.op, .ref ca.bf, .int sn])), (ca.rm, .inl (cI, 784, .inl Cr)), (ca.op, .inl (cI, 28, .inl Op)), (ca.bf, .inl (cI, 28, .inl (nF Bf)))]) [0, 1, 2, 3, 18, 19, 20, 21] rfl) hK (hD.sub (ws' := [(ca.cp, .inr (0, [.ref ca.g, .ref ca.k, .ref ca.k2, .ref ca.fl, .ref ca.co, .ref ca.sp])), (ca.g, .inr (1, [.ref ca.a1, .ref ca.a2, .int (nI nd), .int (nI ar), .long pr])), (ca.a1, .inl (cI, 41, .inl (nF F))), (ca.a2, .inl (cI, 41, .inl (nF G))), (ca.fl, .inr (4, [.ref ca.rm, .ref ca.op, .ref ca.bf, .int sn])), (ca.rm, .inl (cI, 784, .inl Cr)), (ca.op, .inl (cI, 28, .inl Op)), (ca.bf, .inl (cI, 28, .inl (nF Bf)))]) [0, 1, 2, 3, 18, 19, 20, 21] (by decide) rfl) rfl rfl) rfl hl.1 rfl (Nat.le_of_ble_eq_true rfl) d_LW_law_353 ⟨hRc, hRs⟩) hP hD hS [0, 1, 2, 3, 18, 19, 20, 21] rfl (fun _ => rfl) (fun r_7 u_7 H locs hu_7 hP hS => ?_)
      obtain ⟨C9_7, O9_7, sn9_7, B9_7⟩ := u_7
      have hP : va_P (dC, dI) cls (WL cI cJ cZ ca ma ⟨nd, ar, pr, F, G, N, Fm, Rs, A, z, Se, al, br, N2, Fm2, Rs2, A2, zi2, S2, al2, br2, (nF C9_7), O9_7, B9_7, sn9_7, Ld, zi, Sg, Pi, Bo, pci, Gd, gci, bl0⟩ ⟨th, nd, ar, be, bz, sz, F', G', P, Nm, Wm, Td, Ob, Sp, D⟩) H := hP
      have hD := hD.addr (ws' := (WL cI cJ cZ ca ma ⟨nd, ar, pr, F, G, N, Fm, Rs, A, z, Se, al, br, N2, Fm2, Rs2, A2, zi2, S2, al2, br2, (nF C9_7), O9_7, B9_7, sn9_7, Ld, zi, Sg, Pi, Bo, pci, Gd, gci, bl0⟩ ⟨th, nd, ar, be, bz, sz, F', G', P, Nm, Wm, Td, Ob, Sp, D⟩)) rfl
      obtain ⟨kx_8, ek_8, hk_8⟩ := hu_7
      refine xe_i (y := (nI kx_8)) ek_8 ?_
      refine lv_aload_n hx hb d_LW_law_356 rfl (lv_at hl 2 rfl) ?_
      refine lv_aload_n hx hb d_LW_law_357 rfl (lv_at hl 0 rfl) ?_
      refine lv_iload_n hx hb d_LW_law_358 rfl (lv_at hl 3 rfl) ?_
      refine lv_iconst (v := (nI 1)) hx hb d_LW_law_359 (by decide) ?_
      refine lv_iadd hx hb d_LW_law_360 ?_
      refine xe_i (nI_add _ _) ?_
      refine x_sld hx hb hX hbl hbA hS (by omega) hL d_LW_law_361 ?_
      refine lv_aload_n hx hb d_LW_law_362 rfl (lv_at hl 0 rfl) ?_
      refine lv_iload_n hx hb d_LW_law_363 rfl (lv_at hl 3 rfl) ?_
      refine lv_iconst (v := (nI 2)) hx hb d_LW_law_364 (by decide) ?_
      refine lv_iadd hx hb d_LW_law_365 ?_
      refine xe_i (nI_add _ _) ?_
      refine x_sld hx hb hX hbl hbA hS (by omega) hL d_LW_law_366 ?_
      rw [ex, ey]
      refine x_ci (k_V (n := 2) (C := R_MO) (rest := [.int (nI kx_8)]) ⟨hx, hb, hml, hown, hts⟩ (c_MO_arcs_k l dC dI cI cJ cZ ma.o ma.fF ma.fG ma.fT ma.fN ma.fW ma.fO ma.fB ma.fS ma.fD th be bz sz nd ar F' G' P (by first | assumption | omega) (by first | assumption | omega) (by first | assumption | omega) (by first | assumption | omega) x y (by first | assumption | omega) (by first | assumption | omega) (by first | assumption | omega)) wml_LW_59 wim_MO_arcs wsel_MO_arcs wini_MO wcode_MO_arcs (by decide +kernel) ⟨Nat.le_of_ble_eq_true rfl, Nat.le_of_ble_eq_true rfl⟩ (preV_M (q := (R_MO, F_MO, 15)) (ci := 7) (q0 := 0) (hP.sub (ws' := [(ma.o, .inr (7, [.int th, .int (nI nd), .int (nI ar), .ref ma.fF, .ref ma.fG, .ref ma.fT, .ref ma.fN, .ref ma.fW, .int be, .ref ma.fO, .ref ma.fB, .int bz, .ref ma.fS, .ref ma.fD, .int sz])), (ma.fF, .inl (cI, 41, .inl (nF F'))), (ma.fG, .inl (cI, 41, .inl (nF G'))), (ma.fT, .inl (cZ, 41, .inl (bF P)))]) [30, 31, 32, 33] rfl) hK (hD.sub (ws' := [(ma.o, .inr (7, [.int th, .int (nI nd), .int (nI ar), .ref ma.fF, .ref ma.fG, .ref ma.fT, .ref ma.fN, .ref ma.fW, .int be, .ref ma.fO, .ref ma.fB, .int bz, .ref ma.fS, .ref ma.fD, .int sz])), (ma.fF, .inl (cI, 41, .inl (nF F'))), (ma.fG, .inl (cI, 41, .inl (nF G'))), (ma.fT, .inl (cZ, 41, .inl (bF P)))]) [30, 31, 32, 33] (by decide) rfl) rfl rfl) rfl hl.1 rfl (Nat.le_of_ble_eq_true rfl) d_LW_law_367 ⟨hRc, hRs⟩) hP hD hS [30, 31, 32, 33] rfl (fun _ => rfl) (fun r_9 u_9 H locs hu_9 hP hS => ?_)
      obtain ⟨bs9_9, rfl⟩ : ∃ z, z = u_9 := ⟨_, rfl⟩
      have hP : va_P (dC, dI) cls (WL cI cJ cZ ca ma ⟨nd, ar, pr, F, G, N, Fm, Rs, A, z, Se, al, br, N2, Fm2, Rs2, A2, zi2, S2, al2, br2, (nF C9_7), O9_7, B9_7, sn9_7, Ld, zi, Sg, Pi, Bo, pci, Gd, gci, bl0⟩ ⟨(nI 0), nd, ar, (nI bs9_9), bz, sz, F', G', P, Nm, Wm, Td, Ob, Sp, D⟩) H := hP
      have hD := hD.addr (ws' := (WL cI cJ cZ ca ma ⟨nd, ar, pr, F, G, N, Fm, Rs, A, z, Se, al, br, N2, Fm2, Rs2, A2, zi2, S2, al2, br2, (nF C9_7), O9_7, B9_7, sn9_7, Ld, zi, Sg, Pi, Bo, pci, Gd, gci, bl0⟩ ⟨(nI 0), nd, ar, (nI bs9_9), bz, sz, F', G', P, Nm, Wm, Td, Ob, Sp, D⟩)) rfl
      obtain ⟨kx_10, ek_10, hk_10⟩ := hu_9
      refine xe_i (y := (nI kx_10)) ek_10 ?_
      have hag : (nI kx_10) = (nI kx_8) := by
        obtain ⟨C9, y9, c1, c2⟩ := hk_8
        exact congrArg nI (arc_eq hLK hSK.1 ha c1 c2 hk_10).1.symm
      refine xe_i (y := (nI kx_8)) hag ?_
      refine lv_icmp_eq (tgt := 609) hx hb d_LW_law_370 (by decide) (fun _ => ?_) (fun q9 => absurd rfl q9)
      exact kk ⟨nd, ar, pr, F, G, N, Fm, Rs, A, z, Se, al, br, N2, Fm2, Rs2, A2, zi2, S2, al2, br2, (nF C9_7), O9_7, B9_7, sn9_7, Ld, zi, Sg, Pi, Bo, pci, Gd, gci, bl0⟩ ⟨(nI 0), nd, ar, (nI bs9_9), bz, sz, F', G', P, Nm, Wm, Td, Ob, Sp, D⟩ H locs ⟨hGA, hSK, hB0, rfl, rfl, hF, hG, hLK, hTd⟩ hP hD hS

set_option maxHeartbeats 8000000 in
set_option maxRecDepth 100000 in
theorem lw_side {p : Program} {l : Launch} {e : Env} {s : State} {m : MethodId} {args : Array Value} {below : List Frame} {meth : Method} {c : Code} {H : Heap} {locs : List Loc} {Q : State → Prop} {dC : Nat → ClassId} {dI : Nat → Nat → Nat} {cI cJ cZ : ClassId} {A0 : Nat → Prop} {sc L : Nat} {xs : Nat → Int32} {ls : Array Slot} (X : LX p s m args c dC dI cI cJ cZ A0 sc L xs) {i : Nat} (hi : i + 3 ≤ L) {ca : CA} {ma : MA} {u : CS} {v : MS} (hI : LI u v) (hP : va_P (dC, dI) cls (WL cI cJ cZ ca ma u v) H) (hD : va_D A0 (WL cI cJ cZ ca ma u v)) (hS : va_S A0 s.heap H locs) (hl : lv_has ls 4 [(0, .ref sc), (1, .ref ca.cp), (2, .ref ma.o), (3, .int (nI i))])
    (kk : ∀ (u1 : CS) (v1 : MS) (H1 : Heap) (locs1 : List Loc), LI u1 v1 → va_P (dC, dI) cls (WL cI cJ cZ ca ma u1 v1) H1 → va_D A0 (WL cI cJ cZ ca ma u1 v1) → va_S A0 s.heap H1 locs1 → W p l e room_1 s m args below meth c H1 locs1 40 19226 Q (F0 m 609 ls [])) : W p l e room_1 s m args below meth c H locs 40 19226 Q (F0 m 375 ls []) := by
  obtain ⟨hx, hb, hml, hown, hts, hK, hX, hbl, hbA, hL⟩ := X
  have hRc : 40 ≤ room_1.cells := Nat.le_of_ble_eq_true rfl
  have hRs : 19226 ≤ room_1.slots := Nat.le_of_ble_eq_true rfl
  obtain ⟨nd, ar, pr, F, G, N, Fm, Rs, A, z, Se, al, br, N2, Fm2, Rs2, A2, zi2, S2, al2, br2, Cr, Op, Bf, sn, Ld, zi, Sg, Pi, Bo, pci, Gd, gci, bl0⟩ := u
  obtain ⟨th, ndm, arm, be, bz, sz, F', G', P, Nm, Wm, Td, Ob, Sp, D⟩ := v
  obtain ⟨hGA, hSK, hB0, e1, e2, hF, hG, hLK, hTd⟩ := hI
  have e1 : nd = ndm := e1
  have e2 : ar = arm := e2
  subst e1
  subst e2
  have hGA : GAR F G nd ar pr := hGA
  have hSK : SKI (lb pr) F G nd N Fm A Se z al br := hSK
  have hB0 : Bo 0 = 0 := hB0
  have hF : ∀ k, F' k < 14 := hF
  have hG : ∀ k, G' k < 14 := hG
  have hLK : LK F G pr F' G' P ar := hLK
  have hTd : ∀ k, Td k < 3 := hTd
  have hnd14 : nd ≤ 14 := hGA.1
  have har : ar ≤ 40 := hGA.2.1
  have hM := (lk_M hLK hGA).1
  have hNE := (lk_M hLK hGA).2
  refine lv_aload_n hx hb d_LW_law_375 rfl (lv_at hl 1 rfl) ?_
  refine lv_aload_n hx hb d_LW_law_376 rfl (lv_at hl 0 rfl) ?_
  refine lv_iload_n hx hb d_LW_law_377 rfl (lv_at hl 3 rfl) ?_
  refine lv_iconst (v := (nI 1)) hx hb d_LW_law_378 (by decide) ?_
  refine lv_iadd hx hb d_LW_law_379 ?_
  refine xe_i (nI_add _ _) ?_
  refine x_sld hx hb hX hbl hbA hS (by omega) hL d_LW_law_380 ?_
  refine lv_aload_n hx hb d_LW_law_381 rfl (lv_at hl 0 rfl) ?_
  refine lv_iload_n hx hb d_LW_law_382 rfl (lv_at hl 3 rfl) ?_
  refine lv_iconst (v := (nI 2)) hx hb d_LW_law_383 (by decide) ?_
  refine lv_iadd hx hb d_LW_law_384 ?_
  refine xe_i (nI_add _ _) ?_
  refine x_sld hx hb hX hbl hbA hS (by omega) hL d_LW_law_385 ?_
  cases hv : (vd (xs (i + 1)) nd && vd (xs (i + 2)) nd)
  · skip
    have hbad := hv
    refine vp_callSi (va_Run.run (k_V (n := 2) (C := R_CP) (rest := []) ⟨hx, hb, hml, hown, hts⟩ (c_CP_side_b l dC dI cI cJ cZ ca.cp ca.g ca.k ca.k2 ca.fl ca.co ca.sp ca.a1 ca.a2 nd ar pr (xs (i + 1)) (xs (i + 2)) (by first | assumption | omega) (by first | assumption | omega)) wml_LW_60 wim_CP_side wsel_CP_side wini_CP wcode_CP_side (by decide +kernel) ⟨Nat.le_of_ble_eq_true rfl, Nat.le_of_ble_eq_true rfl⟩ (preV_R (q := (R_CP, F_CP, 6)) (ci := 0) (q0 := 0) (hP.sub (ws' := [(ca.cp, .inr (0, [.ref ca.g, .ref ca.k, .ref ca.k2, .ref ca.fl, .ref ca.co, .ref ca.sp])), (ca.g, .inr (1, [.ref ca.a1, .ref ca.a2, .int (nI nd), .int (nI ar), .long pr]))]) [0, 1] rfl) hK rfl rfl) rfl hl.1 rfl (Nat.le_of_ble_eq_true rfl) d_LW_law_386 ⟨hRc, hRs⟩)) (fun r_1 hr_2 => ?_)
    refine xe_i (y := (-1)) hr_2 ?_
    refine lv_aload_n hx hb d_LW_law_389 rfl (lv_at hl 2 rfl) ?_
    refine lv_aload_n hx hb d_LW_law_390 rfl (lv_at hl 0 rfl) ?_
    refine lv_iload_n hx hb d_LW_law_391 rfl (lv_at hl 3 rfl) ?_
    refine lv_iconst (v := (nI 1)) hx hb d_LW_law_392 (by decide) ?_
    refine lv_iadd hx hb d_LW_law_393 ?_
    refine xe_i (nI_add _ _) ?_
    refine x_sld hx hb hX hbl hbA hS (by omega) hL d_LW_law_394 ?_
    refine lv_aload_n hx hb d_LW_law_395 rfl (lv_at hl 0 rfl) ?_
    refine lv_iload_n hx hb d_LW_law_396 rfl (lv_at hl 3 rfl) ?_
    refine lv_iconst (v := (nI 2)) hx hb d_LW_law_397 (by decide) ?_
    refine lv_iadd hx hb d_LW_law_398 ?_
    refine xe_i (nI_add _ _) ?_
    refine x_sld hx hb hX hbl hbA hS (by omega) hL d_LW_law_399 ?_
    refine x_ci (k_V (n := 2) (C := R_MO) (rest := [.int (-1)]) ⟨hx, hb, hml, hown, hts⟩ (c_MO_side_b l dC dI cI cJ cZ ma.o ma.fF ma.fG ma.fT ma.fN ma.fW ma.fO ma.fB ma.fS ma.fD th be bz sz nd ar (xs (i + 1)) (xs (i + 2)) (by first | assumption | omega) (by first | assumption | omega)) wml_LW_63 wim_MO_side wsel_MO_side wini_MO wcode_MO_side (by decide +kernel) ⟨Nat.le_of_ble_eq_true rfl, Nat.le_of_ble_eq_true rfl⟩ (preV_M (q := (R_MO, F_MO, 15)) (ci := 7) (q0 := 0) (hP.sub (ws' := [(ma.o, .inr (7, [.int th, .int (nI nd), .int (nI ar), .ref ma.fF, .ref ma.fG, .ref ma.fT, .ref ma.fN, .ref ma.fW, .int be, .ref ma.fO, .ref ma.fB, .int bz, .ref ma.fS, .ref ma.fD, .int sz]))]) [30] rfl) hK (hD.sub (ws' := [(ma.o, .inr (7, [.int th, .int (nI nd), .int (nI ar), .ref ma.fF, .ref ma.fG, .ref ma.fT, .ref ma.fN, .ref ma.fW, .int be, .ref ma.fO, .ref ma.fB, .int bz, .ref ma.fS, .ref ma.fD, .int sz]))]) [30] (by decide) rfl) rfl rfl) rfl hl.1 rfl (Nat.le_of_ble_eq_true rfl) d_LW_law_400 ⟨hRc, hRs⟩) hP hD hS [30] rfl (fun _ => rfl) (fun r_3 u_3 H locs hu_3 hP hS => ?_)
    have hP : va_P (dC, dI) cls (WL cI cJ cZ ca ma ⟨nd, ar, pr, F, G, N, Fm, Rs, A, z, Se, al, br, N2, Fm2, Rs2, A2, zi2, S2, al2, br2, Cr, Op, Bf, sn, Ld, zi, Sg, Pi, Bo, pci, Gd, gci, bl0⟩ ⟨(nI 0), nd, ar, be, bz, sz, F', G', P, Nm, Wm, Td, Ob, Sp, D⟩) H := hP
    have hD := hD.addr (ws' := (WL cI cJ cZ ca ma ⟨nd, ar, pr, F, G, N, Fm, Rs, A, z, Se, al, br, N2, Fm2, Rs2, A2, zi2, S2, al2, br2, Cr, Op, Bf, sn, Ld, zi, Sg, Pi, Bo, pci, Gd, gci, bl0⟩ ⟨(nI 0), nd, ar, be, bz, sz, F', G', P, Nm, Wm, Td, Ob, Sp, D⟩)) rfl
    have hag : r_3 = (-1) := hu_3
    refine xe_i (y := (-1)) hag ?_
    refine lv_icmp_eq (tgt := 609) hx hb d_LW_law_403 (by decide) (fun _ => ?_) (fun q9 => absurd rfl q9)
    exact kk ⟨nd, ar, pr, F, G, N, Fm, Rs, A, z, Se, al, br, N2, Fm2, Rs2, A2, zi2, S2, al2, br2, Cr, Op, Bf, sn, Ld, zi, Sg, Pi, Bo, pci, Gd, gci, bl0⟩ ⟨(nI 0), nd, ar, be, bz, sz, F', G', P, Nm, Wm, Td, Ob, Sp, D⟩ H locs ⟨hGA, hSK, hB0, rfl, rfl, hF, hG, hLK, hTd⟩ hP hD hS
  · skip
    obtain ⟨⟨x, ha, ex⟩, ⟨y, hb_, ey⟩⟩ := two_ok hnd14 hv
    by_cases hab : x = y
    · skip
      rw [ex, ey]
      refine vp_callSi (va_Run.run (k_V (n := 2) (C := R_CP) (rest := []) ⟨hx, hb, hml, hown, hts⟩ (c_CP_side_s l dC dI cI cJ cZ ca.cp ca.g ca.k ca.k2 ca.fl ca.co ca.sp ca.a1 ca.a2 nd ar pr x y (by first | assumption | omega) (by first | assumption | omega) (by first | assumption | omega)) wml_LW_60 wim_CP_side wsel_CP_side wini_CP wcode_CP_side (by decide +kernel) ⟨Nat.le_of_ble_eq_true rfl, Nat.le_of_ble_eq_true rfl⟩ (preV_R (q := (R_CP, F_CP, 6)) (ci := 0) (q0 := 0) (hP.sub (ws' := [(ca.cp, .inr (0, [.ref ca.g, .ref ca.k, .ref ca.k2, .ref ca.fl, .ref ca.co, .ref ca.sp])), (ca.g, .inr (1, [.ref ca.a1, .ref ca.a2, .int (nI nd), .int (nI ar), .long pr]))]) [0, 1] rfl) hK rfl rfl) rfl hl.1 rfl (Nat.le_of_ble_eq_true rfl) d_LW_law_386 ⟨hRc, hRs⟩)) (fun r_4 hr_5 => ?_)
      refine xe_i (y := (-3)) hr_5 ?_
      refine lv_aload_n hx hb d_LW_law_389 rfl (lv_at hl 2 rfl) ?_
      refine lv_aload_n hx hb d_LW_law_390 rfl (lv_at hl 0 rfl) ?_
      refine lv_iload_n hx hb d_LW_law_391 rfl (lv_at hl 3 rfl) ?_
      refine lv_iconst (v := (nI 1)) hx hb d_LW_law_392 (by decide) ?_
      refine lv_iadd hx hb d_LW_law_393 ?_
      refine xe_i (nI_add _ _) ?_
      refine x_sld hx hb hX hbl hbA hS (by omega) hL d_LW_law_394 ?_
      refine lv_aload_n hx hb d_LW_law_395 rfl (lv_at hl 0 rfl) ?_
      refine lv_iload_n hx hb d_LW_law_396 rfl (lv_at hl 3 rfl) ?_
      refine lv_iconst (v := (nI 2)) hx hb d_LW_law_397 (by decide) ?_
      refine lv_iadd hx hb d_LW_law_398 ?_
      refine xe_i (nI_add _ _) ?_
      refine x_sld hx hb hX hbl hbA hS (by omega) hL d_LW_law_399 ?_
      rw [ex, ey]
      refine x_ci (k_V (n := 2) (C := R_MO) (rest := [.int (-3)]) ⟨hx, hb, hml, hown, hts⟩ (c_MO_side_s l dC dI cI cJ cZ ma.o ma.fF ma.fG ma.fT ma.fN ma.fW ma.fO ma.fB ma.fS ma.fD th be bz sz nd ar x y (by first | assumption | omega) (by first | assumption | omega) (by first | assumption | omega)) wml_LW_63 wim_MO_side wsel_MO_side wini_MO wcode_MO_side (by decide +kernel) ⟨Nat.le_of_ble_eq_true rfl, Nat.le_of_ble_eq_true rfl⟩ (preV_M (q := (R_MO, F_MO, 15)) (ci := 7) (q0 := 0) (hP.sub (ws' := [(ma.o, .inr (7, [.int th, .int (nI nd), .int (nI ar), .ref ma.fF, .ref ma.fG, .ref ma.fT, .ref ma.fN, .ref ma.fW, .int be, .ref ma.fO, .ref ma.fB, .int bz, .ref ma.fS, .ref ma.fD, .int sz]))]) [30] rfl) hK (hD.sub (ws' := [(ma.o, .inr (7, [.int th, .int (nI nd), .int (nI ar), .ref ma.fF, .ref ma.fG, .ref ma.fT, .ref ma.fN, .ref ma.fW, .int be, .ref ma.fO, .ref ma.fB, .int bz, .ref ma.fS, .ref ma.fD, .int sz]))]) [30] (by decide) rfl) rfl rfl) rfl hl.1 rfl (Nat.le_of_ble_eq_true rfl) d_LW_law_400 ⟨hRc, hRs⟩) hP hD hS [30] rfl (fun _ => rfl) (fun r_6 u_6 H locs hu_6 hP hS => ?_)
      have hP : va_P (dC, dI) cls (WL cI cJ cZ ca ma ⟨nd, ar, pr, F, G, N, Fm, Rs, A, z, Se, al, br, N2, Fm2, Rs2, A2, zi2, S2, al2, br2, Cr, Op, Bf, sn, Ld, zi, Sg, Pi, Bo, pci, Gd, gci, bl0⟩ ⟨(nI 0), nd, ar, be, bz, sz, F', G', P, Nm, Wm, Td, Ob, Sp, D⟩) H := hP
      have hD := hD.addr (ws' := (WL cI cJ cZ ca ma ⟨nd, ar, pr, F, G, N, Fm, Rs, A, z, Se, al, br, N2, Fm2, Rs2, A2, zi2, S2, al2, br2, Cr, Op, Bf, sn, Ld, zi, Sg, Pi, Bo, pci, Gd, gci, bl0⟩ ⟨(nI 0), nd, ar, be, bz, sz, F', G', P, Nm, Wm, Td, Ob, Sp, D⟩)) rfl
      have hag : r_6 = (-3) := hu_6
      refine xe_i (y := (-3)) hag ?_
      refine lv_icmp_eq (tgt := 609) hx hb d_LW_law_403 (by decide) (fun _ => ?_) (fun q9 => absurd rfl q9)
      exact kk ⟨nd, ar, pr, F, G, N, Fm, Rs, A, z, Se, al, br, N2, Fm2, Rs2, A2, zi2, S2, al2, br2, Cr, Op, Bf, sn, Ld, zi, Sg, Pi, Bo, pci, Gd, gci, bl0⟩ ⟨(nI 0), nd, ar, be, bz, sz, F', G', P, Nm, Wm, Td, Ob, Sp, D⟩ H locs ⟨hGA, hSK, hB0, rfl, rfl, hF, hG, hLK, hTd⟩ hP hD hS
    · skip
      rw [ex, ey]
      refine x_ci (k_V (n := 2) (C := R_CP) (rest := []) ⟨hx, hb, hml, hown, hts⟩ (c_CP_side_k l dC dI cI cJ cZ ca.cp ca.g ca.k ca.k2 ca.fl ca.co ca.sp ca.a1 ca.a2 nd ar pr F G (by first | assumption | omega) ca.nr ca.fr ca.rs ca.at_ ca.h al br N Fm A ca.b1 z Se (by first | assumption | omega) ca.rm ca.op ca.bf sn Cr Op Bf x y (by first | assumption | omega) (by first | assumption | omega) (by first | assumption | omega)) wml_LW_60 wim_CP_side wsel_CP_side wini_CP wcode_CP_side (by decide +kernel) ⟨Nat.le_of_ble_eq_true rfl, Nat.le_of_ble_eq_true rfl⟩ (preV_M (q := (R_CP, F_CP, 6)) (ci := 0) (q0 := 0) (hP.sub (ws' := [(ca.cp, .inr (0, [.ref ca.g, .ref ca.k, .ref ca.k2, .ref ca.fl, .ref ca.co, .ref ca.sp])), (ca.g, .inr (1, [.ref ca.a1, .ref ca.a2, .int (nI nd), .int (nI ar), .long pr])), (ca.a1, .inl (cI, 41, .inl (nF F))), (ca.a2, .inl (cI, 41, .inl (nF G))), (ca.fl, .inr (4, [.ref ca.rm, .ref ca.op, .ref ca.bf, .int sn])), (ca.rm, .inl (cI, 784, .inl Cr)), (ca.op, .inl (cI, 28, .inl Op)), (ca.bf, .inl (cI, 28, .inl (nF Bf)))]) [0, 1, 2, 3, 18, 19, 20, 21] rfl) hK (hD.sub (ws' := [(ca.cp, .inr (0, [.ref ca.g, .ref ca.k, .ref ca.k2, .ref ca.fl, .ref ca.co, .ref ca.sp])), (ca.g, .inr (1, [.ref ca.a1, .ref ca.a2, .int (nI nd), .int (nI ar), .long pr])), (ca.a1, .inl (cI, 41, .inl (nF F))), (ca.a2, .inl (cI, 41, .inl (nF G))), (ca.fl, .inr (4, [.ref ca.rm, .ref ca.op, .ref ca.bf, .int sn])), (ca.rm, .inl (cI, 784, .inl Cr)), (ca.op, .inl (cI, 28, .inl Op)), (ca.bf, .inl (cI, 28, .inl (nF Bf)))]) [0, 1, 2, 3, 18, 19, 20, 21] (by decide) rfl) rfl rfl) rfl hl.1 rfl (Nat.le_of_ble_eq_true rfl) d_LW_law_386 ⟨hRc, hRs⟩) hP hD hS [0, 1, 2, 3, 18, 19, 20, 21] rfl (fun _ => rfl) (fun r_7 u_7 H locs hu_7 hP hS => ?_)
      obtain ⟨C9_7, O9_7, sn9_7, B9_7⟩ := u_7
      have hP : va_P (dC, dI) cls (WL cI cJ cZ ca ma ⟨nd, ar, pr, F, G, N, Fm, Rs, A, z, Se, al, br, N2, Fm2, Rs2, A2, zi2, S2, al2, br2, (nF C9_7), O9_7, B9_7, sn9_7, Ld, zi, Sg, Pi, Bo, pci, Gd, gci, bl0⟩ ⟨th, nd, ar, be, bz, sz, F', G', P, Nm, Wm, Td, Ob, Sp, D⟩) H := hP
      have hD := hD.addr (ws' := (WL cI cJ cZ ca ma ⟨nd, ar, pr, F, G, N, Fm, Rs, A, z, Se, al, br, N2, Fm2, Rs2, A2, zi2, S2, al2, br2, (nF C9_7), O9_7, B9_7, sn9_7, Ld, zi, Sg, Pi, Bo, pci, Gd, gci, bl0⟩ ⟨th, nd, ar, be, bz, sz, F', G', P, Nm, Wm, Td, Ob, Sp, D⟩)) rfl
      refine lv_aload_n hx hb d_LW_law_389 rfl (lv_at hl 2 rfl) ?_
      refine lv_aload_n hx hb d_LW_law_390 rfl (lv_at hl 0 rfl) ?_
      refine lv_iload_n hx hb d_LW_law_391 rfl (lv_at hl 3 rfl) ?_
      refine lv_iconst (v := (nI 1)) hx hb d_LW_law_392 (by decide) ?_
      refine lv_iadd hx hb d_LW_law_393 ?_
      refine xe_i (nI_add _ _) ?_
      refine x_sld hx hb hX hbl hbA hS (by omega) hL d_LW_law_394 ?_
      refine lv_aload_n hx hb d_LW_law_395 rfl (lv_at hl 0 rfl) ?_
      refine lv_iload_n hx hb d_LW_law_396 rfl (lv_at hl 3 rfl) ?_
      refine lv_iconst (v := (nI 2)) hx hb d_LW_law_397 (by decide) ?_
      refine lv_iadd hx hb d_LW_law_398 ?_
      refine xe_i (nI_add _ _) ?_
      refine x_sld hx hb hX hbl hbA hS (by omega) hL d_LW_law_399 ?_
      rw [ex, ey]
      refine x_ci (k_V (n := 2) (C := R_MO) (rest := [.int r_7]) ⟨hx, hb, hml, hown, hts⟩ (c_MO_side_k l dC dI cI cJ cZ ma.o ma.fF ma.fG ma.fT ma.fN ma.fW ma.fO ma.fB ma.fS ma.fD th be bz sz nd ar F' G' P (by first | assumption | omega) (by first | assumption | omega) (by first | assumption | omega) (by first | assumption | omega) x y (by first | assumption | omega) (by first | assumption | omega) (by first | assumption | omega)) wml_LW_63 wim_MO_side wsel_MO_side wini_MO wcode_MO_side (by decide +kernel) ⟨Nat.le_of_ble_eq_true rfl, Nat.le_of_ble_eq_true rfl⟩ (preV_M (q := (R_MO, F_MO, 15)) (ci := 7) (q0 := 0) (hP.sub (ws' := [(ma.o, .inr (7, [.int th, .int (nI nd), .int (nI ar), .ref ma.fF, .ref ma.fG, .ref ma.fT, .ref ma.fN, .ref ma.fW, .int be, .ref ma.fO, .ref ma.fB, .int bz, .ref ma.fS, .ref ma.fD, .int sz])), (ma.fF, .inl (cI, 41, .inl (nF F'))), (ma.fG, .inl (cI, 41, .inl (nF G'))), (ma.fT, .inl (cZ, 41, .inl (bF P)))]) [30, 31, 32, 33] rfl) hK (hD.sub (ws' := [(ma.o, .inr (7, [.int th, .int (nI nd), .int (nI ar), .ref ma.fF, .ref ma.fG, .ref ma.fT, .ref ma.fN, .ref ma.fW, .int be, .ref ma.fO, .ref ma.fB, .int bz, .ref ma.fS, .ref ma.fD, .int sz])), (ma.fF, .inl (cI, 41, .inl (nF F'))), (ma.fG, .inl (cI, 41, .inl (nF G'))), (ma.fT, .inl (cZ, 41, .inl (bF P)))]) [30, 31, 32, 33] (by decide) rfl) rfl rfl) rfl hl.1 rfl (Nat.le_of_ble_eq_true rfl) d_LW_law_400 ⟨hRc, hRs⟩) hP hD hS [30, 31, 32, 33] rfl (fun _ => rfl) (fun r_8 u_8 H locs hu_8 hP hS => ?_)
      obtain ⟨bs9_8, rfl⟩ : ∃ z, z = u_8 := ⟨_, rfl⟩
      have hP : va_P (dC, dI) cls (WL cI cJ cZ ca ma ⟨nd, ar, pr, F, G, N, Fm, Rs, A, z, Se, al, br, N2, Fm2, Rs2, A2, zi2, S2, al2, br2, (nF C9_7), O9_7, B9_7, sn9_7, Ld, zi, Sg, Pi, Bo, pci, Gd, gci, bl0⟩ ⟨(nI 0), nd, ar, (nI bs9_8), bz, sz, F', G', P, Nm, Wm, Td, Ob, Sp, D⟩) H := hP
      have hD := hD.addr (ws' := (WL cI cJ cZ ca ma ⟨nd, ar, pr, F, G, N, Fm, Rs, A, z, Se, al, br, N2, Fm2, Rs2, A2, zi2, S2, al2, br2, (nF C9_7), O9_7, B9_7, sn9_7, Ld, zi, Sg, Pi, Bo, pci, Gd, gci, bl0⟩ ⟨(nI 0), nd, ar, (nI bs9_8), bz, sz, F', G', P, Nm, Wm, Td, Ob, Sp, D⟩)) rfl
      have hag : r_8 = r_7 := by
        obtain ⟨fd, C9, c1, c2⟩ := hu_7
        obtain ⟨d1, fw, d2⟩ := hu_8
        rw [d1, (arc_eq hLK hSK.1 ha c1 c2 d2).2]
      refine xe_i (y := r_7) hag ?_
      refine lv_icmp_eq (tgt := 609) hx hb d_LW_law_403 (by decide) (fun _ => ?_) (fun q9 => absurd rfl q9)
      exact kk ⟨nd, ar, pr, F, G, N, Fm, Rs, A, z, Se, al, br, N2, Fm2, Rs2, A2, zi2, S2, al2, br2, (nF C9_7), O9_7, B9_7, sn9_7, Ld, zi, Sg, Pi, Bo, pci, Gd, gci, bl0⟩ ⟨(nI 0), nd, ar, (nI bs9_8), bz, sz, F', G', P, Nm, Wm, Td, Ob, Sp, D⟩ H locs ⟨hGA, hSK, hB0, rfl, rfl, hF, hG, hLK, hTd⟩ hP hD hS

set_option maxHeartbeats 8000000 in
set_option maxRecDepth 100000 in
theorem lw_nodes {p : Program} {l : Launch} {e : Env} {s : State} {m : MethodId} {args : Array Value} {below : List Frame} {meth : Method} {c : Code} {H : Heap} {locs : List Loc} {Q : State → Prop} {dC : Nat → ClassId} {dI : Nat → Nat → Nat} {cI cJ cZ : ClassId} {A0 : Nat → Prop} {sc L : Nat} {xs : Nat → Int32} {ls : Array Slot} (X : LX p s m args c dC dI cI cJ cZ A0 sc L xs) {i : Nat} (hi : i + 3 ≤ L) {ca : CA} {ma : MA} {u : CS} {v : MS} (hI : LI u v) (hP : va_P (dC, dI) cls (WL cI cJ cZ ca ma u v) H) (hD : va_D A0 (WL cI cJ cZ ca ma u v)) (hS : va_S A0 s.heap H locs) (hl : lv_has ls 4 [(0, .ref sc), (1, .ref ca.cp), (2, .ref ma.o), (3, .int (nI i))])
    (kk : ∀ (u1 : CS) (v1 : MS) (H1 : Heap) (locs1 : List Loc), LI u1 v1 → va_P (dC, dI) cls (WL cI cJ cZ ca ma u1 v1) H1 → va_D A0 (WL cI cJ cZ ca ma u1 v1) → va_S A0 s.heap H1 locs1 → W p l e room_1 s m args below meth c H1 locs1 40 19226 Q (F0 m 609 ls [])) : W p l e room_1 s m args below meth c H locs 40 19226 Q (F0 m 408 ls []) := by
  obtain ⟨hx, hb, hml, hown, hts, hK, hX, hbl, hbA, hL⟩ := X
  have hRc : 40 ≤ room_1.cells := Nat.le_of_ble_eq_true rfl
  have hRs : 19226 ≤ room_1.slots := Nat.le_of_ble_eq_true rfl
  obtain ⟨nd, ar, pr, F, G, N, Fm, Rs, A, z, Se, al, br, N2, Fm2, Rs2, A2, zi2, S2, al2, br2, Cr, Op, Bf, sn, Ld, zi, Sg, Pi, Bo, pci, Gd, gci, bl0⟩ := u
  obtain ⟨th, ndm, arm, be, bz, sz, F', G', P, Nm, Wm, Td, Ob, Sp, D⟩ := v
  obtain ⟨hGA, hSK, hB0, e1, e2, hF, hG, hLK, hTd⟩ := hI
  have e1 : nd = ndm := e1
  have e2 : ar = arm := e2
  subst e1
  subst e2
  have hGA : GAR F G nd ar pr := hGA
  have hSK : SKI (lb pr) F G nd N Fm A Se z al br := hSK
  have hB0 : Bo 0 = 0 := hB0
  have hF : ∀ k, F' k < 14 := hF
  have hG : ∀ k, G' k < 14 := hG
  have hLK : LK F G pr F' G' P ar := hLK
  have hTd : ∀ k, Td k < 3 := hTd
  have hnd14 : nd ≤ 14 := hGA.1
  have har : ar ≤ 40 := hGA.2.1
  have hM := (lk_M hLK hGA).1
  have hNE := (lk_M hLK hGA).2
  refine lv_aload_n hx hb d_LW_law_408 rfl (lv_at hl 1 rfl) ?_
  refine lv_aload_n hx hb d_LW_law_409 rfl (lv_at hl 0 rfl) ?_
  refine lv_iload_n hx hb d_LW_law_410 rfl (lv_at hl 3 rfl) ?_
  refine lv_iconst (v := (nI 1)) hx hb d_LW_law_411 (by decide) ?_
  refine lv_iadd hx hb d_LW_law_412 ?_
  refine xe_i (nI_add _ _) ?_
  refine x_sld hx hb hX hbl hbA hS (by omega) hL d_LW_law_413 ?_
  refine lv_aload_n hx hb d_LW_law_414 rfl (lv_at hl 0 rfl) ?_
  refine lv_iload_n hx hb d_LW_law_415 rfl (lv_at hl 3 rfl) ?_
  refine lv_iconst (v := (nI 2)) hx hb d_LW_law_416 (by decide) ?_
  refine lv_iadd hx hb d_LW_law_417 ?_
  refine xe_i (nI_add _ _) ?_
  refine x_sld hx hb hX hbl hbA hS (by omega) hL d_LW_law_418 ?_
  cases hv : (vd (xs (i + 1)) nd && vd (xs (i + 2)) nd)
  · skip
    have hbad := hv
    refine vp_callSi (va_Run.run (k_V (n := 2) (C := R_CP) (rest := []) ⟨hx, hb, hml, hown, hts⟩ (c_CP_nodes_b l dC dI cI cJ cZ ca.cp ca.g ca.k ca.k2 ca.fl ca.co ca.sp ca.a1 ca.a2 nd ar pr (xs (i + 1)) (xs (i + 2)) (by first | assumption | omega) (by first | assumption | omega)) wml_LW_64 wim_CP_nodes wsel_CP_nodes wini_CP wcode_CP_nodes (by decide +kernel) ⟨Nat.le_of_ble_eq_true rfl, Nat.le_of_ble_eq_true rfl⟩ (preV_R (q := (R_CP, F_CP, 6)) (ci := 0) (q0 := 0) (hP.sub (ws' := [(ca.cp, .inr (0, [.ref ca.g, .ref ca.k, .ref ca.k2, .ref ca.fl, .ref ca.co, .ref ca.sp])), (ca.g, .inr (1, [.ref ca.a1, .ref ca.a2, .int (nI nd), .int (nI ar), .long pr]))]) [0, 1] rfl) hK rfl rfl) rfl hl.1 rfl (Nat.le_of_ble_eq_true rfl) d_LW_law_419 ⟨hRc, hRs⟩)) (fun r_1 hr_2 => ?_)
    refine xe_i (y := (-1)) hr_2 ?_
    refine lv_aload_n hx hb d_LW_law_422 rfl (lv_at hl 2 rfl) ?_
    refine lv_aload_n hx hb d_LW_law_423 rfl (lv_at hl 0 rfl) ?_
    refine lv_iload_n hx hb d_LW_law_424 rfl (lv_at hl 3 rfl) ?_
    refine lv_iconst (v := (nI 1)) hx hb d_LW_law_425 (by decide) ?_
    refine lv_iadd hx hb d_LW_law_426 ?_
    refine xe_i (nI_add _ _) ?_
    refine x_sld hx hb hX hbl hbA hS (by omega) hL d_LW_law_427 ?_
    refine lv_aload_n hx hb d_LW_law_428 rfl (lv_at hl 0 rfl) ?_
    refine lv_iload_n hx hb d_LW_law_429 rfl (lv_at hl 3 rfl) ?_
    refine lv_iconst (v := (nI 2)) hx hb d_LW_law_430 (by decide) ?_
    refine lv_iadd hx hb d_LW_law_431 ?_
    refine xe_i (nI_add _ _) ?_
    refine x_sld hx hb hX hbl hbA hS (by omega) hL d_LW_law_432 ?_
    refine x_ci (k_V (n := 2) (C := R_MO) (rest := [.int (-1)]) ⟨hx, hb, hml, hown, hts⟩ (c_MO_nodes_b l dC dI cI cJ cZ ma.o ma.fF ma.fG ma.fT ma.fN ma.fW ma.fO ma.fB ma.fS ma.fD th be bz sz nd ar (xs (i + 1)) (xs (i + 2)) (by first | assumption | omega) (by first | assumption | omega)) wml_LW_67 wim_MO_nodes wsel_MO_nodes wini_MO wcode_MO_nodes (by decide +kernel) ⟨Nat.le_of_ble_eq_true rfl, Nat.le_of_ble_eq_true rfl⟩ (preV_M (q := (R_MO, F_MO, 15)) (ci := 7) (q0 := 0) (hP.sub (ws' := [(ma.o, .inr (7, [.int th, .int (nI nd), .int (nI ar), .ref ma.fF, .ref ma.fG, .ref ma.fT, .ref ma.fN, .ref ma.fW, .int be, .ref ma.fO, .ref ma.fB, .int bz, .ref ma.fS, .ref ma.fD, .int sz]))]) [30] rfl) hK (hD.sub (ws' := [(ma.o, .inr (7, [.int th, .int (nI nd), .int (nI ar), .ref ma.fF, .ref ma.fG, .ref ma.fT, .ref ma.fN, .ref ma.fW, .int be, .ref ma.fO, .ref ma.fB, .int bz, .ref ma.fS, .ref ma.fD, .int sz]))]) [30] (by decide) rfl) rfl rfl) rfl hl.1 rfl (Nat.le_of_ble_eq_true rfl) d_LW_law_433 ⟨hRc, hRs⟩) hP hD hS [30] rfl (fun _ => rfl) (fun r_3 u_3 H locs hu_3 hP hS => ?_)
    have hP : va_P (dC, dI) cls (WL cI cJ cZ ca ma ⟨nd, ar, pr, F, G, N, Fm, Rs, A, z, Se, al, br, N2, Fm2, Rs2, A2, zi2, S2, al2, br2, Cr, Op, Bf, sn, Ld, zi, Sg, Pi, Bo, pci, Gd, gci, bl0⟩ ⟨(nI 0), nd, ar, be, bz, sz, F', G', P, Nm, Wm, Td, Ob, Sp, D⟩) H := hP
    have hD := hD.addr (ws' := (WL cI cJ cZ ca ma ⟨nd, ar, pr, F, G, N, Fm, Rs, A, z, Se, al, br, N2, Fm2, Rs2, A2, zi2, S2, al2, br2, Cr, Op, Bf, sn, Ld, zi, Sg, Pi, Bo, pci, Gd, gci, bl0⟩ ⟨(nI 0), nd, ar, be, bz, sz, F', G', P, Nm, Wm, Td, Ob, Sp, D⟩)) rfl
    have hag : r_3 = (-1) := hu_3
    refine xe_i (y := (-1)) hag ?_
    refine lv_icmp_eq (tgt := 609) hx hb d_LW_law_436 (by decide) (fun _ => ?_) (fun q9 => absurd rfl q9)
    exact kk ⟨nd, ar, pr, F, G, N, Fm, Rs, A, z, Se, al, br, N2, Fm2, Rs2, A2, zi2, S2, al2, br2, Cr, Op, Bf, sn, Ld, zi, Sg, Pi, Bo, pci, Gd, gci, bl0⟩ ⟨(nI 0), nd, ar, be, bz, sz, F', G', P, Nm, Wm, Td, Ob, Sp, D⟩ H locs ⟨hGA, hSK, hB0, rfl, rfl, hF, hG, hLK, hTd⟩ hP hD hS
  · skip
    obtain ⟨⟨x, ha, ex⟩, ⟨y, hb_, ey⟩⟩ := two_ok hnd14 hv
    by_cases hab : x = y
    · skip
      rw [ex, ey]
      refine vp_callSi (va_Run.run (k_V (n := 2) (C := R_CP) (rest := []) ⟨hx, hb, hml, hown, hts⟩ (c_CP_nodes_s l dC dI cI cJ cZ ca.cp ca.g ca.k ca.k2 ca.fl ca.co ca.sp ca.a1 ca.a2 nd ar pr x y (by first | assumption | omega) (by first | assumption | omega) (by first | assumption | omega)) wml_LW_64 wim_CP_nodes wsel_CP_nodes wini_CP wcode_CP_nodes (by decide +kernel) ⟨Nat.le_of_ble_eq_true rfl, Nat.le_of_ble_eq_true rfl⟩ (preV_R (q := (R_CP, F_CP, 6)) (ci := 0) (q0 := 0) (hP.sub (ws' := [(ca.cp, .inr (0, [.ref ca.g, .ref ca.k, .ref ca.k2, .ref ca.fl, .ref ca.co, .ref ca.sp])), (ca.g, .inr (1, [.ref ca.a1, .ref ca.a2, .int (nI nd), .int (nI ar), .long pr]))]) [0, 1] rfl) hK rfl rfl) rfl hl.1 rfl (Nat.le_of_ble_eq_true rfl) d_LW_law_419 ⟨hRc, hRs⟩)) (fun r_4 hr_5 => ?_)
      refine xe_i (y := (-3)) hr_5 ?_
      refine lv_aload_n hx hb d_LW_law_422 rfl (lv_at hl 2 rfl) ?_
      refine lv_aload_n hx hb d_LW_law_423 rfl (lv_at hl 0 rfl) ?_
      refine lv_iload_n hx hb d_LW_law_424 rfl (lv_at hl 3 rfl) ?_
      refine lv_iconst (v := (nI 1)) hx hb d_LW_law_425 (by decide) ?_
      refine lv_iadd hx hb d_LW_law_426 ?_
      refine xe_i (nI_add _ _) ?_
      refine x_sld hx hb hX hbl hbA hS (by omega) hL d_LW_law_427 ?_
      refine lv_aload_n hx hb d_LW_law_428 rfl (lv_at hl 0 rfl) ?_
      refine lv_iload_n hx hb d_LW_law_429 rfl (lv_at hl 3 rfl) ?_
      refine lv_iconst (v := (nI 2)) hx hb d_LW_law_430 (by decide) ?_
      refine lv_iadd hx hb d_LW_law_431 ?_
      refine xe_i (nI_add _ _) ?_
      refine x_sld hx hb hX hbl hbA hS (by omega) hL d_LW_law_432 ?_
      rw [ex, ey]
      refine x_ci (k_V (n := 2) (C := R_MO) (rest := [.int (-3)]) ⟨hx, hb, hml, hown, hts⟩ (c_MO_nodes_s l dC dI cI cJ cZ ma.o ma.fF ma.fG ma.fT ma.fN ma.fW ma.fO ma.fB ma.fS ma.fD th be bz sz nd ar F' G' P (by first | assumption | omega) (by first | assumption | omega) (by first | assumption | omega) (by first | assumption | omega) (by first | assumption | omega) Nm x y (by first | assumption | omega) (by first | assumption | omega) (by first | assumption | omega)) wml_LW_67 wim_MO_nodes wsel_MO_nodes wini_MO wcode_MO_nodes (by decide +kernel) ⟨Nat.le_of_ble_eq_true rfl, Nat.le_of_ble_eq_true rfl⟩ (preV_M (q := (R_MO, F_MO, 15)) (ci := 7) (q0 := 0) (hP.sub (ws' := [(ma.o, .inr (7, [.int th, .int (nI nd), .int (nI ar), .ref ma.fF, .ref ma.fG, .ref ma.fT, .ref ma.fN, .ref ma.fW, .int be, .ref ma.fO, .ref ma.fB, .int bz, .ref ma.fS, .ref ma.fD, .int sz])), (ma.fF, .inl (cI, 41, .inl (nF F'))), (ma.fG, .inl (cI, 41, .inl (nF G'))), (ma.fT, .inl (cZ, 41, .inl (bF P))), (ma.fN, .inl (cI, 14, .inl Nm))]) [30, 31, 32, 33, 34] rfl) hK (hD.sub (ws' := [(ma.o, .inr (7, [.int th, .int (nI nd), .int (nI ar), .ref ma.fF, .ref ma.fG, .ref ma.fT, .ref ma.fN, .ref ma.fW, .int be, .ref ma.fO, .ref ma.fB, .int bz, .ref ma.fS, .ref ma.fD, .int sz])), (ma.fF, .inl (cI, 41, .inl (nF F'))), (ma.fG, .inl (cI, 41, .inl (nF G'))), (ma.fT, .inl (cZ, 41, .inl (bF P))), (ma.fN, .inl (cI, 14, .inl Nm))]) [30, 31, 32, 33, 34] (by decide) rfl) rfl rfl) rfl hl.1 rfl (Nat.le_of_ble_eq_true rfl) d_LW_law_433 ⟨hRc, hRs⟩) hP hD hS [30, 31, 32, 33, 34] rfl (fun _ => rfl) (fun r_6 u_6 H locs hu_6 hP hS => ?_)
      obtain ⟨N9_6, rfl⟩ : ∃ z, z = u_6 := ⟨_, rfl⟩
      have hP : va_P (dC, dI) cls (WL cI cJ cZ ca ma ⟨nd, ar, pr, F, G, N, Fm, Rs, A, z, Se, al, br, N2, Fm2, Rs2, A2, zi2, S2, al2, br2, Cr, Op, Bf, sn, Ld, zi, Sg, Pi, Bo, pci, Gd, gci, bl0⟩ ⟨(nI 0), nd, ar, be, bz, sz, F', G', P, N9_6, Wm, Td, Ob, Sp, D⟩) H := hP
      have hD := hD.addr (ws' := (WL cI cJ cZ ca ma ⟨nd, ar, pr, F, G, N, Fm, Rs, A, z, Se, al, br, N2, Fm2, Rs2, A2, zi2, S2, al2, br2, Cr, Op, Bf, sn, Ld, zi, Sg, Pi, Bo, pci, Gd, gci, bl0⟩ ⟨(nI 0), nd, ar, be, bz, sz, F', G', P, N9_6, Wm, Td, Ob, Sp, D⟩)) rfl
      have hag : r_6 = (-3) := hu_6
      refine xe_i (y := (-3)) hag ?_
      refine lv_icmp_eq (tgt := 609) hx hb d_LW_law_436 (by decide) (fun _ => ?_) (fun q9 => absurd rfl q9)
      exact kk ⟨nd, ar, pr, F, G, N, Fm, Rs, A, z, Se, al, br, N2, Fm2, Rs2, A2, zi2, S2, al2, br2, Cr, Op, Bf, sn, Ld, zi, Sg, Pi, Bo, pci, Gd, gci, bl0⟩ ⟨(nI 0), nd, ar, be, bz, sz, F', G', P, N9_6, Wm, Td, Ob, Sp, D⟩ H locs ⟨hGA, hSK, hB0, rfl, rfl, hF, hG, hLK, hTd⟩ hP hD hS
    · skip
      cases hadj : bt (N x) y
      · skip
        have hadM : ¬ ad (lkT ar 0 P (-1) (-1) (nI 0) F' G') F' G' x y := by
          rw [lk_0 hLK, ← hSK.2.2.1 x y (by omega), hadj]; exact Bool.false_ne_true
        rw [ex, ey]
        refine x_ci (k_V (n := 2) (C := R_CP) (rest := []) ⟨hx, hb, hml, hown, hts⟩ (c_CP_nodes_k l dC dI cI cJ cZ ca.cp ca.g ca.k ca.k2 ca.fl ca.co ca.sp ca.a1 ca.a2 nd ar pr F G (by first | assumption | omega) ca.nr ca.fr ca.rs ca.at_ ca.h al br N Fm A ca.b1 z Se (by first | assumption | omega) ca.rm ca.op ca.bf sn Cr Op Bf x y (by first | assumption | omega) (by first | assumption | omega) (by first | assumption | omega) (by first | assumption | omega)) wml_LW_64 wim_CP_nodes wsel_CP_nodes wini_CP wcode_CP_nodes (by decide +kernel) ⟨Nat.le_of_ble_eq_true rfl, Nat.le_of_ble_eq_true rfl⟩ (preV_M (q := (R_CP, F_CP, 6)) (ci := 0) (q0 := 0) (hP.sub (ws' := [(ca.cp, .inr (0, [.ref ca.g, .ref ca.k, .ref ca.k2, .ref ca.fl, .ref ca.co, .ref ca.sp])), (ca.g, .inr (1, [.ref ca.a1, .ref ca.a2, .int (nI nd), .int (nI ar), .long pr])), (ca.fl, .inr (4, [.ref ca.rm, .ref ca.op, .ref ca.bf, .int sn])), (ca.rm, .inl (cI, 784, .inl Cr)), (ca.op, .inl (cI, 28, .inl Op)), (ca.bf, .inl (cI, 28, .inl (nF Bf))), (ca.k, .inr (2, [.ref ca.nr, .ref ca.fr, .ref ca.rs, .ref ca.at_, .ref ca.h, .int al, .long br])), (ca.nr, .inl (cI, 14, .inl N))]) [0, 1, 18, 19, 20, 21, 4, 5] rfl) hK (hD.sub (ws' := [(ca.cp, .inr (0, [.ref ca.g, .ref ca.k, .ref ca.k2, .ref ca.fl, .ref ca.co, .ref ca.sp])), (ca.g, .inr (1, [.ref ca.a1, .ref ca.a2, .int (nI nd), .int (nI ar), .long pr])), (ca.fl, .inr (4, [.ref ca.rm, .ref ca.op, .ref ca.bf, .int sn])), (ca.rm, .inl (cI, 784, .inl Cr)), (ca.op, .inl (cI, 28, .inl Op)), (ca.bf, .inl (cI, 28, .inl (nF Bf))), (ca.k, .inr (2, [.ref ca.nr, .ref ca.fr, .ref ca.rs, .ref ca.at_, .ref ca.h, .int al, .long br])), (ca.nr, .inl (cI, 14, .inl N))]) [0, 1, 18, 19, 20, 21, 4, 5] (by decide) rfl) rfl rfl) rfl hl.1 rfl (Nat.le_of_ble_eq_true rfl) d_LW_law_419 ⟨hRc, hRs⟩) hP hD hS [0, 1, 18, 19, 20, 21, 4, 5] rfl (fun _ => rfl) (fun r_7 u_7 H locs hu_7 hP hS => ?_)
        obtain ⟨C9_7, O9_7, sn9_7, B9_7⟩ := u_7
        have hP : va_P (dC, dI) cls (WL cI cJ cZ ca ma ⟨nd, ar, pr, F, G, N, Fm, Rs, A, z, Se, al, br, N2, Fm2, Rs2, A2, zi2, S2, al2, br2, (nF C9_7), O9_7, B9_7, sn9_7, Ld, zi, Sg, Pi, Bo, pci, Gd, gci, bl0⟩ ⟨th, nd, ar, be, bz, sz, F', G', P, Nm, Wm, Td, Ob, Sp, D⟩) H := hP
        have hD := hD.addr (ws' := (WL cI cJ cZ ca ma ⟨nd, ar, pr, F, G, N, Fm, Rs, A, z, Se, al, br, N2, Fm2, Rs2, A2, zi2, S2, al2, br2, (nF C9_7), O9_7, B9_7, sn9_7, Ld, zi, Sg, Pi, Bo, pci, Gd, gci, bl0⟩ ⟨th, nd, ar, be, bz, sz, F', G', P, Nm, Wm, Td, Ob, Sp, D⟩)) rfl
        obtain ⟨kx_8, ek_8, hk_8⟩ := hu_7
        refine xe_i (y := (nI kx_8)) ek_8 ?_
        refine lv_aload_n hx hb d_LW_law_422 rfl (lv_at hl 2 rfl) ?_
        refine lv_aload_n hx hb d_LW_law_423 rfl (lv_at hl 0 rfl) ?_
        refine lv_iload_n hx hb d_LW_law_424 rfl (lv_at hl 3 rfl) ?_
        refine lv_iconst (v := (nI 1)) hx hb d_LW_law_425 (by decide) ?_
        refine lv_iadd hx hb d_LW_law_426 ?_
        refine xe_i (nI_add _ _) ?_
        refine x_sld hx hb hX hbl hbA hS (by omega) hL d_LW_law_427 ?_
        refine lv_aload_n hx hb d_LW_law_428 rfl (lv_at hl 0 rfl) ?_
        refine lv_iload_n hx hb d_LW_law_429 rfl (lv_at hl 3 rfl) ?_
        refine lv_iconst (v := (nI 2)) hx hb d_LW_law_430 (by decide) ?_
        refine lv_iadd hx hb d_LW_law_431 ?_
        refine xe_i (nI_add _ _) ?_
        refine x_sld hx hb hX hbl hbA hS (by omega) hL d_LW_law_432 ?_
        rw [ex, ey]
        refine x_ci (k_V (n := 2) (C := R_MO) (rest := [.int (nI kx_8)]) ⟨hx, hb, hml, hown, hts⟩ (c_MO_nodes_k l dC dI cI cJ cZ ma.o ma.fF ma.fG ma.fT ma.fN ma.fW ma.fO ma.fB ma.fS ma.fD th be bz sz nd ar F' G' P (by first | assumption | omega) (by first | assumption | omega) (by first | assumption | omega) (by first | assumption | omega) (by first | assumption | omega) Nm x y (by first | assumption | omega) (by first | assumption | omega) (by first | assumption | omega) (by first | assumption | omega)) wml_LW_67 wim_MO_nodes wsel_MO_nodes wini_MO wcode_MO_nodes (by decide +kernel) ⟨Nat.le_of_ble_eq_true rfl, Nat.le_of_ble_eq_true rfl⟩ (preV_M (q := (R_MO, F_MO, 15)) (ci := 7) (q0 := 0) (hP.sub (ws' := [(ma.o, .inr (7, [.int th, .int (nI nd), .int (nI ar), .ref ma.fF, .ref ma.fG, .ref ma.fT, .ref ma.fN, .ref ma.fW, .int be, .ref ma.fO, .ref ma.fB, .int bz, .ref ma.fS, .ref ma.fD, .int sz])), (ma.fF, .inl (cI, 41, .inl (nF F'))), (ma.fG, .inl (cI, 41, .inl (nF G'))), (ma.fT, .inl (cZ, 41, .inl (bF P))), (ma.fN, .inl (cI, 14, .inl Nm))]) [30, 31, 32, 33, 34] rfl) hK (hD.sub (ws' := [(ma.o, .inr (7, [.int th, .int (nI nd), .int (nI ar), .ref ma.fF, .ref ma.fG, .ref ma.fT, .ref ma.fN, .ref ma.fW, .int be, .ref ma.fO, .ref ma.fB, .int bz, .ref ma.fS, .ref ma.fD, .int sz])), (ma.fF, .inl (cI, 41, .inl (nF F'))), (ma.fG, .inl (cI, 41, .inl (nF G'))), (ma.fT, .inl (cZ, 41, .inl (bF P))), (ma.fN, .inl (cI, 14, .inl Nm))]) [30, 31, 32, 33, 34] (by decide) rfl) rfl rfl) rfl hl.1 rfl (Nat.le_of_ble_eq_true rfl) d_LW_law_433 ⟨hRc, hRs⟩) hP hD hS [30, 31, 32, 33, 34] rfl (fun _ => rfl) (fun r_9 u_9 H locs hu_9 hP hS => ?_)
        obtain ⟨N9_9, rfl⟩ : ∃ z, z = u_9 := ⟨_, rfl⟩
        have hP : va_P (dC, dI) cls (WL cI cJ cZ ca ma ⟨nd, ar, pr, F, G, N, Fm, Rs, A, z, Se, al, br, N2, Fm2, Rs2, A2, zi2, S2, al2, br2, (nF C9_7), O9_7, B9_7, sn9_7, Ld, zi, Sg, Pi, Bo, pci, Gd, gci, bl0⟩ ⟨(nI 0), nd, ar, be, bz, sz, F', G', P, N9_9, Wm, Td, Ob, Sp, D⟩) H := hP
        have hD := hD.addr (ws' := (WL cI cJ cZ ca ma ⟨nd, ar, pr, F, G, N, Fm, Rs, A, z, Se, al, br, N2, Fm2, Rs2, A2, zi2, S2, al2, br2, (nF C9_7), O9_7, B9_7, sn9_7, Ld, zi, Sg, Pi, Bo, pci, Gd, gci, bl0⟩ ⟨(nI 0), nd, ar, be, bz, sz, F', G', P, N9_9, Wm, Td, Ob, Sp, D⟩)) rfl
        obtain ⟨kx_10, ek_10, hk_10⟩ := hu_9
        refine xe_i (y := (nI kx_10)) ek_10 ?_
        have hag : (nI kx_10) = (nI kx_8) := by
          obtain ⟨C9, y9, c1, c2⟩ := hk_8
          exact congrArg nI (node_eq hLK hSK.1 hSK.2.2.1 ha hb_ hab hadj c1 c2 hk_10).symm
        refine xe_i (y := (nI kx_8)) hag ?_
        refine lv_icmp_eq (tgt := 609) hx hb d_LW_law_436 (by decide) (fun _ => ?_) (fun q9 => absurd rfl q9)
        exact kk ⟨nd, ar, pr, F, G, N, Fm, Rs, A, z, Se, al, br, N2, Fm2, Rs2, A2, zi2, S2, al2, br2, (nF C9_7), O9_7, B9_7, sn9_7, Ld, zi, Sg, Pi, Bo, pci, Gd, gci, bl0⟩ ⟨(nI 0), nd, ar, be, bz, sz, F', G', P, N9_9, Wm, Td, Ob, Sp, D⟩ H locs ⟨hGA, hSK, hB0, rfl, rfl, hF, hG, hLK, hTd⟩ hP hD hS
      · skip
        have hadM : ad (lkT ar 0 P (-1) (-1) (nI 0) F' G') F' G' x y := by
          rw [lk_0 hLK]; exact (hSK.2.2.1 x y (by omega)).mp hadj
        rw [ex, ey]
        refine vp_callSi (va_Run.run (k_V (n := 2) (C := R_CP) (rest := []) ⟨hx, hb, hml, hown, hts⟩ (c_CP_nodes_a l dC dI cI cJ cZ ca.cp ca.g ca.k ca.k2 ca.fl ca.co ca.sp ca.a1 ca.a2 nd ar pr F G (by first | assumption | omega) ca.nr ca.fr ca.rs ca.at_ ca.h al br N Fm A ca.b1 z Se (by first | assumption | omega) x y (by first | assumption | omega) (by first | assumption | omega) (by first | assumption | omega) (by first | assumption | omega)) wml_LW_64 wim_CP_nodes wsel_CP_nodes wini_CP wcode_CP_nodes (by decide +kernel) ⟨Nat.le_of_ble_eq_true rfl, Nat.le_of_ble_eq_true rfl⟩ (preV_R (q := (R_CP, F_CP, 6)) (ci := 0) (q0 := 0) (hP.sub (ws' := [(ca.cp, .inr (0, [.ref ca.g, .ref ca.k, .ref ca.k2, .ref ca.fl, .ref ca.co, .ref ca.sp])), (ca.g, .inr (1, [.ref ca.a1, .ref ca.a2, .int (nI nd), .int (nI ar), .long pr])), (ca.k, .inr (2, [.ref ca.nr, .ref ca.fr, .ref ca.rs, .ref ca.at_, .ref ca.h, .int al, .long br])), (ca.nr, .inl (cI, 14, .inl N))]) [0, 1, 4, 5] rfl) hK rfl rfl) rfl hl.1 rfl (Nat.le_of_ble_eq_true rfl) d_LW_law_419 ⟨hRc, hRs⟩)) (fun r_11 hr_12 => ?_)
        refine xe_i (y := (-3)) hr_12 ?_
        refine lv_aload_n hx hb d_LW_law_422 rfl (lv_at hl 2 rfl) ?_
        refine lv_aload_n hx hb d_LW_law_423 rfl (lv_at hl 0 rfl) ?_
        refine lv_iload_n hx hb d_LW_law_424 rfl (lv_at hl 3 rfl) ?_
        refine lv_iconst (v := (nI 1)) hx hb d_LW_law_425 (by decide) ?_
        refine lv_iadd hx hb d_LW_law_426 ?_
        refine xe_i (nI_add _ _) ?_
        refine x_sld hx hb hX hbl hbA hS (by omega) hL d_LW_law_427 ?_
        refine lv_aload_n hx hb d_LW_law_428 rfl (lv_at hl 0 rfl) ?_
        refine lv_iload_n hx hb d_LW_law_429 rfl (lv_at hl 3 rfl) ?_
        refine lv_iconst (v := (nI 2)) hx hb d_LW_law_430 (by decide) ?_
        refine lv_iadd hx hb d_LW_law_431 ?_
        refine xe_i (nI_add _ _) ?_
        refine x_sld hx hb hX hbl hbA hS (by omega) hL d_LW_law_432 ?_
        rw [ex, ey]
        refine x_ci (k_V (n := 2) (C := R_MO) (rest := [.int (-3)]) ⟨hx, hb, hml, hown, hts⟩ (c_MO_nodes_a l dC dI cI cJ cZ ma.o ma.fF ma.fG ma.fT ma.fN ma.fW ma.fO ma.fB ma.fS ma.fD th be bz sz nd ar F' G' P (by first | assumption | omega) (by first | assumption | omega) (by first | assumption | omega) (by first | assumption | omega) (by first | assumption | omega) Nm x y (by first | assumption | omega) (by first | assumption | omega) (by first | assumption | omega) (by first | assumption | omega)) wml_LW_67 wim_MO_nodes wsel_MO_nodes wini_MO wcode_MO_nodes (by decide +kernel) ⟨Nat.le_of_ble_eq_true rfl, Nat.le_of_ble_eq_true rfl⟩ (preV_M (q := (R_MO, F_MO, 15)) (ci := 7) (q0 := 0) (hP.sub (ws' := [(ma.o, .inr (7, [.int th, .int (nI nd), .int (nI ar), .ref ma.fF, .ref ma.fG, .ref ma.fT, .ref ma.fN, .ref ma.fW, .int be, .ref ma.fO, .ref ma.fB, .int bz, .ref ma.fS, .ref ma.fD, .int sz])), (ma.fF, .inl (cI, 41, .inl (nF F'))), (ma.fG, .inl (cI, 41, .inl (nF G'))), (ma.fT, .inl (cZ, 41, .inl (bF P))), (ma.fN, .inl (cI, 14, .inl Nm))]) [30, 31, 32, 33, 34] rfl) hK (hD.sub (ws' := [(ma.o, .inr (7, [.int th, .int (nI nd), .int (nI ar), .ref ma.fF, .ref ma.fG, .ref ma.fT, .ref ma.fN, .ref ma.fW, .int be, .ref ma.fO, .ref ma.fB, .int bz, .ref ma.fS, .ref ma.fD, .int sz])), (ma.fF, .inl (cI, 41, .inl (nF F'))), (ma.fG, .inl (cI, 41, .inl (nF G'))), (ma.fT, .inl (cZ, 41, .inl (bF P))), (ma.fN, .inl (cI, 14, .inl Nm))]) [30, 31, 32, 33, 34] (by decide) rfl) rfl rfl) rfl hl.1 rfl (Nat.le_of_ble_eq_true rfl) d_LW_law_433 ⟨hRc, hRs⟩) hP hD hS [30, 31, 32, 33, 34] rfl (fun _ => rfl) (fun r_13 u_13 H locs hu_13 hP hS => ?_)
        obtain ⟨N9_13, rfl⟩ : ∃ z, z = u_13 := ⟨_, rfl⟩
        have hP : va_P (dC, dI) cls (WL cI cJ cZ ca ma ⟨nd, ar, pr, F, G, N, Fm, Rs, A, z, Se, al, br, N2, Fm2, Rs2, A2, zi2, S2, al2, br2, Cr, Op, Bf, sn, Ld, zi, Sg, Pi, Bo, pci, Gd, gci, bl0⟩ ⟨(nI 0), nd, ar, be, bz, sz, F', G', P, N9_13, Wm, Td, Ob, Sp, D⟩) H := hP
        have hD := hD.addr (ws' := (WL cI cJ cZ ca ma ⟨nd, ar, pr, F, G, N, Fm, Rs, A, z, Se, al, br, N2, Fm2, Rs2, A2, zi2, S2, al2, br2, Cr, Op, Bf, sn, Ld, zi, Sg, Pi, Bo, pci, Gd, gci, bl0⟩ ⟨(nI 0), nd, ar, be, bz, sz, F', G', P, N9_13, Wm, Td, Ob, Sp, D⟩)) rfl
        have hag : r_13 = (-3) := hu_13
        refine xe_i (y := (-3)) hag ?_
        refine lv_icmp_eq (tgt := 609) hx hb d_LW_law_436 (by decide) (fun _ => ?_) (fun q9 => absurd rfl q9)
        exact kk ⟨nd, ar, pr, F, G, N, Fm, Rs, A, z, Se, al, br, N2, Fm2, Rs2, A2, zi2, S2, al2, br2, Cr, Op, Bf, sn, Ld, zi, Sg, Pi, Bo, pci, Gd, gci, bl0⟩ ⟨(nI 0), nd, ar, be, bz, sz, F', G', P, N9_13, Wm, Td, Ob, Sp, D⟩ H locs ⟨hGA, hSK, hB0, rfl, rfl, hF, hG, hLK, hTd⟩ hP hD hS

set_option maxHeartbeats 8000000 in
set_option maxRecDepth 100000 in
theorem lw_between {p : Program} {l : Launch} {e : Env} {s : State} {m : MethodId} {args : Array Value} {below : List Frame} {meth : Method} {c : Code} {H : Heap} {locs : List Loc} {Q : State → Prop} {dC : Nat → ClassId} {dI : Nat → Nat → Nat} {cI cJ cZ : ClassId} {A0 : Nat → Prop} {sc L : Nat} {xs : Nat → Int32} {ls : Array Slot} (X : LX p s m args c dC dI cI cJ cZ A0 sc L xs) {i : Nat} (hi : i + 3 ≤ L) {ca : CA} {ma : MA} {u : CS} {v : MS} (hI : LI u v) (hP : va_P (dC, dI) cls (WL cI cJ cZ ca ma u v) H) (hD : va_D A0 (WL cI cJ cZ ca ma u v)) (hS : va_S A0 s.heap H locs) (hl : lv_has ls 4 [(0, .ref sc), (1, .ref ca.cp), (2, .ref ma.o), (3, .int (nI i))])
    (kk : ∀ (u1 : CS) (v1 : MS) (H1 : Heap) (locs1 : List Loc), LI u1 v1 → va_P (dC, dI) cls (WL cI cJ cZ ca ma u1 v1) H1 → va_D A0 (WL cI cJ cZ ca ma u1 v1) → va_S A0 s.heap H1 locs1 → W p l e room_1 s m args below meth c H1 locs1 40 19226 Q (F0 m 609 ls [])) : W p l e room_1 s m args below meth c H locs 40 19226 Q (F0 m 441 ls []) := by
  obtain ⟨hx, hb, hml, hown, hts, hK, hX, hbl, hbA, hL⟩ := X
  have hRc : 40 ≤ room_1.cells := Nat.le_of_ble_eq_true rfl
  have hRs : 19226 ≤ room_1.slots := Nat.le_of_ble_eq_true rfl
  obtain ⟨nd, ar, pr, F, G, N, Fm, Rs, A, z, Se, al, br, N2, Fm2, Rs2, A2, zi2, S2, al2, br2, Cr, Op, Bf, sn, Ld, zi, Sg, Pi, Bo, pci, Gd, gci, bl0⟩ := u
  obtain ⟨th, ndm, arm, be, bz, sz, F', G', P, Nm, Wm, Td, Ob, Sp, D⟩ := v
  obtain ⟨hGA, hSK, hB0, e1, e2, hF, hG, hLK, hTd⟩ := hI
  have e1 : nd = ndm := e1
  have e2 : ar = arm := e2
  subst e1
  subst e2
  have hGA : GAR F G nd ar pr := hGA
  have hSK : SKI (lb pr) F G nd N Fm A Se z al br := hSK
  have hB0 : Bo 0 = 0 := hB0
  have hF : ∀ k, F' k < 14 := hF
  have hG : ∀ k, G' k < 14 := hG
  have hLK : LK F G pr F' G' P ar := hLK
  have hTd : ∀ k, Td k < 3 := hTd
  have hnd14 : nd ≤ 14 := hGA.1
  have har : ar ≤ 40 := hGA.2.1
  have hM := (lk_M hLK hGA).1
  have hNE := (lk_M hLK hGA).2
  refine lv_aload_n hx hb d_LW_law_441 rfl (lv_at hl 1 rfl) ?_
  refine lv_aload_n hx hb d_LW_law_442 rfl (lv_at hl 0 rfl) ?_
  refine lv_iload_n hx hb d_LW_law_443 rfl (lv_at hl 3 rfl) ?_
  refine lv_iconst (v := (nI 1)) hx hb d_LW_law_444 (by decide) ?_
  refine lv_iadd hx hb d_LW_law_445 ?_
  refine xe_i (nI_add _ _) ?_
  refine x_sld hx hb hX hbl hbA hS (by omega) hL d_LW_law_446 ?_
  refine lv_aload_n hx hb d_LW_law_447 rfl (lv_at hl 0 rfl) ?_
  refine lv_iload_n hx hb d_LW_law_448 rfl (lv_at hl 3 rfl) ?_
  refine lv_iconst (v := (nI 2)) hx hb d_LW_law_449 (by decide) ?_
  refine lv_iadd hx hb d_LW_law_450 ?_
  refine xe_i (nI_add _ _) ?_
  refine x_sld hx hb hX hbl hbA hS (by omega) hL d_LW_law_451 ?_
  cases hv : (vd (xs (i + 1)) nd && vd (xs (i + 2)) nd)
  · skip
    have hbad := hv
    refine vp_callSi (va_Run.run (k_V (n := 2) (C := R_CP) (rest := []) ⟨hx, hb, hml, hown, hts⟩ (c_CP_between_b l dC dI cI cJ cZ ca.cp ca.g ca.k ca.k2 ca.fl ca.co ca.sp ca.a1 ca.a2 nd ar pr (xs (i + 1)) (xs (i + 2)) (by first | assumption | omega) (by first | assumption | omega)) wml_LW_68 wim_CP_between wsel_CP_between wini_CP wcode_CP_between (by decide +kernel) ⟨Nat.le_of_ble_eq_true rfl, Nat.le_of_ble_eq_true rfl⟩ (preV_R (q := (R_CP, F_CP, 6)) (ci := 0) (q0 := 0) (hP.sub (ws' := [(ca.cp, .inr (0, [.ref ca.g, .ref ca.k, .ref ca.k2, .ref ca.fl, .ref ca.co, .ref ca.sp])), (ca.g, .inr (1, [.ref ca.a1, .ref ca.a2, .int (nI nd), .int (nI ar), .long pr]))]) [0, 1] rfl) hK rfl rfl) rfl hl.1 rfl (Nat.le_of_ble_eq_true rfl) d_LW_law_452 ⟨hRc, hRs⟩)) (fun r_1 hr_2 => ?_)
    refine xe_i (y := (-1)) hr_2 ?_
    refine lv_aload_n hx hb d_LW_law_455 rfl (lv_at hl 2 rfl) ?_
    refine lv_aload_n hx hb d_LW_law_456 rfl (lv_at hl 0 rfl) ?_
    refine lv_iload_n hx hb d_LW_law_457 rfl (lv_at hl 3 rfl) ?_
    refine lv_iconst (v := (nI 1)) hx hb d_LW_law_458 (by decide) ?_
    refine lv_iadd hx hb d_LW_law_459 ?_
    refine xe_i (nI_add _ _) ?_
    refine x_sld hx hb hX hbl hbA hS (by omega) hL d_LW_law_460 ?_
    refine lv_aload_n hx hb d_LW_law_461 rfl (lv_at hl 0 rfl) ?_
    refine lv_iload_n hx hb d_LW_law_462 rfl (lv_at hl 3 rfl) ?_
    refine lv_iconst (v := (nI 2)) hx hb d_LW_law_463 (by decide) ?_
    refine lv_iadd hx hb d_LW_law_464 ?_
    refine xe_i (nI_add _ _) ?_
    refine x_sld hx hb hX hbl hbA hS (by omega) hL d_LW_law_465 ?_
    refine x_ci (k_V (n := 2) (C := R_MO) (rest := [.int (-1)]) ⟨hx, hb, hml, hown, hts⟩ (c_MO_between_b l dC dI cI cJ cZ ma.o ma.fF ma.fG ma.fT ma.fN ma.fW ma.fO ma.fB ma.fS ma.fD th be bz sz nd ar (xs (i + 1)) (xs (i + 2)) (by first | assumption | omega) (by first | assumption | omega)) wml_LW_71 wim_MO_between wsel_MO_between wini_MO wcode_MO_between (by decide +kernel) ⟨Nat.le_of_ble_eq_true rfl, Nat.le_of_ble_eq_true rfl⟩ (preV_M (q := (R_MO, F_MO, 15)) (ci := 7) (q0 := 0) (hP.sub (ws' := [(ma.o, .inr (7, [.int th, .int (nI nd), .int (nI ar), .ref ma.fF, .ref ma.fG, .ref ma.fT, .ref ma.fN, .ref ma.fW, .int be, .ref ma.fO, .ref ma.fB, .int bz, .ref ma.fS, .ref ma.fD, .int sz]))]) [30] rfl) hK (hD.sub (ws' := [(ma.o, .inr (7, [.int th, .int (nI nd), .int (nI ar), .ref ma.fF, .ref ma.fG, .ref ma.fT, .ref ma.fN, .ref ma.fW, .int be, .ref ma.fO, .ref ma.fB, .int bz, .ref ma.fS, .ref ma.fD, .int sz]))]) [30] (by decide) rfl) rfl rfl) rfl hl.1 rfl (Nat.le_of_ble_eq_true rfl) d_LW_law_466 ⟨hRc, hRs⟩) hP hD hS [30] rfl (fun _ => rfl) (fun r_3 u_3 H locs hu_3 hP hS => ?_)
    have hP : va_P (dC, dI) cls (WL cI cJ cZ ca ma ⟨nd, ar, pr, F, G, N, Fm, Rs, A, z, Se, al, br, N2, Fm2, Rs2, A2, zi2, S2, al2, br2, Cr, Op, Bf, sn, Ld, zi, Sg, Pi, Bo, pci, Gd, gci, bl0⟩ ⟨(nI 0), nd, ar, be, bz, sz, F', G', P, Nm, Wm, Td, Ob, Sp, D⟩) H := hP
    have hD := hD.addr (ws' := (WL cI cJ cZ ca ma ⟨nd, ar, pr, F, G, N, Fm, Rs, A, z, Se, al, br, N2, Fm2, Rs2, A2, zi2, S2, al2, br2, Cr, Op, Bf, sn, Ld, zi, Sg, Pi, Bo, pci, Gd, gci, bl0⟩ ⟨(nI 0), nd, ar, be, bz, sz, F', G', P, Nm, Wm, Td, Ob, Sp, D⟩)) rfl
    have hag : r_3 = (-1) := hu_3
    refine xe_i (y := (-1)) hag ?_
    refine lv_icmp_eq (tgt := 609) hx hb d_LW_law_469 (by decide) (fun _ => ?_) (fun q9 => absurd rfl q9)
    exact kk ⟨nd, ar, pr, F, G, N, Fm, Rs, A, z, Se, al, br, N2, Fm2, Rs2, A2, zi2, S2, al2, br2, Cr, Op, Bf, sn, Ld, zi, Sg, Pi, Bo, pci, Gd, gci, bl0⟩ ⟨(nI 0), nd, ar, be, bz, sz, F', G', P, Nm, Wm, Td, Ob, Sp, D⟩ H locs ⟨hGA, hSK, hB0, rfl, rfl, hF, hG, hLK, hTd⟩ hP hD hS
  · skip
    obtain ⟨⟨x, ha, ex⟩, ⟨y, hb_, ey⟩⟩ := two_ok hnd14 hv
    by_cases hab : x = y
    · skip
      rw [ex, ey]
      refine vp_callSi (va_Run.run (k_V (n := 2) (C := R_CP) (rest := []) ⟨hx, hb, hml, hown, hts⟩ (c_CP_between_s l dC dI cI cJ cZ ca.cp ca.g ca.k ca.k2 ca.fl ca.co ca.sp ca.a1 ca.a2 nd ar pr x y (by first | assumption | omega) (by first | assumption | omega) (by first | assumption | omega)) wml_LW_68 wim_CP_between wsel_CP_between wini_CP wcode_CP_between (by decide +kernel) ⟨Nat.le_of_ble_eq_true rfl, Nat.le_of_ble_eq_true rfl⟩ (preV_R (q := (R_CP, F_CP, 6)) (ci := 0) (q0 := 0) (hP.sub (ws' := [(ca.cp, .inr (0, [.ref ca.g, .ref ca.k, .ref ca.k2, .ref ca.fl, .ref ca.co, .ref ca.sp])), (ca.g, .inr (1, [.ref ca.a1, .ref ca.a2, .int (nI nd), .int (nI ar), .long pr]))]) [0, 1] rfl) hK rfl rfl) rfl hl.1 rfl (Nat.le_of_ble_eq_true rfl) d_LW_law_452 ⟨hRc, hRs⟩)) (fun r_4 hr_5 => ?_)
      refine xe_i (y := (-3)) hr_5 ?_
      refine lv_aload_n hx hb d_LW_law_455 rfl (lv_at hl 2 rfl) ?_
      refine lv_aload_n hx hb d_LW_law_456 rfl (lv_at hl 0 rfl) ?_
      refine lv_iload_n hx hb d_LW_law_457 rfl (lv_at hl 3 rfl) ?_
      refine lv_iconst (v := (nI 1)) hx hb d_LW_law_458 (by decide) ?_
      refine lv_iadd hx hb d_LW_law_459 ?_
      refine xe_i (nI_add _ _) ?_
      refine x_sld hx hb hX hbl hbA hS (by omega) hL d_LW_law_460 ?_
      refine lv_aload_n hx hb d_LW_law_461 rfl (lv_at hl 0 rfl) ?_
      refine lv_iload_n hx hb d_LW_law_462 rfl (lv_at hl 3 rfl) ?_
      refine lv_iconst (v := (nI 2)) hx hb d_LW_law_463 (by decide) ?_
      refine lv_iadd hx hb d_LW_law_464 ?_
      refine xe_i (nI_add _ _) ?_
      refine x_sld hx hb hX hbl hbA hS (by omega) hL d_LW_law_465 ?_
      rw [ex, ey]
      refine x_ci (k_V (n := 2) (C := R_MO) (rest := [.int (-3)]) ⟨hx, hb, hml, hown, hts⟩ (c_MO_between_s l dC dI cI cJ cZ ma.o ma.fF ma.fG ma.fT ma.fN ma.fW ma.fO ma.fB ma.fS ma.fD th be bz sz nd ar x y (by first | assumption | omega) (by first | assumption | omega) (by first | assumption | omega)) wml_LW_71 wim_MO_between wsel_MO_between wini_MO wcode_MO_between (by decide +kernel) ⟨Nat.le_of_ble_eq_true rfl, Nat.le_of_ble_eq_true rfl⟩ (preV_M (q := (R_MO, F_MO, 15)) (ci := 7) (q0 := 0) (hP.sub (ws' := [(ma.o, .inr (7, [.int th, .int (nI nd), .int (nI ar), .ref ma.fF, .ref ma.fG, .ref ma.fT, .ref ma.fN, .ref ma.fW, .int be, .ref ma.fO, .ref ma.fB, .int bz, .ref ma.fS, .ref ma.fD, .int sz]))]) [30] rfl) hK (hD.sub (ws' := [(ma.o, .inr (7, [.int th, .int (nI nd), .int (nI ar), .ref ma.fF, .ref ma.fG, .ref ma.fT, .ref ma.fN, .ref ma.fW, .int be, .ref ma.fO, .ref ma.fB, .int bz, .ref ma.fS, .ref ma.fD, .int sz]))]) [30] (by decide) rfl) rfl rfl) rfl hl.1 rfl (Nat.le_of_ble_eq_true rfl) d_LW_law_466 ⟨hRc, hRs⟩) hP hD hS [30] rfl (fun _ => rfl) (fun r_6 u_6 H locs hu_6 hP hS => ?_)
      have hP : va_P (dC, dI) cls (WL cI cJ cZ ca ma ⟨nd, ar, pr, F, G, N, Fm, Rs, A, z, Se, al, br, N2, Fm2, Rs2, A2, zi2, S2, al2, br2, Cr, Op, Bf, sn, Ld, zi, Sg, Pi, Bo, pci, Gd, gci, bl0⟩ ⟨(nI 0), nd, ar, be, bz, sz, F', G', P, Nm, Wm, Td, Ob, Sp, D⟩) H := hP
      have hD := hD.addr (ws' := (WL cI cJ cZ ca ma ⟨nd, ar, pr, F, G, N, Fm, Rs, A, z, Se, al, br, N2, Fm2, Rs2, A2, zi2, S2, al2, br2, Cr, Op, Bf, sn, Ld, zi, Sg, Pi, Bo, pci, Gd, gci, bl0⟩ ⟨(nI 0), nd, ar, be, bz, sz, F', G', P, Nm, Wm, Td, Ob, Sp, D⟩)) rfl
      have hag : r_6 = (-3) := hu_6
      refine xe_i (y := (-3)) hag ?_
      refine lv_icmp_eq (tgt := 609) hx hb d_LW_law_469 (by decide) (fun _ => ?_) (fun q9 => absurd rfl q9)
      exact kk ⟨nd, ar, pr, F, G, N, Fm, Rs, A, z, Se, al, br, N2, Fm2, Rs2, A2, zi2, S2, al2, br2, Cr, Op, Bf, sn, Ld, zi, Sg, Pi, Bo, pci, Gd, gci, bl0⟩ ⟨(nI 0), nd, ar, be, bz, sz, F', G', P, Nm, Wm, Td, Ob, Sp, D⟩ H locs ⟨hGA, hSK, hB0, rfl, rfl, hF, hG, hLK, hTd⟩ hP hD hS
    · skip
      by_cases hnp : Rc (rE N al) x y
      · skip
        have hnpM : Rc (ad (lkT ar 0 P (-1) (-1) (nI 0) F' G') F' G') x y := by
          rw [lk_0 hLK, ← ski_reach hSK]; exact hnp
        rw [ex, ey]
        refine vp_callSi (va_Run.run (k_V (n := 2) (C := R_CP) (rest := []) ⟨hx, hb, hml, hown, hts⟩ (c_CP_between_k l dC dI cI cJ cZ ca.cp ca.g ca.k ca.k2 ca.fl ca.co ca.sp ca.a1 ca.a2 nd ar pr F G (by first | assumption | omega) ca.nr ca.fr ca.rs ca.at_ ca.h al br N Fm A ca.b1 z Se (by first | assumption | omega) x y (by first | assumption | omega) (by first | assumption | omega) (by first | assumption | omega) (by first | assumption | omega)) wml_LW_68 wim_CP_between wsel_CP_between wini_CP wcode_CP_between (by decide +kernel) ⟨Nat.le_of_ble_eq_true rfl, Nat.le_of_ble_eq_true rfl⟩ (preV_R (q := (R_CP, F_CP, 6)) (ci := 0) (q0 := 0) (hP.sub (ws' := [(ca.cp, .inr (0, [.ref ca.g, .ref ca.k, .ref ca.k2, .ref ca.fl, .ref ca.co, .ref ca.sp])), (ca.g, .inr (1, [.ref ca.a1, .ref ca.a2, .int (nI nd), .int (nI ar), .long pr])), (ca.k, .inr (2, [.ref ca.nr, .ref ca.fr, .ref ca.rs, .ref ca.at_, .ref ca.h, .int al, .long br])), (ca.nr, .inl (cI, 14, .inl N))]) [0, 1, 4, 5] rfl) hK rfl rfl) rfl hl.1 rfl (Nat.le_of_ble_eq_true rfl) d_LW_law_452 ⟨hRc, hRs⟩)) (fun r_7 hr_8 => ?_)
        refine xe_i (y := (nI (cn (btwB N al x y) 14))) hr_8 ?_
        refine lv_aload_n hx hb d_LW_law_455 rfl (lv_at hl 2 rfl) ?_
        refine lv_aload_n hx hb d_LW_law_456 rfl (lv_at hl 0 rfl) ?_
        refine lv_iload_n hx hb d_LW_law_457 rfl (lv_at hl 3 rfl) ?_
        refine lv_iconst (v := (nI 1)) hx hb d_LW_law_458 (by decide) ?_
        refine lv_iadd hx hb d_LW_law_459 ?_
        refine xe_i (nI_add _ _) ?_
        refine x_sld hx hb hX hbl hbA hS (by omega) hL d_LW_law_460 ?_
        refine lv_aload_n hx hb d_LW_law_461 rfl (lv_at hl 0 rfl) ?_
        refine lv_iload_n hx hb d_LW_law_462 rfl (lv_at hl 3 rfl) ?_
        refine lv_iconst (v := (nI 2)) hx hb d_LW_law_463 (by decide) ?_
        refine lv_iadd hx hb d_LW_law_464 ?_
        refine xe_i (nI_add _ _) ?_
        refine x_sld hx hb hX hbl hbA hS (by omega) hL d_LW_law_465 ?_
        rw [ex, ey]
        refine x_ci (k_V (n := 2) (C := R_MO) (rest := [.int (nI (cn (btwB N al x y) 14))]) ⟨hx, hb, hml, hown, hts⟩ (c_MO_between_k l dC dI cI cJ cZ ma.o ma.fF ma.fG ma.fT ma.fN ma.fW ma.fO ma.fB ma.fS ma.fD th be bz sz nd ar F' G' P (by first | assumption | omega) (by first | assumption | omega) (by first | assumption | omega) (by first | assumption | omega) (by first | assumption | omega) Nm x y (by first | assumption | omega) (by first | assumption | omega) (by first | assumption | omega) (by first | assumption | omega)) wml_LW_71 wim_MO_between wsel_MO_between wini_MO wcode_MO_between (by decide +kernel) ⟨Nat.le_of_ble_eq_true rfl, Nat.le_of_ble_eq_true rfl⟩ (preV_M (q := (R_MO, F_MO, 15)) (ci := 7) (q0 := 0) (hP.sub (ws' := [(ma.o, .inr (7, [.int th, .int (nI nd), .int (nI ar), .ref ma.fF, .ref ma.fG, .ref ma.fT, .ref ma.fN, .ref ma.fW, .int be, .ref ma.fO, .ref ma.fB, .int bz, .ref ma.fS, .ref ma.fD, .int sz])), (ma.fF, .inl (cI, 41, .inl (nF F'))), (ma.fG, .inl (cI, 41, .inl (nF G'))), (ma.fT, .inl (cZ, 41, .inl (bF P))), (ma.fN, .inl (cI, 14, .inl Nm))]) [30, 31, 32, 33, 34] rfl) hK (hD.sub (ws' := [(ma.o, .inr (7, [.int th, .int (nI nd), .int (nI ar), .ref ma.fF, .ref ma.fG, .ref ma.fT, .ref ma.fN, .ref ma.fW, .int be, .ref ma.fO, .ref ma.fB, .int bz, .ref ma.fS, .ref ma.fD, .int sz])), (ma.fF, .inl (cI, 41, .inl (nF F'))), (ma.fG, .inl (cI, 41, .inl (nF G'))), (ma.fT, .inl (cZ, 41, .inl (bF P))), (ma.fN, .inl (cI, 14, .inl Nm))]) [30, 31, 32, 33, 34] (by decide) rfl) rfl rfl) rfl hl.1 rfl (Nat.le_of_ble_eq_true rfl) d_LW_law_466 ⟨hRc, hRs⟩) hP hD hS [30, 31, 32, 33, 34] rfl (fun _ => rfl) (fun r_9 u_9 H locs hu_9 hP hS => ?_)
        obtain ⟨N9_9, rfl⟩ : ∃ z, z = u_9 := ⟨_, rfl⟩
        have hP : va_P (dC, dI) cls (WL cI cJ cZ ca ma ⟨nd, ar, pr, F, G, N, Fm, Rs, A, z, Se, al, br, N2, Fm2, Rs2, A2, zi2, S2, al2, br2, Cr, Op, Bf, sn, Ld, zi, Sg, Pi, Bo, pci, Gd, gci, bl0⟩ ⟨(nI 0), nd, ar, be, bz, sz, F', G', P, N9_9, Wm, Td, Ob, Sp, D⟩) H := hP
        have hD := hD.addr (ws' := (WL cI cJ cZ ca ma ⟨nd, ar, pr, F, G, N, Fm, Rs, A, z, Se, al, br, N2, Fm2, Rs2, A2, zi2, S2, al2, br2, Cr, Op, Bf, sn, Ld, zi, Sg, Pi, Bo, pci, Gd, gci, bl0⟩ ⟨(nI 0), nd, ar, be, bz, sz, F', G', P, N9_9, Wm, Td, Ob, Sp, D⟩)) rfl
        have hag : r_9 = (nI (cn (btwB N al x y) 14)) := hu_9.trans (congrArg nI (btw_eq hLK hSK).symm)
        refine xe_i (y := (nI (cn (btwB N al x y) 14))) hag ?_
        refine lv_icmp_eq (tgt := 609) hx hb d_LW_law_469 (by decide) (fun _ => ?_) (fun q9 => absurd rfl q9)
        exact kk ⟨nd, ar, pr, F, G, N, Fm, Rs, A, z, Se, al, br, N2, Fm2, Rs2, A2, zi2, S2, al2, br2, Cr, Op, Bf, sn, Ld, zi, Sg, Pi, Bo, pci, Gd, gci, bl0⟩ ⟨(nI 0), nd, ar, be, bz, sz, F', G', P, N9_9, Wm, Td, Ob, Sp, D⟩ H locs ⟨hGA, hSK, hB0, rfl, rfl, hF, hG, hLK, hTd⟩ hP hD hS
      · skip
        have hnpM : ¬ Rc (ad (lkT ar 0 P (-1) (-1) (nI 0) F' G') F' G') x y := by
          rw [lk_0 hLK, ← ski_reach hSK]; exact hnp
        rw [ex, ey]
        refine vp_callSi (va_Run.run (k_V (n := 2) (C := R_CP) (rest := []) ⟨hx, hb, hml, hown, hts⟩ (c_CP_between_n l dC dI cI cJ cZ ca.cp ca.g ca.k ca.k2 ca.fl ca.co ca.sp ca.a1 ca.a2 nd ar pr F G (by first | assumption | omega) ca.nr ca.fr ca.rs ca.at_ ca.h al br N Fm A ca.b1 z Se (by first | assumption | omega) x y (by first | assumption | omega) (by first | assumption | omega) (by first | assumption | omega) (by first | assumption | omega)) wml_LW_68 wim_CP_between wsel_CP_between wini_CP wcode_CP_between (by decide +kernel) ⟨Nat.le_of_ble_eq_true rfl, Nat.le_of_ble_eq_true rfl⟩ (preV_R (q := (R_CP, F_CP, 6)) (ci := 0) (q0 := 0) (hP.sub (ws' := [(ca.cp, .inr (0, [.ref ca.g, .ref ca.k, .ref ca.k2, .ref ca.fl, .ref ca.co, .ref ca.sp])), (ca.g, .inr (1, [.ref ca.a1, .ref ca.a2, .int (nI nd), .int (nI ar), .long pr])), (ca.k, .inr (2, [.ref ca.nr, .ref ca.fr, .ref ca.rs, .ref ca.at_, .ref ca.h, .int al, .long br])), (ca.nr, .inl (cI, 14, .inl N))]) [0, 1, 4, 5] rfl) hK rfl rfl) rfl hl.1 rfl (Nat.le_of_ble_eq_true rfl) d_LW_law_452 ⟨hRc, hRs⟩)) (fun r_10 hr_11 => ?_)
        refine xe_i (y := (-3)) hr_11 ?_
        refine lv_aload_n hx hb d_LW_law_455 rfl (lv_at hl 2 rfl) ?_
        refine lv_aload_n hx hb d_LW_law_456 rfl (lv_at hl 0 rfl) ?_
        refine lv_iload_n hx hb d_LW_law_457 rfl (lv_at hl 3 rfl) ?_
        refine lv_iconst (v := (nI 1)) hx hb d_LW_law_458 (by decide) ?_
        refine lv_iadd hx hb d_LW_law_459 ?_
        refine xe_i (nI_add _ _) ?_
        refine x_sld hx hb hX hbl hbA hS (by omega) hL d_LW_law_460 ?_
        refine lv_aload_n hx hb d_LW_law_461 rfl (lv_at hl 0 rfl) ?_
        refine lv_iload_n hx hb d_LW_law_462 rfl (lv_at hl 3 rfl) ?_
        refine lv_iconst (v := (nI 2)) hx hb d_LW_law_463 (by decide) ?_
        refine lv_iadd hx hb d_LW_law_464 ?_
        refine xe_i (nI_add _ _) ?_
        refine x_sld hx hb hX hbl hbA hS (by omega) hL d_LW_law_465 ?_
        rw [ex, ey]
        refine x_ci (k_V (n := 2) (C := R_MO) (rest := [.int (-3)]) ⟨hx, hb, hml, hown, hts⟩ (c_MO_between_n l dC dI cI cJ cZ ma.o ma.fF ma.fG ma.fT ma.fN ma.fW ma.fO ma.fB ma.fS ma.fD th be bz sz nd ar F' G' P (by first | assumption | omega) (by first | assumption | omega) (by first | assumption | omega) (by first | assumption | omega) (by first | assumption | omega) Nm x y (by first | assumption | omega) (by first | assumption | omega) (by first | assumption | omega) (by first | assumption | omega)) wml_LW_71 wim_MO_between wsel_MO_between wini_MO wcode_MO_between (by decide +kernel) ⟨Nat.le_of_ble_eq_true rfl, Nat.le_of_ble_eq_true rfl⟩ (preV_M (q := (R_MO, F_MO, 15)) (ci := 7) (q0 := 0) (hP.sub (ws' := [(ma.o, .inr (7, [.int th, .int (nI nd), .int (nI ar), .ref ma.fF, .ref ma.fG, .ref ma.fT, .ref ma.fN, .ref ma.fW, .int be, .ref ma.fO, .ref ma.fB, .int bz, .ref ma.fS, .ref ma.fD, .int sz])), (ma.fF, .inl (cI, 41, .inl (nF F'))), (ma.fG, .inl (cI, 41, .inl (nF G'))), (ma.fT, .inl (cZ, 41, .inl (bF P))), (ma.fN, .inl (cI, 14, .inl Nm))]) [30, 31, 32, 33, 34] rfl) hK (hD.sub (ws' := [(ma.o, .inr (7, [.int th, .int (nI nd), .int (nI ar), .ref ma.fF, .ref ma.fG, .ref ma.fT, .ref ma.fN, .ref ma.fW, .int be, .ref ma.fO, .ref ma.fB, .int bz, .ref ma.fS, .ref ma.fD, .int sz])), (ma.fF, .inl (cI, 41, .inl (nF F'))), (ma.fG, .inl (cI, 41, .inl (nF G'))), (ma.fT, .inl (cZ, 41, .inl (bF P))), (ma.fN, .inl (cI, 14, .inl Nm))]) [30, 31, 32, 33, 34] (by decide) rfl) rfl rfl) rfl hl.1 rfl (Nat.le_of_ble_eq_true rfl) d_LW_law_466 ⟨hRc, hRs⟩) hP hD hS [30, 31, 32, 33, 34] rfl (fun _ => rfl) (fun r_12 u_12 H locs hu_12 hP hS => ?_)
        obtain ⟨N9_12, rfl⟩ : ∃ z, z = u_12 := ⟨_, rfl⟩
        have hP : va_P (dC, dI) cls (WL cI cJ cZ ca ma ⟨nd, ar, pr, F, G, N, Fm, Rs, A, z, Se, al, br, N2, Fm2, Rs2, A2, zi2, S2, al2, br2, Cr, Op, Bf, sn, Ld, zi, Sg, Pi, Bo, pci, Gd, gci, bl0⟩ ⟨(nI 0), nd, ar, be, bz, sz, F', G', P, N9_12, Wm, Td, Ob, Sp, D⟩) H := hP
        have hD := hD.addr (ws' := (WL cI cJ cZ ca ma ⟨nd, ar, pr, F, G, N, Fm, Rs, A, z, Se, al, br, N2, Fm2, Rs2, A2, zi2, S2, al2, br2, Cr, Op, Bf, sn, Ld, zi, Sg, Pi, Bo, pci, Gd, gci, bl0⟩ ⟨(nI 0), nd, ar, be, bz, sz, F', G', P, N9_12, Wm, Td, Ob, Sp, D⟩)) rfl
        have hag : r_12 = (-3) := hu_12
        refine xe_i (y := (-3)) hag ?_
        refine lv_icmp_eq (tgt := 609) hx hb d_LW_law_469 (by decide) (fun _ => ?_) (fun q9 => absurd rfl q9)
        exact kk ⟨nd, ar, pr, F, G, N, Fm, Rs, A, z, Se, al, br, N2, Fm2, Rs2, A2, zi2, S2, al2, br2, Cr, Op, Bf, sn, Ld, zi, Sg, Pi, Bo, pci, Gd, gci, bl0⟩ ⟨(nI 0), nd, ar, be, bz, sz, F', G', P, N9_12, Wm, Td, Ob, Sp, D⟩ H locs ⟨hGA, hSK, hB0, rfl, rfl, hF, hG, hLK, hTd⟩ hP hD hS

set_option maxHeartbeats 8000000 in
set_option maxRecDepth 100000 in
theorem lw_mends {p : Program} {l : Launch} {e : Env} {s : State} {m : MethodId} {args : Array Value} {below : List Frame} {meth : Method} {c : Code} {H : Heap} {locs : List Loc} {Q : State → Prop} {dC : Nat → ClassId} {dI : Nat → Nat → Nat} {cI cJ cZ : ClassId} {A0 : Nat → Prop} {sc L : Nat} {xs : Nat → Int32} {ls : Array Slot} (X : LX p s m args c dC dI cI cJ cZ A0 sc L xs) {i : Nat} (hi : i + 3 ≤ L) {ca : CA} {ma : MA} {u : CS} {v : MS} (hI : LI u v) (hP : va_P (dC, dI) cls (WL cI cJ cZ ca ma u v) H) (hD : va_D A0 (WL cI cJ cZ ca ma u v)) (hS : va_S A0 s.heap H locs) (hl : lv_has ls 4 [(0, .ref sc), (1, .ref ca.cp), (2, .ref ma.o), (3, .int (nI i))])
    (kk : ∀ (u1 : CS) (v1 : MS) (H1 : Heap) (locs1 : List Loc), LI u1 v1 → va_P (dC, dI) cls (WL cI cJ cZ ca ma u1 v1) H1 → va_D A0 (WL cI cJ cZ ca ma u1 v1) → va_S A0 s.heap H1 locs1 → W p l e room_1 s m args below meth c H1 locs1 40 19226 Q (F0 m 609 ls [])) : W p l e room_1 s m args below meth c H locs 40 19226 Q (F0 m 474 ls []) := by
  obtain ⟨hx, hb, hml, hown, hts, hK, hX, hbl, hbA, hL⟩ := X
  have hRc : 40 ≤ room_1.cells := Nat.le_of_ble_eq_true rfl
  have hRs : 19226 ≤ room_1.slots := Nat.le_of_ble_eq_true rfl
  obtain ⟨nd, ar, pr, F, G, N, Fm, Rs, A, z, Se, al, br, N2, Fm2, Rs2, A2, zi2, S2, al2, br2, Cr, Op, Bf, sn, Ld, zi, Sg, Pi, Bo, pci, Gd, gci, bl0⟩ := u
  obtain ⟨th, ndm, arm, be, bz, sz, F', G', P, Nm, Wm, Td, Ob, Sp, D⟩ := v
  obtain ⟨hGA, hSK, hB0, e1, e2, hF, hG, hLK, hTd⟩ := hI
  have e1 : nd = ndm := e1
  have e2 : ar = arm := e2
  subst e1
  subst e2
  have hGA : GAR F G nd ar pr := hGA
  have hSK : SKI (lb pr) F G nd N Fm A Se z al br := hSK
  have hB0 : Bo 0 = 0 := hB0
  have hF : ∀ k, F' k < 14 := hF
  have hG : ∀ k, G' k < 14 := hG
  have hLK : LK F G pr F' G' P ar := hLK
  have hTd : ∀ k, Td k < 3 := hTd
  have hnd14 : nd ≤ 14 := hGA.1
  have har : ar ≤ 40 := hGA.2.1
  have hM := (lk_M hLK hGA).1
  have hNE := (lk_M hLK hGA).2
  refine lv_aload_n hx hb d_LW_law_474 rfl (lv_at hl 1 rfl) ?_
  refine lv_aload_n hx hb d_LW_law_475 rfl (lv_at hl 0 rfl) ?_
  refine lv_iload_n hx hb d_LW_law_476 rfl (lv_at hl 3 rfl) ?_
  refine lv_iconst (v := (nI 1)) hx hb d_LW_law_477 (by decide) ?_
  refine lv_iadd hx hb d_LW_law_478 ?_
  refine xe_i (nI_add _ _) ?_
  refine x_sld hx hb hX hbl hbA hS (by omega) hL d_LW_law_479 ?_
  refine lv_aload_n hx hb d_LW_law_480 rfl (lv_at hl 0 rfl) ?_
  refine lv_iload_n hx hb d_LW_law_481 rfl (lv_at hl 3 rfl) ?_
  refine lv_iconst (v := (nI 2)) hx hb d_LW_law_482 (by decide) ?_
  refine lv_iadd hx hb d_LW_law_483 ?_
  refine xe_i (nI_add _ _) ?_
  refine x_sld hx hb hX hbl hbA hS (by omega) hL d_LW_law_484 ?_
  cases hv : (vd (xs (i + 1)) nd && vd (xs (i + 2)) nd)
  · skip
    have hbad := hv
    refine vp_callSi (va_Run.run (k_V (n := 2) (C := R_CP) (rest := []) ⟨hx, hb, hml, hown, hts⟩ (c_CP_mends_b l dC dI cI cJ cZ ca.cp ca.g ca.k ca.k2 ca.fl ca.co ca.sp ca.a1 ca.a2 nd ar pr (xs (i + 1)) (xs (i + 2)) (by first | assumption | omega) (by first | assumption | omega)) wml_LW_72 wim_CP_mends wsel_CP_mends wini_CP wcode_CP_mends (by decide +kernel) ⟨Nat.le_of_ble_eq_true rfl, Nat.le_of_ble_eq_true rfl⟩ (preV_R (q := (R_CP, F_CP, 6)) (ci := 0) (q0 := 0) (hP.sub (ws' := [(ca.cp, .inr (0, [.ref ca.g, .ref ca.k, .ref ca.k2, .ref ca.fl, .ref ca.co, .ref ca.sp])), (ca.g, .inr (1, [.ref ca.a1, .ref ca.a2, .int (nI nd), .int (nI ar), .long pr]))]) [0, 1] rfl) hK rfl rfl) rfl hl.1 rfl (Nat.le_of_ble_eq_true rfl) d_LW_law_485 ⟨hRc, hRs⟩)) (fun r_1 hr_2 => ?_)
    refine xe_i (y := (-1)) hr_2 ?_
    refine lv_aload_n hx hb d_LW_law_488 rfl (lv_at hl 2 rfl) ?_
    refine lv_aload_n hx hb d_LW_law_489 rfl (lv_at hl 0 rfl) ?_
    refine lv_iload_n hx hb d_LW_law_490 rfl (lv_at hl 3 rfl) ?_
    refine lv_iconst (v := (nI 1)) hx hb d_LW_law_491 (by decide) ?_
    refine lv_iadd hx hb d_LW_law_492 ?_
    refine xe_i (nI_add _ _) ?_
    refine x_sld hx hb hX hbl hbA hS (by omega) hL d_LW_law_493 ?_
    refine lv_aload_n hx hb d_LW_law_494 rfl (lv_at hl 0 rfl) ?_
    refine lv_iload_n hx hb d_LW_law_495 rfl (lv_at hl 3 rfl) ?_
    refine lv_iconst (v := (nI 2)) hx hb d_LW_law_496 (by decide) ?_
    refine lv_iadd hx hb d_LW_law_497 ?_
    refine xe_i (nI_add _ _) ?_
    refine x_sld hx hb hX hbl hbA hS (by omega) hL d_LW_law_498 ?_
    refine x_ci (k_V (n := 2) (C := R_MO) (rest := [.int (-1)]) ⟨hx, hb, hml, hown, hts⟩ (c_MO_mends_b l dC dI cI cJ cZ ma.o ma.fF ma.fG ma.fT ma.fN ma.fW ma.fO ma.fB ma.fS ma.fD th be bz sz nd ar (xs (i + 1)) (xs (i + 2)) (by first | assumption | omega) (by first | assumption | omega)) wml_LW_75 wim_MO_mends wsel_MO_mends wini_MO wcode_MO_mends (by decide +kernel) ⟨Nat.le_of_ble_eq_true rfl, Nat.le_of_ble_eq_true rfl⟩ (preV_M (q := (R_MO, F_MO, 15)) (ci := 7) (q0 := 0) (hP.sub (ws' := [(ma.o, .inr (7, [.int th, .int (nI nd), .int (nI ar), .ref ma.fF, .ref ma.fG, .ref ma.fT, .ref ma.fN, .ref ma.fW, .int be, .ref ma.fO, .ref ma.fB, .int bz, .ref ma.fS, .ref ma.fD, .int sz]))]) [30] rfl) hK (hD.sub (ws' := [(ma.o, .inr (7, [.int th, .int (nI nd), .int (nI ar), .ref ma.fF, .ref ma.fG, .ref ma.fT, .ref ma.fN, .ref ma.fW, .int be, .ref ma.fO, .ref ma.fB, .int bz, .ref ma.fS, .ref ma.fD, .int sz]))]) [30] (by decide) rfl) rfl rfl) rfl hl.1 rfl (Nat.le_of_ble_eq_true rfl) d_LW_law_499 ⟨hRc, hRs⟩) hP hD hS [30] rfl (fun _ => rfl) (fun r_3 u_3 H locs hu_3 hP hS => ?_)
    have hP : va_P (dC, dI) cls (WL cI cJ cZ ca ma ⟨nd, ar, pr, F, G, N, Fm, Rs, A, z, Se, al, br, N2, Fm2, Rs2, A2, zi2, S2, al2, br2, Cr, Op, Bf, sn, Ld, zi, Sg, Pi, Bo, pci, Gd, gci, bl0⟩ ⟨(nI 0), nd, ar, be, bz, sz, F', G', P, Nm, Wm, Td, Ob, Sp, D⟩) H := hP
    have hD := hD.addr (ws' := (WL cI cJ cZ ca ma ⟨nd, ar, pr, F, G, N, Fm, Rs, A, z, Se, al, br, N2, Fm2, Rs2, A2, zi2, S2, al2, br2, Cr, Op, Bf, sn, Ld, zi, Sg, Pi, Bo, pci, Gd, gci, bl0⟩ ⟨(nI 0), nd, ar, be, bz, sz, F', G', P, Nm, Wm, Td, Ob, Sp, D⟩)) rfl
    have hag : r_3 = (-1) := hu_3
    refine xe_i (y := (-1)) hag ?_
    refine lv_icmp_eq (tgt := 609) hx hb d_LW_law_502 (by decide) (fun _ => ?_) (fun q9 => absurd rfl q9)
    exact kk ⟨nd, ar, pr, F, G, N, Fm, Rs, A, z, Se, al, br, N2, Fm2, Rs2, A2, zi2, S2, al2, br2, Cr, Op, Bf, sn, Ld, zi, Sg, Pi, Bo, pci, Gd, gci, bl0⟩ ⟨(nI 0), nd, ar, be, bz, sz, F', G', P, Nm, Wm, Td, Ob, Sp, D⟩ H locs ⟨hGA, hSK, hB0, rfl, rfl, hF, hG, hLK, hTd⟩ hP hD hS
  · skip
    obtain ⟨⟨x, ha, ex⟩, ⟨y, hb_, ey⟩⟩ := two_ok hnd14 hv
    by_cases hab : x = y
    · skip
      rw [ex, ey]
      refine vp_callSi (va_Run.run (k_V (n := 2) (C := R_CP) (rest := []) ⟨hx, hb, hml, hown, hts⟩ (c_CP_mends_s l dC dI cI cJ cZ ca.cp ca.g ca.k ca.k2 ca.fl ca.co ca.sp ca.a1 ca.a2 nd ar pr x y (by first | assumption | omega) (by first | assumption | omega) (by first | assumption | omega)) wml_LW_72 wim_CP_mends wsel_CP_mends wini_CP wcode_CP_mends (by decide +kernel) ⟨Nat.le_of_ble_eq_true rfl, Nat.le_of_ble_eq_true rfl⟩ (preV_R (q := (R_CP, F_CP, 6)) (ci := 0) (q0 := 0) (hP.sub (ws' := [(ca.cp, .inr (0, [.ref ca.g, .ref ca.k, .ref ca.k2, .ref ca.fl, .ref ca.co, .ref ca.sp])), (ca.g, .inr (1, [.ref ca.a1, .ref ca.a2, .int (nI nd), .int (nI ar), .long pr]))]) [0, 1] rfl) hK rfl rfl) rfl hl.1 rfl (Nat.le_of_ble_eq_true rfl) d_LW_law_485 ⟨hRc, hRs⟩)) (fun r_4 hr_5 => ?_)
      refine xe_i (y := (-3)) hr_5 ?_
      refine lv_aload_n hx hb d_LW_law_488 rfl (lv_at hl 2 rfl) ?_
      refine lv_aload_n hx hb d_LW_law_489 rfl (lv_at hl 0 rfl) ?_
      refine lv_iload_n hx hb d_LW_law_490 rfl (lv_at hl 3 rfl) ?_
      refine lv_iconst (v := (nI 1)) hx hb d_LW_law_491 (by decide) ?_
      refine lv_iadd hx hb d_LW_law_492 ?_
      refine xe_i (nI_add _ _) ?_
      refine x_sld hx hb hX hbl hbA hS (by omega) hL d_LW_law_493 ?_
      refine lv_aload_n hx hb d_LW_law_494 rfl (lv_at hl 0 rfl) ?_
      refine lv_iload_n hx hb d_LW_law_495 rfl (lv_at hl 3 rfl) ?_
      refine lv_iconst (v := (nI 2)) hx hb d_LW_law_496 (by decide) ?_
      refine lv_iadd hx hb d_LW_law_497 ?_
      refine xe_i (nI_add _ _) ?_
      refine x_sld hx hb hX hbl hbA hS (by omega) hL d_LW_law_498 ?_
      rw [ex, ey]
      refine x_ci (k_V (n := 2) (C := R_MO) (rest := [.int (-3)]) ⟨hx, hb, hml, hown, hts⟩ (c_MO_mends_s l dC dI cI cJ cZ ma.o ma.fF ma.fG ma.fT ma.fN ma.fW ma.fO ma.fB ma.fS ma.fD th be bz sz nd ar x y (by first | assumption | omega) (by first | assumption | omega) (by first | assumption | omega)) wml_LW_75 wim_MO_mends wsel_MO_mends wini_MO wcode_MO_mends (by decide +kernel) ⟨Nat.le_of_ble_eq_true rfl, Nat.le_of_ble_eq_true rfl⟩ (preV_M (q := (R_MO, F_MO, 15)) (ci := 7) (q0 := 0) (hP.sub (ws' := [(ma.o, .inr (7, [.int th, .int (nI nd), .int (nI ar), .ref ma.fF, .ref ma.fG, .ref ma.fT, .ref ma.fN, .ref ma.fW, .int be, .ref ma.fO, .ref ma.fB, .int bz, .ref ma.fS, .ref ma.fD, .int sz]))]) [30] rfl) hK (hD.sub (ws' := [(ma.o, .inr (7, [.int th, .int (nI nd), .int (nI ar), .ref ma.fF, .ref ma.fG, .ref ma.fT, .ref ma.fN, .ref ma.fW, .int be, .ref ma.fO, .ref ma.fB, .int bz, .ref ma.fS, .ref ma.fD, .int sz]))]) [30] (by decide) rfl) rfl rfl) rfl hl.1 rfl (Nat.le_of_ble_eq_true rfl) d_LW_law_499 ⟨hRc, hRs⟩) hP hD hS [30] rfl (fun _ => rfl) (fun r_6 u_6 H locs hu_6 hP hS => ?_)
      have hP : va_P (dC, dI) cls (WL cI cJ cZ ca ma ⟨nd, ar, pr, F, G, N, Fm, Rs, A, z, Se, al, br, N2, Fm2, Rs2, A2, zi2, S2, al2, br2, Cr, Op, Bf, sn, Ld, zi, Sg, Pi, Bo, pci, Gd, gci, bl0⟩ ⟨(nI 0), nd, ar, be, bz, sz, F', G', P, Nm, Wm, Td, Ob, Sp, D⟩) H := hP
      have hD := hD.addr (ws' := (WL cI cJ cZ ca ma ⟨nd, ar, pr, F, G, N, Fm, Rs, A, z, Se, al, br, N2, Fm2, Rs2, A2, zi2, S2, al2, br2, Cr, Op, Bf, sn, Ld, zi, Sg, Pi, Bo, pci, Gd, gci, bl0⟩ ⟨(nI 0), nd, ar, be, bz, sz, F', G', P, Nm, Wm, Td, Ob, Sp, D⟩)) rfl
      have hag : r_6 = (-3) := hu_6
      refine xe_i (y := (-3)) hag ?_
      refine lv_icmp_eq (tgt := 609) hx hb d_LW_law_502 (by decide) (fun _ => ?_) (fun q9 => absurd rfl q9)
      exact kk ⟨nd, ar, pr, F, G, N, Fm, Rs, A, z, Se, al, br, N2, Fm2, Rs2, A2, zi2, S2, al2, br2, Cr, Op, Bf, sn, Ld, zi, Sg, Pi, Bo, pci, Gd, gci, bl0⟩ ⟨(nI 0), nd, ar, be, bz, sz, F', G', P, Nm, Wm, Td, Ob, Sp, D⟩ H locs ⟨hGA, hSK, hB0, rfl, rfl, hF, hG, hLK, hTd⟩ hP hD hS
    · skip
      rw [ex, ey]
      refine x_ci (k_V (n := 2) (C := R_CP) (rest := []) ⟨hx, hb, hml, hown, hts⟩ (c_CP_mends_k l dC dI cI cJ cZ ca.cp ca.g ca.k ca.k2 ca.fl ca.co ca.sp ca.a1 ca.a2 nd ar pr F G (by first | assumption | omega) ca.nr ca.fr ca.rs ca.at_ ca.h al br N Fm A ca.b1 z Se (by first | assumption | omega) ca.nr2 ca.fr2 ca.rs2 ca.at2 ca.h2 al2 br2 N2 Fm2 A2 ca.b2 zi2 S2 x y (by first | assumption | omega) (by first | assumption | omega) (by first | assumption | omega)) wml_LW_72 wim_CP_mends wsel_CP_mends wini_CP wcode_CP_mends (by decide +kernel) ⟨Nat.le_of_ble_eq_true rfl, Nat.le_of_ble_eq_true rfl⟩ (preV_M (q := (R_CP, F_CP, 6)) (ci := 0) (q0 := 0) (hP.sub (ws' := [(ca.cp, .inr (0, [.ref ca.g, .ref ca.k, .ref ca.k2, .ref ca.fl, .ref ca.co, .ref ca.sp])), (ca.g, .inr (1, [.ref ca.a1, .ref ca.a2, .int (nI nd), .int (nI ar), .long pr])), (ca.a1, .inl (cI, 41, .inl (nF F))), (ca.a2, .inl (cI, 41, .inl (nF G))), (ca.k2, .inr (2, [.ref ca.nr2, .ref ca.fr2, .ref ca.rs2, .ref ca.at2, .ref ca.h2, .int al2, .long br2])), (ca.nr2, .inl (cI, 14, .inl N2)), (ca.fr2, .inl (cI, 14, .inl Fm2)), (ca.at2, .inl (cJ, 14, .inr (.inl A2))), (ca.h2, .inr (3, [.ref ca.b2, .int zi2])), (ca.b2, .inl (cJ, 41, .inr (.inl S2))), (ca.k, .inr (2, [.ref ca.nr, .ref ca.fr, .ref ca.rs, .ref ca.at_, .ref ca.h, .int al, .long br])), (ca.fr, .inl (cI, 14, .inl Fm)), (ca.at_, .inl (cJ, 14, .inr (.inl A)))]) [0, 1, 2, 3, 11, 12, 13, 15, 16, 17, 4, 6, 8] rfl) hK (hD.sub (ws' := [(ca.cp, .inr (0, [.ref ca.g, .ref ca.k, .ref ca.k2, .ref ca.fl, .ref ca.co, .ref ca.sp])), (ca.g, .inr (1, [.ref ca.a1, .ref ca.a2, .int (nI nd), .int (nI ar), .long pr])), (ca.a1, .inl (cI, 41, .inl (nF F))), (ca.a2, .inl (cI, 41, .inl (nF G))), (ca.k2, .inr (2, [.ref ca.nr2, .ref ca.fr2, .ref ca.rs2, .ref ca.at2, .ref ca.h2, .int al2, .long br2])), (ca.nr2, .inl (cI, 14, .inl N2)), (ca.fr2, .inl (cI, 14, .inl Fm2)), (ca.at2, .inl (cJ, 14, .inr (.inl A2))), (ca.h2, .inr (3, [.ref ca.b2, .int zi2])), (ca.b2, .inl (cJ, 41, .inr (.inl S2))), (ca.k, .inr (2, [.ref ca.nr, .ref ca.fr, .ref ca.rs, .ref ca.at_, .ref ca.h, .int al, .long br])), (ca.fr, .inl (cI, 14, .inl Fm)), (ca.at_, .inl (cJ, 14, .inr (.inl A)))]) [0, 1, 2, 3, 11, 12, 13, 15, 16, 17, 4, 6, 8] (by decide) rfl) rfl rfl) rfl hl.1 rfl (Nat.le_of_ble_eq_true rfl) d_LW_law_485 ⟨hRc, hRs⟩) hP hD hS [0, 1, 2, 3, 11, 12, 13, 15, 16, 17, 4, 6, 8] rfl (fun _ => rfl) (fun r_7 u_7 H locs hu_7 hP hS => ?_)
      obtain ⟨N9_7, Fm9_7, A9_7, S9_7, z9_7, al9_7, br9_7⟩ := u_7
      have hP : va_P (dC, dI) cls (WL cI cJ cZ ca ma ⟨nd, ar, pr, (va_up F 40 x), (va_up G 40 y), N, Fm, Rs, A, z, Se, al, br, N9_7, Fm9_7, Rs2, A9_7, (nI z9_7), S9_7, al9_7, br9_7, Cr, Op, Bf, sn, Ld, zi, Sg, Pi, Bo, pci, Gd, gci, bl0⟩ ⟨th, nd, ar, be, bz, sz, F', G', P, Nm, Wm, Td, Ob, Sp, D⟩) H := hP
      have hD := hD.addr (ws' := (WL cI cJ cZ ca ma ⟨nd, ar, pr, (va_up F 40 x), (va_up G 40 y), N, Fm, Rs, A, z, Se, al, br, N9_7, Fm9_7, Rs2, A9_7, (nI z9_7), S9_7, al9_7, br9_7, Cr, Op, Bf, sn, Ld, zi, Sg, Pi, Bo, pci, Gd, gci, bl0⟩ ⟨th, nd, ar, be, bz, sz, F', G', P, Nm, Wm, Td, Ob, Sp, D⟩)) rfl
      refine lv_aload_n hx hb d_LW_law_488 rfl (lv_at hl 2 rfl) ?_
      refine lv_aload_n hx hb d_LW_law_489 rfl (lv_at hl 0 rfl) ?_
      refine lv_iload_n hx hb d_LW_law_490 rfl (lv_at hl 3 rfl) ?_
      refine lv_iconst (v := (nI 1)) hx hb d_LW_law_491 (by decide) ?_
      refine lv_iadd hx hb d_LW_law_492 ?_
      refine xe_i (nI_add _ _) ?_
      refine x_sld hx hb hX hbl hbA hS (by omega) hL d_LW_law_493 ?_
      refine lv_aload_n hx hb d_LW_law_494 rfl (lv_at hl 0 rfl) ?_
      refine lv_iload_n hx hb d_LW_law_495 rfl (lv_at hl 3 rfl) ?_
      refine lv_iconst (v := (nI 2)) hx hb d_LW_law_496 (by decide) ?_
      refine lv_iadd hx hb d_LW_law_497 ?_
      refine xe_i (nI_add _ _) ?_
      refine x_sld hx hb hX hbl hbA hS (by omega) hL d_LW_law_498 ?_
      rw [ex, ey]
      refine x_ci (k_V (n := 2) (C := R_MO) (rest := [.int r_7]) ⟨hx, hb, hml, hown, hts⟩ (c_MO_mends_k l dC dI cI cJ cZ ma.o ma.fF ma.fG ma.fT ma.fN ma.fW ma.fO ma.fB ma.fS ma.fD th be bz sz nd ar F' G' P (by first | assumption | omega) (by first | assumption | omega) (by first | assumption | omega) (by first | assumption | omega) (by first | assumption | omega) Wm Nm x y (by first | assumption | omega) (by first | assumption | omega) (by first | assumption | omega)) wml_LW_75 wim_MO_mends wsel_MO_mends wini_MO wcode_MO_mends (by decide +kernel) ⟨Nat.le_of_ble_eq_true rfl, Nat.le_of_ble_eq_true rfl⟩ (preV_M (q := (R_MO, F_MO, 15)) (ci := 7) (q0 := 0) (hP.sub (ws' := [(ma.o, .inr (7, [.int th, .int (nI nd), .int (nI ar), .ref ma.fF, .ref ma.fG, .ref ma.fT, .ref ma.fN, .ref ma.fW, .int be, .ref ma.fO, .ref ma.fB, .int bz, .ref ma.fS, .ref ma.fD, .int sz])), (ma.fF, .inl (cI, 41, .inl (nF F'))), (ma.fG, .inl (cI, 41, .inl (nF G'))), (ma.fT, .inl (cZ, 41, .inl (bF P))), (ma.fN, .inl (cI, 14, .inl Nm)), (ma.fW, .inl (cI, 14, .inl Wm))]) [30, 31, 32, 33, 34, 35] rfl) hK (hD.sub (ws' := [(ma.o, .inr (7, [.int th, .int (nI nd), .int (nI ar), .ref ma.fF, .ref ma.fG, .ref ma.fT, .ref ma.fN, .ref ma.fW, .int be, .ref ma.fO, .ref ma.fB, .int bz, .ref ma.fS, .ref ma.fD, .int sz])), (ma.fF, .inl (cI, 41, .inl (nF F'))), (ma.fG, .inl (cI, 41, .inl (nF G'))), (ma.fT, .inl (cZ, 41, .inl (bF P))), (ma.fN, .inl (cI, 14, .inl Nm)), (ma.fW, .inl (cI, 14, .inl Wm))]) [30, 31, 32, 33, 34, 35] (by decide) rfl) rfl rfl) rfl hl.1 rfl (Nat.le_of_ble_eq_true rfl) d_LW_law_499 ⟨hRc, hRs⟩) hP hD hS [30, 31, 32, 33, 34, 35] rfl (fun _ => rfl) (fun r_8 u_8 H locs hu_8 hP hS => ?_)
      obtain ⟨N9_8, W9_8⟩ := u_8
      have hP : va_P (dC, dI) cls (WL cI cJ cZ ca ma ⟨nd, ar, pr, (va_up F 40 x), (va_up G 40 y), N, Fm, Rs, A, z, Se, al, br, N9_7, Fm9_7, Rs2, A9_7, (nI z9_7), S9_7, al9_7, br9_7, Cr, Op, Bf, sn, Ld, zi, Sg, Pi, Bo, pci, Gd, gci, bl0⟩ ⟨(nI 0), nd, ar, be, bz, sz, (va_up F' ar x), (va_up G' ar y), P, N9_8, W9_8, Td, Ob, Sp, D⟩) H := hP
      have hD := hD.addr (ws' := (WL cI cJ cZ ca ma ⟨nd, ar, pr, (va_up F 40 x), (va_up G 40 y), N, Fm, Rs, A, z, Se, al, br, N9_7, Fm9_7, Rs2, A9_7, (nI z9_7), S9_7, al9_7, br9_7, Cr, Op, Bf, sn, Ld, zi, Sg, Pi, Bo, pci, Gd, gci, bl0⟩ ⟨(nI 0), nd, ar, be, bz, sz, (va_up F' ar x), (va_up G' ar y), P, N9_8, W9_8, Td, Ob, Sp, D⟩)) rfl
      have hag : r_8 = r_7 := by
        obtain ⟨v0, v1, d0, d1, d2⟩ := hu_8
        rw [d2, hu_7.1, need_eq hLK hSK d0, mend_eq hLK hu_7.2 d1]
      refine xe_i (y := r_7) hag ?_
      refine lv_icmp_eq (tgt := 609) hx hb d_LW_law_502 (by decide) (fun _ => ?_) (fun q9 => absurd rfl q9)
      exact kk ⟨nd, ar, pr, (va_up F 40 x), (va_up G 40 y), N, Fm, Rs, A, z, Se, al, br, N9_7, Fm9_7, Rs2, A9_7, (nI z9_7), S9_7, al9_7, br9_7, Cr, Op, Bf, sn, Ld, zi, Sg, Pi, Bo, pci, Gd, gci, bl0⟩ ⟨(nI 0), nd, ar, be, bz, sz, (va_up F' ar x), (va_up G' ar y), P, N9_8, W9_8, Td, Ob, Sp, D⟩ H locs ⟨GAR_m hGA ha hb_, SKI_m hSK hGA, hB0, rfl, rfl, upm_lt hF (by omega), upm_lt hG (by omega), lk_mend hLK, hTd⟩ hP hD hS

set_option maxHeartbeats 8000000 in
set_option maxRecDepth 100000 in
theorem lw_way {p : Program} {l : Launch} {e : Env} {s : State} {m : MethodId} {args : Array Value} {below : List Frame} {meth : Method} {c : Code} {H : Heap} {locs : List Loc} {Q : State → Prop} {dC : Nat → ClassId} {dI : Nat → Nat → Nat} {cI cJ cZ : ClassId} {A0 : Nat → Prop} {sc L : Nat} {xs : Nat → Int32} {ls : Array Slot} (X : LX p s m args c dC dI cI cJ cZ A0 sc L xs) {i : Nat} (hi : i + 3 ≤ L) {ca : CA} {ma : MA} {u : CS} {v : MS} (hI : LI u v) (hP : va_P (dC, dI) cls (WL cI cJ cZ ca ma u v) H) (hD : va_D A0 (WL cI cJ cZ ca ma u v)) (hS : va_S A0 s.heap H locs) (hl : lv_has ls 4 [(0, .ref sc), (1, .ref ca.cp), (2, .ref ma.o), (3, .int (nI i))])
    (kk : ∀ (u1 : CS) (v1 : MS) (H1 : Heap) (locs1 : List Loc), LI u1 v1 → va_P (dC, dI) cls (WL cI cJ cZ ca ma u1 v1) H1 → va_D A0 (WL cI cJ cZ ca ma u1 v1) → va_S A0 s.heap H1 locs1 → W p l e room_1 s m args below meth c H1 locs1 40 19226 Q (F0 m 609 ls [])) : W p l e room_1 s m args below meth c H locs 40 19226 Q (F0 m 507 ls []) := by
  obtain ⟨hx, hb, hml, hown, hts, hK, hX, hbl, hbA, hL⟩ := X
  have hRc : 40 ≤ room_1.cells := Nat.le_of_ble_eq_true rfl
  have hRs : 19226 ≤ room_1.slots := Nat.le_of_ble_eq_true rfl
  obtain ⟨nd, ar, pr, F, G, N, Fm, Rs, A, z, Se, al, br, N2, Fm2, Rs2, A2, zi2, S2, al2, br2, Cr, Op, Bf, sn, Ld, zi, Sg, Pi, Bo, pci, Gd, gci, bl0⟩ := u
  obtain ⟨th, ndm, arm, be, bz, sz, F', G', P, Nm, Wm, Td, Ob, Sp, D⟩ := v
  obtain ⟨hGA, hSK, hB0, e1, e2, hF, hG, hLK, hTd⟩ := hI
  have e1 : nd = ndm := e1
  have e2 : ar = arm := e2
  subst e1
  subst e2
  have hGA : GAR F G nd ar pr := hGA
  have hSK : SKI (lb pr) F G nd N Fm A Se z al br := hSK
  have hB0 : Bo 0 = 0 := hB0
  have hF : ∀ k, F' k < 14 := hF
  have hG : ∀ k, G' k < 14 := hG
  have hLK : LK F G pr F' G' P ar := hLK
  have hTd : ∀ k, Td k < 3 := hTd
  have hnd14 : nd ≤ 14 := hGA.1
  have har : ar ≤ 40 := hGA.2.1
  have hM := (lk_M hLK hGA).1
  have hNE := (lk_M hLK hGA).2
  refine lv_aload_n hx hb d_LW_law_507 rfl (lv_at hl 1 rfl) ?_
  refine lv_aload_n hx hb d_LW_law_508 rfl (lv_at hl 0 rfl) ?_
  refine lv_iload_n hx hb d_LW_law_509 rfl (lv_at hl 3 rfl) ?_
  refine lv_iconst (v := (nI 1)) hx hb d_LW_law_510 (by decide) ?_
  refine lv_iadd hx hb d_LW_law_511 ?_
  refine xe_i (nI_add _ _) ?_
  refine x_sld hx hb hX hbl hbA hS (by omega) hL d_LW_law_512 ?_
  cases hv : (vd (xs (i + 1)) ar && lb pr (xs (i + 1)).toNatClampNeg)
  · skip
    have hbad := hv
    have hbadP := bad_P hLK hv
    refine vp_callSi (va_Run.run (k_V (n := 1) (C := R_CP) (rest := []) ⟨hx, hb, hml, hown, hts⟩ (c_CP_way_b l dC dI cI cJ cZ ca.cp ca.g ca.k ca.k2 ca.fl ca.co ca.sp ca.a1 ca.a2 nd ar pr (xs (i + 1)) (by first | assumption | omega) (by first | assumption | omega)) wml_LW_76 wim_CP_way wsel_CP_way wini_CP wcode_CP_way (by decide +kernel) ⟨Nat.le_of_ble_eq_true rfl, Nat.le_of_ble_eq_true rfl⟩ (preV_R (q := (R_CP, F_CP, 6)) (ci := 0) (q0 := 0) (hP.sub (ws' := [(ca.cp, .inr (0, [.ref ca.g, .ref ca.k, .ref ca.k2, .ref ca.fl, .ref ca.co, .ref ca.sp])), (ca.g, .inr (1, [.ref ca.a1, .ref ca.a2, .int (nI nd), .int (nI ar), .long pr]))]) [0, 1] rfl) hK rfl rfl) rfl hl.1 rfl (Nat.le_of_ble_eq_true rfl) d_LW_law_513 ⟨hRc, hRs⟩)) (fun r_1 hr_2 => ?_)
    refine xe_i (y := (-1)) hr_2 ?_
    refine lv_aload_n hx hb d_LW_law_516 rfl (lv_at hl 2 rfl) ?_
    refine lv_aload_n hx hb d_LW_law_517 rfl (lv_at hl 0 rfl) ?_
    refine lv_iload_n hx hb d_LW_law_518 rfl (lv_at hl 3 rfl) ?_
    refine lv_iconst (v := (nI 1)) hx hb d_LW_law_519 (by decide) ?_
    refine lv_iadd hx hb d_LW_law_520 ?_
    refine xe_i (nI_add _ _) ?_
    refine x_sld hx hb hX hbl hbA hS (by omega) hL d_LW_law_521 ?_
    refine x_ci (k_V (n := 1) (C := R_MO) (rest := [.int (-1)]) ⟨hx, hb, hml, hown, hts⟩ (c_MO_way_b l dC dI cI cJ cZ ma.o ma.fF ma.fG ma.fT ma.fN ma.fW ma.fO ma.fB ma.fS ma.fD th be bz sz nd ar P (xs (i + 1)) (by first | assumption | omega) (by first | assumption | omega)) wml_LW_79 wim_MO_way wsel_MO_way wini_MO wcode_MO_way (by decide +kernel) ⟨Nat.le_of_ble_eq_true rfl, Nat.le_of_ble_eq_true rfl⟩ (preV_M (q := (R_MO, F_MO, 15)) (ci := 7) (q0 := 0) (hP.sub (ws' := [(ma.o, .inr (7, [.int th, .int (nI nd), .int (nI ar), .ref ma.fF, .ref ma.fG, .ref ma.fT, .ref ma.fN, .ref ma.fW, .int be, .ref ma.fO, .ref ma.fB, .int bz, .ref ma.fS, .ref ma.fD, .int sz])), (ma.fT, .inl (cZ, 41, .inl (bF P)))]) [30, 33] rfl) hK (hD.sub (ws' := [(ma.o, .inr (7, [.int th, .int (nI nd), .int (nI ar), .ref ma.fF, .ref ma.fG, .ref ma.fT, .ref ma.fN, .ref ma.fW, .int be, .ref ma.fO, .ref ma.fB, .int bz, .ref ma.fS, .ref ma.fD, .int sz])), (ma.fT, .inl (cZ, 41, .inl (bF P)))]) [30, 33] (by decide) rfl) rfl rfl) rfl hl.1 rfl (Nat.le_of_ble_eq_true rfl) d_LW_law_522 ⟨hRc, hRs⟩) hP hD hS [30, 33] rfl (fun _ => rfl) (fun r_3 u_3 H locs hu_3 hP hS => ?_)
    have hP : va_P (dC, dI) cls (WL cI cJ cZ ca ma ⟨nd, ar, pr, F, G, N, Fm, Rs, A, z, Se, al, br, N2, Fm2, Rs2, A2, zi2, S2, al2, br2, Cr, Op, Bf, sn, Ld, zi, Sg, Pi, Bo, pci, Gd, gci, bl0⟩ ⟨(nI 0), nd, ar, be, bz, sz, F', G', P, Nm, Wm, Td, Ob, Sp, D⟩) H := hP
    have hD := hD.addr (ws' := (WL cI cJ cZ ca ma ⟨nd, ar, pr, F, G, N, Fm, Rs, A, z, Se, al, br, N2, Fm2, Rs2, A2, zi2, S2, al2, br2, Cr, Op, Bf, sn, Ld, zi, Sg, Pi, Bo, pci, Gd, gci, bl0⟩ ⟨(nI 0), nd, ar, be, bz, sz, F', G', P, Nm, Wm, Td, Ob, Sp, D⟩)) rfl
    have hag : r_3 = (-1) := hu_3
    refine xe_i (y := (-1)) hag ?_
    refine lv_icmp_eq (tgt := 609) hx hb d_LW_law_525 (by decide) (fun _ => ?_) (fun q9 => absurd rfl q9)
    exact kk ⟨nd, ar, pr, F, G, N, Fm, Rs, A, z, Se, al, br, N2, Fm2, Rs2, A2, zi2, S2, al2, br2, Cr, Op, Bf, sn, Ld, zi, Sg, Pi, Bo, pci, Gd, gci, bl0⟩ ⟨(nI 0), nd, ar, be, bz, sz, F', G', P, Nm, Wm, Td, Ob, Sp, D⟩ H locs ⟨hGA, hSK, hB0, rfl, rfl, hF, hG, hLK, hTd⟩ hP hD hS
  · skip
    obtain ⟨x, hxn, ex, hxl⟩ := ok_P hv har
    have hPx : P x = true := (lk_P hLK hxn).trans hxl
    obtain ⟨eF, eG, _⟩ := hLK.2.2 x hxn
    have hFx : F x < nd := (hGA.2.2.2.1 x hxn).1
    obtain ⟨pt, hpt⟩ := SpR_ex hSK hFx
    have hPT : ∀ p2, RcT (lkT ar 0 P (-1) (-1) (nI 0) F' G') F' G' (sb (F' x)) p2 → pt = p2 := fun p2 q => (part_eq hLK hSK hFx hpt (by rw [← eF]; exact q)).1
    by_cases hbq : hbR ar P F' G' pt
    · skip
      have hbc : ∀ pt op, SpR N (F x) al pt → AtR A pt op 14 → ¬ op &&& br = 0 := fun p2 o2 q1 q2 => (way_br hLK hSK (PT_of hSK q1 q2)).mpr (by rw [q1.uniq hpt]; exact hbq)
      have hbm : ∀ pt, RcT (lkT ar 0 P (-1) (-1) (nI 0) F' G') F' G' (sb (F' x)) pt → hbR ar P F' G' pt := fun p2 q => by rw [← hPT p2 q]; exact hbq
      rw [ex]
      refine vp_callSi (va_Run.run (k_V (n := 1) (C := R_CP) (rest := []) ⟨hx, hb, hml, hown, hts⟩ (c_CP_way_n l dC dI cI cJ cZ ca.cp ca.g ca.k ca.k2 ca.fl ca.co ca.sp ca.a1 ca.a2 nd ar pr F G (by first | assumption | omega) ca.nr ca.fr ca.rs ca.at_ ca.h al br N Fm A ca.b1 z Se (by first | assumption | omega) x (by first | assumption | omega) (by first | assumption | omega) (by first | assumption | omega)) wml_LW_76 wim_CP_way wsel_CP_way wini_CP wcode_CP_way (by decide +kernel) ⟨Nat.le_of_ble_eq_true rfl, Nat.le_of_ble_eq_true rfl⟩ (preV_R (q := (R_CP, F_CP, 6)) (ci := 0) (q0 := 0) (hP.sub (ws' := [(ca.cp, .inr (0, [.ref ca.g, .ref ca.k, .ref ca.k2, .ref ca.fl, .ref ca.co, .ref ca.sp])), (ca.g, .inr (1, [.ref ca.a1, .ref ca.a2, .int (nI nd), .int (nI ar), .long pr])), (ca.a1, .inl (cI, 41, .inl (nF F))), (ca.a2, .inl (cI, 41, .inl (nF G))), (ca.k, .inr (2, [.ref ca.nr, .ref ca.fr, .ref ca.rs, .ref ca.at_, .ref ca.h, .int al, .long br])), (ca.nr, .inl (cI, 14, .inl N)), (ca.at_, .inl (cJ, 14, .inr (.inl A)))]) [0, 1, 2, 3, 4, 5, 8] rfl) hK rfl rfl) rfl hl.1 rfl (Nat.le_of_ble_eq_true rfl) d_LW_law_513 ⟨hRc, hRs⟩)) (fun r_4 hr_5 => ?_)
      refine xe_i (y := (-3)) hr_5 ?_
      refine lv_aload_n hx hb d_LW_law_516 rfl (lv_at hl 2 rfl) ?_
      refine lv_aload_n hx hb d_LW_law_517 rfl (lv_at hl 0 rfl) ?_
      refine lv_iload_n hx hb d_LW_law_518 rfl (lv_at hl 3 rfl) ?_
      refine lv_iconst (v := (nI 1)) hx hb d_LW_law_519 (by decide) ?_
      refine lv_iadd hx hb d_LW_law_520 ?_
      refine xe_i (nI_add _ _) ?_
      refine x_sld hx hb hX hbl hbA hS (by omega) hL d_LW_law_521 ?_
      rw [ex]
      refine x_ci (k_V (n := 1) (C := R_MO) (rest := [.int (-3)]) ⟨hx, hb, hml, hown, hts⟩ (c_MO_way_n l dC dI cI cJ cZ ma.o ma.fF ma.fG ma.fT ma.fN ma.fW ma.fO ma.fB ma.fS ma.fD th be bz sz nd ar F' G' P (by first | assumption | omega) (by first | assumption | omega) (by first | assumption | omega) (by first | assumption | omega) (by first | assumption | omega) Nm x (by first | assumption | omega) (by first | assumption | omega) (by first | assumption | omega)) wml_LW_79 wim_MO_way wsel_MO_way wini_MO wcode_MO_way (by decide +kernel) ⟨Nat.le_of_ble_eq_true rfl, Nat.le_of_ble_eq_true rfl⟩ (preV_M (q := (R_MO, F_MO, 15)) (ci := 7) (q0 := 0) (hP.sub (ws' := [(ma.o, .inr (7, [.int th, .int (nI nd), .int (nI ar), .ref ma.fF, .ref ma.fG, .ref ma.fT, .ref ma.fN, .ref ma.fW, .int be, .ref ma.fO, .ref ma.fB, .int bz, .ref ma.fS, .ref ma.fD, .int sz])), (ma.fF, .inl (cI, 41, .inl (nF F'))), (ma.fG, .inl (cI, 41, .inl (nF G'))), (ma.fT, .inl (cZ, 41, .inl (bF P))), (ma.fN, .inl (cI, 14, .inl Nm))]) [30, 31, 32, 33, 34] rfl) hK (hD.sub (ws' := [(ma.o, .inr (7, [.int th, .int (nI nd), .int (nI ar), .ref ma.fF, .ref ma.fG, .ref ma.fT, .ref ma.fN, .ref ma.fW, .int be, .ref ma.fO, .ref ma.fB, .int bz, .ref ma.fS, .ref ma.fD, .int sz])), (ma.fF, .inl (cI, 41, .inl (nF F'))), (ma.fG, .inl (cI, 41, .inl (nF G'))), (ma.fT, .inl (cZ, 41, .inl (bF P))), (ma.fN, .inl (cI, 14, .inl Nm))]) [30, 31, 32, 33, 34] (by decide) rfl) rfl rfl) rfl hl.1 rfl (Nat.le_of_ble_eq_true rfl) d_LW_law_522 ⟨hRc, hRs⟩) hP hD hS [30, 31, 32, 33, 34] rfl (fun _ => rfl) (fun r_6 u_6 H locs hu_6 hP hS => ?_)
      obtain ⟨N9_6, rfl⟩ : ∃ z, z = u_6 := ⟨_, rfl⟩
      have hP : va_P (dC, dI) cls (WL cI cJ cZ ca ma ⟨nd, ar, pr, F, G, N, Fm, Rs, A, z, Se, al, br, N2, Fm2, Rs2, A2, zi2, S2, al2, br2, Cr, Op, Bf, sn, Ld, zi, Sg, Pi, Bo, pci, Gd, gci, bl0⟩ ⟨(nI 0), nd, ar, be, bz, sz, F', G', P, N9_6, Wm, Td, Ob, Sp, D⟩) H := hP
      have hD := hD.addr (ws' := (WL cI cJ cZ ca ma ⟨nd, ar, pr, F, G, N, Fm, Rs, A, z, Se, al, br, N2, Fm2, Rs2, A2, zi2, S2, al2, br2, Cr, Op, Bf, sn, Ld, zi, Sg, Pi, Bo, pci, Gd, gci, bl0⟩ ⟨(nI 0), nd, ar, be, bz, sz, F', G', P, N9_6, Wm, Td, Ob, Sp, D⟩)) rfl
      have hag : r_6 = (-3) := hu_6
      refine xe_i (y := (-3)) hag ?_
      refine lv_icmp_eq (tgt := 609) hx hb d_LW_law_525 (by decide) (fun _ => ?_) (fun q9 => absurd rfl q9)
      exact kk ⟨nd, ar, pr, F, G, N, Fm, Rs, A, z, Se, al, br, N2, Fm2, Rs2, A2, zi2, S2, al2, br2, Cr, Op, Bf, sn, Ld, zi, Sg, Pi, Bo, pci, Gd, gci, bl0⟩ ⟨(nI 0), nd, ar, be, bz, sz, F', G', P, N9_6, Wm, Td, Ob, Sp, D⟩ H locs ⟨hGA, hSK, hB0, rfl, rfl, hF, hG, hLK, hTd⟩ hP hD hS
    · skip
      have hbc : ∀ pt op, SpR N (F x) al pt → AtR A pt op 14 → op &&& br = 0 := fun p2 o2 q1 q2 => Classical.byContradiction (fun q3 => hbq (by have := (way_br hLK hSK (PT_of hSK q1 q2)).mp q3; rw [q1.uniq hpt] at this; exact this))
      have hbm : ∀ pt, RcT (lkT ar 0 P (-1) (-1) (nI 0) F' G') F' G' (sb (F' x)) pt → ¬ hbR ar P F' G' pt := fun p2 q => by rw [← hPT p2 q]; exact hbq
      rw [ex]
      refine x_ci (k_V (n := 1) (C := R_CP) (rest := []) ⟨hx, hb, hml, hown, hts⟩ (c_CP_way_k l dC dI cI cJ cZ ca.cp ca.g ca.k ca.k2 ca.fl ca.co ca.sp ca.a1 ca.a2 nd ar pr F G (by first | assumption | omega) ca.nr ca.fr ca.rs ca.at_ ca.h al br N Fm A ca.b1 z Se (by first | assumption | omega) ca.ld Ld x (by first | assumption | omega) (by first | assumption | omega) (by first | assumption | omega)) wml_LW_76 wim_CP_way wsel_CP_way wini_CP wcode_CP_way (by decide +kernel) ⟨Nat.le_of_ble_eq_true rfl, Nat.le_of_ble_eq_true rfl⟩ (preV_M (q := (R_CP, F_CP, 6)) (ci := 0) (q0 := 0) (hP.sub (ws' := [(ca.cp, .inr (0, [.ref ca.g, .ref ca.k, .ref ca.k2, .ref ca.fl, .ref ca.co, .ref ca.sp])), (ca.g, .inr (1, [.ref ca.a1, .ref ca.a2, .int (nI nd), .int (nI ar), .long pr])), (ca.a1, .inl (cI, 41, .inl (nF F))), (ca.a2, .inl (cI, 41, .inl (nF G))), (ca.k, .inr (2, [.ref ca.nr, .ref ca.fr, .ref ca.rs, .ref ca.at_, .ref ca.h, .int al, .long br])), (ca.nr, .inl (cI, 14, .inl N)), (ca.at_, .inl (cJ, 14, .inr (.inl A))), (ca.co, .inr (5, [.ref ca.ld])), (ca.ld, .inl (cI, 14, .inl Ld))]) [0, 1, 2, 3, 4, 5, 8, 22, 23] rfl) hK (hD.sub (ws' := [(ca.cp, .inr (0, [.ref ca.g, .ref ca.k, .ref ca.k2, .ref ca.fl, .ref ca.co, .ref ca.sp])), (ca.g, .inr (1, [.ref ca.a1, .ref ca.a2, .int (nI nd), .int (nI ar), .long pr])), (ca.a1, .inl (cI, 41, .inl (nF F))), (ca.a2, .inl (cI, 41, .inl (nF G))), (ca.k, .inr (2, [.ref ca.nr, .ref ca.fr, .ref ca.rs, .ref ca.at_, .ref ca.h, .int al, .long br])), (ca.nr, .inl (cI, 14, .inl N)), (ca.at_, .inl (cJ, 14, .inr (.inl A))), (ca.co, .inr (5, [.ref ca.ld])), (ca.ld, .inl (cI, 14, .inl Ld))]) [0, 1, 2, 3, 4, 5, 8, 22, 23] (by decide) rfl) rfl rfl) rfl hl.1 rfl (Nat.le_of_ble_eq_true rfl) d_LW_law_513 ⟨hRc, hRs⟩) hP hD hS [0, 1, 2, 3, 4, 5, 8, 22, 23] rfl (fun _ => rfl) (fun r_7 u_7 H locs hu_7 hP hS => ?_)
      obtain ⟨r9_7, rfl⟩ : ∃ z, z = u_7 := ⟨_, rfl⟩
      have hP : va_P (dC, dI) cls (WL cI cJ cZ ca ma ⟨nd, ar, pr, F, G, N, Fm, Rs, A, z, Se, al, br, N2, Fm2, Rs2, A2, zi2, S2, al2, br2, Cr, Op, Bf, sn, r9_7, zi, Sg, Pi, Bo, pci, Gd, gci, bl0⟩ ⟨th, nd, ar, be, bz, sz, F', G', P, Nm, Wm, Td, Ob, Sp, D⟩) H := hP
      have hD := hD.addr (ws' := (WL cI cJ cZ ca ma ⟨nd, ar, pr, F, G, N, Fm, Rs, A, z, Se, al, br, N2, Fm2, Rs2, A2, zi2, S2, al2, br2, Cr, Op, Bf, sn, r9_7, zi, Sg, Pi, Bo, pci, Gd, gci, bl0⟩ ⟨th, nd, ar, be, bz, sz, F', G', P, Nm, Wm, Td, Ob, Sp, D⟩)) rfl
      refine lv_aload_n hx hb d_LW_law_516 rfl (lv_at hl 2 rfl) ?_
      refine lv_aload_n hx hb d_LW_law_517 rfl (lv_at hl 0 rfl) ?_
      refine lv_iload_n hx hb d_LW_law_518 rfl (lv_at hl 3 rfl) ?_
      refine lv_iconst (v := (nI 1)) hx hb d_LW_law_519 (by decide) ?_
      refine lv_iadd hx hb d_LW_law_520 ?_
      refine xe_i (nI_add _ _) ?_
      refine x_sld hx hb hX hbl hbA hS (by omega) hL d_LW_law_521 ?_
      rw [ex]
      refine x_ci (k_V (n := 1) (C := R_MO) (rest := [.int r_7]) ⟨hx, hb, hml, hown, hts⟩ (c_MO_way_k l dC dI cI cJ cZ ma.o ma.fF ma.fG ma.fT ma.fN ma.fW ma.fO ma.fB ma.fS ma.fD th be bz sz nd ar F' G' P (by first | assumption | omega) (by first | assumption | omega) (by first | assumption | omega) (by first | assumption | omega) (by first | assumption | omega) Td (by first | assumption | omega) Nm x (by first | assumption | omega) (by first | assumption | omega) (by first | assumption | omega)) wml_LW_79 wim_MO_way wsel_MO_way wini_MO wcode_MO_way (by decide +kernel) ⟨Nat.le_of_ble_eq_true rfl, Nat.le_of_ble_eq_true rfl⟩ (preV_M (q := (R_MO, F_MO, 15)) (ci := 7) (q0 := 0) (hP.sub (ws' := [(ma.o, .inr (7, [.int th, .int (nI nd), .int (nI ar), .ref ma.fF, .ref ma.fG, .ref ma.fT, .ref ma.fN, .ref ma.fW, .int be, .ref ma.fO, .ref ma.fB, .int bz, .ref ma.fS, .ref ma.fD, .int sz])), (ma.fF, .inl (cI, 41, .inl (nF F'))), (ma.fG, .inl (cI, 41, .inl (nF G'))), (ma.fT, .inl (cZ, 41, .inl (bF P))), (ma.fN, .inl (cI, 14, .inl Nm)), (ma.fO, .inl (cI, 41, .inl (nF Td)))]) [30, 31, 32, 33, 34, 36] rfl) hK (hD.sub (ws' := [(ma.o, .inr (7, [.int th, .int (nI nd), .int (nI ar), .ref ma.fF, .ref ma.fG, .ref ma.fT, .ref ma.fN, .ref ma.fW, .int be, .ref ma.fO, .ref ma.fB, .int bz, .ref ma.fS, .ref ma.fD, .int sz])), (ma.fF, .inl (cI, 41, .inl (nF F'))), (ma.fG, .inl (cI, 41, .inl (nF G'))), (ma.fT, .inl (cZ, 41, .inl (bF P))), (ma.fN, .inl (cI, 14, .inl Nm)), (ma.fO, .inl (cI, 41, .inl (nF Td)))]) [30, 31, 32, 33, 34, 36] (by decide) rfl) rfl rfl) rfl hl.1 rfl (Nat.le_of_ble_eq_true rfl) d_LW_law_522 ⟨hRc, hRs⟩) hP hD hS [30, 31, 32, 33, 34, 36] rfl (fun _ => rfl) (fun r_8 u_8 H locs hu_8 hP hS => ?_)
      obtain ⟨N9_8, Td9_8⟩ := u_8
      have hP : va_P (dC, dI) cls (WL cI cJ cZ ca ma ⟨nd, ar, pr, F, G, N, Fm, Rs, A, z, Se, al, br, N2, Fm2, Rs2, A2, zi2, S2, al2, br2, Cr, Op, Bf, sn, r9_7, zi, Sg, Pi, Bo, pci, Gd, gci, bl0⟩ ⟨(nI 0), nd, ar, be, bz, sz, F', G', P, N9_8, Wm, Td9_8, Ob, Sp, D⟩) H := hP
      have hD := hD.addr (ws' := (WL cI cJ cZ ca ma ⟨nd, ar, pr, F, G, N, Fm, Rs, A, z, Se, al, br, N2, Fm2, Rs2, A2, zi2, S2, al2, br2, Cr, Op, Bf, sn, r9_7, zi, Sg, Pi, Bo, pci, Gd, gci, bl0⟩ ⟨(nI 0), nd, ar, be, bz, sz, F', G', P, N9_8, Wm, Td9_8, Ob, Sp, D⟩)) rfl
      have hag : r_8 = r_7 := by
        obtain ⟨p1, o1, dF, a1, a2, a3, a4⟩ := hu_7
        obtain ⟨_, p2, b1, b2, b3⟩ := hu_8
        have q1 : p1 = pt := a1.uniq hpt
        have q2 := hPT p2 b1
        subst q1
        subst q2
        rw [b3, a4, way_eq hLK hSK (PT_of hSK a1 a2) hxn hxl ((a1 _).mpr (Rc.rf _ _)) a3 b2 hbq]
      refine xe_i (y := r_7) hag ?_
      refine lv_icmp_eq (tgt := 609) hx hb d_LW_law_525 (by decide) (fun _ => ?_) (fun q9 => absurd rfl q9)
      exact kk ⟨nd, ar, pr, F, G, N, Fm, Rs, A, z, Se, al, br, N2, Fm2, Rs2, A2, zi2, S2, al2, br2, Cr, Op, Bf, sn, r9_7, zi, Sg, Pi, Bo, pci, Gd, gci, bl0⟩ ⟨(nI 0), nd, ar, be, bz, sz, F', G', P, N9_8, Wm, Td9_8, Ob, Sp, D⟩ H locs ⟨hGA, hSK, hB0, rfl, rfl, hF, hG, hLK, hu_8.1⟩ hP hD hS

