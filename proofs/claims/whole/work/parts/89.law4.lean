/-! ===== 89.law4: cases of the law ===== -/
set_option maxHeartbeats 8000000 in
set_option maxRecDepth 100000 in
theorem lw_together {p : Program} {l : Launch} {e : Env} {s : State} {m : MethodId} {args : Array Value} {below : List Frame} {meth : Method} {c : Code} {H : Heap} {locs : List Loc} {Q : State → Prop} {dC : Nat → ClassId} {dI : Nat → Nat → Nat} {cI cJ cZ : ClassId} {A0 : Nat → Prop} {sc L : Nat} {xs : Nat → Int32} {ls : Array Slot} (X : LX p s m args c dC dI cI cJ cZ A0 sc L xs) {i : Nat} (hi : i + 3 ≤ L) {ca : CA} {ma : MA} {u : CS} {v : MS} (hI : LI u v) (hP : va_P (dC, dI) cls (WL cI cJ cZ ca ma u v) H) (hD : va_D A0 (WL cI cJ cZ ca ma u v)) (hS : va_S A0 s.heap H locs) (hl : lv_has ls 4 [(0, .ref sc), (1, .ref ca.cp), (2, .ref ma.o), (3, .int (nI i))])
    (kk : ∀ (u1 : CS) (v1 : MS) (H1 : Heap) (locs1 : List Loc), LI u1 v1 → va_P (dC, dI) cls (WL cI cJ cZ ca ma u1 v1) H1 → va_D A0 (WL cI cJ cZ ca ma u1 v1) → va_S A0 s.heap H1 locs1 → W p l e room_1 s m args below meth c H1 locs1 40 19226 Q (F0 m 609 ls [])) : W p l e room_1 s m args below meth c H locs 40 19226 Q (F0 m 530 ls []) := by
  obtain ⟨hx, hb, hml, hown, hts, hK, hX, hbl, hbA, hL⟩ := X
  have hRc : 40 ≤ room_1.cells := Nat.le_of_ble_eq_true rfl
  have hRs : 19226 ≤ room_1.slots := Nat.le_of_ble_eq_true rfl
  obtain ⟨nd, ar, pr, F, G, N, Fm, Rs, A, z, Se, al, br, N2, Fm2, Rs2, A2, zi2, S2, al2, br2, Cr, Op, Bf, sn, Ld, zi, Sg, Pi, Bo, pci, Gd, gci, bl0⟩ := u
  obtain ⟨th, ndm, arm, be, bz, sz, F', G', P, Nm, Wm, Td, Ob, Sp, D⟩ := v
  obtain ⟨hGA, hSK, hB0, e1, e2, hF, hG, hLK, hTd⟩ := hI
  have e1 : nd = ndm := e1
  have e2 : ar = arm := e2
  subst e1
  subst e2
  have hGA : GAR F G nd ar pr := hGA
  have hSK : SKI (lb pr) F G nd N Fm A Se z al br := hSK
  have hB0 : Bo 0 = 0 := hB0
  have hF : ∀ k, F' k < 14 := hF
  have hG : ∀ k, G' k < 14 := hG
  have hLK : LK F G pr F' G' P ar := hLK
  have hTd : ∀ k, Td k < 3 := hTd
  have hnd14 : nd ≤ 14 := hGA.1
  have har : ar ≤ 40 := hGA.2.1
  have hM := (lk_M hLK hGA).1
  have hNE := (lk_M hLK hGA).2
  refine lv_aload_n hx hb d_LW_law_530 rfl (lv_at hl 1 rfl) ?_
  refine lv_aload_n hx hb d_LW_law_531 rfl (lv_at hl 0 rfl) ?_
  refine lv_iload_n hx hb d_LW_law_532 rfl (lv_at hl 3 rfl) ?_
  refine lv_iconst (v := (nI 1)) hx hb d_LW_law_533 (by decide) ?_
  refine lv_iadd hx hb d_LW_law_534 ?_
  refine xe_i (nI_add _ _) ?_
  refine x_sld hx hb hX hbl hbA hS (by omega) hL d_LW_law_535 ?_
  refine lv_aload_n hx hb d_LW_law_536 rfl (lv_at hl 0 rfl) ?_
  refine lv_iload_n hx hb d_LW_law_537 rfl (lv_at hl 3 rfl) ?_
  refine lv_iconst (v := (nI 2)) hx hb d_LW_law_538 (by decide) ?_
  refine lv_iadd hx hb d_LW_law_539 ?_
  refine xe_i (nI_add _ _) ?_
  refine x_sld hx hb hX hbl hbA hS (by omega) hL d_LW_law_540 ?_
  cases hv : (vd (xs (i + 1)) ar && lb pr (xs (i + 1)).toNatClampNeg)
  · skip
    have hbad := hv
    have hbadP := bad_P hLK hv
    refine vp_callSi (va_Run.run (k_V (n := 2) (C := R_CP) (rest := []) ⟨hx, hb, hml, hown, hts⟩ (c_CP_together_b l dC dI cI cJ cZ ca.cp ca.g ca.k ca.k2 ca.fl ca.co ca.sp ca.a1 ca.a2 nd ar pr (xs (i + 1)) (xs (i + 2)) (by first | assumption | omega) (by first | assumption | omega)) wml_LW_80 wim_CP_together wsel_CP_together wini_CP wcode_CP_together (by decide +kernel) ⟨Nat.le_of_ble_eq_true rfl, Nat.le_of_ble_eq_true rfl⟩ (preV_R (q := (R_CP, F_CP, 6)) (ci := 0) (q0 := 0) (hP.sub (ws' := [(ca.cp, .inr (0, [.ref ca.g, .ref ca.k, .ref ca.k2, .ref ca.fl, .ref ca.co, .ref ca.sp])), (ca.g, .inr (1, [.ref ca.a1, .ref ca.a2, .int (nI nd), .int (nI ar), .long pr]))]) [0, 1] rfl) hK rfl rfl) rfl hl.1 rfl (Nat.le_of_ble_eq_true rfl) d_LW_law_541 ⟨hRc, hRs⟩)) (fun r_1 hr_2 => ?_)
    refine xe_i (y := (-1)) hr_2 ?_
    refine lv_aload_n hx hb d_LW_law_544 rfl (lv_at hl 2 rfl) ?_
    refine lv_aload_n hx hb d_LW_law_545 rfl (lv_at hl 0 rfl) ?_
    refine lv_iload_n hx hb d_LW_law_546 rfl (lv_at hl 3 rfl) ?_
    refine lv_iconst (v := (nI 1)) hx hb d_LW_law_547 (by decide) ?_
    refine lv_iadd hx hb d_LW_law_548 ?_
    refine xe_i (nI_add _ _) ?_
    refine x_sld hx hb hX hbl hbA hS (by omega) hL d_LW_law_549 ?_
    refine lv_aload_n hx hb d_LW_law_550 rfl (lv_at hl 0 rfl) ?_
    refine lv_iload_n hx hb d_LW_law_551 rfl (lv_at hl 3 rfl) ?_
    refine lv_iconst (v := (nI 2)) hx hb d_LW_law_552 (by decide) ?_
    refine lv_iadd hx hb d_LW_law_553 ?_
    refine xe_i (nI_add _ _) ?_
    refine x_sld hx hb hX hbl hbA hS (by omega) hL d_LW_law_554 ?_
    refine x_ci (k_V (n := 2) (C := R_MO) (rest := [.int (-1)]) ⟨hx, hb, hml, hown, hts⟩ (c_MO_together_b l dC dI cI cJ cZ ma.o ma.fF ma.fG ma.fT ma.fN ma.fW ma.fO ma.fB ma.fS ma.fD th be bz sz nd ar P (xs (i + 1)) (xs (i + 2)) (by first | assumption | omega) (by first | assumption | omega)) wml_LW_83 wim_MO_together wsel_MO_together wini_MO wcode_MO_together (by decide +kernel) ⟨Nat.le_of_ble_eq_true rfl, Nat.le_of_ble_eq_true rfl⟩ (preV_M (q := (R_MO, F_MO, 15)) (ci := 7) (q0 := 0) (hP.sub (ws' := [(ma.o, .inr (7, [.int th, .int (nI nd), .int (nI ar), .ref ma.fF, .ref ma.fG, .ref ma.fT, .ref ma.fN, .ref ma.fW, .int be, .ref ma.fO, .ref ma.fB, .int bz, .ref ma.fS, .ref ma.fD, .int sz])), (ma.fT, .inl (cZ, 41, .inl (bF P)))]) [30, 33] rfl) hK (hD.sub (ws' := [(ma.o, .inr (7, [.int th, .int (nI nd), .int (nI ar), .ref ma.fF, .ref ma.fG, .ref ma.fT, .ref ma.fN, .ref ma.fW, .int be, .ref ma.fO, .ref ma.fB, .int bz, .ref ma.fS, .ref ma.fD, .int sz])), (ma.fT, .inl (cZ, 41, .inl (bF P)))]) [30, 33] (by decide) rfl) rfl rfl) rfl hl.1 rfl (Nat.le_of_ble_eq_true rfl) d_LW_law_555 ⟨hRc, hRs⟩) hP hD hS [30, 33] rfl (fun _ => rfl) (fun r_3 u_3 H locs hu_3 hP hS => ?_)
    have hP : va_P (dC, dI) cls (WL cI cJ cZ ca ma ⟨nd, ar, pr, F, G, N, Fm, Rs, A, z, Se, al, br, N2, Fm2, Rs2, A2, zi2, S2, al2, br2, Cr, Op, Bf, sn, Ld, zi, Sg, Pi, Bo, pci, Gd, gci, bl0⟩ ⟨(nI 0), nd, ar, be, bz, sz, F', G', P, Nm, Wm, Td, Ob, Sp, D⟩) H := hP
    have hD := hD.addr (ws' := (WL cI cJ cZ ca ma ⟨nd, ar, pr, F, G, N, Fm, Rs, A, z, Se, al, br, N2, Fm2, Rs2, A2, zi2, S2, al2, br2, Cr, Op, Bf, sn, Ld, zi, Sg, Pi, Bo, pci, Gd, gci, bl0⟩ ⟨(nI 0), nd, ar, be, bz, sz, F', G', P, Nm, Wm, Td, Ob, Sp, D⟩)) rfl
    have hag : r_3 = (-1) := hu_3
    refine xe_i (y := (-1)) hag ?_
    refine lv_icmp_eq (tgt := 609) hx hb d_LW_law_558 (by decide) (fun _ => ?_) (fun q9 => absurd rfl q9)
    exact kk ⟨nd, ar, pr, F, G, N, Fm, Rs, A, z, Se, al, br, N2, Fm2, Rs2, A2, zi2, S2, al2, br2, Cr, Op, Bf, sn, Ld, zi, Sg, Pi, Bo, pci, Gd, gci, bl0⟩ ⟨(nI 0), nd, ar, be, bz, sz, F', G', P, Nm, Wm, Td, Ob, Sp, D⟩ H locs ⟨hGA, hSK, hB0, rfl, rfl, hF, hG, hLK, hTd⟩ hP hD hS
  · skip
    obtain ⟨x, hxn, ex, hxl⟩ := ok_P hv har
    have hPx : P x = true := (lk_P hLK hxn).trans hxl
    cases hw : (vd (xs (i + 2)) ar && lb pr (xs (i + 2)).toNatClampNeg)
    · skip
      have hbad := hw
      have hbadP := bad_P hLK hw
      rw [ex]
      refine vp_callSi (va_Run.run (k_V (n := 2) (C := R_CP) (rest := []) ⟨hx, hb, hml, hown, hts⟩ (c_CP_together_c l dC dI cI cJ cZ ca.cp ca.g ca.k ca.k2 ca.fl ca.co ca.sp ca.a1 ca.a2 nd ar pr x (xs (i + 2)) (by first | assumption | omega) (by first | assumption | omega) (by first | assumption | omega) (by first | assumption | omega)) wml_LW_80 wim_CP_together wsel_CP_together wini_CP wcode_CP_together (by decide +kernel) ⟨Nat.le_of_ble_eq_true rfl, Nat.le_of_ble_eq_true rfl⟩ (preV_R (q := (R_CP, F_CP, 6)) (ci := 0) (q0 := 0) (hP.sub (ws' := [(ca.cp, .inr (0, [.ref ca.g, .ref ca.k, .ref ca.k2, .ref ca.fl, .ref ca.co, .ref ca.sp])), (ca.g, .inr (1, [.ref ca.a1, .ref ca.a2, .int (nI nd), .int (nI ar), .long pr]))]) [0, 1] rfl) hK rfl rfl) rfl hl.1 rfl (Nat.le_of_ble_eq_true rfl) d_LW_law_541 ⟨hRc, hRs⟩)) (fun r_4 hr_5 => ?_)
      refine xe_i (y := (-1)) hr_5 ?_
      refine lv_aload_n hx hb d_LW_law_544 rfl (lv_at hl 2 rfl) ?_
      refine lv_aload_n hx hb d_LW_law_545 rfl (lv_at hl 0 rfl) ?_
      refine lv_iload_n hx hb d_LW_law_546 rfl (lv_at hl 3 rfl) ?_
      refine lv_iconst (v := (nI 1)) hx hb d_LW_law_547 (by decide) ?_
      refine lv_iadd hx hb d_LW_law_548 ?_
      refine xe_i (nI_add _ _) ?_
      refine x_sld hx hb hX hbl hbA hS (by omega) hL d_LW_law_549 ?_
      refine lv_aload_n hx hb d_LW_law_550 rfl (lv_at hl 0 rfl) ?_
      refine lv_iload_n hx hb d_LW_law_551 rfl (lv_at hl 3 rfl) ?_
      refine lv_iconst (v := (nI 2)) hx hb d_LW_law_552 (by decide) ?_
      refine lv_iadd hx hb d_LW_law_553 ?_
      refine xe_i (nI_add _ _) ?_
      refine x_sld hx hb hX hbl hbA hS (by omega) hL d_LW_law_554 ?_
      rw [ex]
      refine x_ci (k_V (n := 2) (C := R_MO) (rest := [.int (-1)]) ⟨hx, hb, hml, hown, hts⟩ (c_MO_together_c l dC dI cI cJ cZ ma.o ma.fF ma.fG ma.fT ma.fN ma.fW ma.fO ma.fB ma.fS ma.fD th be bz sz nd ar P (by first | assumption | omega) x (by first | assumption | omega) (by first | assumption | omega) (xs (i + 2)) (by first | assumption | omega)) wml_LW_83 wim_MO_together wsel_MO_together wini_MO wcode_MO_together (by decide +kernel) ⟨Nat.le_of_ble_eq_true rfl, Nat.le_of_ble_eq_true rfl⟩ (preV_M (q := (R_MO, F_MO, 15)) (ci := 7) (q0 := 0) (hP.sub (ws' := [(ma.o, .inr (7, [.int th, .int (nI nd), .int (nI ar), .ref ma.fF, .ref ma.fG, .ref ma.fT, .ref ma.fN, .ref ma.fW, .int be, .ref ma.fO, .ref ma.fB, .int bz, .ref ma.fS, .ref ma.fD, .int sz])), (ma.fT, .inl (cZ, 41, .inl (bF P)))]) [30, 33] rfl) hK (hD.sub (ws' := [(ma.o, .inr (7, [.int th, .int (nI nd), .int (nI ar), .ref ma.fF, .ref ma.fG, .ref ma.fT, .ref ma.fN, .ref ma.fW, .int be, .ref ma.fO, .ref ma.fB, .int bz, .ref ma.fS, .ref ma.fD, .int sz])), (ma.fT, .inl (cZ, 41, .inl (bF P)))]) [30, 33] (by decide) rfl) rfl rfl) rfl hl.1 rfl (Nat.le_of_ble_eq_true rfl) d_LW_law_555 ⟨hRc, hRs⟩) hP hD hS [30, 33] rfl (fun _ => rfl) (fun r_6 u_6 H locs hu_6 hP hS => ?_)
      have hP : va_P (dC, dI) cls (WL cI cJ cZ ca ma ⟨nd, ar, pr, F, G, N, Fm, Rs, A, z, Se, al, br, N2, Fm2, Rs2, A2, zi2, S2, al2, br2, Cr, Op, Bf, sn, Ld, zi, Sg, Pi, Bo, pci, Gd, gci, bl0⟩ ⟨(nI 0), nd, ar, be, bz, sz, F', G', P, Nm, Wm, Td, Ob, Sp, D⟩) H := hP
      have hD := hD.addr (ws' := (WL cI cJ cZ ca ma ⟨nd, ar, pr, F, G, N, Fm, Rs, A, z, Se, al, br, N2, Fm2, Rs2, A2, zi2, S2, al2, br2, Cr, Op, Bf, sn, Ld, zi, Sg, Pi, Bo, pci, Gd, gci, bl0⟩ ⟨(nI 0), nd, ar, be, bz, sz, F', G', P, Nm, Wm, Td, Ob, Sp, D⟩)) rfl
      have hag : r_6 = (-1) := hu_6
      refine xe_i (y := (-1)) hag ?_
      refine lv_icmp_eq (tgt := 609) hx hb d_LW_law_558 (by decide) (fun _ => ?_) (fun q9 => absurd rfl q9)
      exact kk ⟨nd, ar, pr, F, G, N, Fm, Rs, A, z, Se, al, br, N2, Fm2, Rs2, A2, zi2, S2, al2, br2, Cr, Op, Bf, sn, Ld, zi, Sg, Pi, Bo, pci, Gd, gci, bl0⟩ ⟨(nI 0), nd, ar, be, bz, sz, F', G', P, Nm, Wm, Td, Ob, Sp, D⟩ H locs ⟨hGA, hSK, hB0, rfl, rfl, hF, hG, hLK, hTd⟩ hP hD hS
    · skip
      obtain ⟨y, hyn, ey, hyl⟩ := ok_P hw har
      have hPy : P y = true := (lk_P hLK hyn).trans hyl
      obtain ⟨i0, hi0, he⟩ := blk_ex hLK hSK hxn hxl
      have hbk := blk_at hLK hSK hxn hxl hi0 he
      have hcn := blk_cn hLK hSK hxn hxl hi0 he
      cases hf : lb (Se i0) y
      · skip
        have hnb : ¬ abR ar nd P F' G' x y := fun q => by rw [(hbk y).mpr ⟨hyn, hPy, q⟩] at hf; cases hf
        rw [ex, ey]
        refine vp_callSi (va_Run.run (k_V (n := 2) (C := R_CP) (rest := []) ⟨hx, hb, hml, hown, hts⟩ (c_CP_together_n l dC dI cI cJ cZ ca.cp ca.g ca.k ca.k2 ca.fl ca.co ca.sp ca.a1 ca.a2 nd ar pr F G (by first | assumption | omega) ca.nr ca.fr ca.rs ca.at_ ca.h al br N Fm A ca.b1 z Se (by first | assumption | omega) x (by first | assumption | omega) (by first | assumption | omega) y (by first | assumption | omega) (by first | assumption | omega) i0 (by first | assumption | omega) (by first | assumption | omega) (by first | assumption | omega)) wml_LW_80 wim_CP_together wsel_CP_together wini_CP wcode_CP_together (by decide +kernel) ⟨Nat.le_of_ble_eq_true rfl, Nat.le_of_ble_eq_true rfl⟩ (preV_R (q := (R_CP, F_CP, 6)) (ci := 0) (q0 := 0) (hP.sub (ws' := [(ca.cp, .inr (0, [.ref ca.g, .ref ca.k, .ref ca.k2, .ref ca.fl, .ref ca.co, .ref ca.sp])), (ca.g, .inr (1, [.ref ca.a1, .ref ca.a2, .int (nI nd), .int (nI ar), .long pr])), (ca.k, .inr (2, [.ref ca.nr, .ref ca.fr, .ref ca.rs, .ref ca.at_, .ref ca.h, .int al, .long br])), (ca.h, .inr (3, [.ref ca.b1, .int (nI z)])), (ca.b1, .inl (cJ, 41, .inr (.inl Se)))]) [0, 1, 4, 9, 10] rfl) hK rfl rfl) rfl hl.1 rfl (Nat.le_of_ble_eq_true rfl) d_LW_law_541 ⟨hRc, hRs⟩)) (fun r_7 hr_8 => ?_)
        refine xe_i (y := (-3)) hr_8 ?_
        refine lv_aload_n hx hb d_LW_law_544 rfl (lv_at hl 2 rfl) ?_
        refine lv_aload_n hx hb d_LW_law_545 rfl (lv_at hl 0 rfl) ?_
        refine lv_iload_n hx hb d_LW_law_546 rfl (lv_at hl 3 rfl) ?_
        refine lv_iconst (v := (nI 1)) hx hb d_LW_law_547 (by decide) ?_
        refine lv_iadd hx hb d_LW_law_548 ?_
        refine xe_i (nI_add _ _) ?_
        refine x_sld hx hb hX hbl hbA hS (by omega) hL d_LW_law_549 ?_
        refine lv_aload_n hx hb d_LW_law_550 rfl (lv_at hl 0 rfl) ?_
        refine lv_iload_n hx hb d_LW_law_551 rfl (lv_at hl 3 rfl) ?_
        refine lv_iconst (v := (nI 2)) hx hb d_LW_law_552 (by decide) ?_
        refine lv_iadd hx hb d_LW_law_553 ?_
        refine xe_i (nI_add _ _) ?_
        refine x_sld hx hb hX hbl hbA hS (by omega) hL d_LW_law_554 ?_
        rw [ex, ey]
        refine x_ci (k_V (n := 2) (C := R_MO) (rest := [.int (-3)]) ⟨hx, hb, hml, hown, hts⟩ (c_MO_together_n l dC dI cI cJ cZ ma.o ma.fF ma.fG ma.fT ma.fN ma.fW ma.fO ma.fB ma.fS ma.fD th be bz sz nd ar F' G' P (by first | assumption | omega) (by first | assumption | omega) (by first | assumption | omega) (by first | assumption | omega) (by first | assumption | omega) Nm x (by first | assumption | omega) (by first | assumption | omega) y (by first | assumption | omega) (by first | assumption | omega) (by first | assumption | omega)) wml_LW_83 wim_MO_together wsel_MO_together wini_MO wcode_MO_together (by decide +kernel) ⟨Nat.le_of_ble_eq_true rfl, Nat.le_of_ble_eq_true rfl⟩ (preV_M (q := (R_MO, F_MO, 15)) (ci := 7) (q0 := 0) (hP.sub (ws' := [(ma.o, .inr (7, [.int th, .int (nI nd), .int (nI ar), .ref ma.fF, .ref ma.fG, .ref ma.fT, .ref ma.fN, .ref ma.fW, .int be, .ref ma.fO, .ref ma.fB, .int bz, .ref ma.fS, .ref ma.fD, .int sz])), (ma.fF, .inl (cI, 41, .inl (nF F'))), (ma.fG, .inl (cI, 41, .inl (nF G'))), (ma.fT, .inl (cZ, 41, .inl (bF P))), (ma.fN, .inl (cI, 14, .inl Nm))]) [30, 31, 32, 33, 34] rfl) hK (hD.sub (ws' := [(ma.o, .inr (7, [.int th, .int (nI nd), .int (nI ar), .ref ma.fF, .ref ma.fG, .ref ma.fT, .ref ma.fN, .ref ma.fW, .int be, .ref ma.fO, .ref ma.fB, .int bz, .ref ma.fS, .ref ma.fD, .int sz])), (ma.fF, .inl (cI, 41, .inl (nF F'))), (ma.fG, .inl (cI, 41, .inl (nF G'))), (ma.fT, .inl (cZ, 41, .inl (bF P))), (ma.fN, .inl (cI, 14, .inl Nm))]) [30, 31, 32, 33, 34] (by decide) rfl) rfl rfl) rfl hl.1 rfl (Nat.le_of_ble_eq_true rfl) d_LW_law_555 ⟨hRc, hRs⟩) hP hD hS [30, 31, 32, 33, 34] rfl (fun _ => rfl) (fun r_9 u_9 H locs hu_9 hP hS => ?_)
        obtain ⟨N9_9, rfl⟩ : ∃ z, z = u_9 := ⟨_, rfl⟩
        have hP : va_P (dC, dI) cls (WL cI cJ cZ ca ma ⟨nd, ar, pr, F, G, N, Fm, Rs, A, z, Se, al, br, N2, Fm2, Rs2, A2, zi2, S2, al2, br2, Cr, Op, Bf, sn, Ld, zi, Sg, Pi, Bo, pci, Gd, gci, bl0⟩ ⟨(nI 0), nd, ar, be, bz, sz, F', G', P, N9_9, Wm, Td, Ob, Sp, D⟩) H := hP
        have hD := hD.addr (ws' := (WL cI cJ cZ ca ma ⟨nd, ar, pr, F, G, N, Fm, Rs, A, z, Se, al, br, N2, Fm2, Rs2, A2, zi2, S2, al2, br2, Cr, Op, Bf, sn, Ld, zi, Sg, Pi, Bo, pci, Gd, gci, bl0⟩ ⟨(nI 0), nd, ar, be, bz, sz, F', G', P, N9_9, Wm, Td, Ob, Sp, D⟩)) rfl
        have hag : r_9 = (-3) := hu_9
        refine xe_i (y := (-3)) hag ?_
        refine lv_icmp_eq (tgt := 609) hx hb d_LW_law_558 (by decide) (fun _ => ?_) (fun q9 => absurd rfl q9)
        exact kk ⟨nd, ar, pr, F, G, N, Fm, Rs, A, z, Se, al, br, N2, Fm2, Rs2, A2, zi2, S2, al2, br2, Cr, Op, Bf, sn, Ld, zi, Sg, Pi, Bo, pci, Gd, gci, bl0⟩ ⟨(nI 0), nd, ar, be, bz, sz, F', G', P, N9_9, Wm, Td, Ob, Sp, D⟩ H locs ⟨hGA, hSK, hB0, rfl, rfl, hF, hG, hLK, hTd⟩ hP hD hS
      · skip
        have hnb : abR ar nd P F' G' x y := ((hbk y).mp hf).2.2
        by_cases h14 : cn (lb (Se i0)) 64 ≤ 14
        · skip
          have h14m := h14
          rw [hcn] at h14m
          rw [ex, ey]
          refine x_ci (k_V (n := 2) (C := R_CP) (rest := []) ⟨hx, hb, hml, hown, hts⟩ (c_CP_together_k l dC dI cI cJ cZ ca.cp ca.g ca.k ca.k2 ca.fl ca.co ca.sp ca.a1 ca.a2 nd ar pr F G (by first | assumption | omega) ca.nr ca.fr ca.rs ca.at_ ca.h al br N Fm A ca.b1 z Se (by first | assumption | omega) ca.gg ca.pi ca.bo ca.gd pci gci bl0 ca.gs zi Sg Pi Bo Gd (by first | assumption | omega) x (by first | assumption | omega) (by first | assumption | omega) y (by first | assumption | omega) (by first | assumption | omega) i0 (by first | assumption | omega) (by first | assumption | omega) (by first | assumption | omega) (by first | assumption | omega)) wml_LW_80 wim_CP_together wsel_CP_together wini_CP wcode_CP_together (by decide +kernel) ⟨Nat.le_of_ble_eq_true rfl, Nat.le_of_ble_eq_true rfl⟩ (preV_M (q := (R_CP, F_CP, 6)) (ci := 0) (q0 := 0) (hP.sub (ws' := [(ca.cp, .inr (0, [.ref ca.g, .ref ca.k, .ref ca.k2, .ref ca.fl, .ref ca.co, .ref ca.sp])), (ca.g, .inr (1, [.ref ca.a1, .ref ca.a2, .int (nI nd), .int (nI ar), .long pr])), (ca.k, .inr (2, [.ref ca.nr, .ref ca.fr, .ref ca.rs, .ref ca.at_, .ref ca.h, .int al, .long br])), (ca.h, .inr (3, [.ref ca.b1, .int (nI z)])), (ca.b1, .inl (cJ, 41, .inr (.inl Se))), (ca.at_, .inl (cJ, 14, .inr (.inl A))), (ca.sp, .inr (6, [.ref ca.gg, .ref ca.pi, .ref ca.bo, .int pci, .ref ca.gd, .int gci, .long bl0])), (ca.gg, .inr (3, [.ref ca.gs, .int zi])), (ca.gs, .inl (cJ, 41, .inr (.inl Sg))), (ca.pi, .inl (cJ, 1274, .inr (.inl Pi))), (ca.bo, .inl (cI, 92, .inl (nF Bo))), (ca.gd, .inl (cJ, 14, .inr (.inl Gd)))]) [0, 1, 4, 9, 10, 8, 24, 25, 26, 27, 28, 29] rfl) hK (hD.sub (ws' := [(ca.cp, .inr (0, [.ref ca.g, .ref ca.k, .ref ca.k2, .ref ca.fl, .ref ca.co, .ref ca.sp])), (ca.g, .inr (1, [.ref ca.a1, .ref ca.a2, .int (nI nd), .int (nI ar), .long pr])), (ca.k, .inr (2, [.ref ca.nr, .ref ca.fr, .ref ca.rs, .ref ca.at_, .ref ca.h, .int al, .long br])), (ca.h, .inr (3, [.ref ca.b1, .int (nI z)])), (ca.b1, .inl (cJ, 41, .inr (.inl Se))), (ca.at_, .inl (cJ, 14, .inr (.inl A))), (ca.sp, .inr (6, [.ref ca.gg, .ref ca.pi, .ref ca.bo, .int pci, .ref ca.gd, .int gci, .long bl0])), (ca.gg, .inr (3, [.ref ca.gs, .int zi])), (ca.gs, .inl (cJ, 41, .inr (.inl Sg))), (ca.pi, .inl (cJ, 1274, .inr (.inl Pi))), (ca.bo, .inl (cI, 92, .inl (nF Bo))), (ca.gd, .inl (cJ, 14, .inr (.inl Gd)))]) [0, 1, 4, 9, 10, 8, 24, 25, 26, 27, 28, 29] (by decide) rfl) rfl rfl) rfl hl.1 rfl (Nat.le_of_ble_eq_true rfl) d_LW_law_541 ⟨hRc, hRs⟩) hP hD hS [0, 1, 4, 9, 10, 8, 24, 25, 26, 27, 28, 29] rfl (fun _ => rfl) (fun r_10 u_10 H locs hu_10 hP hS => ?_)
          obtain ⟨pc9_10, gc9_10, zi9_10, S9_10, Pi9_10, Bo9_10, Gd9_10⟩ := u_10
          have hP : va_P (dC, dI) cls (WL cI cJ cZ ca ma ⟨nd, ar, pr, F, G, N, Fm, Rs, A, z, Se, al, br, N2, Fm2, Rs2, A2, zi2, S2, al2, br2, Cr, Op, Bf, sn, Ld, zi9_10, S9_10, Pi9_10, Bo9_10, (nI pc9_10), Gd9_10, (nI gc9_10), (Se i0)⟩ ⟨th, nd, ar, be, bz, sz, F', G', P, Nm, Wm, Td, Ob, Sp, D⟩) H := hP
          have hD := hD.addr (ws' := (WL cI cJ cZ ca ma ⟨nd, ar, pr, F, G, N, Fm, Rs, A, z, Se, al, br, N2, Fm2, Rs2, A2, zi2, S2, al2, br2, Cr, Op, Bf, sn, Ld, zi9_10, S9_10, Pi9_10, Bo9_10, (nI pc9_10), Gd9_10, (nI gc9_10), (Se i0)⟩ ⟨th, nd, ar, be, bz, sz, F', G', P, Nm, Wm, Td, Ob, Sp, D⟩)) rfl
          refine lv_aload_n hx hb d_LW_law_544 rfl (lv_at hl 2 rfl) ?_
          refine lv_aload_n hx hb d_LW_law_545 rfl (lv_at hl 0 rfl) ?_
          refine lv_iload_n hx hb d_LW_law_546 rfl (lv_at hl 3 rfl) ?_
          refine lv_iconst (v := (nI 1)) hx hb d_LW_law_547 (by decide) ?_
          refine lv_iadd hx hb d_LW_law_548 ?_
          refine xe_i (nI_add _ _) ?_
          refine x_sld hx hb hX hbl hbA hS (by omega) hL d_LW_law_549 ?_
          refine lv_aload_n hx hb d_LW_law_550 rfl (lv_at hl 0 rfl) ?_
          refine lv_iload_n hx hb d_LW_law_551 rfl (lv_at hl 3 rfl) ?_
          refine lv_iconst (v := (nI 2)) hx hb d_LW_law_552 (by decide) ?_
          refine lv_iadd hx hb d_LW_law_553 ?_
          refine xe_i (nI_add _ _) ?_
          refine x_sld hx hb hX hbl hbA hS (by omega) hL d_LW_law_554 ?_
          rw [ex, ey]
          refine x_ci (k_V (n := 2) (C := R_MO) (rest := [.int r_10]) ⟨hx, hb, hml, hown, hts⟩ (c_MO_together_k l dC dI cI cJ cZ ma.o ma.fF ma.fG ma.fT ma.fN ma.fW ma.fO ma.fB ma.fS ma.fD th be bz sz nd ar F' G' P (by first | assumption | omega) (by first | assumption | omega) (by first | assumption | omega) (by first | assumption | omega) (by first | assumption | omega) Ob Sp D Nm x (by first | assumption | omega) (by first | assumption | omega) y (by first | assumption | omega) (by first | assumption | omega) (by first | assumption | omega) (by first | assumption | omega)) wml_LW_83 wim_MO_together wsel_MO_together wini_MO wcode_MO_together (by decide +kernel) ⟨Nat.le_of_ble_eq_true rfl, Nat.le_of_ble_eq_true rfl⟩ (preV_M (q := (R_MO, F_MO, 15)) (ci := 7) (q0 := 0) (hP.sub (ws' := [(ma.o, .inr (7, [.int th, .int (nI nd), .int (nI ar), .ref ma.fF, .ref ma.fG, .ref ma.fT, .ref ma.fN, .ref ma.fW, .int be, .ref ma.fO, .ref ma.fB, .int bz, .ref ma.fS, .ref ma.fD, .int sz])), (ma.fF, .inl (cI, 41, .inl (nF F'))), (ma.fG, .inl (cI, 41, .inl (nF G'))), (ma.fT, .inl (cZ, 41, .inl (bF P))), (ma.fN, .inl (cI, 14, .inl Nm)), (ma.fB, .inl (cI, 41, .inl (nF Ob))), (ma.fS, .inl (cI, 8192, .inl (nF Sp))), (ma.fD, .inl (cZ, 8192, .inl (bF D)))]) [30, 31, 32, 33, 34, 37, 38, 39] rfl) hK (hD.sub (ws' := [(ma.o, .inr (7, [.int th, .int (nI nd), .int (nI ar), .ref ma.fF, .ref ma.fG, .ref ma.fT, .ref ma.fN, .ref ma.fW, .int be, .ref ma.fO, .ref ma.fB, .int bz, .ref ma.fS, .ref ma.fD, .int sz])), (ma.fF, .inl (cI, 41, .inl (nF F'))), (ma.fG, .inl (cI, 41, .inl (nF G'))), (ma.fT, .inl (cZ, 41, .inl (bF P))), (ma.fN, .inl (cI, 14, .inl Nm)), (ma.fB, .inl (cI, 41, .inl (nF Ob))), (ma.fS, .inl (cI, 8192, .inl (nF Sp))), (ma.fD, .inl (cZ, 8192, .inl (bF D)))]) [30, 31, 32, 33, 34, 37, 38, 39] (by decide) rfl) rfl rfl) rfl hl.1 rfl (Nat.le_of_ble_eq_true rfl) d_LW_law_555 ⟨hRc, hRs⟩) hP hD hS [30, 31, 32, 33, 34, 37, 38, 39] rfl (fun _ => rfl) (fun r_11 u_11 H locs hu_11 hP hS => ?_)
          obtain ⟨bz9_11, z9_11, N9_11, Ob9_11, Sp9_11, D9_11⟩ := u_11
          have hP : va_P (dC, dI) cls (WL cI cJ cZ ca ma ⟨nd, ar, pr, F, G, N, Fm, Rs, A, z, Se, al, br, N2, Fm2, Rs2, A2, zi2, S2, al2, br2, Cr, Op, Bf, sn, Ld, zi9_10, S9_10, Pi9_10, Bo9_10, (nI pc9_10), Gd9_10, (nI gc9_10), (Se i0)⟩ ⟨(nI 0), nd, ar, be, (nI bz9_11), (nI z9_11), F', G', P, N9_11, Wm, Td, Ob9_11, Sp9_11, D9_11⟩) H := hP
          have hD := hD.addr (ws' := (WL cI cJ cZ ca ma ⟨nd, ar, pr, F, G, N, Fm, Rs, A, z, Se, al, br, N2, Fm2, Rs2, A2, zi2, S2, al2, br2, Cr, Op, Bf, sn, Ld, zi9_10, S9_10, Pi9_10, Bo9_10, (nI pc9_10), Gd9_10, (nI gc9_10), (Se i0)⟩ ⟨(nI 0), nd, ar, be, (nI bz9_11), (nI z9_11), F', G', P, N9_11, Wm, Td, Ob9_11, Sp9_11, D9_11⟩)) rfl
          have hag : r_11 = r_10 := by
            obtain ⟨⟨c1, c2⟩, w9, c3, c4⟩ := hu_10
            obtain ⟨⟨d1, d2, d3, d4⟩, q1, q2, d5, d6, d7, d8, d9⟩ := hu_11
            rw [d9, c4, tog_eq hLK hSK hxn hxl hi0 he c1 c2 d1 d2 d3 d4 c3 d5 d6 d7 d8]
          refine xe_i (y := r_10) hag ?_
          refine lv_icmp_eq (tgt := 609) hx hb d_LW_law_558 (by decide) (fun _ => ?_) (fun q9 => absurd rfl q9)
          exact kk ⟨nd, ar, pr, F, G, N, Fm, Rs, A, z, Se, al, br, N2, Fm2, Rs2, A2, zi2, S2, al2, br2, Cr, Op, Bf, sn, Ld, zi9_10, S9_10, Pi9_10, Bo9_10, (nI pc9_10), Gd9_10, (nI gc9_10), (Se i0)⟩ ⟨(nI 0), nd, ar, be, (nI bz9_11), (nI z9_11), F', G', P, N9_11, Wm, Td, Ob9_11, Sp9_11, D9_11⟩ H locs ⟨hGA, hSK, hu_10.1.1.b0, rfl, rfl, hF, hG, hLK, hTd⟩ hP hD hS
        · skip
          have h15 : 14 < cn (lb (Se i0)) 64 := by omega
          have h15m := h15
          rw [hcn] at h15m
          rw [ex, ey]
          refine vp_callSi (va_Run.run (k_V (n := 2) (C := R_CP) (rest := []) ⟨hx, hb, hml, hown, hts⟩ (c_CP_together_l l dC dI cI cJ cZ ca.cp ca.g ca.k ca.k2 ca.fl ca.co ca.sp ca.a1 ca.a2 nd ar pr F G (by first | assumption | omega) ca.nr ca.fr ca.rs ca.at_ ca.h al br N Fm A ca.b1 z Se (by first | assumption | omega) x (by first | assumption | omega) (by first | assumption | omega) y (by first | assumption | omega) (by first | assumption | omega) i0 (by first | assumption | omega) (by first | assumption | omega) (by first | assumption | omega) (by first | assumption | omega)) wml_LW_80 wim_CP_together wsel_CP_together wini_CP wcode_CP_together (by decide +kernel) ⟨Nat.le_of_ble_eq_true rfl, Nat.le_of_ble_eq_true rfl⟩ (preV_R (q := (R_CP, F_CP, 6)) (ci := 0) (q0 := 0) (hP.sub (ws' := [(ca.cp, .inr (0, [.ref ca.g, .ref ca.k, .ref ca.k2, .ref ca.fl, .ref ca.co, .ref ca.sp])), (ca.g, .inr (1, [.ref ca.a1, .ref ca.a2, .int (nI nd), .int (nI ar), .long pr])), (ca.k, .inr (2, [.ref ca.nr, .ref ca.fr, .ref ca.rs, .ref ca.at_, .ref ca.h, .int al, .long br])), (ca.h, .inr (3, [.ref ca.b1, .int (nI z)])), (ca.b1, .inl (cJ, 41, .inr (.inl Se)))]) [0, 1, 4, 9, 10] rfl) hK rfl rfl) rfl hl.1 rfl (Nat.le_of_ble_eq_true rfl) d_LW_law_541 ⟨hRc, hRs⟩)) (fun r_12 hr_13 => ?_)
          refine xe_i (y := (-4)) hr_13 ?_
          refine lv_aload_n hx hb d_LW_law_544 rfl (lv_at hl 2 rfl) ?_
          refine lv_aload_n hx hb d_LW_law_545 rfl (lv_at hl 0 rfl) ?_
          refine lv_iload_n hx hb d_LW_law_546 rfl (lv_at hl 3 rfl) ?_
          refine lv_iconst (v := (nI 1)) hx hb d_LW_law_547 (by decide) ?_
          refine lv_iadd hx hb d_LW_law_548 ?_
          refine xe_i (nI_add _ _) ?_
          refine x_sld hx hb hX hbl hbA hS (by omega) hL d_LW_law_549 ?_
          refine lv_aload_n hx hb d_LW_law_550 rfl (lv_at hl 0 rfl) ?_
          refine lv_iload_n hx hb d_LW_law_551 rfl (lv_at hl 3 rfl) ?_
          refine lv_iconst (v := (nI 2)) hx hb d_LW_law_552 (by decide) ?_
          refine lv_iadd hx hb d_LW_law_553 ?_
          refine xe_i (nI_add _ _) ?_
          refine x_sld hx hb hX hbl hbA hS (by omega) hL d_LW_law_554 ?_
          rw [ex, ey]
          refine x_ci (k_V (n := 2) (C := R_MO) (rest := [.int (-4)]) ⟨hx, hb, hml, hown, hts⟩ (c_MO_together_l l dC dI cI cJ cZ ma.o ma.fF ma.fG ma.fT ma.fN ma.fW ma.fO ma.fB ma.fS ma.fD th be bz sz nd ar F' G' P (by first | assumption | omega) (by first | assumption | omega) (by first | assumption | omega) (by first | assumption | omega) (by first | assumption | omega) Ob Nm x (by first | assumption | omega) (by first | assumption | omega) y (by first | assumption | omega) (by first | assumption | omega) (by first | assumption | omega) (by first | assumption | omega)) wml_LW_83 wim_MO_together wsel_MO_together wini_MO wcode_MO_together (by decide +kernel) ⟨Nat.le_of_ble_eq_true rfl, Nat.le_of_ble_eq_true rfl⟩ (preV_M (q := (R_MO, F_MO, 15)) (ci := 7) (q0 := 0) (hP.sub (ws' := [(ma.o, .inr (7, [.int th, .int (nI nd), .int (nI ar), .ref ma.fF, .ref ma.fG, .ref ma.fT, .ref ma.fN, .ref ma.fW, .int be, .ref ma.fO, .ref ma.fB, .int bz, .ref ma.fS, .ref ma.fD, .int sz])), (ma.fF, .inl (cI, 41, .inl (nF F'))), (ma.fG, .inl (cI, 41, .inl (nF G'))), (ma.fT, .inl (cZ, 41, .inl (bF P))), (ma.fN, .inl (cI, 14, .inl Nm)), (ma.fB, .inl (cI, 41, .inl (nF Ob)))]) [30, 31, 32, 33, 34, 37] rfl) hK (hD.sub (ws' := [(ma.o, .inr (7, [.int th, .int (nI nd), .int (nI ar), .ref ma.fF, .ref ma.fG, .ref ma.fT, .ref ma.fN, .ref ma.fW, .int be, .ref ma.fO, .ref ma.fB, .int bz, .ref ma.fS, .ref ma.fD, .int sz])), (ma.fF, .inl (cI, 41, .inl (nF F'))), (ma.fG, .inl (cI, 41, .inl (nF G'))), (ma.fT, .inl (cZ, 41, .inl (bF P))), (ma.fN, .inl (cI, 14, .inl Nm)), (ma.fB, .inl (cI, 41, .inl (nF Ob)))]) [30, 31, 32, 33, 34, 37] (by decide) rfl) rfl rfl) rfl hl.1 rfl (Nat.le_of_ble_eq_true rfl) d_LW_law_555 ⟨hRc, hRs⟩) hP hD hS [30, 31, 32, 33, 34, 37] rfl (fun _ => rfl) (fun r_14 u_14 H locs hu_14 hP hS => ?_)
          obtain ⟨bz9_14, N9_14, Ob9_14⟩ := u_14
          have hP : va_P (dC, dI) cls (WL cI cJ cZ ca ma ⟨nd, ar, pr, F, G, N, Fm, Rs, A, z, Se, al, br, N2, Fm2, Rs2, A2, zi2, S2, al2, br2, Cr, Op, Bf, sn, Ld, zi, Sg, Pi, Bo, pci, Gd, gci, bl0⟩ ⟨(nI 0), nd, ar, be, (nI bz9_14), sz, F', G', P, N9_14, Wm, Td, Ob9_14, Sp, D⟩) H := hP
          have hD := hD.addr (ws' := (WL cI cJ cZ ca ma ⟨nd, ar, pr, F, G, N, Fm, Rs, A, z, Se, al, br, N2, Fm2, Rs2, A2, zi2, S2, al2, br2, Cr, Op, Bf, sn, Ld, zi, Sg, Pi, Bo, pci, Gd, gci, bl0⟩ ⟨(nI 0), nd, ar, be, (nI bz9_14), sz, F', G', P, N9_14, Wm, Td, Ob9_14, Sp, D⟩)) rfl
          have hag : r_14 = (-4) := hu_14
          refine xe_i (y := (-4)) hag ?_
          refine lv_icmp_eq (tgt := 609) hx hb d_LW_law_558 (by decide) (fun _ => ?_) (fun q9 => absurd rfl q9)
          exact kk ⟨nd, ar, pr, F, G, N, Fm, Rs, A, z, Se, al, br, N2, Fm2, Rs2, A2, zi2, S2, al2, br2, Cr, Op, Bf, sn, Ld, zi, Sg, Pi, Bo, pci, Gd, gci, bl0⟩ ⟨(nI 0), nd, ar, be, (nI bz9_14), sz, F', G', P, N9_14, Wm, Td, Ob9_14, Sp, D⟩ H locs ⟨hGA, hSK, hB0, rfl, rfl, hF, hG, hLK, hTd⟩ hP hD hS

set_option maxHeartbeats 8000000 in
set_option maxRecDepth 100000 in
theorem lw_splits {p : Program} {l : Launch} {e : Env} {s : State} {m : MethodId} {args : Array Value} {below : List Frame} {meth : Method} {c : Code} {H : Heap} {locs : List Loc} {Q : State → Prop} {dC : Nat → ClassId} {dI : Nat → Nat → Nat} {cI cJ cZ : ClassId} {A0 : Nat → Prop} {sc L : Nat} {xs : Nat → Int32} {ls : Array Slot} (X : LX p s m args c dC dI cI cJ cZ A0 sc L xs) {i : Nat} (hi : i + 3 ≤ L) {ca : CA} {ma : MA} {u : CS} {v : MS} (hI : LI u v) (hP : va_P (dC, dI) cls (WL cI cJ cZ ca ma u v) H) (hD : va_D A0 (WL cI cJ cZ ca ma u v)) (hS : va_S A0 s.heap H locs) (hl : lv_has ls 4 [(0, .ref sc), (1, .ref ca.cp), (2, .ref ma.o), (3, .int (nI i))])
    (kk : ∀ (u1 : CS) (v1 : MS) (H1 : Heap) (locs1 : List Loc), LI u1 v1 → va_P (dC, dI) cls (WL cI cJ cZ ca ma u1 v1) H1 → va_D A0 (WL cI cJ cZ ca ma u1 v1) → va_S A0 s.heap H1 locs1 → W p l e room_1 s m args below meth c H1 locs1 40 19226 Q (F0 m 609 ls [])) : W p l e room_1 s m args below meth c H locs 40 19226 Q (F0 m 563 ls []) := by
  obtain ⟨hx, hb, hml, hown, hts, hK, hX, hbl, hbA, hL⟩ := X
  have hRc : 40 ≤ room_1.cells := Nat.le_of_ble_eq_true rfl
  have hRs : 19226 ≤ room_1.slots := Nat.le_of_ble_eq_true rfl
  obtain ⟨nd, ar, pr, F, G, N, Fm, Rs, A, z, Se, al, br, N2, Fm2, Rs2, A2, zi2, S2, al2, br2, Cr, Op, Bf, sn, Ld, zi, Sg, Pi, Bo, pci, Gd, gci, bl0⟩ := u
  obtain ⟨th, ndm, arm, be, bz, sz, F', G', P, Nm, Wm, Td, Ob, Sp, D⟩ := v
  obtain ⟨hGA, hSK, hB0, e1, e2, hF, hG, hLK, hTd⟩ := hI
  have e1 : nd = ndm := e1
  have e2 : ar = arm := e2
  subst e1
  subst e2
  have hGA : GAR F G nd ar pr := hGA
  have hSK : SKI (lb pr) F G nd N Fm A Se z al br := hSK
  have hB0 : Bo 0 = 0 := hB0
  have hF : ∀ k, F' k < 14 := hF
  have hG : ∀ k, G' k < 14 := hG
  have hLK : LK F G pr F' G' P ar := hLK
  have hTd : ∀ k, Td k < 3 := hTd
  have hnd14 : nd ≤ 14 := hGA.1
  have har : ar ≤ 40 := hGA.2.1
  have hM := (lk_M hLK hGA).1
  have hNE := (lk_M hLK hGA).2
  refine lv_aload_n hx hb d_LW_law_563 rfl (lv_at hl 1 rfl) ?_
  refine lv_aload_n hx hb d_LW_law_564 rfl (lv_at hl 0 rfl) ?_
  refine lv_iload_n hx hb d_LW_law_565 rfl (lv_at hl 3 rfl) ?_
  refine lv_iconst (v := (nI 1)) hx hb d_LW_law_566 (by decide) ?_
  refine lv_iadd hx hb d_LW_law_567 ?_
  refine xe_i (nI_add _ _) ?_
  refine x_sld hx hb hX hbl hbA hS (by omega) hL d_LW_law_568 ?_
  refine lv_aload_n hx hb d_LW_law_569 rfl (lv_at hl 0 rfl) ?_
  refine lv_iload_n hx hb d_LW_law_570 rfl (lv_at hl 3 rfl) ?_
  refine lv_iconst (v := (nI 2)) hx hb d_LW_law_571 (by decide) ?_
  refine lv_iadd hx hb d_LW_law_572 ?_
  refine xe_i (nI_add _ _) ?_
  refine x_sld hx hb hX hbl hbA hS (by omega) hL d_LW_law_573 ?_
  cases hv : (vd (xs (i + 1)) ar && lb pr (xs (i + 1)).toNatClampNeg)
  · skip
    have hbad := hv
    have hbadP := bad_P hLK hv
    refine vp_callSi (va_Run.run (k_V (n := 2) (C := R_CP) (rest := []) ⟨hx, hb, hml, hown, hts⟩ (c_CP_splits_b l dC dI cI cJ cZ ca.cp ca.g ca.k ca.k2 ca.fl ca.co ca.sp ca.a1 ca.a2 nd ar pr (xs (i + 1)) (xs (i + 2)) (by first | assumption | omega) (by first | assumption | omega)) wml_LW_84 wim_CP_splits wsel_CP_splits wini_CP wcode_CP_splits (by decide +kernel) ⟨Nat.le_of_ble_eq_true rfl, Nat.le_of_ble_eq_true rfl⟩ (preV_R (q := (R_CP, F_CP, 6)) (ci := 0) (q0 := 0) (hP.sub (ws' := [(ca.cp, .inr (0, [.ref ca.g, .ref ca.k, .ref ca.k2, .ref ca.fl, .ref ca.co, .ref ca.sp])), (ca.g, .inr (1, [.ref ca.a1, .ref ca.a2, .int (nI nd), .int (nI ar), .long pr]))]) [0, 1] rfl) hK rfl rfl) rfl hl.1 rfl (Nat.le_of_ble_eq_true rfl) d_LW_law_574 ⟨hRc, hRs⟩)) (fun r_1 hr_2 => ?_)
    refine xe_i (y := (-1)) hr_2 ?_
    refine lv_aload_n hx hb d_LW_law_577 rfl (lv_at hl 2 rfl) ?_
    refine lv_aload_n hx hb d_LW_law_578 rfl (lv_at hl 0 rfl) ?_
    refine lv_iload_n hx hb d_LW_law_579 rfl (lv_at hl 3 rfl) ?_
    refine lv_iconst (v := (nI 1)) hx hb d_LW_law_580 (by decide) ?_
    refine lv_iadd hx hb d_LW_law_581 ?_
    refine xe_i (nI_add _ _) ?_
    refine x_sld hx hb hX hbl hbA hS (by omega) hL d_LW_law_582 ?_
    refine lv_aload_n hx hb d_LW_law_583 rfl (lv_at hl 0 rfl) ?_
    refine lv_iload_n hx hb d_LW_law_584 rfl (lv_at hl 3 rfl) ?_
    refine lv_iconst (v := (nI 2)) hx hb d_LW_law_585 (by decide) ?_
    refine lv_iadd hx hb d_LW_law_586 ?_
    refine xe_i (nI_add _ _) ?_
    refine x_sld hx hb hX hbl hbA hS (by omega) hL d_LW_law_587 ?_
    refine x_ci (k_V (n := 2) (C := R_MO) (rest := [.int (-1)]) ⟨hx, hb, hml, hown, hts⟩ (c_MO_splits_b l dC dI cI cJ cZ ma.o ma.fF ma.fG ma.fT ma.fN ma.fW ma.fO ma.fB ma.fS ma.fD th be bz sz nd ar P (xs (i + 1)) (xs (i + 2)) (by first | assumption | omega) (by first | assumption | omega)) wml_LW_87 wim_MO_splits wsel_MO_splits wini_MO wcode_MO_splits (by decide +kernel) ⟨Nat.le_of_ble_eq_true rfl, Nat.le_of_ble_eq_true rfl⟩ (preV_M (q := (R_MO, F_MO, 15)) (ci := 7) (q0 := 0) (hP.sub (ws' := [(ma.o, .inr (7, [.int th, .int (nI nd), .int (nI ar), .ref ma.fF, .ref ma.fG, .ref ma.fT, .ref ma.fN, .ref ma.fW, .int be, .ref ma.fO, .ref ma.fB, .int bz, .ref ma.fS, .ref ma.fD, .int sz])), (ma.fT, .inl (cZ, 41, .inl (bF P)))]) [30, 33] rfl) hK (hD.sub (ws' := [(ma.o, .inr (7, [.int th, .int (nI nd), .int (nI ar), .ref ma.fF, .ref ma.fG, .ref ma.fT, .ref ma.fN, .ref ma.fW, .int be, .ref ma.fO, .ref ma.fB, .int bz, .ref ma.fS, .ref ma.fD, .int sz])), (ma.fT, .inl (cZ, 41, .inl (bF P)))]) [30, 33] (by decide) rfl) rfl rfl) rfl hl.1 rfl (Nat.le_of_ble_eq_true rfl) d_LW_law_588 ⟨hRc, hRs⟩) hP hD hS [30, 33] rfl (fun _ => rfl) (fun r_3 u_3 H locs hu_3 hP hS => ?_)
    have hP : va_P (dC, dI) cls (WL cI cJ cZ ca ma ⟨nd, ar, pr, F, G, N, Fm, Rs, A, z, Se, al, br, N2, Fm2, Rs2, A2, zi2, S2, al2, br2, Cr, Op, Bf, sn, Ld, zi, Sg, Pi, Bo, pci, Gd, gci, bl0⟩ ⟨(nI 0), nd, ar, be, bz, sz, F', G', P, Nm, Wm, Td, Ob, Sp, D⟩) H := hP
    have hD := hD.addr (ws' := (WL cI cJ cZ ca ma ⟨nd, ar, pr, F, G, N, Fm, Rs, A, z, Se, al, br, N2, Fm2, Rs2, A2, zi2, S2, al2, br2, Cr, Op, Bf, sn, Ld, zi, Sg, Pi, Bo, pci, Gd, gci, bl0⟩ ⟨(nI 0), nd, ar, be, bz, sz, F', G', P, Nm, Wm, Td, Ob, Sp, D⟩)) rfl
    have hag : r_3 = (-1) := hu_3
    refine xe_i (y := (-1)) hag ?_
    refine lv_icmp_eq (tgt := 609) hx hb d_LW_law_591 (by decide) (fun _ => ?_) (fun q9 => absurd rfl q9)
    exact kk ⟨nd, ar, pr, F, G, N, Fm, Rs, A, z, Se, al, br, N2, Fm2, Rs2, A2, zi2, S2, al2, br2, Cr, Op, Bf, sn, Ld, zi, Sg, Pi, Bo, pci, Gd, gci, bl0⟩ ⟨(nI 0), nd, ar, be, bz, sz, F', G', P, Nm, Wm, Td, Ob, Sp, D⟩ H locs ⟨hGA, hSK, hB0, rfl, rfl, hF, hG, hLK, hTd⟩ hP hD hS
  · skip
    obtain ⟨x, hxn, ex, hxl⟩ := ok_P hv har
    have hPx : P x = true := (lk_P hLK hxn).trans hxl
    rcases spl_cases (xs (i + 2)) with ey | ey | ey | ey | hout
    · skip
      obtain ⟨i0, hi0, he⟩ := blk_ex hLK hSK hxn hxl
      have hcn := blk_cn hLK hSK hxn hxl hi0 he
      rw [ex, ey]
      refine vp_callSi (va_Run.run (k_V (n := 2) (C := R_CP) (rest := []) ⟨hx, hb, hml, hown, hts⟩ (c_CP_splits_0 l dC dI cI cJ cZ ca.cp ca.g ca.k ca.k2 ca.fl ca.co ca.sp ca.a1 ca.a2 nd ar pr F G (by first | assumption | omega) ca.nr ca.fr ca.rs ca.at_ ca.h al br N Fm A ca.b1 z Se (by first | assumption | omega) x (by first | assumption | omega) (by first | assumption | omega) i0 (by first | assumption | omega) (by first | assumption | omega)) wml_LW_84 wim_CP_splits wsel_CP_splits wini_CP wcode_CP_splits (by decide +kernel) ⟨Nat.le_of_ble_eq_true rfl, Nat.le_of_ble_eq_true rfl⟩ (preV_R (q := (R_CP, F_CP, 6)) (ci := 0) (q0 := 0) (hP.sub (ws' := [(ca.cp, .inr (0, [.ref ca.g, .ref ca.k, .ref ca.k2, .ref ca.fl, .ref ca.co, .ref ca.sp])), (ca.g, .inr (1, [.ref ca.a1, .ref ca.a2, .int (nI nd), .int (nI ar), .long pr])), (ca.k, .inr (2, [.ref ca.nr, .ref ca.fr, .ref ca.rs, .ref ca.at_, .ref ca.h, .int al, .long br])), (ca.h, .inr (3, [.ref ca.b1, .int (nI z)])), (ca.b1, .inl (cJ, 41, .inr (.inl Se)))]) [0, 1, 4, 9, 10] rfl) hK rfl rfl) rfl hl.1 rfl (Nat.le_of_ble_eq_true rfl) d_LW_law_574 ⟨hRc, hRs⟩)) (fun r_4 hr_5 => ?_)
      refine xe_i (y := (nI (cn (lb (Se i0)) 64))) hr_5 ?_
      refine lv_aload_n hx hb d_LW_law_577 rfl (lv_at hl 2 rfl) ?_
      refine lv_aload_n hx hb d_LW_law_578 rfl (lv_at hl 0 rfl) ?_
      refine lv_iload_n hx hb d_LW_law_579 rfl (lv_at hl 3 rfl) ?_
      refine lv_iconst (v := (nI 1)) hx hb d_LW_law_580 (by decide) ?_
      refine lv_iadd hx hb d_LW_law_581 ?_
      refine xe_i (nI_add _ _) ?_
      refine x_sld hx hb hX hbl hbA hS (by omega) hL d_LW_law_582 ?_
      refine lv_aload_n hx hb d_LW_law_583 rfl (lv_at hl 0 rfl) ?_
      refine lv_iload_n hx hb d_LW_law_584 rfl (lv_at hl 3 rfl) ?_
      refine lv_iconst (v := (nI 2)) hx hb d_LW_law_585 (by decide) ?_
      refine lv_iadd hx hb d_LW_law_586 ?_
      refine xe_i (nI_add _ _) ?_
      refine x_sld hx hb hX hbl hbA hS (by omega) hL d_LW_law_587 ?_
      rw [ex, ey]
      refine x_ci (k_V (n := 2) (C := R_MO) (rest := [.int (nI (cn (lb (Se i0)) 64))]) ⟨hx, hb, hml, hown, hts⟩ (c_MO_splits_0 l dC dI cI cJ cZ ma.o ma.fF ma.fG ma.fT ma.fN ma.fW ma.fO ma.fB ma.fS ma.fD th be bz sz nd ar F' G' P (by first | assumption | omega) (by first | assumption | omega) (by first | assumption | omega) (by first | assumption | omega) (by first | assumption | omega) Ob Nm x (by first | assumption | omega) (by first | assumption | omega)) wml_LW_87 wim_MO_splits wsel_MO_splits wini_MO wcode_MO_splits (by decide +kernel) ⟨Nat.le_of_ble_eq_true rfl, Nat.le_of_ble_eq_true rfl⟩ (preV_M (q := (R_MO, F_MO, 15)) (ci := 7) (q0 := 0) (hP.sub (ws' := [(ma.o, .inr (7, [.int th, .int (nI nd), .int (nI ar), .ref ma.fF, .ref ma.fG, .ref ma.fT, .ref ma.fN, .ref ma.fW, .int be, .ref ma.fO, .ref ma.fB, .int bz, .ref ma.fS, .ref ma.fD, .int sz])), (ma.fF, .inl (cI, 41, .inl (nF F'))), (ma.fG, .inl (cI, 41, .inl (nF G'))), (ma.fT, .inl (cZ, 41, .inl (bF P))), (ma.fN, .inl (cI, 14, .inl Nm)), (ma.fB, .inl (cI, 41, .inl (nF Ob)))]) [30, 31, 32, 33, 34, 37] rfl) hK (hD.sub (ws' := [(ma.o, .inr (7, [.int th, .int (nI nd), .int (nI ar), .ref ma.fF, .ref ma.fG, .ref ma.fT, .ref ma.fN, .ref ma.fW, .int be, .ref ma.fO, .ref ma.fB, .int bz, .ref ma.fS, .ref ma.fD, .int sz])), (ma.fF, .inl (cI, 41, .inl (nF F'))), (ma.fG, .inl (cI, 41, .inl (nF G'))), (ma.fT, .inl (cZ, 41, .inl (bF P))), (ma.fN, .inl (cI, 14, .inl Nm)), (ma.fB, .inl (cI, 41, .inl (nF Ob)))]) [30, 31, 32, 33, 34, 37] (by decide) rfl) rfl rfl) rfl hl.1 rfl (Nat.le_of_ble_eq_true rfl) d_LW_law_588 ⟨hRc, hRs⟩) hP hD hS [30, 31, 32, 33, 34, 37] rfl (fun _ => rfl) (fun r_6 u_6 H locs hu_6 hP hS => ?_)
      obtain ⟨bz9_6, N9_6, Ob9_6⟩ := u_6
      have hP : va_P (dC, dI) cls (WL cI cJ cZ ca ma ⟨nd, ar, pr, F, G, N, Fm, Rs, A, z, Se, al, br, N2, Fm2, Rs2, A2, zi2, S2, al2, br2, Cr, Op, Bf, sn, Ld, zi, Sg, Pi, Bo, pci, Gd, gci, bl0⟩ ⟨(nI 0), nd, ar, be, (nI bz9_6), sz, F', G', P, N9_6, Wm, Td, Ob9_6, Sp, D⟩) H := hP
      have hD := hD.addr (ws' := (WL cI cJ cZ ca ma ⟨nd, ar, pr, F, G, N, Fm, Rs, A, z, Se, al, br, N2, Fm2, Rs2, A2, zi2, S2, al2, br2, Cr, Op, Bf, sn, Ld, zi, Sg, Pi, Bo, pci, Gd, gci, bl0⟩ ⟨(nI 0), nd, ar, be, (nI bz9_6), sz, F', G', P, N9_6, Wm, Td, Ob9_6, Sp, D⟩)) rfl
      have hag : r_6 = (nI (cn (lb (Se i0)) 64)) := hu_6.trans (congrArg nI hcn.symm)
      refine xe_i (y := (nI (cn (lb (Se i0)) 64))) hag ?_
      refine lv_icmp_eq (tgt := 609) hx hb d_LW_law_591 (by decide) (fun _ => ?_) (fun q9 => absurd rfl q9)
      exact kk ⟨nd, ar, pr, F, G, N, Fm, Rs, A, z, Se, al, br, N2, Fm2, Rs2, A2, zi2, S2, al2, br2, Cr, Op, Bf, sn, Ld, zi, Sg, Pi, Bo, pci, Gd, gci, bl0⟩ ⟨(nI 0), nd, ar, be, (nI bz9_6), sz, F', G', P, N9_6, Wm, Td, Ob9_6, Sp, D⟩ H locs ⟨hGA, hSK, hB0, rfl, rfl, hF, hG, hLK, hTd⟩ hP hD hS
    · skip
      obtain ⟨i0, hi0, he⟩ := blk_ex hLK hSK hxn hxl
      have hcn := blk_cn hLK hSK hxn hxl hi0 he
      by_cases h14 : cn (lb (Se i0)) 64 ≤ 14
      · skip
        have h14m := h14
        rw [hcn] at h14m
        rw [ex, ey]
        refine x_ci (k_V (n := 2) (C := R_CP) (rest := []) ⟨hx, hb, hml, hown, hts⟩ (c_CP_splits_1 l dC dI cI cJ cZ ca.cp ca.g ca.k ca.k2 ca.fl ca.co ca.sp ca.a1 ca.a2 nd ar pr F G (by first | assumption | omega) ca.nr ca.fr ca.rs ca.at_ ca.h al br N Fm A ca.b1 z Se (by first | assumption | omega) ca.gg ca.pi ca.bo ca.gd pci gci bl0 ca.gs zi Sg Pi Bo Gd (by first | assumption | omega) x (by first | assumption | omega) (by first | assumption | omega) i0 (by first | assumption | omega) (by first | assumption | omega) (by first | assumption | omega)) wml_LW_84 wim_CP_splits wsel_CP_splits wini_CP wcode_CP_splits (by decide +kernel) ⟨Nat.le_of_ble_eq_true rfl, Nat.le_of_ble_eq_true rfl⟩ (preV_M (q := (R_CP, F_CP, 6)) (ci := 0) (q0 := 0) (hP.sub (ws' := [(ca.cp, .inr (0, [.ref ca.g, .ref ca.k, .ref ca.k2, .ref ca.fl, .ref ca.co, .ref ca.sp])), (ca.g, .inr (1, [.ref ca.a1, .ref ca.a2, .int (nI nd), .int (nI ar), .long pr])), (ca.k, .inr (2, [.ref ca.nr, .ref ca.fr, .ref ca.rs, .ref ca.at_, .ref ca.h, .int al, .long br])), (ca.h, .inr (3, [.ref ca.b1, .int (nI z)])), (ca.b1, .inl (cJ, 41, .inr (.inl Se))), (ca.at_, .inl (cJ, 14, .inr (.inl A))), (ca.sp, .inr (6, [.ref ca.gg, .ref ca.pi, .ref ca.bo, .int pci, .ref ca.gd, .int gci, .long bl0])), (ca.gg, .inr (3, [.ref ca.gs, .int zi])), (ca.gs, .inl (cJ, 41, .inr (.inl Sg))), (ca.pi, .inl (cJ, 1274, .inr (.inl Pi))), (ca.bo, .inl (cI, 92, .inl (nF Bo))), (ca.gd, .inl (cJ, 14, .inr (.inl Gd)))]) [0, 1, 4, 9, 10, 8, 24, 25, 26, 27, 28, 29] rfl) hK (hD.sub (ws' := [(ca.cp, .inr (0, [.ref ca.g, .ref ca.k, .ref ca.k2, .ref ca.fl, .ref ca.co, .ref ca.sp])), (ca.g, .inr (1, [.ref ca.a1, .ref ca.a2, .int (nI nd), .int (nI ar), .long pr])), (ca.k, .inr (2, [.ref ca.nr, .ref ca.fr, .ref ca.rs, .ref ca.at_, .ref ca.h, .int al, .long br])), (ca.h, .inr (3, [.ref ca.b1, .int (nI z)])), (ca.b1, .inl (cJ, 41, .inr (.inl Se))), (ca.at_, .inl (cJ, 14, .inr (.inl A))), (ca.sp, .inr (6, [.ref ca.gg, .ref ca.pi, .ref ca.bo, .int pci, .ref ca.gd, .int gci, .long bl0])), (ca.gg, .inr (3, [.ref ca.gs, .int zi])), (ca.gs, .inl (cJ, 41, .inr (.inl Sg))), (ca.pi, .inl (cJ, 1274, .inr (.inl Pi))), (ca.bo, .inl (cI, 92, .inl (nF Bo))), (ca.gd, .inl (cJ, 14, .inr (.inl Gd)))]) [0, 1, 4, 9, 10, 8, 24, 25, 26, 27, 28, 29] (by decide) rfl) rfl rfl) rfl hl.1 rfl (Nat.le_of_ble_eq_true rfl) d_LW_law_574 ⟨hRc, hRs⟩) hP hD hS [0, 1, 4, 9, 10, 8, 24, 25, 26, 27, 28, 29] rfl (fun _ => rfl) (fun r_7 u_7 H locs hu_7 hP hS => ?_)
        obtain ⟨pc9_7, gc9_7, zi9_7, S9_7, Pi9_7, Bo9_7, Gd9_7⟩ := u_7
        have hP : va_P (dC, dI) cls (WL cI cJ cZ ca ma ⟨nd, ar, pr, F, G, N, Fm, Rs, A, z, Se, al, br, N2, Fm2, Rs2, A2, zi2, S2, al2, br2, Cr, Op, Bf, sn, Ld, zi9_7, S9_7, Pi9_7, Bo9_7, (nI pc9_7), Gd9_7, (nI gc9_7), (Se i0)⟩ ⟨th, nd, ar, be, bz, sz, F', G', P, Nm, Wm, Td, Ob, Sp, D⟩) H := hP
        have hD := hD.addr (ws' := (WL cI cJ cZ ca ma ⟨nd, ar, pr, F, G, N, Fm, Rs, A, z, Se, al, br, N2, Fm2, Rs2, A2, zi2, S2, al2, br2, Cr, Op, Bf, sn, Ld, zi9_7, S9_7, Pi9_7, Bo9_7, (nI pc9_7), Gd9_7, (nI gc9_7), (Se i0)⟩ ⟨th, nd, ar, be, bz, sz, F', G', P, Nm, Wm, Td, Ob, Sp, D⟩)) rfl
        refine lv_aload_n hx hb d_LW_law_577 rfl (lv_at hl 2 rfl) ?_
        refine lv_aload_n hx hb d_LW_law_578 rfl (lv_at hl 0 rfl) ?_
        refine lv_iload_n hx hb d_LW_law_579 rfl (lv_at hl 3 rfl) ?_
        refine lv_iconst (v := (nI 1)) hx hb d_LW_law_580 (by decide) ?_
        refine lv_iadd hx hb d_LW_law_581 ?_
        refine xe_i (nI_add _ _) ?_
        refine x_sld hx hb hX hbl hbA hS (by omega) hL d_LW_law_582 ?_
        refine lv_aload_n hx hb d_LW_law_583 rfl (lv_at hl 0 rfl) ?_
        refine lv_iload_n hx hb d_LW_law_584 rfl (lv_at hl 3 rfl) ?_
        refine lv_iconst (v := (nI 2)) hx hb d_LW_law_585 (by decide) ?_
        refine lv_iadd hx hb d_LW_law_586 ?_
        refine xe_i (nI_add _ _) ?_
        refine x_sld hx hb hX hbl hbA hS (by omega) hL d_LW_law_587 ?_
        rw [ex, ey]
        refine x_ci (k_V (n := 2) (C := R_MO) (rest := [.int r_7]) ⟨hx, hb, hml, hown, hts⟩ (c_MO_splits_1 l dC dI cI cJ cZ ma.o ma.fF ma.fG ma.fT ma.fN ma.fW ma.fO ma.fB ma.fS ma.fD th be bz sz nd ar F' G' P (by first | assumption | omega) (by first | assumption | omega) (by first | assumption | omega) (by first | assumption | omega) (by first | assumption | omega) Ob Sp D Nm x (by first | assumption | omega) (by first | assumption | omega) (by first | assumption | omega)) wml_LW_87 wim_MO_splits wsel_MO_splits wini_MO wcode_MO_splits (by decide +kernel) ⟨Nat.le_of_ble_eq_true rfl, Nat.le_of_ble_eq_true rfl⟩ (preV_M (q := (R_MO, F_MO, 15)) (ci := 7) (q0 := 0) (hP.sub (ws' := [(ma.o, .inr (7, [.int th, .int (nI nd), .int (nI ar), .ref ma.fF, .ref ma.fG, .ref ma.fT, .ref ma.fN, .ref ma.fW, .int be, .ref ma.fO, .ref ma.fB, .int bz, .ref ma.fS, .ref ma.fD, .int sz])), (ma.fF, .inl (cI, 41, .inl (nF F'))), (ma.fG, .inl (cI, 41, .inl (nF G'))), (ma.fT, .inl (cZ, 41, .inl (bF P))), (ma.fN, .inl (cI, 14, .inl Nm)), (ma.fB, .inl (cI, 41, .inl (nF Ob))), (ma.fS, .inl (cI, 8192, .inl (nF Sp))), (ma.fD, .inl (cZ, 8192, .inl (bF D)))]) [30, 31, 32, 33, 34, 37, 38, 39] rfl) hK (hD.sub (ws' := [(ma.o, .inr (7, [.int th, .int (nI nd), .int (nI ar), .ref ma.fF, .ref ma.fG, .ref ma.fT, .ref ma.fN, .ref ma.fW, .int be, .ref ma.fO, .ref ma.fB, .int bz, .ref ma.fS, .ref ma.fD, .int sz])), (ma.fF, .inl (cI, 41, .inl (nF F'))), (ma.fG, .inl (cI, 41, .inl (nF G'))), (ma.fT, .inl (cZ, 41, .inl (bF P))), (ma.fN, .inl (cI, 14, .inl Nm)), (ma.fB, .inl (cI, 41, .inl (nF Ob))), (ma.fS, .inl (cI, 8192, .inl (nF Sp))), (ma.fD, .inl (cZ, 8192, .inl (bF D)))]) [30, 31, 32, 33, 34, 37, 38, 39] (by decide) rfl) rfl rfl) rfl hl.1 rfl (Nat.le_of_ble_eq_true rfl) d_LW_law_588 ⟨hRc, hRs⟩) hP hD hS [30, 31, 32, 33, 34, 37, 38, 39] rfl (fun _ => rfl) (fun r_8 u_8 H locs hu_8 hP hS => ?_)
        obtain ⟨bz9_8, z9_8, N9_8, Ob9_8, Sp9_8, D9_8⟩ := u_8
        have hP : va_P (dC, dI) cls (WL cI cJ cZ ca ma ⟨nd, ar, pr, F, G, N, Fm, Rs, A, z, Se, al, br, N2, Fm2, Rs2, A2, zi2, S2, al2, br2, Cr, Op, Bf, sn, Ld, zi9_7, S9_7, Pi9_7, Bo9_7, (nI pc9_7), Gd9_7, (nI gc9_7), (Se i0)⟩ ⟨(nI 0), nd, ar, be, (nI bz9_8), (nI z9_8), F', G', P, N9_8, Wm, Td, Ob9_8, Sp9_8, D9_8⟩) H := hP
        have hD := hD.addr (ws' := (WL cI cJ cZ ca ma ⟨nd, ar, pr, F, G, N, Fm, Rs, A, z, Se, al, br, N2, Fm2, Rs2, A2, zi2, S2, al2, br2, Cr, Op, Bf, sn, Ld, zi9_7, S9_7, Pi9_7, Bo9_7, (nI pc9_7), Gd9_7, (nI gc9_7), (Se i0)⟩ ⟨(nI 0), nd, ar, be, (nI bz9_8), (nI z9_8), F', G', P, N9_8, Wm, Td, Ob9_8, Sp9_8, D9_8⟩)) rfl
        have hag : r_8 = r_7 := by
          obtain ⟨c0, c1, c2⟩ := hu_7
          obtain ⟨⟨d1, d2, d3, d4⟩, d5⟩ := hu_8
          rw [d5, c0, (tog_core hLK hSK hxn hxl hi0 he c1 c2 d1 d2 d3 d4).1]
        refine xe_i (y := r_7) hag ?_
        refine lv_icmp_eq (tgt := 609) hx hb d_LW_law_591 (by decide) (fun _ => ?_) (fun q9 => absurd rfl q9)
        exact kk ⟨nd, ar, pr, F, G, N, Fm, Rs, A, z, Se, al, br, N2, Fm2, Rs2, A2, zi2, S2, al2, br2, Cr, Op, Bf, sn, Ld, zi9_7, S9_7, Pi9_7, Bo9_7, (nI pc9_7), Gd9_7, (nI gc9_7), (Se i0)⟩ ⟨(nI 0), nd, ar, be, (nI bz9_8), (nI z9_8), F', G', P, N9_8, Wm, Td, Ob9_8, Sp9_8, D9_8⟩ H locs ⟨hGA, hSK, hu_7.2.1.b0, rfl, rfl, hF, hG, hLK, hTd⟩ hP hD hS
      · skip
        have h15 : 14 < cn (lb (Se i0)) 64 := by omega
        have h15m := h15
        rw [hcn] at h15m
        rw [ex, ey]
        refine vp_callSi (va_Run.run (k_V (n := 2) (C := R_CP) (rest := []) ⟨hx, hb, hml, hown, hts⟩ (c_CP_splits_l1 l dC dI cI cJ cZ ca.cp ca.g ca.k ca.k2 ca.fl ca.co ca.sp ca.a1 ca.a2 nd ar pr F G (by first | assumption | omega) ca.nr ca.fr ca.rs ca.at_ ca.h al br N Fm A ca.b1 z Se (by first | assumption | omega) x (by first | assumption | omega) (by first | assumption | omega) i0 (by first | assumption | omega) (by first | assumption | omega) (by first | assumption | omega)) wml_LW_84 wim_CP_splits wsel_CP_splits wini_CP wcode_CP_splits (by decide +kernel) ⟨Nat.le_of_ble_eq_true rfl, Nat.le_of_ble_eq_true rfl⟩ (preV_R (q := (R_CP, F_CP, 6)) (ci := 0) (q0 := 0) (hP.sub (ws' := [(ca.cp, .inr (0, [.ref ca.g, .ref ca.k, .ref ca.k2, .ref ca.fl, .ref ca.co, .ref ca.sp])), (ca.g, .inr (1, [.ref ca.a1, .ref ca.a2, .int (nI nd), .int (nI ar), .long pr])), (ca.k, .inr (2, [.ref ca.nr, .ref ca.fr, .ref ca.rs, .ref ca.at_, .ref ca.h, .int al, .long br])), (ca.h, .inr (3, [.ref ca.b1, .int (nI z)])), (ca.b1, .inl (cJ, 41, .inr (.inl Se)))]) [0, 1, 4, 9, 10] rfl) hK rfl rfl) rfl hl.1 rfl (Nat.le_of_ble_eq_true rfl) d_LW_law_574 ⟨hRc, hRs⟩)) (fun r_9 hr_10 => ?_)
        refine xe_i (y := (-4)) hr_10 ?_
        refine lv_aload_n hx hb d_LW_law_577 rfl (lv_at hl 2 rfl) ?_
        refine lv_aload_n hx hb d_LW_law_578 rfl (lv_at hl 0 rfl) ?_
        refine lv_iload_n hx hb d_LW_law_579 rfl (lv_at hl 3 rfl) ?_
        refine lv_iconst (v := (nI 1)) hx hb d_LW_law_580 (by decide) ?_
        refine lv_iadd hx hb d_LW_law_581 ?_
        refine xe_i (nI_add _ _) ?_
        refine x_sld hx hb hX hbl hbA hS (by omega) hL d_LW_law_582 ?_
        refine lv_aload_n hx hb d_LW_law_583 rfl (lv_at hl 0 rfl) ?_
        refine lv_iload_n hx hb d_LW_law_584 rfl (lv_at hl 3 rfl) ?_
        refine lv_iconst (v := (nI 2)) hx hb d_LW_law_585 (by decide) ?_
        refine lv_iadd hx hb d_LW_law_586 ?_
        refine xe_i (nI_add _ _) ?_
        refine x_sld hx hb hX hbl hbA hS (by omega) hL d_LW_law_587 ?_
        rw [ex, ey]
        refine x_ci (k_V (n := 2) (C := R_MO) (rest := [.int (-4)]) ⟨hx, hb, hml, hown, hts⟩ (c_MO_splits_l1 l dC dI cI cJ cZ ma.o ma.fF ma.fG ma.fT ma.fN ma.fW ma.fO ma.fB ma.fS ma.fD th be bz sz nd ar F' G' P (by first | assumption | omega) (by first | assumption | omega) (by first | assumption | omega) (by first | assumption | omega) (by first | assumption | omega) Ob Nm x (by first | assumption | omega) (by first | assumption | omega) (by first | assumption | omega)) wml_LW_87 wim_MO_splits wsel_MO_splits wini_MO wcode_MO_splits (by decide +kernel) ⟨Nat.le_of_ble_eq_true rfl, Nat.le_of_ble_eq_true rfl⟩ (preV_M (q := (R_MO, F_MO, 15)) (ci := 7) (q0 := 0) (hP.sub (ws' := [(ma.o, .inr (7, [.int th, .int (nI nd), .int (nI ar), .ref ma.fF, .ref ma.fG, .ref ma.fT, .ref ma.fN, .ref ma.fW, .int be, .ref ma.fO, .ref ma.fB, .int bz, .ref ma.fS, .ref ma.fD, .int sz])), (ma.fF, .inl (cI, 41, .inl (nF F'))), (ma.fG, .inl (cI, 41, .inl (nF G'))), (ma.fT, .inl (cZ, 41, .inl (bF P))), (ma.fN, .inl (cI, 14, .inl Nm)), (ma.fB, .inl (cI, 41, .inl (nF Ob)))]) [30, 31, 32, 33, 34, 37] rfl) hK (hD.sub (ws' := [(ma.o, .inr (7, [.int th, .int (nI nd), .int (nI ar), .ref ma.fF, .ref ma.fG, .ref ma.fT, .ref ma.fN, .ref ma.fW, .int be, .ref ma.fO, .ref ma.fB, .int bz, .ref ma.fS, .ref ma.fD, .int sz])), (ma.fF, .inl (cI, 41, .inl (nF F'))), (ma.fG, .inl (cI, 41, .inl (nF G'))), (ma.fT, .inl (cZ, 41, .inl (bF P))), (ma.fN, .inl (cI, 14, .inl Nm)), (ma.fB, .inl (cI, 41, .inl (nF Ob)))]) [30, 31, 32, 33, 34, 37] (by decide) rfl) rfl rfl) rfl hl.1 rfl (Nat.le_of_ble_eq_true rfl) d_LW_law_588 ⟨hRc, hRs⟩) hP hD hS [30, 31, 32, 33, 34, 37] rfl (fun _ => rfl) (fun r_11 u_11 H locs hu_11 hP hS => ?_)
        obtain ⟨bz9_11, N9_11, Ob9_11⟩ := u_11
        have hP : va_P (dC, dI) cls (WL cI cJ cZ ca ma ⟨nd, ar, pr, F, G, N, Fm, Rs, A, z, Se, al, br, N2, Fm2, Rs2, A2, zi2, S2, al2, br2, Cr, Op, Bf, sn, Ld, zi, Sg, Pi, Bo, pci, Gd, gci, bl0⟩ ⟨(nI 0), nd, ar, be, (nI bz9_11), sz, F', G', P, N9_11, Wm, Td, Ob9_11, Sp, D⟩) H := hP
        have hD := hD.addr (ws' := (WL cI cJ cZ ca ma ⟨nd, ar, pr, F, G, N, Fm, Rs, A, z, Se, al, br, N2, Fm2, Rs2, A2, zi2, S2, al2, br2, Cr, Op, Bf, sn, Ld, zi, Sg, Pi, Bo, pci, Gd, gci, bl0⟩ ⟨(nI 0), nd, ar, be, (nI bz9_11), sz, F', G', P, N9_11, Wm, Td, Ob9_11, Sp, D⟩)) rfl
        have hag : r_11 = (-4) := hu_11
        refine xe_i (y := (-4)) hag ?_
        refine lv_icmp_eq (tgt := 609) hx hb d_LW_law_591 (by decide) (fun _ => ?_) (fun q9 => absurd rfl q9)
        exact kk ⟨nd, ar, pr, F, G, N, Fm, Rs, A, z, Se, al, br, N2, Fm2, Rs2, A2, zi2, S2, al2, br2, Cr, Op, Bf, sn, Ld, zi, Sg, Pi, Bo, pci, Gd, gci, bl0⟩ ⟨(nI 0), nd, ar, be, (nI bz9_11), sz, F', G', P, N9_11, Wm, Td, Ob9_11, Sp, D⟩ H locs ⟨hGA, hSK, hB0, rfl, rfl, hF, hG, hLK, hTd⟩ hP hD hS
    · skip
      obtain ⟨i0, hi0, he⟩ := blk_ex hLK hSK hxn hxl
      have hcn := blk_cn hLK hSK hxn hxl hi0 he
      by_cases h14 : cn (lb (Se i0)) 64 ≤ 14
      · skip
        have h14m := h14
        rw [hcn] at h14m
        rw [ex, ey]
        refine x_ci (k_V (n := 2) (C := R_CP) (rest := []) ⟨hx, hb, hml, hown, hts⟩ (c_CP_splits_2 l dC dI cI cJ cZ ca.cp ca.g ca.k ca.k2 ca.fl ca.co ca.sp ca.a1 ca.a2 nd ar pr F G (by first | assumption | omega) ca.nr ca.fr ca.rs ca.at_ ca.h al br N Fm A ca.b1 z Se (by first | assumption | omega) ca.gg ca.pi ca.bo ca.gd pci gci bl0 ca.gs zi Sg Pi Bo Gd (by first | assumption | omega) x (by first | assumption | omega) (by first | assumption | omega) i0 (by first | assumption | omega) (by first | assumption | omega) (by first | assumption | omega)) wml_LW_84 wim_CP_splits wsel_CP_splits wini_CP wcode_CP_splits (by decide +kernel) ⟨Nat.le_of_ble_eq_true rfl, Nat.le_of_ble_eq_true rfl⟩ (preV_M (q := (R_CP, F_CP, 6)) (ci := 0) (q0 := 0) (hP.sub (ws' := [(ca.cp, .inr (0, [.ref ca.g, .ref ca.k, .ref ca.k2, .ref ca.fl, .ref ca.co, .ref ca.sp])), (ca.g, .inr (1, [.ref ca.a1, .ref ca.a2, .int (nI nd), .int (nI ar), .long pr])), (ca.k, .inr (2, [.ref ca.nr, .ref ca.fr, .ref ca.rs, .ref ca.at_, .ref ca.h, .int al, .long br])), (ca.h, .inr (3, [.ref ca.b1, .int (nI z)])), (ca.b1, .inl (cJ, 41, .inr (.inl Se))), (ca.at_, .inl (cJ, 14, .inr (.inl A))), (ca.sp, .inr (6, [.ref ca.gg, .ref ca.pi, .ref ca.bo, .int pci, .ref ca.gd, .int gci, .long bl0])), (ca.gg, .inr (3, [.ref ca.gs, .int zi])), (ca.gs, .inl (cJ, 41, .inr (.inl Sg))), (ca.pi, .inl (cJ, 1274, .inr (.inl Pi))), (ca.bo, .inl (cI, 92, .inl (nF Bo))), (ca.gd, .inl (cJ, 14, .inr (.inl Gd)))]) [0, 1, 4, 9, 10, 8, 24, 25, 26, 27, 28, 29] rfl) hK (hD.sub (ws' := [(ca.cp, .inr (0, [.ref ca.g, .ref ca.k, .ref ca.k2, .ref ca.fl, .ref ca.co, .ref ca.sp])), (ca.g, .inr (1, [.ref ca.a1, .ref ca.a2, .int (nI nd), .int (nI ar), .long pr])), (ca.k, .inr (2, [.ref ca.nr, .ref ca.fr, .ref ca.rs, .ref ca.at_, .ref ca.h, .int al, .long br])), (ca.h, .inr (3, [.ref ca.b1, .int (nI z)])), (ca.b1, .inl (cJ, 41, .inr (.inl Se))), (ca.at_, .inl (cJ, 14, .inr (.inl A))), (ca.sp, .inr (6, [.ref ca.gg, .ref ca.pi, .ref ca.bo, .int pci, .ref ca.gd, .int gci, .long bl0])), (ca.gg, .inr (3, [.ref ca.gs, .int zi])), (ca.gs, .inl (cJ, 41, .inr (.inl Sg))), (ca.pi, .inl (cJ, 1274, .inr (.inl Pi))), (ca.bo, .inl (cI, 92, .inl (nF Bo))), (ca.gd, .inl (cJ, 14, .inr (.inl Gd)))]) [0, 1, 4, 9, 10, 8, 24, 25, 26, 27, 28, 29] (by decide) rfl) rfl rfl) rfl hl.1 rfl (Nat.le_of_ble_eq_true rfl) d_LW_law_574 ⟨hRc, hRs⟩) hP hD hS [0, 1, 4, 9, 10, 8, 24, 25, 26, 27, 28, 29] rfl (fun _ => rfl) (fun r_12 u_12 H locs hu_12 hP hS => ?_)
        obtain ⟨pc9_12, gc9_12, zi9_12, S9_12, Pi9_12, Bo9_12, Gd9_12⟩ := u_12
        have hP : va_P (dC, dI) cls (WL cI cJ cZ ca ma ⟨nd, ar, pr, F, G, N, Fm, Rs, A, z, Se, al, br, N2, Fm2, Rs2, A2, zi2, S2, al2, br2, Cr, Op, Bf, sn, Ld, zi9_12, S9_12, Pi9_12, Bo9_12, (nI pc9_12), Gd9_12, (nI gc9_12), (Se i0)⟩ ⟨th, nd, ar, be, bz, sz, F', G', P, Nm, Wm, Td, Ob, Sp, D⟩) H := hP
        have hD := hD.addr (ws' := (WL cI cJ cZ ca ma ⟨nd, ar, pr, F, G, N, Fm, Rs, A, z, Se, al, br, N2, Fm2, Rs2, A2, zi2, S2, al2, br2, Cr, Op, Bf, sn, Ld, zi9_12, S9_12, Pi9_12, Bo9_12, (nI pc9_12), Gd9_12, (nI gc9_12), (Se i0)⟩ ⟨th, nd, ar, be, bz, sz, F', G', P, Nm, Wm, Td, Ob, Sp, D⟩)) rfl
        refine lv_aload_n hx hb d_LW_law_577 rfl (lv_at hl 2 rfl) ?_
        refine lv_aload_n hx hb d_LW_law_578 rfl (lv_at hl 0 rfl) ?_
        refine lv_iload_n hx hb d_LW_law_579 rfl (lv_at hl 3 rfl) ?_
        refine lv_iconst (v := (nI 1)) hx hb d_LW_law_580 (by decide) ?_
        refine lv_iadd hx hb d_LW_law_581 ?_
        refine xe_i (nI_add _ _) ?_
        refine x_sld hx hb hX hbl hbA hS (by omega) hL d_LW_law_582 ?_
        refine lv_aload_n hx hb d_LW_law_583 rfl (lv_at hl 0 rfl) ?_
        refine lv_iload_n hx hb d_LW_law_584 rfl (lv_at hl 3 rfl) ?_
        refine lv_iconst (v := (nI 2)) hx hb d_LW_law_585 (by decide) ?_
        refine lv_iadd hx hb d_LW_law_586 ?_
        refine xe_i (nI_add _ _) ?_
        refine x_sld hx hb hX hbl hbA hS (by omega) hL d_LW_law_587 ?_
        rw [ex, ey]
        refine x_ci (k_V (n := 2) (C := R_MO) (rest := [.int r_12]) ⟨hx, hb, hml, hown, hts⟩ (c_MO_splits_2 l dC dI cI cJ cZ ma.o ma.fF ma.fG ma.fT ma.fN ma.fW ma.fO ma.fB ma.fS ma.fD th be bz sz nd ar F' G' P (by first | assumption | omega) (by first | assumption | omega) (by first | assumption | omega) (by first | assumption | omega) (by first | assumption | omega) Ob Sp D Nm x (by first | assumption | omega) (by first | assumption | omega) (by first | assumption | omega)) wml_LW_87 wim_MO_splits wsel_MO_splits wini_MO wcode_MO_splits (by decide +kernel) ⟨Nat.le_of_ble_eq_true rfl, Nat.le_of_ble_eq_true rfl⟩ (preV_M (q := (R_MO, F_MO, 15)) (ci := 7) (q0 := 0) (hP.sub (ws' := [(ma.o, .inr (7, [.int th, .int (nI nd), .int (nI ar), .ref ma.fF, .ref ma.fG, .ref ma.fT, .ref ma.fN, .ref ma.fW, .int be, .ref ma.fO, .ref ma.fB, .int bz, .ref ma.fS, .ref ma.fD, .int sz])), (ma.fF, .inl (cI, 41, .inl (nF F'))), (ma.fG, .inl (cI, 41, .inl (nF G'))), (ma.fT, .inl (cZ, 41, .inl (bF P))), (ma.fN, .inl (cI, 14, .inl Nm)), (ma.fB, .inl (cI, 41, .inl (nF Ob))), (ma.fS, .inl (cI, 8192, .inl (nF Sp))), (ma.fD, .inl (cZ, 8192, .inl (bF D)))]) [30, 31, 32, 33, 34, 37, 38, 39] rfl) hK (hD.sub (ws' := [(ma.o, .inr (7, [.int th, .int (nI nd), .int (nI ar), .ref ma.fF, .ref ma.fG, .ref ma.fT, .ref ma.fN, .ref ma.fW, .int be, .ref ma.fO, .ref ma.fB, .int bz, .ref ma.fS, .ref ma.fD, .int sz])), (ma.fF, .inl (cI, 41, .inl (nF F'))), (ma.fG, .inl (cI, 41, .inl (nF G'))), (ma.fT, .inl (cZ, 41, .inl (bF P))), (ma.fN, .inl (cI, 14, .inl Nm)), (ma.fB, .inl (cI, 41, .inl (nF Ob))), (ma.fS, .inl (cI, 8192, .inl (nF Sp))), (ma.fD, .inl (cZ, 8192, .inl (bF D)))]) [30, 31, 32, 33, 34, 37, 38, 39] (by decide) rfl) rfl rfl) rfl hl.1 rfl (Nat.le_of_ble_eq_true rfl) d_LW_law_588 ⟨hRc, hRs⟩) hP hD hS [30, 31, 32, 33, 34, 37, 38, 39] rfl (fun _ => rfl) (fun r_13 u_13 H locs hu_13 hP hS => ?_)
        obtain ⟨bz9_13, z9_13, N9_13, Ob9_13, Sp9_13, D9_13⟩ := u_13
        have hP : va_P (dC, dI) cls (WL cI cJ cZ ca ma ⟨nd, ar, pr, F, G, N, Fm, Rs, A, z, Se, al, br, N2, Fm2, Rs2, A2, zi2, S2, al2, br2, Cr, Op, Bf, sn, Ld, zi9_12, S9_12, Pi9_12, Bo9_12, (nI pc9_12), Gd9_12, (nI gc9_12), (Se i0)⟩ ⟨(nI 0), nd, ar, be, (nI bz9_13), (nI z9_13), F', G', P, N9_13, Wm, Td, Ob9_13, Sp9_13, D9_13⟩) H := hP
        have hD := hD.addr (ws' := (WL cI cJ cZ ca ma ⟨nd, ar, pr, F, G, N, Fm, Rs, A, z, Se, al, br, N2, Fm2, Rs2, A2, zi2, S2, al2, br2, Cr, Op, Bf, sn, Ld, zi9_12, S9_12, Pi9_12, Bo9_12, (nI pc9_12), Gd9_12, (nI gc9_12), (Se i0)⟩ ⟨(nI 0), nd, ar, be, (nI bz9_13), (nI z9_13), F', G', P, N9_13, Wm, Td, Ob9_13, Sp9_13, D9_13⟩)) rfl
        have hag : r_13 = r_12 := by
          obtain ⟨⟨c1, c2⟩, w9, c3, c4⟩ := hu_12
          obtain ⟨⟨d1, d2, d3, d4⟩, q1, d5, d6, d7⟩ := hu_13
          rw [d7, c4, sp2_eq hLK hSK hxn hxl hi0 he c1 c2 d1 d2 d3 d4 c3 d5 d6]
        refine xe_i (y := r_12) hag ?_
        refine lv_icmp_eq (tgt := 609) hx hb d_LW_law_591 (by decide) (fun _ => ?_) (fun q9 => absurd rfl q9)
        exact kk ⟨nd, ar, pr, F, G, N, Fm, Rs, A, z, Se, al, br, N2, Fm2, Rs2, A2, zi2, S2, al2, br2, Cr, Op, Bf, sn, Ld, zi9_12, S9_12, Pi9_12, Bo9_12, (nI pc9_12), Gd9_12, (nI gc9_12), (Se i0)⟩ ⟨(nI 0), nd, ar, be, (nI bz9_13), (nI z9_13), F', G', P, N9_13, Wm, Td, Ob9_13, Sp9_13, D9_13⟩ H locs ⟨hGA, hSK, hu_12.1.1.b0, rfl, rfl, hF, hG, hLK, hTd⟩ hP hD hS
      · skip
        have h15 : 14 < cn (lb (Se i0)) 64 := by omega
        have h15m := h15
        rw [hcn] at h15m
        rw [ex, ey]
        refine vp_callSi (va_Run.run (k_V (n := 2) (C := R_CP) (rest := []) ⟨hx, hb, hml, hown, hts⟩ (c_CP_splits_l2 l dC dI cI cJ cZ ca.cp ca.g ca.k ca.k2 ca.fl ca.co ca.sp ca.a1 ca.a2 nd ar pr F G (by first | assumption | omega) ca.nr ca.fr ca.rs ca.at_ ca.h al br N Fm A ca.b1 z Se (by first | assumption | omega) x (by first | assumption | omega) (by first | assumption | omega) i0 (by first | assumption | omega) (by first | assumption | omega) (by first | assumption | omega)) wml_LW_84 wim_CP_splits wsel_CP_splits wini_CP wcode_CP_splits (by decide +kernel) ⟨Nat.le_of_ble_eq_true rfl, Nat.le_of_ble_eq_true rfl⟩ (preV_R (q := (R_CP, F_CP, 6)) (ci := 0) (q0 := 0) (hP.sub (ws' := [(ca.cp, .inr (0, [.ref ca.g, .ref ca.k, .ref ca.k2, .ref ca.fl, .ref ca.co, .ref ca.sp])), (ca.g, .inr (1, [.ref ca.a1, .ref ca.a2, .int (nI nd), .int (nI ar), .long pr])), (ca.k, .inr (2, [.ref ca.nr, .ref ca.fr, .ref ca.rs, .ref ca.at_, .ref ca.h, .int al, .long br])), (ca.h, .inr (3, [.ref ca.b1, .int (nI z)])), (ca.b1, .inl (cJ, 41, .inr (.inl Se)))]) [0, 1, 4, 9, 10] rfl) hK rfl rfl) rfl hl.1 rfl (Nat.le_of_ble_eq_true rfl) d_LW_law_574 ⟨hRc, hRs⟩)) (fun r_14 hr_15 => ?_)
        refine xe_i (y := (-4)) hr_15 ?_
        refine lv_aload_n hx hb d_LW_law_577 rfl (lv_at hl 2 rfl) ?_
        refine lv_aload_n hx hb d_LW_law_578 rfl (lv_at hl 0 rfl) ?_
        refine lv_iload_n hx hb d_LW_law_579 rfl (lv_at hl 3 rfl) ?_
        refine lv_iconst (v := (nI 1)) hx hb d_LW_law_580 (by decide) ?_
        refine lv_iadd hx hb d_LW_law_581 ?_
        refine xe_i (nI_add _ _) ?_
        refine x_sld hx hb hX hbl hbA hS (by omega) hL d_LW_law_582 ?_
        refine lv_aload_n hx hb d_LW_law_583 rfl (lv_at hl 0 rfl) ?_
        refine lv_iload_n hx hb d_LW_law_584 rfl (lv_at hl 3 rfl) ?_
        refine lv_iconst (v := (nI 2)) hx hb d_LW_law_585 (by decide) ?_
        refine lv_iadd hx hb d_LW_law_586 ?_
        refine xe_i (nI_add _ _) ?_
        refine x_sld hx hb hX hbl hbA hS (by omega) hL d_LW_law_587 ?_
        rw [ex, ey]
        refine x_ci (k_V (n := 2) (C := R_MO) (rest := [.int (-4)]) ⟨hx, hb, hml, hown, hts⟩ (c_MO_splits_l2 l dC dI cI cJ cZ ma.o ma.fF ma.fG ma.fT ma.fN ma.fW ma.fO ma.fB ma.fS ma.fD th be bz sz nd ar F' G' P (by first | assumption | omega) (by first | assumption | omega) (by first | assumption | omega) (by first | assumption | omega) (by first | assumption | omega) Ob Nm x (by first | assumption | omega) (by first | assumption | omega) (by first | assumption | omega)) wml_LW_87 wim_MO_splits wsel_MO_splits wini_MO wcode_MO_splits (by decide +kernel) ⟨Nat.le_of_ble_eq_true rfl, Nat.le_of_ble_eq_true rfl⟩ (preV_M (q := (R_MO, F_MO, 15)) (ci := 7) (q0 := 0) (hP.sub (ws' := [(ma.o, .inr (7, [.int th, .int (nI nd), .int (nI ar), .ref ma.fF, .ref ma.fG, .ref ma.fT, .ref ma.fN, .ref ma.fW, .int be, .ref ma.fO, .ref ma.fB, .int bz, .ref ma.fS, .ref ma.fD, .int sz])), (ma.fF, .inl (cI, 41, .inl (nF F'))), (ma.fG, .inl (cI, 41, .inl (nF G'))), (ma.fT, .inl (cZ, 41, .inl (bF P))), (ma.fN, .inl (cI, 14, .inl Nm)), (ma.fB, .inl (cI, 41, .inl (nF Ob)))]) [30, 31, 32, 33, 34, 37] rfl) hK (hD.sub (ws' := [(ma.o, .inr (7, [.int th, .int (nI nd), .int (nI ar), .ref ma.fF, .ref ma.fG, .ref ma.fT, .ref ma.fN, .ref ma.fW, .int be, .ref ma.fO, .ref ma.fB, .int bz, .ref ma.fS, .ref ma.fD, .int sz])), (ma.fF, .inl (cI, 41, .inl (nF F'))), (ma.fG, .inl (cI, 41, .inl (nF G'))), (ma.fT, .inl (cZ, 41, .inl (bF P))), (ma.fN, .inl (cI, 14, .inl Nm)), (ma.fB, .inl (cI, 41, .inl (nF Ob)))]) [30, 31, 32, 33, 34, 37] (by decide) rfl) rfl rfl) rfl hl.1 rfl (Nat.le_of_ble_eq_true rfl) d_LW_law_588 ⟨hRc, hRs⟩) hP hD hS [30, 31, 32, 33, 34, 37] rfl (fun _ => rfl) (fun r_16 u_16 H locs hu_16 hP hS => ?_)
        obtain ⟨bz9_16, N9_16, Ob9_16⟩ := u_16
        have hP : va_P (dC, dI) cls (WL cI cJ cZ ca ma ⟨nd, ar, pr, F, G, N, Fm, Rs, A, z, Se, al, br, N2, Fm2, Rs2, A2, zi2, S2, al2, br2, Cr, Op, Bf, sn, Ld, zi, Sg, Pi, Bo, pci, Gd, gci, bl0⟩ ⟨(nI 0), nd, ar, be, (nI bz9_16), sz, F', G', P, N9_16, Wm, Td, Ob9_16, Sp, D⟩) H := hP
        have hD := hD.addr (ws' := (WL cI cJ cZ ca ma ⟨nd, ar, pr, F, G, N, Fm, Rs, A, z, Se, al, br, N2, Fm2, Rs2, A2, zi2, S2, al2, br2, Cr, Op, Bf, sn, Ld, zi, Sg, Pi, Bo, pci, Gd, gci, bl0⟩ ⟨(nI 0), nd, ar, be, (nI bz9_16), sz, F', G', P, N9_16, Wm, Td, Ob9_16, Sp, D⟩)) rfl
        have hag : r_16 = (-4) := hu_16
        refine xe_i (y := (-4)) hag ?_
        refine lv_icmp_eq (tgt := 609) hx hb d_LW_law_591 (by decide) (fun _ => ?_) (fun q9 => absurd rfl q9)
        exact kk ⟨nd, ar, pr, F, G, N, Fm, Rs, A, z, Se, al, br, N2, Fm2, Rs2, A2, zi2, S2, al2, br2, Cr, Op, Bf, sn, Ld, zi, Sg, Pi, Bo, pci, Gd, gci, bl0⟩ ⟨(nI 0), nd, ar, be, (nI bz9_16), sz, F', G', P, N9_16, Wm, Td, Ob9_16, Sp, D⟩ H locs ⟨hGA, hSK, hB0, rfl, rfl, hF, hG, hLK, hTd⟩ hP hD hS
    · skip
      obtain ⟨i0, hi0, he⟩ := blk_ex hLK hSK hxn hxl
      have hcn := blk_cn hLK hSK hxn hxl hi0 he
      by_cases h14 : cn (lb (Se i0)) 64 ≤ 14
      · skip
        have h14m := h14
        rw [hcn] at h14m
        rw [ex, ey]
        refine x_ci (k_V (n := 2) (C := R_CP) (rest := []) ⟨hx, hb, hml, hown, hts⟩ (c_CP_splits_3 l dC dI cI cJ cZ ca.cp ca.g ca.k ca.k2 ca.fl ca.co ca.sp ca.a1 ca.a2 nd ar pr F G (by first | assumption | omega) ca.nr ca.fr ca.rs ca.at_ ca.h al br N Fm A ca.b1 z Se (by first | assumption | omega) ca.gg ca.pi ca.bo ca.gd pci gci bl0 ca.gs zi Sg Pi Bo Gd (by first | assumption | omega) x (by first | assumption | omega) (by first | assumption | omega) i0 (by first | assumption | omega) (by first | assumption | omega) (by first | assumption | omega)) wml_LW_84 wim_CP_splits wsel_CP_splits wini_CP wcode_CP_splits (by decide +kernel) ⟨Nat.le_of_ble_eq_true rfl, Nat.le_of_ble_eq_true rfl⟩ (preV_M (q := (R_CP, F_CP, 6)) (ci := 0) (q0 := 0) (hP.sub (ws' := [(ca.cp, .inr (0, [.ref ca.g, .ref ca.k, .ref ca.k2, .ref ca.fl, .ref ca.co, .ref ca.sp])), (ca.g, .inr (1, [.ref ca.a1, .ref ca.a2, .int (nI nd), .int (nI ar), .long pr])), (ca.k, .inr (2, [.ref ca.nr, .ref ca.fr, .ref ca.rs, .ref ca.at_, .ref ca.h, .int al, .long br])), (ca.h, .inr (3, [.ref ca.b1, .int (nI z)])), (ca.b1, .inl (cJ, 41, .inr (.inl Se))), (ca.at_, .inl (cJ, 14, .inr (.inl A))), (ca.sp, .inr (6, [.ref ca.gg, .ref ca.pi, .ref ca.bo, .int pci, .ref ca.gd, .int gci, .long bl0])), (ca.gg, .inr (3, [.ref ca.gs, .int zi])), (ca.gs, .inl (cJ, 41, .inr (.inl Sg))), (ca.pi, .inl (cJ, 1274, .inr (.inl Pi))), (ca.bo, .inl (cI, 92, .inl (nF Bo))), (ca.gd, .inl (cJ, 14, .inr (.inl Gd)))]) [0, 1, 4, 9, 10, 8, 24, 25, 26, 27, 28, 29] rfl) hK (hD.sub (ws' := [(ca.cp, .inr (0, [.ref ca.g, .ref ca.k, .ref ca.k2, .ref ca.fl, .ref ca.co, .ref ca.sp])), (ca.g, .inr (1, [.ref ca.a1, .ref ca.a2, .int (nI nd), .int (nI ar), .long pr])), (ca.k, .inr (2, [.ref ca.nr, .ref ca.fr, .ref ca.rs, .ref ca.at_, .ref ca.h, .int al, .long br])), (ca.h, .inr (3, [.ref ca.b1, .int (nI z)])), (ca.b1, .inl (cJ, 41, .inr (.inl Se))), (ca.at_, .inl (cJ, 14, .inr (.inl A))), (ca.sp, .inr (6, [.ref ca.gg, .ref ca.pi, .ref ca.bo, .int pci, .ref ca.gd, .int gci, .long bl0])), (ca.gg, .inr (3, [.ref ca.gs, .int zi])), (ca.gs, .inl (cJ, 41, .inr (.inl Sg))), (ca.pi, .inl (cJ, 1274, .inr (.inl Pi))), (ca.bo, .inl (cI, 92, .inl (nF Bo))), (ca.gd, .inl (cJ, 14, .inr (.inl Gd)))]) [0, 1, 4, 9, 10, 8, 24, 25, 26, 27, 28, 29] (by decide) rfl) rfl rfl) rfl hl.1 rfl (Nat.le_of_ble_eq_true rfl) d_LW_law_574 ⟨hRc, hRs⟩) hP hD hS [0, 1, 4, 9, 10, 8, 24, 25, 26, 27, 28, 29] rfl (fun _ => rfl) (fun r_17 u_17 H locs hu_17 hP hS => ?_)
        obtain ⟨pc9_17, gc9_17, zi9_17, S9_17, Pi9_17, Bo9_17, Gd9_17⟩ := u_17
        have hP : va_P (dC, dI) cls (WL cI cJ cZ ca ma ⟨nd, ar, pr, F, G, N, Fm, Rs, A, z, Se, al, br, N2, Fm2, Rs2, A2, zi2, S2, al2, br2, Cr, Op, Bf, sn, Ld, zi9_17, S9_17, Pi9_17, Bo9_17, (nI pc9_17), Gd9_17, (nI gc9_17), (Se i0)⟩ ⟨th, nd, ar, be, bz, sz, F', G', P, Nm, Wm, Td, Ob, Sp, D⟩) H := hP
        have hD := hD.addr (ws' := (WL cI cJ cZ ca ma ⟨nd, ar, pr, F, G, N, Fm, Rs, A, z, Se, al, br, N2, Fm2, Rs2, A2, zi2, S2, al2, br2, Cr, Op, Bf, sn, Ld, zi9_17, S9_17, Pi9_17, Bo9_17, (nI pc9_17), Gd9_17, (nI gc9_17), (Se i0)⟩ ⟨th, nd, ar, be, bz, sz, F', G', P, Nm, Wm, Td, Ob, Sp, D⟩)) rfl
        refine lv_aload_n hx hb d_LW_law_577 rfl (lv_at hl 2 rfl) ?_
        refine lv_aload_n hx hb d_LW_law_578 rfl (lv_at hl 0 rfl) ?_
        refine lv_iload_n hx hb d_LW_law_579 rfl (lv_at hl 3 rfl) ?_
        refine lv_iconst (v := (nI 1)) hx hb d_LW_law_580 (by decide) ?_
        refine lv_iadd hx hb d_LW_law_581 ?_
        refine xe_i (nI_add _ _) ?_
        refine x_sld hx hb hX hbl hbA hS (by omega) hL d_LW_law_582 ?_
        refine lv_aload_n hx hb d_LW_law_583 rfl (lv_at hl 0 rfl) ?_
        refine lv_iload_n hx hb d_LW_law_584 rfl (lv_at hl 3 rfl) ?_
        refine lv_iconst (v := (nI 2)) hx hb d_LW_law_585 (by decide) ?_
        refine lv_iadd hx hb d_LW_law_586 ?_
        refine xe_i (nI_add _ _) ?_
        refine x_sld hx hb hX hbl hbA hS (by omega) hL d_LW_law_587 ?_
        rw [ex, ey]
        refine x_ci (k_V (n := 2) (C := R_MO) (rest := [.int r_17]) ⟨hx, hb, hml, hown, hts⟩ (c_MO_splits_3 l dC dI cI cJ cZ ma.o ma.fF ma.fG ma.fT ma.fN ma.fW ma.fO ma.fB ma.fS ma.fD th be bz sz nd ar F' G' P (by first | assumption | omega) (by first | assumption | omega) (by first | assumption | omega) (by first | assumption | omega) (by first | assumption | omega) Ob Sp D Nm x (by first | assumption | omega) (by first | assumption | omega) (by first | assumption | omega)) wml_LW_87 wim_MO_splits wsel_MO_splits wini_MO wcode_MO_splits (by decide +kernel) ⟨Nat.le_of_ble_eq_true rfl, Nat.le_of_ble_eq_true rfl⟩ (preV_M (q := (R_MO, F_MO, 15)) (ci := 7) (q0 := 0) (hP.sub (ws' := [(ma.o, .inr (7, [.int th, .int (nI nd), .int (nI ar), .ref ma.fF, .ref ma.fG, .ref ma.fT, .ref ma.fN, .ref ma.fW, .int be, .ref ma.fO, .ref ma.fB, .int bz, .ref ma.fS, .ref ma.fD, .int sz])), (ma.fF, .inl (cI, 41, .inl (nF F'))), (ma.fG, .inl (cI, 41, .inl (nF G'))), (ma.fT, .inl (cZ, 41, .inl (bF P))), (ma.fN, .inl (cI, 14, .inl Nm)), (ma.fB, .inl (cI, 41, .inl (nF Ob))), (ma.fS, .inl (cI, 8192, .inl (nF Sp))), (ma.fD, .inl (cZ, 8192, .inl (bF D)))]) [30, 31, 32, 33, 34, 37, 38, 39] rfl) hK (hD.sub (ws' := [(ma.o, .inr (7, [.int th, .int (nI nd), .int (nI ar), .ref ma.fF, .ref ma.fG, .ref ma.fT, .ref ma.fN, .ref ma.fW, .int be, .ref ma.fO, .ref ma.fB, .int bz, .ref ma.fS, .ref ma.fD, .int sz])), (ma.fF, .inl (cI, 41, .inl (nF F'))), (ma.fG, .inl (cI, 41, .inl (nF G'))), (ma.fT, .inl (cZ, 41, .inl (bF P))), (ma.fN, .inl (cI, 14, .inl Nm)), (ma.fB, .inl (cI, 41, .inl (nF Ob))), (ma.fS, .inl (cI, 8192, .inl (nF Sp))), (ma.fD, .inl (cZ, 8192, .inl (bF D)))]) [30, 31, 32, 33, 34, 37, 38, 39] (by decide) rfl) rfl rfl) rfl hl.1 rfl (Nat.le_of_ble_eq_true rfl) d_LW_law_588 ⟨hRc, hRs⟩) hP hD hS [30, 31, 32, 33, 34, 37, 38, 39] rfl (fun _ => rfl) (fun r_18 u_18 H locs hu_18 hP hS => ?_)
        obtain ⟨bz9_18, z9_18, N9_18, Ob9_18, Sp9_18, D9_18⟩ := u_18
        have hP : va_P (dC, dI) cls (WL cI cJ cZ ca ma ⟨nd, ar, pr, F, G, N, Fm, Rs, A, z, Se, al, br, N2, Fm2, Rs2, A2, zi2, S2, al2, br2, Cr, Op, Bf, sn, Ld, zi9_17, S9_17, Pi9_17, Bo9_17, (nI pc9_17), Gd9_17, (nI gc9_17), (Se i0)⟩ ⟨(nI 0), nd, ar, be, (nI bz9_18), (nI z9_18), F', G', P, N9_18, Wm, Td, Ob9_18, Sp9_18, D9_18⟩) H := hP
        have hD := hD.addr (ws' := (WL cI cJ cZ ca ma ⟨nd, ar, pr, F, G, N, Fm, Rs, A, z, Se, al, br, N2, Fm2, Rs2, A2, zi2, S2, al2, br2, Cr, Op, Bf, sn, Ld, zi9_17, S9_17, Pi9_17, Bo9_17, (nI pc9_17), Gd9_17, (nI gc9_17), (Se i0)⟩ ⟨(nI 0), nd, ar, be, (nI bz9_18), (nI z9_18), F', G', P, N9_18, Wm, Td, Ob9_18, Sp9_18, D9_18⟩)) rfl
        have hag : r_18 = r_17 := by
          obtain ⟨⟨c1, c2⟩, w9, c3, c4⟩ := hu_17
          obtain ⟨⟨d1, d2, d3, d4⟩, q1, d5, d6, d7⟩ := hu_18
          rw [c4, sp3_eq hLK hSK hxn hxl hi0 he c1 c2 d1 d2 d3 d4 c3 d5 d6 d7]
        refine xe_i (y := r_17) hag ?_
        refine lv_icmp_eq (tgt := 609) hx hb d_LW_law_591 (by decide) (fun _ => ?_) (fun q9 => absurd rfl q9)
        exact kk ⟨nd, ar, pr, F, G, N, Fm, Rs, A, z, Se, al, br, N2, Fm2, Rs2, A2, zi2, S2, al2, br2, Cr, Op, Bf, sn, Ld, zi9_17, S9_17, Pi9_17, Bo9_17, (nI pc9_17), Gd9_17, (nI gc9_17), (Se i0)⟩ ⟨(nI 0), nd, ar, be, (nI bz9_18), (nI z9_18), F', G', P, N9_18, Wm, Td, Ob9_18, Sp9_18, D9_18⟩ H locs ⟨hGA, hSK, hu_17.1.1.b0, rfl, rfl, hF, hG, hLK, hTd⟩ hP hD hS
      · skip
        have h15 : 14 < cn (lb (Se i0)) 64 := by omega
        have h15m := h15
        rw [hcn] at h15m
        rw [ex, ey]
        refine vp_callSi (va_Run.run (k_V (n := 2) (C := R_CP) (rest := []) ⟨hx, hb, hml, hown, hts⟩ (c_CP_splits_l3 l dC dI cI cJ cZ ca.cp ca.g ca.k ca.k2 ca.fl ca.co ca.sp ca.a1 ca.a2 nd ar pr F G (by first | assumption | omega) ca.nr ca.fr ca.rs ca.at_ ca.h al br N Fm A ca.b1 z Se (by first | assumption | omega) x (by first | assumption | omega) (by first | assumption | omega) i0 (by first | assumption | omega) (by first | assumption | omega) (by first | assumption | omega)) wml_LW_84 wim_CP_splits wsel_CP_splits wini_CP wcode_CP_splits (by decide +kernel) ⟨Nat.le_of_ble_eq_true rfl, Nat.le_of_ble_eq_true rfl⟩ (preV_R (q := (R_CP, F_CP, 6)) (ci := 0) (q0 := 0) (hP.sub (ws' := [(ca.cp, .inr (0, [.ref ca.g, .ref ca.k, .ref ca.k2, .ref ca.fl, .ref ca.co, .ref ca.sp])), (ca.g, .inr (1, [.ref ca.a1, .ref ca.a2, .int (nI nd), .int (nI ar), .long pr])), (ca.k, .inr (2, [.ref ca.nr, .ref ca.fr, .ref ca.rs, .ref ca.at_, .ref ca.h, .int al, .long br])), (ca.h, .inr (3, [.ref ca.b1, .int (nI z)])), (ca.b1, .inl (cJ, 41, .inr (.inl Se)))]) [0, 1, 4, 9, 10] rfl) hK rfl rfl) rfl hl.1 rfl (Nat.le_of_ble_eq_true rfl) d_LW_law_574 ⟨hRc, hRs⟩)) (fun r_19 hr_20 => ?_)
        refine xe_i (y := (-4)) hr_20 ?_
        refine lv_aload_n hx hb d_LW_law_577 rfl (lv_at hl 2 rfl) ?_
        refine lv_aload_n hx hb d_LW_law_578 rfl (lv_at hl 0 rfl) ?_
        refine lv_iload_n hx hb d_LW_law_579 rfl (lv_at hl 3 rfl) ?_
        refine lv_iconst (v := (nI 1)) hx hb d_LW_law_580 (by decide) ?_
        refine lv_iadd hx hb d_LW_law_581 ?_
        refine xe_i (nI_add _ _) ?_
        refine x_sld hx hb hX hbl hbA hS (by omega) hL d_LW_law_582 ?_
        refine lv_aload_n hx hb d_LW_law_583 rfl (lv_at hl 0 rfl) ?_
        refine lv_iload_n hx hb d_LW_law_584 rfl (lv_at hl 3 rfl) ?_
        refine lv_iconst (v := (nI 2)) hx hb d_LW_law_585 (by decide) ?_
        refine lv_iadd hx hb d_LW_law_586 ?_
        refine xe_i (nI_add _ _) ?_
        refine x_sld hx hb hX hbl hbA hS (by omega) hL d_LW_law_587 ?_
        rw [ex, ey]
        refine x_ci (k_V (n := 2) (C := R_MO) (rest := [.int (-4)]) ⟨hx, hb, hml, hown, hts⟩ (c_MO_splits_l3 l dC dI cI cJ cZ ma.o ma.fF ma.fG ma.fT ma.fN ma.fW ma.fO ma.fB ma.fS ma.fD th be bz sz nd ar F' G' P (by first | assumption | omega) (by first | assumption | omega) (by first | assumption | omega) (by first | assumption | omega) (by first | assumption | omega) Ob Nm x (by first | assumption | omega) (by first | assumption | omega) (by first | assumption | omega)) wml_LW_87 wim_MO_splits wsel_MO_splits wini_MO wcode_MO_splits (by decide +kernel) ⟨Nat.le_of_ble_eq_true rfl, Nat.le_of_ble_eq_true rfl⟩ (preV_M (q := (R_MO, F_MO, 15)) (ci := 7) (q0 := 0) (hP.sub (ws' := [(ma.o, .inr (7, [.int th, .int (nI nd), .int (nI ar), .ref ma.fF, .ref ma.fG, .ref ma.fT, .ref ma.fN, .ref ma.fW, .int be, .ref ma.fO, .ref ma.fB, .int bz, .ref ma.fS, .ref ma.fD, .int sz])), (ma.fF, .inl (cI, 41, .inl (nF F'))), (ma.fG, .inl (cI, 41, .inl (nF G'))), (ma.fT, .inl (cZ, 41, .inl (bF P))), (ma.fN, .inl (cI, 14, .inl Nm)), (ma.fB, .inl (cI, 41, .inl (nF Ob)))]) [30, 31, 32, 33, 34, 37] rfl) hK (hD.sub (ws' := [(ma.o, .inr (7, [.int th, .int (nI nd), .int (nI ar), .ref ma.fF, .ref ma.fG, .ref ma.fT, .ref ma.fN, .ref ma.fW, .int be, .ref ma.fO, .ref ma.fB, .int bz, .ref ma.fS, .ref ma.fD, .int sz])), (ma.fF, .inl (cI, 41, .inl (nF F'))), (ma.fG, .inl (cI, 41, .inl (nF G'))), (ma.fT, .inl (cZ, 41, .inl (bF P))), (ma.fN, .inl (cI, 14, .inl Nm)), (ma.fB, .inl (cI, 41, .inl (nF Ob)))]) [30, 31, 32, 33, 34, 37] (by decide) rfl) rfl rfl) rfl hl.1 rfl (Nat.le_of_ble_eq_true rfl) d_LW_law_588 ⟨hRc, hRs⟩) hP hD hS [30, 31, 32, 33, 34, 37] rfl (fun _ => rfl) (fun r_21 u_21 H locs hu_21 hP hS => ?_)
        obtain ⟨bz9_21, N9_21, Ob9_21⟩ := u_21
        have hP : va_P (dC, dI) cls (WL cI cJ cZ ca ma ⟨nd, ar, pr, F, G, N, Fm, Rs, A, z, Se, al, br, N2, Fm2, Rs2, A2, zi2, S2, al2, br2, Cr, Op, Bf, sn, Ld, zi, Sg, Pi, Bo, pci, Gd, gci, bl0⟩ ⟨(nI 0), nd, ar, be, (nI bz9_21), sz, F', G', P, N9_21, Wm, Td, Ob9_21, Sp, D⟩) H := hP
        have hD := hD.addr (ws' := (WL cI cJ cZ ca ma ⟨nd, ar, pr, F, G, N, Fm, Rs, A, z, Se, al, br, N2, Fm2, Rs2, A2, zi2, S2, al2, br2, Cr, Op, Bf, sn, Ld, zi, Sg, Pi, Bo, pci, Gd, gci, bl0⟩ ⟨(nI 0), nd, ar, be, (nI bz9_21), sz, F', G', P, N9_21, Wm, Td, Ob9_21, Sp, D⟩)) rfl
        have hag : r_21 = (-4) := hu_21
        refine xe_i (y := (-4)) hag ?_
        refine lv_icmp_eq (tgt := 609) hx hb d_LW_law_591 (by decide) (fun _ => ?_) (fun q9 => absurd rfl q9)
        exact kk ⟨nd, ar, pr, F, G, N, Fm, Rs, A, z, Se, al, br, N2, Fm2, Rs2, A2, zi2, S2, al2, br2, Cr, Op, Bf, sn, Ld, zi, Sg, Pi, Bo, pci, Gd, gci, bl0⟩ ⟨(nI 0), nd, ar, be, (nI bz9_21), sz, F', G', P, N9_21, Wm, Td, Ob9_21, Sp, D⟩ H locs ⟨hGA, hSK, hB0, rfl, rfl, hF, hG, hLK, hTd⟩ hP hD hS
    · skip
      rw [ex]
      refine vp_callSi (va_Run.run (k_V (n := 2) (C := R_CP) (rest := []) ⟨hx, hb, hml, hown, hts⟩ (c_CP_splits_r l dC dI cI cJ cZ ca.cp ca.g ca.k ca.k2 ca.fl ca.co ca.sp ca.a1 ca.a2 nd ar pr x (xs (i + 2)) (by first | assumption | omega) (by first | assumption | omega) (by first | assumption | omega) (by first | assumption | omega)) wml_LW_84 wim_CP_splits wsel_CP_splits wini_CP wcode_CP_splits (by decide +kernel) ⟨Nat.le_of_ble_eq_true rfl, Nat.le_of_ble_eq_true rfl⟩ (preV_R (q := (R_CP, F_CP, 6)) (ci := 0) (q0 := 0) (hP.sub (ws' := [(ca.cp, .inr (0, [.ref ca.g, .ref ca.k, .ref ca.k2, .ref ca.fl, .ref ca.co, .ref ca.sp])), (ca.g, .inr (1, [.ref ca.a1, .ref ca.a2, .int (nI nd), .int (nI ar), .long pr]))]) [0, 1] rfl) hK rfl rfl) rfl hl.1 rfl (Nat.le_of_ble_eq_true rfl) d_LW_law_574 ⟨hRc, hRs⟩)) (fun r_22 hr_23 => ?_)
      refine xe_i (y := (-2)) hr_23 ?_
      refine lv_aload_n hx hb d_LW_law_577 rfl (lv_at hl 2 rfl) ?_
      refine lv_aload_n hx hb d_LW_law_578 rfl (lv_at hl 0 rfl) ?_
      refine lv_iload_n hx hb d_LW_law_579 rfl (lv_at hl 3 rfl) ?_
      refine lv_iconst (v := (nI 1)) hx hb d_LW_law_580 (by decide) ?_
      refine lv_iadd hx hb d_LW_law_581 ?_
      refine xe_i (nI_add _ _) ?_
      refine x_sld hx hb hX hbl hbA hS (by omega) hL d_LW_law_582 ?_
      refine lv_aload_n hx hb d_LW_law_583 rfl (lv_at hl 0 rfl) ?_
      refine lv_iload_n hx hb d_LW_law_584 rfl (lv_at hl 3 rfl) ?_
      refine lv_iconst (v := (nI 2)) hx hb d_LW_law_585 (by decide) ?_
      refine lv_iadd hx hb d_LW_law_586 ?_
      refine xe_i (nI_add _ _) ?_
      refine x_sld hx hb hX hbl hbA hS (by omega) hL d_LW_law_587 ?_
      rw [ex]
      refine x_ci (k_V (n := 2) (C := R_MO) (rest := [.int (-2)]) ⟨hx, hb, hml, hown, hts⟩ (c_MO_splits_r l dC dI cI cJ cZ ma.o ma.fF ma.fG ma.fT ma.fN ma.fW ma.fO ma.fB ma.fS ma.fD th be bz sz nd ar P (by first | assumption | omega) x (by first | assumption | omega) (by first | assumption | omega) (xs (i + 2)) (by first | assumption | omega)) wml_LW_87 wim_MO_splits wsel_MO_splits wini_MO wcode_MO_splits (by decide +kernel) ⟨Nat.le_of_ble_eq_true rfl, Nat.le_of_ble_eq_true rfl⟩ (preV_M (q := (R_MO, F_MO, 15)) (ci := 7) (q0 := 0) (hP.sub (ws' := [(ma.o, .inr (7, [.int th, .int (nI nd), .int (nI ar), .ref ma.fF, .ref ma.fG, .ref ma.fT, .ref ma.fN, .ref ma.fW, .int be, .ref ma.fO, .ref ma.fB, .int bz, .ref ma.fS, .ref ma.fD, .int sz])), (ma.fT, .inl (cZ, 41, .inl (bF P)))]) [30, 33] rfl) hK (hD.sub (ws' := [(ma.o, .inr (7, [.int th, .int (nI nd), .int (nI ar), .ref ma.fF, .ref ma.fG, .ref ma.fT, .ref ma.fN, .ref ma.fW, .int be, .ref ma.fO, .ref ma.fB, .int bz, .ref ma.fS, .ref ma.fD, .int sz])), (ma.fT, .inl (cZ, 41, .inl (bF P)))]) [30, 33] (by decide) rfl) rfl rfl) rfl hl.1 rfl (Nat.le_of_ble_eq_true rfl) d_LW_law_588 ⟨hRc, hRs⟩) hP hD hS [30, 33] rfl (fun _ => rfl) (fun r_24 u_24 H locs hu_24 hP hS => ?_)
      have hP : va_P (dC, dI) cls (WL cI cJ cZ ca ma ⟨nd, ar, pr, F, G, N, Fm, Rs, A, z, Se, al, br, N2, Fm2, Rs2, A2, zi2, S2, al2, br2, Cr, Op, Bf, sn, Ld, zi, Sg, Pi, Bo, pci, Gd, gci, bl0⟩ ⟨(nI 0), nd, ar, be, bz, sz, F', G', P, Nm, Wm, Td, Ob, Sp, D⟩) H := hP
      have hD := hD.addr (ws' := (WL cI cJ cZ ca ma ⟨nd, ar, pr, F, G, N, Fm, Rs, A, z, Se, al, br, N2, Fm2, Rs2, A2, zi2, S2, al2, br2, Cr, Op, Bf, sn, Ld, zi, Sg, Pi, Bo, pci, Gd, gci, bl0⟩ ⟨(nI 0), nd, ar, be, bz, sz, F', G', P, Nm, Wm, Td, Ob, Sp, D⟩)) rfl
      have hag : r_24 = (-2) := hu_24
      refine xe_i (y := (-2)) hag ?_
      refine lv_icmp_eq (tgt := 609) hx hb d_LW_law_591 (by decide) (fun _ => ?_) (fun q9 => absurd rfl q9)
      exact kk ⟨nd, ar, pr, F, G, N, Fm, Rs, A, z, Se, al, br, N2, Fm2, Rs2, A2, zi2, S2, al2, br2, Cr, Op, Bf, sn, Ld, zi, Sg, Pi, Bo, pci, Gd, gci, bl0⟩ ⟨(nI 0), nd, ar, be, bz, sz, F', G', P, Nm, Wm, Td, Ob, Sp, D⟩ H locs ⟨hGA, hSK, hB0, rfl, rfl, hF, hG, hLK, hTd⟩ hP hD hS

set_option maxHeartbeats 8000000 in
set_option maxRecDepth 100000 in
theorem lw_worn {p : Program} {l : Launch} {e : Env} {s : State} {m : MethodId} {args : Array Value} {below : List Frame} {meth : Method} {c : Code} {H : Heap} {locs : List Loc} {Q : State → Prop} {dC : Nat → ClassId} {dI : Nat → Nat → Nat} {cI cJ cZ : ClassId} {A0 : Nat → Prop} {sc L : Nat} {xs : Nat → Int32} {ls : Array Slot} (X : LX p s m args c dC dI cI cJ cZ A0 sc L xs) {i : Nat} (hi : i + 3 ≤ L) {ca : CA} {ma : MA} {u : CS} {v : MS} (hI : LI u v) (hP : va_P (dC, dI) cls (WL cI cJ cZ ca ma u v) H) (hD : va_D A0 (WL cI cJ cZ ca ma u v)) (hS : va_S A0 s.heap H locs) (hl : lv_has ls 4 [(0, .ref sc), (1, .ref ca.cp), (2, .ref ma.o), (3, .int (nI i))])
    (kk : ∀ (u1 : CS) (v1 : MS) (H1 : Heap) (locs1 : List Loc), LI u1 v1 → va_P (dC, dI) cls (WL cI cJ cZ ca ma u1 v1) H1 → va_D A0 (WL cI cJ cZ ca ma u1 v1) → va_S A0 s.heap H1 locs1 → W p l e room_1 s m args below meth c H1 locs1 40 19226 Q (F0 m 609 ls [])) : W p l e room_1 s m args below meth c H locs 40 19226 Q (F0 m 596 ls []) := by
  obtain ⟨hx, hb, hml, hown, hts, hK, hX, hbl, hbA, hL⟩ := X
  have hRc : 40 ≤ room_1.cells := Nat.le_of_ble_eq_true rfl
  have hRs : 19226 ≤ room_1.slots := Nat.le_of_ble_eq_true rfl
  obtain ⟨nd, ar, pr, F, G, N, Fm, Rs, A, z, Se, al, br, N2, Fm2, Rs2, A2, zi2, S2, al2, br2, Cr, Op, Bf, sn, Ld, zi, Sg, Pi, Bo, pci, Gd, gci, bl0⟩ := u
  obtain ⟨th, ndm, arm, be, bz, sz, F', G', P, Nm, Wm, Td, Ob, Sp, D⟩ := v
  obtain ⟨hGA, hSK, hB0, e1, e2, hF, hG, hLK, hTd⟩ := hI
  have e1 : nd = ndm := e1
  have e2 : ar = arm := e2
  subst e1
  subst e2
  have hGA : GAR F G nd ar pr := hGA
  have hSK : SKI (lb pr) F G nd N Fm A Se z al br := hSK
  have hB0 : Bo 0 = 0 := hB0
  have hF : ∀ k, F' k < 14 := hF
  have hG : ∀ k, G' k < 14 := hG
  have hLK : LK F G pr F' G' P ar := hLK
  have hTd : ∀ k, Td k < 3 := hTd
  have hnd14 : nd ≤ 14 := hGA.1
  have har : ar ≤ 40 := hGA.2.1
  have hM := (lk_M hLK hGA).1
  have hNE := (lk_M hLK hGA).2
  refine lv_aload_n hx hb d_LW_law_596 rfl (lv_at hl 1 rfl) ?_
  refine x_ci (k_V (n := 0) (C := R_CP) (rest := []) ⟨hx, hb, hml, hown, hts⟩ (c_CP_worn l dC dI cI cJ cZ ca.cp ca.g ca.k ca.k2 ca.fl ca.co ca.sp ca.a1 ca.a2 nd ar pr F G (by first | assumption | omega) ca.nr ca.fr ca.rs ca.at_ ca.h al br N Fm A ca.b1 z Se (by first | assumption | omega) Rs) wml_LW_88 wim_CP_worn wsel_CP_worn wini_CP wcode_CP_worn (by decide +kernel) ⟨Nat.le_of_ble_eq_true rfl, Nat.le_of_ble_eq_true rfl⟩ (preV_M (q := (R_CP, F_CP, 6)) (ci := 0) (q0 := 0) (hP.sub (ws' := [(ca.cp, .inr (0, [.ref ca.g, .ref ca.k, .ref ca.k2, .ref ca.fl, .ref ca.co, .ref ca.sp])), (ca.k, .inr (2, [.ref ca.nr, .ref ca.fr, .ref ca.rs, .ref ca.at_, .ref ca.h, .int al, .long br])), (ca.nr, .inl (cI, 14, .inl N)), (ca.rs, .inl (cI, 14, .inl Rs))]) [0, 4, 5, 7] rfl) hK (hD.sub (ws' := [(ca.cp, .inr (0, [.ref ca.g, .ref ca.k, .ref ca.k2, .ref ca.fl, .ref ca.co, .ref ca.sp])), (ca.k, .inr (2, [.ref ca.nr, .ref ca.fr, .ref ca.rs, .ref ca.at_, .ref ca.h, .int al, .long br])), (ca.nr, .inl (cI, 14, .inl N)), (ca.rs, .inl (cI, 14, .inl Rs))]) [0, 4, 5, 7] (by decide) rfl) rfl rfl) rfl hl.1 rfl (Nat.le_of_ble_eq_true rfl) d_LW_law_597 ⟨hRc, hRs⟩) hP hD hS [0, 4, 5, 7] rfl (fun _ => rfl) (fun r_1 u_1 H locs hu_1 hP hS => ?_)
  obtain ⟨R9_1, rfl⟩ : ∃ z, z = u_1 := ⟨_, rfl⟩
  have hP : va_P (dC, dI) cls (WL cI cJ cZ ca ma ⟨nd, ar, pr, F, G, N, Fm, R9_1, A, z, Se, al, br, N2, Fm2, Rs2, A2, zi2, S2, al2, br2, Cr, Op, Bf, sn, Ld, zi, Sg, Pi, Bo, pci, Gd, gci, bl0⟩ ⟨th, nd, ar, be, bz, sz, F', G', P, Nm, Wm, Td, Ob, Sp, D⟩) H := hP
  have hD := hD.addr (ws' := (WL cI cJ cZ ca ma ⟨nd, ar, pr, F, G, N, Fm, R9_1, A, z, Se, al, br, N2, Fm2, Rs2, A2, zi2, S2, al2, br2, Cr, Op, Bf, sn, Ld, zi, Sg, Pi, Bo, pci, Gd, gci, bl0⟩ ⟨th, nd, ar, be, bz, sz, F', G', P, Nm, Wm, Td, Ob, Sp, D⟩)) rfl
  refine lv_aload_n hx hb d_LW_law_600 rfl (lv_at hl 2 rfl) ?_
  refine x_ci (k_V (n := 0) (C := R_MO) (rest := [.int r_1]) ⟨hx, hb, hml, hown, hts⟩ (c_MO_worn l dC dI cI cJ cZ ma.o ma.fF ma.fG ma.fT ma.fN ma.fW ma.fO ma.fB ma.fS ma.fD th be bz sz nd ar F' G' P (by first | assumption | omega) (by first | assumption | omega) (by first | assumption | omega) (by first | assumption | omega) (by first | assumption | omega) (by first | assumption | omega) Nm) wml_LW_91 wim_MO_worn wsel_MO_worn wini_MO wcode_MO_worn (by decide +kernel) ⟨Nat.le_of_ble_eq_true rfl, Nat.le_of_ble_eq_true rfl⟩ (preV_M (q := (R_MO, F_MO, 15)) (ci := 7) (q0 := 0) (hP.sub (ws' := [(ma.o, .inr (7, [.int th, .int (nI nd), .int (nI ar), .ref ma.fF, .ref ma.fG, .ref ma.fT, .ref ma.fN, .ref ma.fW, .int be, .ref ma.fO, .ref ma.fB, .int bz, .ref ma.fS, .ref ma.fD, .int sz])), (ma.fF, .inl (cI, 41, .inl (nF F'))), (ma.fG, .inl (cI, 41, .inl (nF G'))), (ma.fT, .inl (cZ, 41, .inl (bF P))), (ma.fN, .inl (cI, 14, .inl Nm))]) [30, 31, 32, 33, 34] rfl) hK (hD.sub (ws' := [(ma.o, .inr (7, [.int th, .int (nI nd), .int (nI ar), .ref ma.fF, .ref ma.fG, .ref ma.fT, .ref ma.fN, .ref ma.fW, .int be, .ref ma.fO, .ref ma.fB, .int bz, .ref ma.fS, .ref ma.fD, .int sz])), (ma.fF, .inl (cI, 41, .inl (nF F'))), (ma.fG, .inl (cI, 41, .inl (nF G'))), (ma.fT, .inl (cZ, 41, .inl (bF P))), (ma.fN, .inl (cI, 14, .inl Nm))]) [30, 31, 32, 33, 34] (by decide) rfl) rfl rfl) rfl hl.1 rfl (Nat.le_of_ble_eq_true rfl) d_LW_law_601 ⟨hRc, hRs⟩) hP hD hS [30, 31, 32, 33, 34] rfl (fun _ => rfl) (fun r_2 u_2 H locs hu_2 hP hS => ?_)
  obtain ⟨N9_2, rfl⟩ : ∃ z, z = u_2 := ⟨_, rfl⟩
  have hP : va_P (dC, dI) cls (WL cI cJ cZ ca ma ⟨nd, ar, pr, F, G, N, Fm, R9_1, A, z, Se, al, br, N2, Fm2, Rs2, A2, zi2, S2, al2, br2, Cr, Op, Bf, sn, Ld, zi, Sg, Pi, Bo, pci, Gd, gci, bl0⟩ ⟨(nI 0), nd, ar, be, bz, sz, F', G', P, N9_2, Wm, Td, Ob, Sp, D⟩) H := hP
  have hD := hD.addr (ws' := (WL cI cJ cZ ca ma ⟨nd, ar, pr, F, G, N, Fm, R9_1, A, z, Se, al, br, N2, Fm2, Rs2, A2, zi2, S2, al2, br2, Cr, Op, Bf, sn, Ld, zi, Sg, Pi, Bo, pci, Gd, gci, bl0⟩ ⟨(nI 0), nd, ar, be, bz, sz, F', G', P, N9_2, Wm, Td, Ob, Sp, D⟩)) rfl
  have hag : r_2 = r_1 := (worn_eq hLK hSK hu_1 hu_2).symm
  refine xe_i (y := r_1) hag ?_
  refine lv_icmp_eq (tgt := 609) hx hb d_LW_law_604 (by decide) (fun _ => ?_) (fun q9 => absurd rfl q9)
  exact kk ⟨nd, ar, pr, F, G, N, Fm, R9_1, A, z, Se, al, br, N2, Fm2, Rs2, A2, zi2, S2, al2, br2, Cr, Op, Bf, sn, Ld, zi, Sg, Pi, Bo, pci, Gd, gci, bl0⟩ ⟨(nI 0), nd, ar, be, bz, sz, F', G', P, N9_2, Wm, Td, Ob, Sp, D⟩ H locs ⟨hGA, hSK, hB0, rfl, rfl, hF, hG, hLK, hTd⟩ hP hD hS

