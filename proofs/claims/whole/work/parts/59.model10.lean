theorem d_MO_wornSet_0 : decode prog_9_method_26_code 0 = .ok (.aload_n 0, 1) := by decide +kernel
theorem d_MO_wornSet_1 : decode prog_9_method_26_code 1 = .ok (.invokevirtual 67, 3) := by decide +kernel
theorem d_MO_wornSet_4 : decode prog_9_method_26_code 4 = .ok (.aload_n 0, 1) := by decide +kernel
theorem d_MO_wornSet_5 : decode prog_9_method_26_code 5 = .ok (.invokevirtual 88, 3) := by decide +kernel
theorem d_MO_wornSet_8 : decode prog_9_method_26_code 8 = .ok (.istore_n 1, 1) := by decide +kernel
theorem d_MO_wornSet_9 : decode prog_9_method_26_code 9 = .ok (.aload_n 0, 1) := by decide +kernel
theorem d_MO_wornSet_10 : decode prog_9_method_26_code 10 = .ok (.getfield 42, 3) := by decide +kernel
theorem d_MO_wornSet_13 : decode prog_9_method_26_code 13 = .ok (.iconst 1, 1) := by decide +kernel
theorem d_MO_wornSet_14 : decode prog_9_method_26_code 14 = .ok (.isub, 1) := by decide +kernel
theorem d_MO_wornSet_15 : decode prog_9_method_26_code 15 = .ok (.istore_n 2, 1) := by decide +kernel
theorem d_MO_wornSet_16 : decode prog_9_method_26_code 16 = .ok (.iload_n 2, 1) := by decide +kernel
theorem d_MO_wornSet_17 : decode prog_9_method_26_code 17 = .ok (.ifCond .lt 172, 3) := by decide +kernel
theorem d_MO_wornSet_20 : decode prog_9_method_26_code 20 = .ok (.iload_n 1, 1) := by decide +kernel
theorem d_MO_wornSet_21 : decode prog_9_method_26_code 21 = .ok (.iload_n 2, 1) := by decide +kernel
theorem d_MO_wornSet_22 : decode prog_9_method_26_code 22 = .ok (.ishr, 1) := by decide +kernel
theorem d_MO_wornSet_23 : decode prog_9_method_26_code 23 = .ok (.iconst 1, 1) := by decide +kernel
theorem d_MO_wornSet_24 : decode prog_9_method_26_code 24 = .ok (.iand, 1) := by decide +kernel
theorem d_MO_wornSet_25 : decode prog_9_method_26_code 25 = .ok (.iconst 1, 1) := by decide +kernel
theorem d_MO_wornSet_26 : decode prog_9_method_26_code 26 = .ok (.if_icmp .ne 20, 3) := by decide +kernel
theorem d_MO_wornSet_29 : decode prog_9_method_26_code 29 = .ok (.aload_n 0, 1) := by decide +kernel
theorem d_MO_wornSet_30 : decode prog_9_method_26_code 30 = .ok (.getfield 20, 3) := by decide +kernel
theorem d_MO_wornSet_33 : decode prog_9_method_26_code 33 = .ok (.iload_n 2, 1) := by decide +kernel
theorem d_MO_wornSet_34 : decode prog_9_method_26_code 34 = .ok (.iaload, 1) := by decide +kernel
theorem d_MO_wornSet_35 : decode prog_9_method_26_code 35 = .ok (.invokestatic 92, 3) := by decide +kernel
theorem d_MO_wornSet_38 : decode prog_9_method_26_code 38 = .ok (.iconst 2, 1) := by decide +kernel
theorem d_MO_wornSet_39 : decode prog_9_method_26_code 39 = .ok (.if_icmp .gt 7, 3) := by decide +kernel
theorem d_MO_wornSet_42 : decode prog_9_method_26_code 42 = .ok (.iconst 1, 1) := by decide +kernel
theorem d_MO_wornSet_43 : decode prog_9_method_26_code 43 = .ok (.goto 4, 3) := by decide +kernel
theorem d_MO_wornSet_46 : decode prog_9_method_26_code 46 = .ok (.iconst 0, 1) := by decide +kernel
theorem d_MO_wornSet_47 : decode prog_9_method_26_code 47 = .ok (.istore_n 3, 1) := by decide +kernel
theorem d_MO_wornSet_48 : decode prog_9_method_26_code 48 = .ok (.iload_n 3, 1) := by decide +kernel
theorem d_MO_wornSet_49 : decode prog_9_method_26_code 49 = .ok (.ifCond .eq 134, 3) := by decide +kernel
theorem d_MO_wornSet_52 : decode prog_9_method_26_code 52 = .ok (.aload_n 0, 1) := by decide +kernel
theorem d_MO_wornSet_53 : decode prog_9_method_26_code 53 = .ok (.getfield 20, 3) := by decide +kernel
theorem d_MO_wornSet_56 : decode prog_9_method_26_code 56 = .ok (.iload_n 2, 1) := by decide +kernel
theorem d_MO_wornSet_57 : decode prog_9_method_26_code 57 = .ok (.iaload, 1) := by decide +kernel
theorem d_MO_wornSet_58 : decode prog_9_method_26_code 58 = .ok (.invokestatic 56, 3) := by decide +kernel
theorem d_MO_wornSet_61 : decode prog_9_method_26_code 61 = .ok (.istore 4, 2) := by decide +kernel
theorem d_MO_wornSet_63 : decode prog_9_method_26_code 63 = .ok (.aload_n 0, 1) := by decide +kernel
theorem d_MO_wornSet_64 : decode prog_9_method_26_code 64 = .ok (.getfield 20, 3) := by decide +kernel
theorem d_MO_wornSet_67 : decode prog_9_method_26_code 67 = .ok (.iload_n 2, 1) := by decide +kernel
theorem d_MO_wornSet_68 : decode prog_9_method_26_code 68 = .ok (.iaload, 1) := by decide +kernel
theorem d_MO_wornSet_69 : decode prog_9_method_26_code 69 = .ok (.iconst 1, 1) := by decide +kernel
theorem d_MO_wornSet_70 : decode prog_9_method_26_code 70 = .ok (.iload 4, 2) := by decide +kernel
theorem d_MO_wornSet_72 : decode prog_9_method_26_code 72 = .ok (.ishl, 1) := by decide +kernel
theorem d_MO_wornSet_73 : decode prog_9_method_26_code 73 = .ok (.iconst (-1), 1) := by decide +kernel
theorem d_MO_wornSet_74 : decode prog_9_method_26_code 74 = .ok (.ixor, 1) := by decide +kernel
theorem d_MO_wornSet_75 : decode prog_9_method_26_code 75 = .ok (.iand, 1) := by decide +kernel
theorem d_MO_wornSet_76 : decode prog_9_method_26_code 76 = .ok (.invokestatic 56, 3) := by decide +kernel
theorem d_MO_wornSet_79 : decode prog_9_method_26_code 79 = .ok (.istore 5, 2) := by decide +kernel
theorem d_MO_wornSet_81 : decode prog_9_method_26_code 81 = .ok (.iconst 0, 1) := by decide +kernel
theorem d_MO_wornSet_82 : decode prog_9_method_26_code 82 = .ok (.istore 6, 2) := by decide +kernel
theorem d_MO_wornSet_84 : decode prog_9_method_26_code 84 = .ok (.iload 6, 2) := by decide +kernel
theorem d_MO_wornSet_86 : decode prog_9_method_26_code 86 = .ok (.aload_n 0, 1) := by decide +kernel
theorem d_MO_wornSet_87 : decode prog_9_method_26_code 87 = .ok (.getfield 42, 3) := by decide +kernel
theorem d_MO_wornSet_90 : decode prog_9_method_26_code 90 = .ok (.if_icmp .ge 29, 3) := by decide +kernel
theorem d_MO_wornSet_93 : decode prog_9_method_26_code 93 = .ok (.aload_n 0, 1) := by decide +kernel
theorem d_MO_wornSet_94 : decode prog_9_method_26_code 94 = .ok (.getfield 20, 3) := by decide +kernel
theorem d_MO_wornSet_97 : decode prog_9_method_26_code 97 = .ok (.iload 6, 2) := by decide +kernel
theorem d_MO_wornSet_99 : decode prog_9_method_26_code 99 = .ok (.aload_n 0, 1) := by decide +kernel
theorem d_MO_wornSet_100 : decode prog_9_method_26_code 100 = .ok (.getfield 20, 3) := by decide +kernel
theorem d_MO_wornSet_103 : decode prog_9_method_26_code 103 = .ok (.iload 6, 2) := by decide +kernel
theorem d_MO_wornSet_105 : decode prog_9_method_26_code 105 = .ok (.iaload, 1) := by decide +kernel
theorem d_MO_wornSet_106 : decode prog_9_method_26_code 106 = .ok (.iconst 1, 1) := by decide +kernel
theorem d_MO_wornSet_107 : decode prog_9_method_26_code 107 = .ok (.iload_n 2, 1) := by decide +kernel
theorem d_MO_wornSet_108 : decode prog_9_method_26_code 108 = .ok (.ishl, 1) := by decide +kernel
theorem d_MO_wornSet_109 : decode prog_9_method_26_code 109 = .ok (.iconst (-1), 1) := by decide +kernel
theorem d_MO_wornSet_110 : decode prog_9_method_26_code 110 = .ok (.ixor, 1) := by decide +kernel
theorem d_MO_wornSet_111 : decode prog_9_method_26_code 111 = .ok (.iand, 1) := by decide +kernel
theorem d_MO_wornSet_112 : decode prog_9_method_26_code 112 = .ok (.iastore, 1) := by decide +kernel
theorem d_MO_wornSet_113 : decode prog_9_method_26_code 113 = .ok (.iinc 6 1, 3) := by decide +kernel
theorem d_MO_wornSet_116 : decode prog_9_method_26_code 116 = .ok (.goto (-32), 3) := by decide +kernel
theorem d_MO_wornSet_119 : decode prog_9_method_26_code 119 = .ok (.aload_n 0, 1) := by decide +kernel
theorem d_MO_wornSet_120 : decode prog_9_method_26_code 120 = .ok (.getfield 20, 3) := by decide +kernel
theorem d_MO_wornSet_123 : decode prog_9_method_26_code 123 = .ok (.iload_n 2, 1) := by decide +kernel
theorem d_MO_wornSet_124 : decode prog_9_method_26_code 124 = .ok (.iaload, 1) := by decide +kernel
theorem d_MO_wornSet_125 : decode prog_9_method_26_code 125 = .ok (.invokestatic 92, 3) := by decide +kernel
theorem d_MO_wornSet_128 : decode prog_9_method_26_code 128 = .ok (.iconst 2, 1) := by decide +kernel
theorem d_MO_wornSet_129 : decode prog_9_method_26_code 129 = .ok (.if_icmp .ne 41, 3) := by decide +kernel
theorem d_MO_wornSet_132 : decode prog_9_method_26_code 132 = .ok (.aload_n 0, 1) := by decide +kernel
theorem d_MO_wornSet_133 : decode prog_9_method_26_code 133 = .ok (.getfield 20, 3) := by decide +kernel
theorem d_MO_wornSet_136 : decode prog_9_method_26_code 136 = .ok (.iload 4, 2) := by decide +kernel
theorem d_MO_wornSet_138 : decode prog_9_method_26_code 138 = .ok (.aload_n 0, 1) := by decide +kernel
theorem d_MO_wornSet_139 : decode prog_9_method_26_code 139 = .ok (.getfield 20, 3) := by decide +kernel
theorem d_MO_wornSet_142 : decode prog_9_method_26_code 142 = .ok (.iload 4, 2) := by decide +kernel
theorem d_MO_wornSet_144 : decode prog_9_method_26_code 144 = .ok (.iaload, 1) := by decide +kernel
theorem d_MO_wornSet_145 : decode prog_9_method_26_code 145 = .ok (.iconst 1, 1) := by decide +kernel
theorem d_MO_wornSet_146 : decode prog_9_method_26_code 146 = .ok (.iload 5, 2) := by decide +kernel
theorem d_MO_wornSet_148 : decode prog_9_method_26_code 148 = .ok (.ishl, 1) := by decide +kernel
theorem d_MO_wornSet_149 : decode prog_9_method_26_code 149 = .ok (.ior, 1) := by decide +kernel
theorem d_MO_wornSet_150 : decode prog_9_method_26_code 150 = .ok (.iastore, 1) := by decide +kernel
theorem d_MO_wornSet_151 : decode prog_9_method_26_code 151 = .ok (.aload_n 0, 1) := by decide +kernel
theorem d_MO_wornSet_152 : decode prog_9_method_26_code 152 = .ok (.getfield 20, 3) := by decide +kernel
theorem d_MO_wornSet_155 : decode prog_9_method_26_code 155 = .ok (.iload 5, 2) := by decide +kernel
theorem d_MO_wornSet_157 : decode prog_9_method_26_code 157 = .ok (.aload_n 0, 1) := by decide +kernel
theorem d_MO_wornSet_158 : decode prog_9_method_26_code 158 = .ok (.getfield 20, 3) := by decide +kernel
theorem d_MO_wornSet_161 : decode prog_9_method_26_code 161 = .ok (.iload 5, 2) := by decide +kernel
theorem d_MO_wornSet_163 : decode prog_9_method_26_code 163 = .ok (.iaload, 1) := by decide +kernel
theorem d_MO_wornSet_164 : decode prog_9_method_26_code 164 = .ok (.iconst 1, 1) := by decide +kernel
theorem d_MO_wornSet_165 : decode prog_9_method_26_code 165 = .ok (.iload 4, 2) := by decide +kernel
theorem d_MO_wornSet_167 : decode prog_9_method_26_code 167 = .ok (.ishl, 1) := by decide +kernel
theorem d_MO_wornSet_168 : decode prog_9_method_26_code 168 = .ok (.ior, 1) := by decide +kernel
theorem d_MO_wornSet_169 : decode prog_9_method_26_code 169 = .ok (.iastore, 1) := by decide +kernel
theorem d_MO_wornSet_170 : decode prog_9_method_26_code 170 = .ok (.iload_n 1, 1) := by decide +kernel
theorem d_MO_wornSet_171 : decode prog_9_method_26_code 171 = .ok (.iconst 1, 1) := by decide +kernel
theorem d_MO_wornSet_172 : decode prog_9_method_26_code 172 = .ok (.iload_n 2, 1) := by decide +kernel
theorem d_MO_wornSet_173 : decode prog_9_method_26_code 173 = .ok (.ishl, 1) := by decide +kernel
theorem d_MO_wornSet_174 : decode prog_9_method_26_code 174 = .ok (.iconst (-1), 1) := by decide +kernel
theorem d_MO_wornSet_175 : decode prog_9_method_26_code 175 = .ok (.ixor, 1) := by decide +kernel
theorem d_MO_wornSet_176 : decode prog_9_method_26_code 176 = .ok (.iand, 1) := by decide +kernel
theorem d_MO_wornSet_177 : decode prog_9_method_26_code 177 = .ok (.istore_n 1, 1) := by decide +kernel
theorem d_MO_wornSet_178 : decode prog_9_method_26_code 178 = .ok (.aload_n 0, 1) := by decide +kernel
theorem d_MO_wornSet_179 : decode prog_9_method_26_code 179 = .ok (.getfield 42, 3) := by decide +kernel
theorem d_MO_wornSet_182 : decode prog_9_method_26_code 182 = .ok (.istore_n 2, 1) := by decide +kernel
theorem d_MO_wornSet_183 : decode prog_9_method_26_code 183 = .ok (.iinc 2 (-1), 3) := by decide +kernel
theorem d_MO_wornSet_186 : decode prog_9_method_26_code 186 = .ok (.goto (-170), 3) := by decide +kernel
theorem d_MO_wornSet_189 : decode prog_9_method_26_code 189 = .ok (.iload_n 1, 1) := by decide +kernel
theorem d_MO_wornSet_190 : decode prog_9_method_26_code 190 = .ok (.ireturn, 1) := by decide +kernel
set_option maxHeartbeats 4000000 in
set_option maxRecDepth 100000 in
theorem c_MO_wornSet (l : Launch) (dC : Nat → ClassId) (dI : Nat → Nat → Nat) (cI cJ cZ : ClassId) (o fF fG fT fN fW fO fB fS fD : Nat) (th be bz sz : Int32) (nd ar : Nat) (F G : Nat → Nat) (P : Nat → Bool) (hF : ∀ k, F k < 14) (hG : ∀ k, G k < 14) (hnd : nd ≤ 14) (har : ar ≤ 40) (hM : ∀ e, e < ar → F e < nd ∧ G e < nd) (hL : ∀ e, e < ar → F e ≠ G e) (N0 : Nat → Int32) : Met l ⟨"CutPointsModel", "wornSet", "()I"⟩ (Cond.code ⟨"CutPointsModel", "wornSet", "()I"⟩ prog_9_method_26_code 7 (some .int) :: TT) (rmk 2 47) (PM dC dI cI cJ cZ [.ref o] [(o, .inr (7, [.int th, .int (nI nd), .int (nI ar), .ref fF, .ref fG, .ref fT, .ref fN, .ref fW, .int be, .ref fO, .ref fB, .int bz, .ref fS, .ref fD, .int sz])), (fF, .inl (cI, 41, .inl (nF F))), (fG, .inl (cI, 41, .inl (nF G))), (fT, .inl (cZ, 41, .inl (bF P))), (fN, .inl (cI, 14, .inl N0))]) (va_Qi (S := Nat → Int32) (fun r u9 => ∃ N, NR (lkT ar 0 P (-1) (-1) (nI 0) F G) F G N ∧ WR (wS (sb nd - nI 1) N) r) (fun u9 t9 => va_P (dC, dI) cls ([(o, .inr (7, [.int th, .int (nI nd), .int (nI ar), .ref fF, .ref fG, .ref fT, .ref fN, .ref fW, .int be, .ref fO, .ref fB, .int bz, .ref fS, .ref fD, .int sz])), (fF, .inl (cI, 41, .inl (nF F))), (fG, .inl (cI, 41, .inl (nF G))), (fT, .inl (cZ, 41, .inl (bF P))), (fN, .inl (cI, 14, .inl u9))]) t9.heap) (ow [(o, .inr (7, [.int th, .int (nI nd), .int (nI ar), .ref fF, .ref fG, .ref fT, .ref fN, .ref fW, .int be, .ref fO, .ref fB, .int bz, .ref fS, .ref fD, .int sz])), (fF, .inl (cI, 41, .inl (nF F))), (fG, .inl (cI, 41, .inl (nF G))), (fT, .inl (cZ, 41, .inl (bF P))), (fN, .inl (cI, 14, .inl N0))])) 0 0 (ow [(o, .inr (7, [.int th, .int (nI nd), .int (nI ar), .ref fF, .ref fG, .ref fT, .ref fN, .ref fW, .int be, .ref fO, .ref fB, .int bz, .ref fS, .ref fD, .int sz])), (fF, .inl (cI, 41, .inl (nF F))), (fG, .inl (cI, 41, .inl (nF G))), (fT, .inl (cZ, 41, .inl (bF P))), (fN, .inl (cI, 14, .inl N0))]) := by
  refine Met.ofW (cc := prog_9_method_26_code) (maxL := 7) (ret := (some .int)) (by decide) rfl ?_
  intro p e s m args below meth c s₁ BB9 hml hv
  obtain ⟨rfl, hP, hK, hD0⟩ := hv
  have hx := BB9.exec
  have hb := BB9.bytes
  have hr := BB9.returns
  have hts : ∀ w ∈ TT, w.before _ s = true := fun w h => atoms_spec (ws := (Cond.code ⟨"CutPointsModel", "wornSet", "()I"⟩ prog_9_method_26_code 7 (some .int) :: TT)) BB9.pre w (List.mem_cons_of_mem _ h)
  have hown : s.vm.findClass "CutPointsModel" = some m.cls := findClass_of_methodNamed BB9.named
  have hlocks := BB9.notSynchronized
  have hD := hD0.mine
  have hS : va_S (ow [(o, .inr (7, [.int th, .int (nI nd), .int (nI ar), .ref fF, .ref fG, .ref fT, .ref fN, .ref fW, .int be, .ref fO, .ref fB, .int bz, .ref fS, .ref fD, .int sz])), (fF, .inl (cI, 41, .inl (nF F))), (fG, .inl (cI, 41, .inl (nF G))), (fT, .inl (cZ, 41, .inl (bF P))), (fN, .inl (cI, 14, .inl N0))]) s.heap s.heap [] := va_S.rf
  have hl := lv_entry ([.ref o]) (n := 7) (Nat.le_of_ble_eq_true rfl)
  rw [lg_entry_eq]
  generalize (lg_sl ([.ref o]) ++ List.replicate (7 - (lg_sl ([.ref o])).length) Slot.unset).toArray = ls at hl ⊢
  have hl : lv_has ls 7 [(0, .ref o)] := hl
  refine lv_aload_n hx hb d_MO_wornSet_0 rfl (lv_at hl 0 rfl) ?_
  refine x_cv (k_V (n := 0) (C := R_MO) (rest := []) ⟨hx, hb, hml, hown, hts⟩ (c_MO_lookAll l dC dI cI cJ cZ o fF fG fT fN fW fO fB fS fD th be bz sz nd ar F G P hF hG (by first | assumption | omega) (by first | assumption | omega) hM N0) wml_MO_67 wim_MO_lookAll wsel_MO_lookAll wini_MO wcode_MO_lookAll (by decide +kernel) ⟨Nat.le_of_ble_eq_true rfl, Nat.le_of_ble_eq_true rfl⟩ (preV_M (q := (R_MO, F_MO, 15)) (ci := 7) (q0 := 0) (hP.sub (ws' := [(o, .inr (7, [.int th, .int (nI nd), .int (nI ar), .ref fF, .ref fG, .ref fT, .ref fN, .ref fW, .int be, .ref fO, .ref fB, .int bz, .ref fS, .ref fD, .int sz])), (fF, .inl (cI, 41, .inl (nF F))), (fG, .inl (cI, 41, .inl (nF G))), (fT, .inl (cZ, 41, .inl (bF P))), (fN, .inl (cI, 14, .inl N0))]) [0, 1, 2, 3, 4] rfl) hK (hD.sub (ws' := [(o, .inr (7, [.int th, .int (nI nd), .int (nI ar), .ref fF, .ref fG, .ref fT, .ref fN, .ref fW, .int be, .ref fO, .ref fB, .int bz, .ref fS, .ref fD, .int sz])), (fF, .inl (cI, 41, .inl (nF F))), (fG, .inl (cI, 41, .inl (nF G))), (fT, .inl (cZ, 41, .inl (bF P))), (fN, .inl (cI, 14, .inl N0))]) [0, 1, 2, 3, 4] (by decide) rfl) rfl rfl) rfl hl.1 rfl (Nat.le_of_ble_eq_true rfl) d_MO_wornSet_1 ⟨Nat.zero_le _, Nat.zero_le _⟩) hP hD hS [0, 1, 2, 3, 4] rfl (fun _ => rfl) (fun u_1 H locs hu_1 hP hS => ?_)
  obtain ⟨N9_1, rfl⟩ : ∃ z, z = u_1 := ⟨_, rfl⟩
  have hP : va_P (dC, dI) cls [(o, .inr (7, [.int th, .int (nI nd), .int (nI ar), .ref fF, .ref fG, .ref fT, .ref fN, .ref fW, .int be, .ref fO, .ref fB, .int bz, .ref fS, .ref fD, .int sz])), (fF, .inl (cI, 41, .inl (nF F))), (fG, .inl (cI, 41, .inl (nF G))), (fT, .inl (cZ, 41, .inl (bF P))), (fN, .inl (cI, 14, .inl N9_1))] H := hP
  have hD := hD.addr (ws' := [(o, .inr (7, [.int th, .int (nI nd), .int (nI ar), .ref fF, .ref fG, .ref fT, .ref fN, .ref fW, .int be, .ref fO, .ref fB, .int bz, .ref fS, .ref fD, .int sz])), (fF, .inl (cI, 41, .inl (nF F))), (fG, .inl (cI, 41, .inl (nF G))), (fT, .inl (cZ, 41, .inl (bF P))), (fN, .inl (cI, 14, .inl N9_1))]) rfl
  refine lv_aload_n hx hb d_MO_wornSet_4 rfl (lv_at hl 0 rfl) ?_
  refine vp_callSi (va_Run.run (k_V (n := 0) (C := R_MO) (rest := []) ⟨hx, hb, hml, hown, hts⟩ (c_MO_everyNode l dC dI cI cJ cZ o fF fG fT fN fW fO fB fS fD th be bz sz nd ar) wml_MO_88 wim_MO_everyNode wsel_MO_everyNode wini_MO wcode_MO_everyNode (by decide +kernel) ⟨Nat.le_of_ble_eq_true rfl, Nat.le_of_ble_eq_true rfl⟩ (preV_R (q := (R_MO, F_MO, 15)) (ci := 7) (q0 := 0) (hP.sub (ws' := [(o, .inr (7, [.int th, .int (nI nd), .int (nI ar), .ref fF, .ref fG, .ref fT, .ref fN, .ref fW, .int be, .ref fO, .ref fB, .int bz, .ref fS, .ref fD, .int sz]))]) [0] rfl) hK rfl rfl) rfl hl.1 rfl (Nat.le_of_ble_eq_true rfl) d_MO_wornSet_5 ⟨Nat.zero_le _, Nat.zero_le _⟩)) (fun r_2 hr_3 => ?_)
  refine xe_i (y := (sb nd - nI 1)) hr_3 ?_
  refine lv_istore_n (lv' := [(1, .int (sb nd - nI 1)), (0, .ref o)]) hx hb d_MO_wornSet_8 rfl hl (by decide) rfl (fun ls hl => ?_)
  refine lv_aload_n hx hb d_MO_wornSet_9 rfl (lv_at hl 1 rfl) ?_
  refine va_get (D := (dC, dI)) (ci := 7) (v := .int (nI nd)) (C := R_MO) (T := F_MO) (N := 15) hx hb hts in_MO hown hK.1 hP 0 rfl rfl 1 (by decide) (hts _ wfl_MO_42) (fun _ h9 => h9) rfl d_MO_wornSet_10 ?_
  refine lv_iconst (v := (nI 1)) hx hb d_MO_wornSet_13 (by decide) ?_
  refine lv_isub hx hb d_MO_wornSet_14 ?_
  refine lv_istore_n (lv' := [(2, .int ((nI nd) - (nI 1))), (1, .int (sb nd - nI 1)), (0, .ref o)]) hx hb d_MO_wornSet_15 rfl hl (by decide) rfl (fun ls hl => ?_)
  have L16_4 : ∀ (n : Nat) (R : Nat → Int32) (lf : Int32) (m0 : Nat) (hn : 16 * cn (bt lf) 14 + m0 < n) (hm14 : m0 ≤ nd) (hI : wmI (wS (sb nd - nI 1) N9_1) nd lf R m0) (H : Heap) (locs : List Loc) (hP : va_P (dC, dI) cls [(o, .inr (7, [.int th, .int (nI nd), .int (nI ar), .ref fF, .ref fG, .ref fT, .ref fN, .ref fW, .int be, .ref fO, .ref fB, .int bz, .ref fS, .ref fD, .int sz])), (fF, .inl (cI, 41, .inl (nF F))), (fG, .inl (cI, 41, .inl (nF G))), (fT, .inl (cZ, 41, .inl (bF P))), (fN, .inl (cI, 14, .inl R))] H) (hD : va_D (ow [(o, .inr (7, [.int th, .int (nI nd), .int (nI ar), .ref fF, .ref fG, .ref fT, .ref fN, .ref fW, .int be, .ref fO, .ref fB, .int bz, .ref fS, .ref fD, .int sz])), (fF, .inl (cI, 41, .inl (nF F))), (fG, .inl (cI, 41, .inl (nF G))), (fT, .inl (cZ, 41, .inl (bF P))), (fN, .inl (cI, 14, .inl N0))]) [(o, .inr (7, [.int th, .int (nI nd), .int (nI ar), .ref fF, .ref fG, .ref fT, .ref fN, .ref fW, .int be, .ref fO, .ref fB, .int bz, .ref fS, .ref fD, .int sz])), (fF, .inl (cI, 41, .inl (nF F))), (fG, .inl (cI, 41, .inl (nF G))), (fT, .inl (cZ, 41, .inl (bF P))), (fN, .inl (cI, 14, .inl R))]) (hS : va_S (ow [(o, .inr (7, [.int th, .int (nI nd), .int (nI ar), .ref fF, .ref fG, .ref fT, .ref fN, .ref fW, .int be, .ref fO, .ref fB, .int bz, .ref fS, .ref fD, .int sz])), (fF, .inl (cI, 41, .inl (nF F))), (fG, .inl (cI, 41, .inl (nF G))), (fT, .inl (cZ, 41, .inl (bF P))), (fN, .inl (cI, 14, .inl N0))]) s.heap H locs) (ls : Array Slot) (hl : lv_has ls 7 [(0, .ref o), (1, .int lf), (2, .int (nI m0 - nI 1))]), W p l e (headSpec (Cond.code ⟨"CutPointsModel", "wornSet", "()I"⟩ prog_9_method_26_code 7 (some .int) :: TT) (rmk 2 47)).room s m ([.ref o] : List Value).toArray below meth c H locs 0 0 (MQ below (va_Qi (S := Nat → Int32) (fun r u9 => ∃ N, NR (lkT ar 0 P (-1) (-1) (nI 0) F G) F G N ∧ WR (wS (sb nd - nI 1) N) r) (fun u9 t9 => va_P (dC, dI) cls ([(o, .inr (7, [.int th, .int (nI nd), .int (nI ar), .ref fF, .ref fG, .ref fT, .ref fN, .ref fW, .int be, .ref fO, .ref fB, .int bz, .ref fS, .ref fD, .int sz])), (fF, .inl (cI, 41, .inl (nF F))), (fG, .inl (cI, 41, .inl (nF G))), (fT, .inl (cZ, 41, .inl (bF P))), (fN, .inl (cI, 14, .inl u9))]) t9.heap) (ow [(o, .inr (7, [.int th, .int (nI nd), .int (nI ar), .ref fF, .ref fG, .ref fT, .ref fN, .ref fW, .int be, .ref fO, .ref fB, .int bz, .ref fS, .ref fD, .int sz])), (fF, .inl (cI, 41, .inl (nF F))), (fG, .inl (cI, 41, .inl (nF G))), (fT, .inl (cZ, 41, .inl (bF P))), (fN, .inl (cI, 14, .inl N0))])) ([.ref o] : List Value).toArray s 0 0 (ow [(o, .inr (7, [.int th, .int (nI nd), .int (nI ar), .ref fF, .ref fG, .ref fT, .ref fN, .ref fW, .int be, .ref fO, .ref fB, .int bz, .ref fS, .ref fD, .int sz])), (fF, .inl (cI, 41, .inl (nF F))), (fG, .inl (cI, 41, .inl (nF G))), (fT, .inl (cZ, 41, .inl (bF P))), (fN, .inl (cI, 14, .inl N0))])) (F0 m 16 ls []) := by
    intro n_16
    induction n_16 with
    | zero =>
      intro R lf m0 hn_16
      exact absurd hn_16 (Nat.not_lt_zero _)
    | succ n_16 ih_16 =>
      intro R lf m0 hn_16 hm14 hI H locs hP hD hS ls hl
      refine lv_iload_n hx hb d_MO_wornSet_16 rfl (lv_at hl 2 rfl) ?_
      refine lv_if_lt (tgt := 189) hx hb d_MO_wornSet_17 (by decide) (fun c_5 => ?_) (fun c_5 => ?_)
      · skip
        have hm0 : m0 = 0 := (m1_lt m0 (by omega)).mp c_5
        refine lv_iload_n hx hb d_MO_wornSet_189 rfl (lv_at hl 1 rfl) ?_
        exact W.iret (v := lf) hx hb hr (fun t9 ht9 _ => ⟨⟨_, (R), rfl, ⟨N9_1, hu_1, wm_e hnd hI hm0⟩, by show va_P (dC, dI) cls _ t9.heap; rw [ht9]; exact hP⟩, hS.F ht9⟩) hS.2.2 d_MO_wornSet_190
      · skip
        have hm1 : 1 ≤ m0 := (by have q9 := mt (m1_lt m0 (by omega)).mpr c_5; omega)
        refine lv_iload_n hx hb d_MO_wornSet_20 rfl (lv_at hl 1 rfl) ?_
        refine lv_iload_n hx hb d_MO_wornSet_21 rfl (lv_at hl 2 rfl) ?_
        refine xe_i (y := (nI (m0 - 1))) (pk_sub hm1) ?_
        refine lv_ishr hx hb d_MO_wornSet_22 ?_
        refine lv_iconst (v := (nI 1)) hx hb d_MO_wornSet_23 (by decide) ?_
        refine lv_iand hx hb d_MO_wornSet_24 ?_
        refine xe_i (y := (bI (bt lf (m0 - 1)))) (sh1 (by omega)) ?_
        refine lv_iconst (v := (nI 1)) hx hb d_MO_wornSet_25 (by decide) ?_
        refine x_cmp1_ne (tgt := 46) hx hb d_MO_wornSet_26 (by decide) (fun c_6 => ?_) (fun c_6 => ?_)
        · skip
          refine lv_iconst (v := (nI 0)) hx hb d_MO_wornSet_46 (by decide) ?_
          refine lv_istore_n (lv' := [(3, .int (nI 0)), (0, .ref o), (1, .int lf), (2, .int (nI m0 - nI 1))]) hx hb d_MO_wornSet_47 rfl hl (by decide) rfl (fun ls hl => ?_)
          refine lv_iload_n hx hb d_MO_wornSet_48 rfl (lv_at hl 0 rfl) ?_
          refine lv_if_eq (tgt := 183) hx hb d_MO_wornSet_49 (by decide) (fun _ => ?_) (fun c9 => absurd (by decide : ((nI 0) : Int32) = 0) c9)
          refine lv_iinc (v := (nI (m0 - 1) - nI 1)) (lv' := [(2, .int (nI (m0 - 1) - nI 1)), (3, .int (nI 0)), (0, .ref o), (1, .int lf)]) hx hb d_MO_wornSet_183 hl (k := 3) rfl (by rw [pk_sub hm1]; exact nI_m1 _) (by decide) rfl (fun ls hl => ?_)
          refine lv_goto (tgt := 16) hx hb d_MO_wornSet_186 (by decide) ?_
          exact ih_16 R lf (m0 - 1) (by omega) (by first | assumption | omega) (wm_f hI hm1 (Or.inl c_6)) _ _ hP hD hS ls (lv_sub hl [2, 3, 0] rfl)
        · skip
          refine lv_aload_n hx hb d_MO_wornSet_29 rfl (lv_at hl 0 rfl) ?_
          refine va_get (D := (dC, dI)) (ci := 7) (v := .ref fN) (C := R_MO) (T := F_MO) (N := 15) hx hb hts in_MO hown hK.1 hP 0 rfl rfl 6 (by decide) (hts _ wfl_MO_20) (fun _ h9 => h9) rfl d_MO_wornSet_30 ?_
          refine lv_iload_n hx hb d_MO_wornSet_33 rfl (lv_at hl 2 rfl) ?_
          refine xe_i (y := (nI (m0 - 1))) (pk_sub hm1) ?_
          refine x_iald (n := 14) (f := R) (j := (m0 - 1)) hx hb hK.1 hP 4 0 rfl rfl (by omega) (by omega) d_MO_wornSet_34 ?_
          refine vp_callSi (va_Run.run (k_S (n := 1) (rest := []) ⟨hx, hb, hml, hown, hts⟩ (c_MO_many l dC dI cI cJ cZ (R (m0 - 1))) wml_MO_92 wst_MO_many wini_MO wcode_MO_many (by decide +kernel) ⟨Nat.le_of_ble_eq_true rfl, Nat.le_of_ble_eq_true rfl⟩ (pre_R (hP.sub (ws' := []) [] rfl) hK) rfl hl.1 rfl (Nat.le_of_ble_eq_true rfl) d_MO_wornSet_35 ⟨Nat.zero_le _, Nat.zero_le _⟩)) (fun r_8 hr_9 => ?_)
          refine xe_i (y := (nI (cn (bt (R (m0 - 1))) 16))) hr_9 ?_
          refine lv_iconst (v := (nI 2)) hx hb d_MO_wornSet_38 (by decide) ?_
          refine x_cmp_gt (a := (cn (bt (R (m0 - 1))) 16)) (b := 2) (tgt := 46) hx hb (Nat.lt_of_le_of_lt (cn_le _ _) (by decide)) (by omega) d_MO_wornSet_39 (by decide) (fun c_10 => ?_) (fun c_10 => ?_)
          · skip
            refine lv_iconst (v := (nI 0)) hx hb d_MO_wornSet_46 (by decide) ?_
            refine lv_istore_n (lv' := [(3, .int (nI 0)), (0, .ref o), (1, .int lf), (2, .int (nI m0 - nI 1))]) hx hb d_MO_wornSet_47 rfl hl (by decide) rfl (fun ls hl => ?_)
            refine lv_iload_n hx hb d_MO_wornSet_48 rfl (lv_at hl 0 rfl) ?_
            refine lv_if_eq (tgt := 183) hx hb d_MO_wornSet_49 (by decide) (fun _ => ?_) (fun c9 => absurd (by decide : ((nI 0) : Int32) = 0) c9)
            refine lv_iinc (v := (nI (m0 - 1) - nI 1)) (lv' := [(2, .int (nI (m0 - 1) - nI 1)), (3, .int (nI 0)), (0, .ref o), (1, .int lf)]) hx hb d_MO_wornSet_183 hl (k := 3) rfl (by rw [pk_sub hm1]; exact nI_m1 _) (by decide) rfl (fun ls hl => ?_)
            refine lv_goto (tgt := 16) hx hb d_MO_wornSet_186 (by decide) ?_
            exact ih_16 R lf (m0 - 1) (by omega) (by first | assumption | omega) (wm_f hI hm1 (Or.inr (by omega))) _ _ hP hD hS ls (lv_sub hl [2, 3, 0] rfl)
          · skip
            refine lv_iconst (v := (nI 1)) hx hb d_MO_wornSet_42 (by decide) ?_
            refine lv_goto (tgt := 47) hx hb d_MO_wornSet_43 (by decide) ?_
            refine lv_istore_n (lv' := [(3, .int (nI 1)), (0, .ref o), (1, .int lf), (2, .int (nI m0 - nI 1))]) hx hb d_MO_wornSet_47 rfl hl (by decide) rfl (fun ls hl => ?_)
            refine lv_iload_n hx hb d_MO_wornSet_48 rfl (lv_at hl 0 rfl) ?_
            refine lv_if_eq (tgt := 183) hx hb d_MO_wornSet_49 (by decide) (fun c9 => absurd c9 (by decide : ¬ ((nI 1) : Int32) = 0)) (fun _ => ?_)
            refine lv_aload_n hx hb d_MO_wornSet_52 rfl (lv_at hl 1 rfl) ?_
            refine va_get (D := (dC, dI)) (ci := 7) (v := .ref fN) (C := R_MO) (T := F_MO) (N := 15) hx hb hts in_MO hown hK.1 hP 0 rfl rfl 6 (by decide) (hts _ wfl_MO_20) (fun _ h9 => h9) rfl d_MO_wornSet_53 ?_
            refine lv_iload_n hx hb d_MO_wornSet_56 rfl (lv_at hl 3 rfl) ?_
            refine xe_i (y := (nI (m0 - 1))) (pk_sub hm1) ?_
            refine x_iald (n := 14) (f := R) (j := (m0 - 1)) hx hb hK.1 hP 4 0 rfl rfl (by omega) (by omega) d_MO_wornSet_57 ?_
            refine vp_callSi (va_Run.run (k_S (n := 1) (rest := []) ⟨hx, hb, hml, hown, hts⟩ (c_MO_least l dC dI cI cJ cZ (R (m0 - 1))) wml_MO_56 wst_MO_least wini_MO wcode_MO_least (by decide +kernel) ⟨Nat.le_of_ble_eq_true rfl, Nat.le_of_ble_eq_true rfl⟩ (pre_R (hP.sub (ws' := []) [] rfl) hK) rfl hl.1 rfl (Nat.le_of_ble_eq_true rfl) d_MO_wornSet_58 ⟨Nat.zero_le _, Nat.zero_le _⟩)) (fun r_13 hr_14 => ?_)
            refine xe_i (y := (nI (lsn (bt (R (m0 - 1))) 16))) hr_14 ?_
            refine lv_istore (lv' := [(4, .int (nI (lsn (bt (R (m0 - 1))) 16))), (3, .int (nI 1)), (0, .ref o), (1, .int lf), (2, .int (nI m0 - nI 1))]) hx hb d_MO_wornSet_61 hl (by decide) rfl (fun ls hl => ?_)
            refine lv_aload_n hx hb d_MO_wornSet_63 rfl (lv_at hl 2 rfl) ?_
            refine va_get (D := (dC, dI)) (ci := 7) (v := .ref fN) (C := R_MO) (T := F_MO) (N := 15) hx hb hts in_MO hown hK.1 hP 0 rfl rfl 6 (by decide) (hts _ wfl_MO_20) (fun _ h9 => h9) rfl d_MO_wornSet_64 ?_
            refine lv_iload_n hx hb d_MO_wornSet_67 rfl (lv_at hl 4 rfl) ?_
            refine xe_i (y := (nI (m0 - 1))) (pk_sub hm1) ?_
            refine x_iald (n := 14) (f := R) (j := (m0 - 1)) hx hb hK.1 hP 4 0 rfl rfl (by omega) (by omega) d_MO_wornSet_68 ?_
            refine lv_iconst (v := (nI 1)) hx hb d_MO_wornSet_69 (by decide) ?_
            refine lv_iload hx hb d_MO_wornSet_70 (lv_at hl 0 rfl) ?_
            refine lv_ishl hx hb d_MO_wornSet_72 ?_
            refine xe_i (y := (sb (lsn (bt (R (m0 - 1))) 16))) rfl ?_
            refine lv_iconst (v := (-1)) hx hb d_MO_wornSet_73 (by decide) ?_
            refine lv_ixor hx hb d_MO_wornSet_74 ?_
            refine lv_iand hx hb d_MO_wornSet_75 ?_
            refine vp_callSi (va_Run.run (k_S (n := 1) (rest := []) ⟨hx, hb, hml, hown, hts⟩ (c_MO_least l dC dI cI cJ cZ ((R (m0 - 1)) &&& ((sb (lsn (bt (R (m0 - 1))) 16)) ^^^ (-1)))) wml_MO_56 wst_MO_least wini_MO wcode_MO_least (by decide +kernel) ⟨Nat.le_of_ble_eq_true rfl, Nat.le_of_ble_eq_true rfl⟩ (pre_R (hP.sub (ws' := []) [] rfl) hK) rfl hl.1 rfl (Nat.le_of_ble_eq_true rfl) d_MO_wornSet_76 ⟨Nat.zero_le _, Nat.zero_le _⟩)) (fun r_15 hr_16 => ?_)
            refine xe_i (y := (nI (lsn (bt ((R (m0 - 1)) &&& ((sb (lsn (bt (R (m0 - 1))) 16)) ^^^ (-1)))) 16))) hr_16 ?_
            refine lv_istore (lv' := [(5, .int (nI (lsn (bt ((R (m0 - 1)) &&& ((sb (lsn (bt (R (m0 - 1))) 16)) ^^^ (-1)))) 16))), (4, .int (nI (lsn (bt (R (m0 - 1))) 16))), (3, .int (nI 1)), (0, .ref o), (1, .int lf), (2, .int (nI m0 - nI 1))]) hx hb d_MO_wornSet_79 hl (by decide) rfl (fun ls hl => ?_)
            refine lv_iconst (v := (nI 0)) hx hb d_MO_wornSet_81 (by decide) ?_
            refine lv_istore (lv' := [(6, .int (nI 0)), (5, .int (nI (lsn (bt ((R (m0 - 1)) &&& ((sb (lsn (bt (R (m0 - 1))) 16)) ^^^ (-1)))) 16))), (4, .int (nI (lsn (bt (R (m0 - 1))) 16))), (3, .int (nI 1)), (0, .ref o), (1, .int lf), (2, .int (nI m0 - nI 1))]) hx hb d_MO_wornSet_82 hl (by decide) rfl (fun ls hl => ?_)
            have L84_17 : ∀ (n : Nat) (R1 : Nat → Int32) (k : Nat) (hn : nd - k < n) (hk : k ≤ nd) (hdl : dlI R (m0 - 1) R1 k) (H : Heap) (locs : List Loc) (hP : va_P (dC, dI) cls [(o, .inr (7, [.int th, .int (nI nd), .int (nI ar), .ref fF, .ref fG, .ref fT, .ref fN, .ref fW, .int be, .ref fO, .ref fB, .int bz, .ref fS, .ref fD, .int sz])), (fF, .inl (cI, 41, .inl (nF F))), (fG, .inl (cI, 41, .inl (nF G))), (fT, .inl (cZ, 41, .inl (bF P))), (fN, .inl (cI, 14, .inl R1))] H) (hD : va_D (ow [(o, .inr (7, [.int th, .int (nI nd), .int (nI ar), .ref fF, .ref fG, .ref fT, .ref fN, .ref fW, .int be, .ref fO, .ref fB, .int bz, .ref fS, .ref fD, .int sz])), (fF, .inl (cI, 41, .inl (nF F))), (fG, .inl (cI, 41, .inl (nF G))), (fT, .inl (cZ, 41, .inl (bF P))), (fN, .inl (cI, 14, .inl N0))]) [(o, .inr (7, [.int th, .int (nI nd), .int (nI ar), .ref fF, .ref fG, .ref fT, .ref fN, .ref fW, .int be, .ref fO, .ref fB, .int bz, .ref fS, .ref fD, .int sz])), (fF, .inl (cI, 41, .inl (nF F))), (fG, .inl (cI, 41, .inl (nF G))), (fT, .inl (cZ, 41, .inl (bF P))), (fN, .inl (cI, 14, .inl R1))]) (hS : va_S (ow [(o, .inr (7, [.int th, .int (nI nd), .int (nI ar), .ref fF, .ref fG, .ref fT, .ref fN, .ref fW, .int be, .ref fO, .ref fB, .int bz, .ref fS, .ref fD, .int sz])), (fF, .inl (cI, 41, .inl (nF F))), (fG, .inl (cI, 41, .inl (nF G))), (fT, .inl (cZ, 41, .inl (bF P))), (fN, .inl (cI, 14, .inl N0))]) s.heap H locs) (ls : Array Slot) (hl : lv_has ls 7 [(0, .ref o), (1, .int lf), (2, .int (nI m0 - nI 1)), (3, .int (nI 1)), (4, .int (nI (lsn (bt (R (m0 - 1))) 16))), (5, .int (nI (lsn (bt (R (m0 - 1) &&& (sb (lsn (bt (R (m0 - 1))) 16) ^^^ (-1)))) 16))), (6, .int (nI k))]), W p l e (headSpec (Cond.code ⟨"CutPointsModel", "wornSet", "()I"⟩ prog_9_method_26_code 7 (some .int) :: TT) (rmk 2 47)).room s m ([.ref o] : List Value).toArray below meth c H locs 0 0 (MQ below (va_Qi (S := Nat → Int32) (fun r u9 => ∃ N, NR (lkT ar 0 P (-1) (-1) (nI 0) F G) F G N ∧ WR (wS (sb nd - nI 1) N) r) (fun u9 t9 => va_P (dC, dI) cls ([(o, .inr (7, [.int th, .int (nI nd), .int (nI ar), .ref fF, .ref fG, .ref fT, .ref fN, .ref fW, .int be, .ref fO, .ref fB, .int bz, .ref fS, .ref fD, .int sz])), (fF, .inl (cI, 41, .inl (nF F))), (fG, .inl (cI, 41, .inl (nF G))), (fT, .inl (cZ, 41, .inl (bF P))), (fN, .inl (cI, 14, .inl u9))]) t9.heap) (ow [(o, .inr (7, [.int th, .int (nI nd), .int (nI ar), .ref fF, .ref fG, .ref fT, .ref fN, .ref fW, .int be, .ref fO, .ref fB, .int bz, .ref fS, .ref fD, .int sz])), (fF, .inl (cI, 41, .inl (nF F))), (fG, .inl (cI, 41, .inl (nF G))), (fT, .inl (cZ, 41, .inl (bF P))), (fN, .inl (cI, 14, .inl N0))])) ([.ref o] : List Value).toArray s 0 0 (ow [(o, .inr (7, [.int th, .int (nI nd), .int (nI ar), .ref fF, .ref fG, .ref fT, .ref fN, .ref fW, .int be, .ref fO, .ref fB, .int bz, .ref fS, .ref fD, .int sz])), (fF, .inl (cI, 41, .inl (nF F))), (fG, .inl (cI, 41, .inl (nF G))), (fT, .inl (cZ, 41, .inl (bF P))), (fN, .inl (cI, 14, .inl N0))])) (F0 m 84 ls []) := by
              intro n_84
              induction n_84 with
              | zero =>
                intro R1 k hn_84
                exact absurd hn_84 (Nat.not_lt_zero _)
              | succ n_84 ih_84 =>
                intro R1 k hn_84 hk hdl H locs hP hD hS ls hl
                refine lv_iload hx hb d_MO_wornSet_84 (lv_at hl 6 rfl) ?_
                refine lv_aload_n hx hb d_MO_wornSet_86 rfl (lv_at hl 0 rfl) ?_
                refine va_get (D := (dC, dI)) (ci := 7) (v := .int (nI nd)) (C := R_MO) (T := F_MO) (N := 15) hx hb hts in_MO hown hK.1 hP 0 rfl rfl 1 (by decide) (hts _ wfl_MO_42) (fun _ h9 => h9) rfl d_MO_wornSet_87 ?_
                refine x_cmp_ge (a := k) (b := nd) (tgt := 119) hx hb (by omega) (by omega) d_MO_wornSet_90 (by decide) (fun c_18 => ?_) (fun c_18 => ?_)
                · skip
                  have ek : k = nd := (by omega); rw [ek] at hdl
                  refine lv_aload_n hx hb d_MO_wornSet_119 rfl (lv_at hl 0 rfl) ?_
                  refine va_get (D := (dC, dI)) (ci := 7) (v := .ref fN) (C := R_MO) (T := F_MO) (N := 15) hx hb hts in_MO hown hK.1 hP 0 rfl rfl 6 (by decide) (hts _ wfl_MO_20) (fun _ h9 => h9) rfl d_MO_wornSet_120 ?_
                  refine lv_iload_n hx hb d_MO_wornSet_123 rfl (lv_at hl 2 rfl) ?_
                  refine xe_i (y := (nI (m0 - 1))) (pk_sub hm1) ?_
                  refine x_iald (n := 14) (f := R1) (j := (m0 - 1)) hx hb hK.1 hP 4 0 rfl rfl (by omega) (by omega) d_MO_wornSet_124 ?_
                  refine vp_callSi (va_Run.run (k_S (n := 1) (rest := []) ⟨hx, hb, hml, hown, hts⟩ (c_MO_many l dC dI cI cJ cZ (R1 (m0 - 1))) wml_MO_92 wst_MO_many wini_MO wcode_MO_many (by decide +kernel) ⟨Nat.le_of_ble_eq_true rfl, Nat.le_of_ble_eq_true rfl⟩ (pre_R (hP.sub (ws' := []) [] rfl) hK) rfl hl.1 rfl (Nat.le_of_ble_eq_true rfl) d_MO_wornSet_125 ⟨Nat.zero_le _, Nat.zero_le _⟩)) (fun r_19 hr_20 => ?_)
                  refine xe_i (y := (nI (cn (bt (R1 (m0 - 1))) 16))) hr_20 ?_
                  refine lv_iconst (v := (nI 2)) hx hb d_MO_wornSet_128 (by decide) ?_
                  refine x_cmp_ne (a := (cn (bt (R1 (m0 - 1))) 16)) (b := 2) (tgt := 170) hx hb (Nat.lt_of_le_of_lt (cn_le _ _) (by decide)) (by omega) d_MO_wornSet_129 (by decide) (fun c_21 => ?_) (fun c_21 => ?_)
                  · skip
                    refine lv_iload_n hx hb d_MO_wornSet_170 rfl (lv_at hl 1 rfl) ?_
                    refine lv_iconst (v := (nI 1)) hx hb d_MO_wornSet_171 (by decide) ?_
                    refine lv_iload_n hx hb d_MO_wornSet_172 rfl (lv_at hl 2 rfl) ?_
                    refine xe_i (y := (nI (m0 - 1))) (pk_sub hm1) ?_
                    refine lv_ishl hx hb d_MO_wornSet_173 ?_
                    refine xe_i (y := (sb (m0 - 1))) rfl ?_
                    refine lv_iconst (v := (-1)) hx hb d_MO_wornSet_174 (by decide) ?_
                    refine lv_ixor hx hb d_MO_wornSet_175 ?_
                    refine lv_iand hx hb d_MO_wornSet_176 ?_
                    refine lv_istore_n (lv' := [(1, .int (lf &&& ((sb (m0 - 1)) ^^^ (-1)))), (0, .ref o), (2, .int (nI m0 - nI 1)), (3, .int (nI 1)), (4, .int (nI (lsn (bt (R (m0 - 1))) 16))), (5, .int (nI (lsn (bt (R (m0 - 1) &&& (sb (lsn (bt (R (m0 - 1))) 16) ^^^ (-1)))) 16))), (6, .int (nI k))]) hx hb d_MO_wornSet_177 rfl hl (by decide) rfl (fun ls hl => ?_)
                    refine lv_aload_n hx hb d_MO_wornSet_178 rfl (lv_at hl 1 rfl) ?_
                    refine va_get (D := (dC, dI)) (ci := 7) (v := .int (nI nd)) (C := R_MO) (T := F_MO) (N := 15) hx hb hts in_MO hown hK.1 hP 0 rfl rfl 1 (by decide) (hts _ wfl_MO_42) (fun _ h9 => h9) rfl d_MO_wornSet_179 ?_
                    refine lv_istore_n (lv' := [(2, .int (nI nd)), (1, .int (lf &&& ((sb (m0 - 1)) ^^^ (-1)))), (0, .ref o), (3, .int (nI 1)), (4, .int (nI (lsn (bt (R (m0 - 1))) 16))), (5, .int (nI (lsn (bt (R (m0 - 1) &&& (sb (lsn (bt (R (m0 - 1))) 16) ^^^ (-1)))) 16))), (6, .int (nI k))]) hx hb d_MO_wornSet_182 rfl hl (by decide) rfl (fun ls hl => ?_)
                    refine lv_iinc (v := (nI nd - nI 1)) (lv' := [(2, .int (nI nd - nI 1)), (1, .int (lf &&& ((sb (m0 - 1)) ^^^ (-1)))), (0, .ref o), (3, .int (nI 1)), (4, .int (nI (lsn (bt (R (m0 - 1))) 16))), (5, .int (nI (lsn (bt (R (m0 - 1) &&& (sb (lsn (bt (R (m0 - 1))) 16) ^^^ (-1)))) 16))), (6, .int (nI k))]) hx hb d_MO_wornSet_183 hl (k := 0) rfl (nI_m1 _) (by decide) rfl (fun ls hl => ?_)
                    refine lv_goto (tgt := 16) hx hb d_MO_wornSet_186 (by decide) ?_
                    exact ih_16 R1 (lf &&& ((sb (m0 - 1)) ^^^ (-1))) nd (wm_d hnd (by omega) c_6 hn_16) (by first | assumption | omega) (wm_t hnd hI (by omega) c_6 (by omega) hdl rfl rfl (Or.inl ⟨c_21, rfl⟩)) _ _ hP hD hS ls (lv_sub hl [2, 1, 0] rfl)
                  · skip
                    obtain ⟨ha14, hb14, _⟩ := wm_ab hnd hI.2.1 hI.2.2.1 (by omega) c_6 hdl c_21
                    refine lv_aload_n hx hb d_MO_wornSet_132 rfl (lv_at hl 0 rfl) ?_
                    refine va_get (D := (dC, dI)) (ci := 7) (v := .ref fN) (C := R_MO) (T := F_MO) (N := 15) hx hb hts in_MO hown hK.1 hP 0 rfl rfl 6 (by decide) (hts _ wfl_MO_20) (fun _ h9 => h9) rfl d_MO_wornSet_133 ?_
                    refine lv_iload hx hb d_MO_wornSet_136 (lv_at hl 4 rfl) ?_
                    refine lv_aload_n hx hb d_MO_wornSet_138 rfl (lv_at hl 0 rfl) ?_
                    refine va_get (D := (dC, dI)) (ci := 7) (v := .ref fN) (C := R_MO) (T := F_MO) (N := 15) hx hb hts in_MO hown hK.1 hP 0 rfl rfl 6 (by decide) (hts _ wfl_MO_20) (fun _ h9 => h9) rfl d_MO_wornSet_139 ?_
                    refine lv_iload hx hb d_MO_wornSet_142 (lv_at hl 4 rfl) ?_
                    refine x_iald (n := 14) (f := R1) (j := (lsn (bt (R (m0 - 1))) 16)) hx hb hK.1 hP 4 0 rfl rfl ha14 (by omega) d_MO_wornSet_144 ?_
                    refine lv_iconst (v := (nI 1)) hx hb d_MO_wornSet_145 (by decide) ?_
                    refine lv_iload hx hb d_MO_wornSet_146 (lv_at hl 5 rfl) ?_
                    refine lv_ishl hx hb d_MO_wornSet_148 ?_
                    refine xe_i (y := (sb (lsn (bt (R (m0 - 1) &&& (sb (lsn (bt (R (m0 - 1))) 16) ^^^ (-1)))) 16))) rfl ?_
                    refine lv_ior hx hb d_MO_wornSet_149 ?_
                    refine x_iast (g := (va_up R1 (lsn (bt (R (m0 - 1))) 16) ((R1 (lsn (bt (R (m0 - 1))) 16)) ||| (sb (lsn (bt (R (m0 - 1) &&& (sb (lsn (bt (R (m0 - 1))) 16) ^^^ (-1)))) 16))))) hx hb hK.1 hP hD hS 4 0 rfl rfl rfl ha14 (by omega) d_MO_wornSet_150 (fun H locs hP hD hS => ?_)
                    have hP : va_P (dC, dI) cls [(o, .inr (7, [.int th, .int (nI nd), .int (nI ar), .ref fF, .ref fG, .ref fT, .ref fN, .ref fW, .int be, .ref fO, .ref fB, .int bz, .ref fS, .ref fD, .int sz])), (fF, .inl (cI, 41, .inl (nF F))), (fG, .inl (cI, 41, .inl (nF G))), (fT, .inl (cZ, 41, .inl (bF P))), (fN, .inl (cI, 14, .inl (va_up R1 (lsn (bt (R (m0 - 1))) 16) ((R1 (lsn (bt (R (m0 - 1))) 16)) ||| (sb (lsn (bt (R (m0 - 1) &&& (sb (lsn (bt (R (m0 - 1))) 16) ^^^ (-1)))) 16))))))] H := hP
                    have hD : va_D (ow [(o, .inr (7, [.int th, .int (nI nd), .int (nI ar), .ref fF, .ref fG, .ref fT, .ref fN, .ref fW, .int be, .ref fO, .ref fB, .int bz, .ref fS, .ref fD, .int sz])), (fF, .inl (cI, 41, .inl (nF F))), (fG, .inl (cI, 41, .inl (nF G))), (fT, .inl (cZ, 41, .inl (bF P))), (fN, .inl (cI, 14, .inl N0))]) [(o, .inr (7, [.int th, .int (nI nd), .int (nI ar), .ref fF, .ref fG, .ref fT, .ref fN, .ref fW, .int be, .ref fO, .ref fB, .int bz, .ref fS, .ref fD, .int sz])), (fF, .inl (cI, 41, .inl (nF F))), (fG, .inl (cI, 41, .inl (nF G))), (fT, .inl (cZ, 41, .inl (bF P))), (fN, .inl (cI, 14, .inl (va_up R1 (lsn (bt (R (m0 - 1))) 16) ((R1 (lsn (bt (R (m0 - 1))) 16)) ||| (sb (lsn (bt (R (m0 - 1) &&& (sb (lsn (bt (R (m0 - 1))) 16) ^^^ (-1)))) 16))))))] := hD
                    refine lv_aload_n hx hb d_MO_wornSet_151 rfl (lv_at hl 0 rfl) ?_
                    refine va_get (D := (dC, dI)) (ci := 7) (v := .ref fN) (C := R_MO) (T := F_MO) (N := 15) hx hb hts in_MO hown hK.1 hP 0 rfl rfl 6 (by decide) (hts _ wfl_MO_20) (fun _ h9 => h9) rfl d_MO_wornSet_152 ?_
                    refine lv_iload hx hb d_MO_wornSet_155 (lv_at hl 5 rfl) ?_
                    refine lv_aload_n hx hb d_MO_wornSet_157 rfl (lv_at hl 0 rfl) ?_
                    refine va_get (D := (dC, dI)) (ci := 7) (v := .ref fN) (C := R_MO) (T := F_MO) (N := 15) hx hb hts in_MO hown hK.1 hP 0 rfl rfl 6 (by decide) (hts _ wfl_MO_20) (fun _ h9 => h9) rfl d_MO_wornSet_158 ?_
                    refine lv_iload hx hb d_MO_wornSet_161 (lv_at hl 5 rfl) ?_
                    refine x_iald (n := 14) (f := (va_up R1 (lsn (bt (R (m0 - 1))) 16) ((R1 (lsn (bt (R (m0 - 1))) 16)) ||| (sb (lsn (bt (R (m0 - 1) &&& (sb (lsn (bt (R (m0 - 1))) 16) ^^^ (-1)))) 16))))) (j := (lsn (bt (R (m0 - 1) &&& (sb (lsn (bt (R (m0 - 1))) 16) ^^^ (-1)))) 16)) hx hb hK.1 hP 4 0 rfl rfl hb14 (by omega) d_MO_wornSet_163 ?_
                    refine lv_iconst (v := (nI 1)) hx hb d_MO_wornSet_164 (by decide) ?_
                    refine lv_iload hx hb d_MO_wornSet_165 (lv_at hl 4 rfl) ?_
                    refine lv_ishl hx hb d_MO_wornSet_167 ?_
                    refine xe_i (y := (sb (lsn (bt (R (m0 - 1))) 16))) rfl ?_
                    refine lv_ior hx hb d_MO_wornSet_168 ?_
                    refine x_iast (g := (va_up (va_up R1 (lsn (bt (R (m0 - 1))) 16) ((R1 (lsn (bt (R (m0 - 1))) 16)) ||| (sb (lsn (bt (R (m0 - 1) &&& (sb (lsn (bt (R (m0 - 1))) 16) ^^^ (-1)))) 16)))) (lsn (bt (R (m0 - 1) &&& (sb (lsn (bt (R (m0 - 1))) 16) ^^^ (-1)))) 16) (((va_up R1 (lsn (bt (R (m0 - 1))) 16) ((R1 (lsn (bt (R (m0 - 1))) 16)) ||| (sb (lsn (bt (R (m0 - 1) &&& (sb (lsn (bt (R (m0 - 1))) 16) ^^^ (-1)))) 16)))) (lsn (bt (R (m0 - 1) &&& (sb (lsn (bt (R (m0 - 1))) 16) ^^^ (-1)))) 16)) ||| (sb (lsn (bt (R (m0 - 1))) 16))))) hx hb hK.1 hP hD hS 4 0 rfl rfl rfl hb14 (by omega) d_MO_wornSet_169 (fun H locs hP hD hS => ?_)
                    have hP : va_P (dC, dI) cls [(o, .inr (7, [.int th, .int (nI nd), .int (nI ar), .ref fF, .ref fG, .ref fT, .ref fN, .ref fW, .int be, .ref fO, .ref fB, .int bz, .ref fS, .ref fD, .int sz])), (fF, .inl (cI, 41, .inl (nF F))), (fG, .inl (cI, 41, .inl (nF G))), (fT, .inl (cZ, 41, .inl (bF P))), (fN, .inl (cI, 14, .inl (va_up (va_up R1 (lsn (bt (R (m0 - 1))) 16) ((R1 (lsn (bt (R (m0 - 1))) 16)) ||| (sb (lsn (bt (R (m0 - 1) &&& (sb (lsn (bt (R (m0 - 1))) 16) ^^^ (-1)))) 16)))) (lsn (bt (R (m0 - 1) &&& (sb (lsn (bt (R (m0 - 1))) 16) ^^^ (-1)))) 16) (((va_up R1 (lsn (bt (R (m0 - 1))) 16) ((R1 (lsn (bt (R (m0 - 1))) 16)) ||| (sb (lsn (bt (R (m0 - 1) &&& (sb (lsn (bt (R (m0 - 1))) 16) ^^^ (-1)))) 16)))) (lsn (bt (R (m0 - 1) &&& (sb (lsn (bt (R (m0 - 1))) 16) ^^^ (-1)))) 16)) ||| (sb (lsn (bt (R (m0 - 1))) 16))))))] H := hP
                    have hD : va_D (ow [(o, .inr (7, [.int th, .int (nI nd), .int (nI ar), .ref fF, .ref fG, .ref fT, .ref fN, .ref fW, .int be, .ref fO, .ref fB, .int bz, .ref fS, .ref fD, .int sz])), (fF, .inl (cI, 41, .inl (nF F))), (fG, .inl (cI, 41, .inl (nF G))), (fT, .inl (cZ, 41, .inl (bF P))), (fN, .inl (cI, 14, .inl N0))]) [(o, .inr (7, [.int th, .int (nI nd), .int (nI ar), .ref fF, .ref fG, .ref fT, .ref fN, .ref fW, .int be, .ref fO, .ref fB, .int bz, .ref fS, .ref fD, .int sz])), (fF, .inl (cI, 41, .inl (nF F))), (fG, .inl (cI, 41, .inl (nF G))), (fT, .inl (cZ, 41, .inl (bF P))), (fN, .inl (cI, 14, .inl (va_up (va_up R1 (lsn (bt (R (m0 - 1))) 16) ((R1 (lsn (bt (R (m0 - 1))) 16)) ||| (sb (lsn (bt (R (m0 - 1) &&& (sb (lsn (bt (R (m0 - 1))) 16) ^^^ (-1)))) 16)))) (lsn (bt (R (m0 - 1) &&& (sb (lsn (bt (R (m0 - 1))) 16) ^^^ (-1)))) 16) (((va_up R1 (lsn (bt (R (m0 - 1))) 16) ((R1 (lsn (bt (R (m0 - 1))) 16)) ||| (sb (lsn (bt (R (m0 - 1) &&& (sb (lsn (bt (R (m0 - 1))) 16) ^^^ (-1)))) 16)))) (lsn (bt (R (m0 - 1) &&& (sb (lsn (bt (R (m0 - 1))) 16) ^^^ (-1)))) 16)) ||| (sb (lsn (bt (R (m0 - 1))) 16))))))] := hD
                    refine lv_iload_n hx hb d_MO_wornSet_170 rfl (lv_at hl 1 rfl) ?_
                    refine lv_iconst (v := (nI 1)) hx hb d_MO_wornSet_171 (by decide) ?_
                    refine lv_iload_n hx hb d_MO_wornSet_172 rfl (lv_at hl 2 rfl) ?_
                    refine xe_i (y := (nI (m0 - 1))) (pk_sub hm1) ?_
                    refine lv_ishl hx hb d_MO_wornSet_173 ?_
                    refine xe_i (y := (sb (m0 - 1))) rfl ?_
                    refine lv_iconst (v := (-1)) hx hb d_MO_wornSet_174 (by decide) ?_
                    refine lv_ixor hx hb d_MO_wornSet_175 ?_
                    refine lv_iand hx hb d_MO_wornSet_176 ?_
                    refine lv_istore_n (lv' := [(1, .int (lf &&& ((sb (m0 - 1)) ^^^ (-1)))), (0, .ref o), (2, .int (nI m0 - nI 1)), (3, .int (nI 1)), (4, .int (nI (lsn (bt (R (m0 - 1))) 16))), (5, .int (nI (lsn (bt (R (m0 - 1) &&& (sb (lsn (bt (R (m0 - 1))) 16) ^^^ (-1)))) 16))), (6, .int (nI k))]) hx hb d_MO_wornSet_177 rfl hl (by decide) rfl (fun ls hl => ?_)
                    refine lv_aload_n hx hb d_MO_wornSet_178 rfl (lv_at hl 1 rfl) ?_
                    refine va_get (D := (dC, dI)) (ci := 7) (v := .int (nI nd)) (C := R_MO) (T := F_MO) (N := 15) hx hb hts in_MO hown hK.1 hP 0 rfl rfl 1 (by decide) (hts _ wfl_MO_42) (fun _ h9 => h9) rfl d_MO_wornSet_179 ?_
                    refine lv_istore_n (lv' := [(2, .int (nI nd)), (1, .int (lf &&& ((sb (m0 - 1)) ^^^ (-1)))), (0, .ref o), (3, .int (nI 1)), (4, .int (nI (lsn (bt (R (m0 - 1))) 16))), (5, .int (nI (lsn (bt (R (m0 - 1) &&& (sb (lsn (bt (R (m0 - 1))) 16) ^^^ (-1)))) 16))), (6, .int (nI k))]) hx hb d_MO_wornSet_182 rfl hl (by decide) rfl (fun ls hl => ?_)
                    refine lv_iinc (v := (nI nd - nI 1)) (lv' := [(2, .int (nI nd - nI 1)), (1, .int (lf &&& ((sb (m0 - 1)) ^^^ (-1)))), (0, .ref o), (3, .int (nI 1)), (4, .int (nI (lsn (bt (R (m0 - 1))) 16))), (5, .int (nI (lsn (bt (R (m0 - 1) &&& (sb (lsn (bt (R (m0 - 1))) 16) ^^^ (-1)))) 16))), (6, .int (nI k))]) hx hb d_MO_wornSet_183 hl (k := 0) rfl (nI_m1 _) (by decide) rfl (fun ls hl => ?_)
                    refine lv_goto (tgt := 16) hx hb d_MO_wornSet_186 (by decide) ?_
                    exact ih_16 (va_up (va_up R1 (lsn (bt (R (m0 - 1))) 16) ((R1 (lsn (bt (R (m0 - 1))) 16)) ||| (sb (lsn (bt (R (m0 - 1) &&& (sb (lsn (bt (R (m0 - 1))) 16) ^^^ (-1)))) 16)))) (lsn (bt (R (m0 - 1) &&& (sb (lsn (bt (R (m0 - 1))) 16) ^^^ (-1)))) 16) (((va_up R1 (lsn (bt (R (m0 - 1))) 16) ((R1 (lsn (bt (R (m0 - 1))) 16)) ||| (sb (lsn (bt (R (m0 - 1) &&& (sb (lsn (bt (R (m0 - 1))) 16) ^^^ (-1)))) 16)))) (lsn (bt (R (m0 - 1) &&& (sb (lsn (bt (R (m0 - 1))) 16) ^^^ (-1)))) 16)) ||| (sb (lsn (bt (R (m0 - 1))) 16)))) (lf &&& ((sb (m0 - 1)) ^^^ (-1))) nd (wm_d hnd (by omega) c_6 hn_16) (by first | assumption | omega) (wm_t hnd hI (by omega) c_6 (by omega) hdl rfl rfl (Or.inr ⟨c_21, rfl⟩)) _ _ hP hD hS ls (lv_sub hl [2, 1, 0] rfl)
                · skip
                  refine lv_aload_n hx hb d_MO_wornSet_93 rfl (lv_at hl 0 rfl) ?_
                  refine va_get (D := (dC, dI)) (ci := 7) (v := .ref fN) (C := R_MO) (T := F_MO) (N := 15) hx hb hts in_MO hown hK.1 hP 0 rfl rfl 6 (by decide) (hts _ wfl_MO_20) (fun _ h9 => h9) rfl d_MO_wornSet_94 ?_
                  refine lv_iload hx hb d_MO_wornSet_97 (lv_at hl 6 rfl) ?_
                  refine lv_aload_n hx hb d_MO_wornSet_99 rfl (lv_at hl 0 rfl) ?_
                  refine va_get (D := (dC, dI)) (ci := 7) (v := .ref fN) (C := R_MO) (T := F_MO) (N := 15) hx hb hts in_MO hown hK.1 hP 0 rfl rfl 6 (by decide) (hts _ wfl_MO_20) (fun _ h9 => h9) rfl d_MO_wornSet_100 ?_
                  refine lv_iload hx hb d_MO_wornSet_103 (lv_at hl 6 rfl) ?_
                  refine x_iald (n := 14) (f := R1) (j := k) hx hb hK.1 hP 4 0 rfl rfl (by omega) (by omega) d_MO_wornSet_105 ?_
                  refine lv_iconst (v := (nI 1)) hx hb d_MO_wornSet_106 (by decide) ?_
                  refine lv_iload_n hx hb d_MO_wornSet_107 rfl (lv_at hl 2 rfl) ?_
                  refine xe_i (y := (nI (m0 - 1))) (pk_sub hm1) ?_
                  refine lv_ishl hx hb d_MO_wornSet_108 ?_
                  refine xe_i (y := (sb (m0 - 1))) rfl ?_
                  refine lv_iconst (v := (-1)) hx hb d_MO_wornSet_109 (by decide) ?_
                  refine lv_ixor hx hb d_MO_wornSet_110 ?_
                  refine lv_iand hx hb d_MO_wornSet_111 ?_
                  refine x_iast (g := (va_up R1 k ((R1 k) &&& ((sb (m0 - 1)) ^^^ (-1))))) hx hb hK.1 hP hD hS 4 0 rfl rfl rfl (by omega) (by omega) d_MO_wornSet_112 (fun H locs hP hD hS => ?_)
                  have hP : va_P (dC, dI) cls [(o, .inr (7, [.int th, .int (nI nd), .int (nI ar), .ref fF, .ref fG, .ref fT, .ref fN, .ref fW, .int be, .ref fO, .ref fB, .int bz, .ref fS, .ref fD, .int sz])), (fF, .inl (cI, 41, .inl (nF F))), (fG, .inl (cI, 41, .inl (nF G))), (fT, .inl (cZ, 41, .inl (bF P))), (fN, .inl (cI, 14, .inl (va_up R1 k ((R1 k) &&& ((sb (m0 - 1)) ^^^ (-1))))))] H := hP
                  have hD : va_D (ow [(o, .inr (7, [.int th, .int (nI nd), .int (nI ar), .ref fF, .ref fG, .ref fT, .ref fN, .ref fW, .int be, .ref fO, .ref fB, .int bz, .ref fS, .ref fD, .int sz])), (fF, .inl (cI, 41, .inl (nF F))), (fG, .inl (cI, 41, .inl (nF G))), (fT, .inl (cZ, 41, .inl (bF P))), (fN, .inl (cI, 14, .inl N0))]) [(o, .inr (7, [.int th, .int (nI nd), .int (nI ar), .ref fF, .ref fG, .ref fT, .ref fN, .ref fW, .int be, .ref fO, .ref fB, .int bz, .ref fS, .ref fD, .int sz])), (fF, .inl (cI, 41, .inl (nF F))), (fG, .inl (cI, 41, .inl (nF G))), (fT, .inl (cZ, 41, .inl (bF P))), (fN, .inl (cI, 14, .inl (va_up R1 k ((R1 k) &&& ((sb (m0 - 1)) ^^^ (-1))))))] := hD
                  refine lv_iinc (v := (nI (k + 1))) (lv' := [(6, .int (nI (k + 1))), (0, .ref o), (1, .int lf), (2, .int (nI m0 - nI 1)), (3, .int (nI 1)), (4, .int (nI (lsn (bt (R (m0 - 1))) 16))), (5, .int (nI (lsn (bt (R (m0 - 1) &&& (sb (lsn (bt (R (m0 - 1))) 16) ^^^ (-1)))) 16)))]) hx hb d_MO_wornSet_113 hl (k := 6) rfl (nI_1 _) (by decide) rfl (fun ls hl => ?_)
                  refine lv_goto (tgt := 84) hx hb d_MO_wornSet_116 (by decide) ?_
                  exact ih_84 (va_up R1 k ((R1 k) &&& ((sb (m0 - 1)) ^^^ (-1)))) (k + 1) (by omega) (by first | assumption | omega) (dlI_n hdl) _ _ hP hD hS ls (lv_sub hl [1, 2, 3, 4, 5, 6, 0] rfl)
            exact L84_17 ((nd - 0) + 1) R 0 (Nat.lt_succ_self _) (by first | assumption | omega) (dlI_0 _ _) _ _ hP hD hS ls (lv_sub hl [4, 5, 6, 3, 2, 1, 0] rfl)
  exact L16_4 ((16 * cn (bt (sb nd - nI 1)) 14 + nd) + 1) N9_1 (sb nd - nI 1) nd (Nat.lt_succ_self _) (by first | assumption | omega) (wm_0 hnd hu_1 (fun e he ht => ⟨(hM e (lk_iff.mp ht).1).1, (hM e (lk_iff.mp ht).1).2, hL e (lk_iff.mp ht).1⟩) (b_all' (by omega))) _ _ hP hD hS ls (lv_sub hl [2, 1, 0] rfl)
