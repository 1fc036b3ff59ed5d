/-! THE CLAIM OUT OF ONE WALK OF THE LAW'S BODY. Your part is whole_start (and what it stands on); all else here is the same for every law, but numbers. -/
def R_law : String := "CutPointsLaw"
def lw_P (b : Addr) (xs : List Int32) (args : Array Value) (s : State) : Prop := args = #[.ref b] ∧ s.IntsAt b xs ∧ xs.length ≤ 1536 ∧ (Jvm.Cond.and given_1 narrow_1).before args s = true
def lw_Q (_ : Array Value) (s : State) (o : Outcome) (t : State) : Prop := o = .returned (some (.int 1)) ∧ Framed s o t [] 40 19226
def lw_Z (below : List Frame) (a : Array Value) (s : State) : State → Prop := fun t => ∃ o, t.status = .running ∧ Ended t below o ∧ lw_Q a s o t
/-- the law's own end, with 1 on the stack, nothing written that was there before, its room as the claim has it -/
theorem lw_ret {p : Program} {l : Launch} {e : Env} {s : State} {m : MethodId} {below : List Frame} {meth : Method} {c : Code} {b : Nat} (hx : p.tables.exec = Jvm.exec) (hb : c.code = code) (hr : meth.sig.returnType = ret) (hlocks : meth.locks = false) {pc : Nat} {H : Heap} {ls : Array Slot} (hdg : decode code pc = .ok (.ireturn, 1)) : W p l e room_1 s m #[Value.ref b] below meth c H [] 40 19226 (lw_Z below #[Value.ref b] s) (F0 m pc ls [.int 1]) := by
  intro T hT X
  obtain ⟨fs, hret, hrun, hended, hW, hframe⟩ := X.leave (v := some (.int 1)) (hlocks := hlocks) (fun h => by rw [hr] at h; cases h)
  have hmeth' : T.vm.method? m = some meth := X.method'
  refine ⟨T.setFrames fs, ?_, .returned (some (.int 1)), hrun, hended, rfl, ⟨_, rfl⟩, hW, hframe⟩
  jvm_step X.here [X.here.top, hx, hb, hdg, hmeth', hr, ret, narrow_b1]
  (try refine ⟨rfl, ?_⟩); (try refine ⟨rfl, ?_⟩)
  first | (intro acts; rw [hret _ acts rfl rfl rfl]) | rw [hret _ _ rfl rfl rfl]
  exact Steps.refl _
/-- what holds at the law's entry: the machine, the code, the tables' words (any of lw_tbl by 'hts w (by decide +kernel)'), the script of L ints xs at the cell b, what the Statement gives of the start (any of its parts by flat_of_before) -/
def lw_At (p : Program) (s : State) (m : MethodId) (meth : Method) (c : Code) (b L : Nat) (xs : Nat → Int32) : Prop :=
  p.tables.exec = Jvm.exec ∧ c.code = code ∧ meth.sig.returnType = ret ∧ c.maxLocals = 4 ∧ s.vm.findClass R_law = some m.cls ∧ (∀ w ∈ lw_tbl, w.before #[Value.ref b] s = true) ∧ va_X b L xs s s.heap ∧ b < s.heap.size ∧ meth.locks = false ∧ (Jvm.Cond.and given_1 narrow_1).before #[Value.ref b] s = true
/-! ===== 90.law: the law ===== -/
theorem and31 (x : Int32) : ∃ k, k < 32 ∧ x &&& nI 31 = nI k := by
  obtain ⟨k, h1, h2⟩ := nI_bits (x := x &&& nI 31) (n := 5) (by omega) (fun i hi => bt_lt (s := 31) (n := 5) (by decide) (b_and'.mp hi).2)
  exact ⟨k, h1, h2⟩
theorem gd_i {i L : Nat} (hi : i < 2 ^ 30) (hL : L < 2 ^ 30) : nI L - nI 3 < nI i ↔ L < i + 3 := by
  rw [Int32.lt_iff_toInt_lt, pk_sub_toInt hL (by omega), nI_toInt (by omega)]; omega
theorem arr_known {args : Array Value} {s : State} {ty : FieldType} (harr : (Cond.arrayClass ty).before args s = true) (hra : ∀ k : ClassId, s.vm.findClass ("[" ++ ty.toString) = some k → va_RA s k ty) : ∃ cA : ClassId, ArrOfT s cA ty ∧ va_RA s cA ty := by
  obtain ⟨cA, kA, comp, h1, h2, h3⟩ := Cond.arrayClass_spec harr
  exact ⟨cA, fun n z => ⟨fun k h => (by cases h), kA, h2, comp, h3⟩, hra cA h1⟩
set_option maxHeartbeats 8000000 in
set_option maxRecDepth 100000 in
theorem law_loop {p : Program} {l : Launch} {e : Env} {s : State} {m : MethodId} {below : List Frame} {meth : Method} {c : Code} {dC : Nat → ClassId} {dI : Nat → Nat → Nat} {cI cJ cZ : ClassId} {b L : Nat} {xs : Nat → Int32} (X : LX p s m #[Value.ref b] c dC dI cI cJ cZ (fun q : Nat => s.heap.size ≤ q) b L xs) (C0 : lw_At p s m meth c b L xs) {ca : CA} {ma : MA} :
    ∀ (n i : Nat) (u : CS) (v : MS) (H : Heap) (locs : List Loc) (ls : Array Slot), L - i < n → i ≤ L → LI u v → va_P (dC, dI) cls (WL cI cJ cZ ca ma u v) H → va_D (fun q : Nat => s.heap.size ≤ q) (WL cI cJ cZ ca ma u v) → va_S (fun q : Nat => s.heap.size ≤ q) s.heap H locs → lv_has ls 4 [(0, .ref b), (1, .ref ca.cp), (2, .ref ma.o), (3, .int (nI i))] → W p l e room_1 s m #[Value.ref b] below meth c H locs 40 19226 (lw_Z below #[Value.ref b] s) (F0 m 18 ls []) := by
  intro n
  induction n with
  | zero => exact fun i u v H locs ls h => absurd h (Nat.not_lt_zero _)
  | succ n ih =>
    intro i u v H locs ls hn hi hI hP hD hS hl
    obtain ⟨hx, hb, -, -, -, -, hX, hbl, hbA, hL⟩ := id X
    obtain ⟨-, -, hr, -, -, -, -, -, hlocks, -⟩ := id C0
    have kk : ∀ (u1 : CS) (v1 : MS) (H1 : Heap) (locs1 : List Loc), i + 3 ≤ L → LI u1 v1 → va_P (dC, dI) cls (WL cI cJ cZ ca ma u1 v1) H1 → va_D (fun q : Nat => s.heap.size ≤ q) (WL cI cJ cZ ca ma u1 v1) → va_S (fun q : Nat => s.heap.size ≤ q) s.heap H1 locs1 → W p l e room_1 s m #[Value.ref b] below meth c H1 locs1 40 19226 (lw_Z below #[Value.ref b] s) (F0 m 609 ls []) := by
      intro u1 v1 H1 locs1 h3 hI1 hP1 hD1 hS1
      refine lv_iinc (v := (nI (i + 3))) (lv' := [(3, .int (nI (i + 3))), (0, .ref b), (1, .ref ca.cp), (2, .ref ma.o)]) hx hb d_LW_law_609 hl (k := 3) rfl (nI_add _ _) (by decide) rfl (fun ls hl => ?_)
      refine lv_goto (tgt := 18) hx hb d_LW_law_612 (by decide) ?_
      exact ih (i + 3) u1 v1 H1 locs1 ls (by omega) h3 hI1 hP1 hD1 hS1 (lv_sub hl [1, 2, 3, 0] rfl)
    refine lv_iload_n hx hb d_LW_law_18 rfl (lv_at hl 3 rfl) ?_
    refine lv_aload_n hx hb d_LW_law_19 rfl (lv_at hl 0 rfl) ?_
    refine va_slen hx hb hX hbl hbA hS d_LW_law_20 ?_
    refine xe_i (y := nI L) rfl ?_
    refine lv_iconst (v := (nI 3)) hx hb d_LW_law_21 (by decide) ?_
    refine lv_isub hx hb d_LW_law_22 ?_
    refine lv_icmp_gt (tgt := 615) hx hb d_LW_law_23 (by decide) (fun c_1 => ?_) (fun c_1 => ?_)
    · refine lv_iconst (v := 1) hx hb d_LW_law_615 (by decide) ?_
      refine va_forget (fun q hq => hS.2.2 q hq) ?_
      refine W.widen (k := 40) (n := 19226) (Nat.le_refl 40) (Nat.le_refl 19226) ?_
      exact lw_ret hx hb hr hlocks d_LW_law_616
    · have h3 : i + 3 ≤ L := by
        apply Classical.byContradiction
        intro q
        exact c_1 ((gd_i (by omega) hL).mpr (by omega))
      refine lv_aload_n hx hb d_LW_law_26 rfl (lv_at hl 0 rfl) ?_
      refine lv_iload_n hx hb d_LW_law_27 rfl (lv_at hl 3 rfl) ?_
      refine x_sld hx hb hX hbl hbA hS (by omega) hL d_LW_law_28 ?_
      refine lv_bipush (v := (nI 31)) hx hb d_LW_law_29 (by decide) ?_
      refine lv_iand hx hb d_LW_law_31 ?_
      obtain ⟨k, hk, ek⟩ := and31 (xs i)
      refine xe_i (y := nI k) ek ?_
      have hkk := fun u1 v1 H1 locs1 => kk u1 v1 H1 locs1 h3
      by_cases h19 : 19 ≤ k
      · refine lv_tableOut (tgt := 609) hx hb d_LW_law_32 (Or.inr (by rw [nI_toInt (by omega)]; omega)) (by decide) ?_
        exact hkk u v H locs hI hP hD hS
      · have hk19 : k = 0 ∨ k = 1 ∨ k = 2 ∨ k = 3 ∨ k = 4 ∨ k = 5 ∨ k = 6 ∨ k = 7 ∨ k = 8 ∨ k = 9 ∨ k = 10 ∨ k = 11 ∨ k = 12 ∨ k = 13 ∨ k = 14 ∨ k = 15 ∨ k = 16 ∨ k = 17 ∨ k = 18 := by omega
        rcases hk19 with rfl | rfl | rfl | rfl | rfl | rfl | rfl | rfl | rfl | rfl | rfl | rfl | rfl | rfl | rfl | rfl | rfl | rfl | rfl
        · refine lv_tableIn (off := 92) (tgt := 124) hx hb d_LW_law_32 (by decide) (by decide) (by decide) (by decide) ?_
          exact lw_clear X h3 hI hP hD hS hl hkk
        · refine lv_tableIn (off := 103) (tgt := 135) hx hb d_LW_law_32 (by decide) (by decide) (by decide) (by decide) ?_
          exact lw_node X h3 hI hP hD hS hl hkk
        · refine lv_tableIn (off := 116) (tgt := 148) hx hb d_LW_law_32 (by decide) (by decide) (by decide) (by decide) ?_
          exact lw_arc X h3 hI hP hD hS hl hkk
        · refine lv_tableIn (off := 149) (tgt := 181) hx hb d_LW_law_32 (by decide) (by decide) (by decide) (by decide) ?_
          exact lw_turn X h3 hI hP hD hS hl hkk
        · refine lv_tableIn (off := 172) (tgt := 204) hx hb d_LW_law_32 (by decide) (by decide) (by decide) (by decide) ?_
          exact lw_count X h3 hI hP hD hS hl hkk
        · refine lv_tableIn (off := 195) (tgt := 227) hx hb d_LW_law_32 (by decide) (by decide) (by decide) (by decide) ?_
          exact lw_part X h3 hI hP hD hS hl hkk
        · refine lv_tableIn (off := 218) (tgt := 250) hx hb d_LW_law_32 (by decide) (by decide) (by decide) (by decide) ?_
          exact lw_bridge X h3 hI hP hD hS hl hkk
        · refine lv_tableIn (off := 241) (tgt := 273) hx hb d_LW_law_32 (by decide) (by decide) (by decide) (by decide) ?_
          exact lw_falls X h3 hI hP hD hS hl hkk
        · refine lv_tableIn (off := 264) (tgt := 296) hx hb d_LW_law_32 (by decide) (by decide) (by decide) (by decide) ?_
          exact lw_block X h3 hI hP hD hS hl hkk
        · refine lv_tableIn (off := 287) (tgt := 319) hx hb d_LW_law_32 (by decide) (by decide) (by decide) (by decide) ?_
          exact lw_twin X h3 hI hP hD hS hl hkk
        · refine lv_tableIn (off := 310) (tgt := 342) hx hb d_LW_law_32 (by decide) (by decide) (by decide) (by decide) ?_
          exact lw_arcs X h3 hI hP hD hS hl hkk
        · refine lv_tableIn (off := 343) (tgt := 375) hx hb d_LW_law_32 (by decide) (by decide) (by decide) (by decide) ?_
          exact lw_side X h3 hI hP hD hS hl hkk
        · refine lv_tableIn (off := 376) (tgt := 408) hx hb d_LW_law_32 (by decide) (by decide) (by decide) (by decide) ?_
          exact lw_nodes X h3 hI hP hD hS hl hkk
        · refine lv_tableIn (off := 409) (tgt := 441) hx hb d_LW_law_32 (by decide) (by decide) (by decide) (by decide) ?_
          exact lw_between X h3 hI hP hD hS hl hkk
        · refine lv_tableIn (off := 442) (tgt := 474) hx hb d_LW_law_32 (by decide) (by decide) (by decide) (by decide) ?_
          exact lw_mends X h3 hI hP hD hS hl hkk
        · refine lv_tableIn (off := 475) (tgt := 507) hx hb d_LW_law_32 (by decide) (by decide) (by decide) (by decide) ?_
          exact lw_way X h3 hI hP hD hS hl hkk
        · refine lv_tableIn (off := 498) (tgt := 530) hx hb d_LW_law_32 (by decide) (by decide) (by decide) (by decide) ?_
          exact lw_together X h3 hI hP hD hS hl hkk
        · refine lv_tableIn (off := 531) (tgt := 563) hx hb d_LW_law_32 (by decide) (by decide) (by decide) (by decide) ?_
          exact lw_splits X h3 hI hP hD hS hl hkk
        · refine lv_tableIn (off := 564) (tgt := 596) hx hb d_LW_law_32 (by decide) (by decide) (by decide) (by decide) ?_
          exact lw_worn X h3 hI hP hD hS hl hkk
theorem hts_nw {s : State} {args : Array Value} (h : ∀ w ∈ lw_tbl, w.before args s = true) {w : Cond} (hw : w ∈ NW) : va_Nw w s := by
  obtain ⟨a, i, x, t, rfl⟩ := NW_nest hw
  exact va_tabs rfl rfl (h _ (NW_in _ hw))
set_option maxHeartbeats 8000000 in
set_option maxRecDepth 100000 in
theorem whole_start {p : Program} {e : Env} {s : State} {m : MethodId} {below : List Frame} {meth : Method} {c : Code} (l : Launch) {b L : Nat} {xs : Nat → Int32} (hL : L ≤ 1536) (C0 : lw_At p s m meth c b L xs) : W p l e room_1 s m #[Value.ref b] below meth c s.heap [] 0 0 (lw_Z below #[Value.ref b] s) (entryFrame m ([Value.ref b] : List Value).toArray 4) := by
  obtain ⟨hx, hb, hr, hml, hown, hts0, hX, hbl, hlocks, hgv⟩ := id C0
  have hts : ∀ w ∈ TT, w.before #[Value.ref b] s = true := fun w h => hts0 w (TT_in h)
  have hA : ∀ q : Nat, s.heap.size ≤ q → (fun q : Nat => s.heap.size ≤ q) q := fun _ h => h
  have hbA : ¬ (fun q : Nat => s.heap.size ≤ q) b := Nat.not_le.mpr hbl
  obtain ⟨c0, iS0, hKn0⟩ := u_known (C := R_CP) (T := F_CP) (N := 6) (n := 6) hts in_CP (hts _ winst_CP)
  obtain ⟨c1, iS1, hKn1⟩ := u_known (C := R_GR) (T := F_GR) (N := 5) (n := 5) hts in_GR (hts _ winst_GR)
  obtain ⟨c2, iS2, hKn2⟩ := u_known (C := R_SK) (T := F_SK) (N := 7) (n := 7) hts in_SK (hts _ winst_SK)
  obtain ⟨c3, iS3, hKn3⟩ := u_known (C := R_GP) (T := F_GP) (N := 2) (n := 2) hts in_GP (hts _ winst_GP)
  obtain ⟨c4, iS4, hKn4⟩ := u_known (C := R_FL) (T := F_FL) (N := 4) (n := 4) hts in_FL (hts _ winst_FL)
  obtain ⟨c5, iS5, hKn5⟩ := u_known (C := R_CO) (T := F_CO) (N := 1) (n := 1) hts in_CO (hts _ winst_CO)
  obtain ⟨c6, iS6, hKn6⟩ := u_known (C := R_SP) (T := F_SP) (N := 7) (n := 7) hts in_SP (hts _ winst_SP)
  obtain ⟨c7, iS7, hKn7⟩ := u_known (C := R_MO) (T := F_MO) (N := 15) (n := 15) hts in_MO (hts _ winst_MO)
  obtain ⟨dC, dI, hKc⟩ : ∃ (dC : Nat → ClassId) (dI : Nat → Nat → Nat), ∀ (k : Nat) (q : vw_C), cls[k]? = some q → u_Kn s q.1 q.2.1 q.2.2 (dC k) (dI k) := by
    refine ⟨fun k => match k with | 0 => c0 | 1 => c1 | 2 => c2 | 3 => c3 | 4 => c4 | 5 => c5 | 6 => c6 | _ => c7, fun k => match k with | 0 => iS0 | 1 => iS1 | 2 => iS2 | 3 => iS3 | 4 => iS4 | 5 => iS5 | 6 => iS6 | _ => iS7, ?_⟩
    intro k q hq
    match k, hq with
    | 0, hq => cases hq; exact hKn0
    | 1, hq => cases hq; exact hKn1
    | 2, hq => cases hq; exact hKn2
    | 3, hq => cases hq; exact hKn3
    | 4, hq => cases hq; exact hKn4
    | 5, hq => cases hq; exact hKn5
    | 6, hq => cases hq; exact hKn6
    | 7, hq => cases hq; exact hKn7
    | k + 8, hq => simp [cls] at hq
  obtain ⟨cI, hAI, hRI⟩ := arr_known (hts _ warr_int) (fun _ h => h)
  obtain ⟨cJ, hAJ, hRJ⟩ := arr_known (hts _ warr_long) (fun _ h => h)
  obtain ⟨cZ, hAZ, hRZ⟩ := arr_known (hts _ warr_boolean) (fun _ h => h)
  have hK : KK dC dI cI cJ cZ s := by
    refine ⟨⟨hKc, fun k q hq => ?_⟩, fun w hw => hts_nw hts0 hw⟩
    match k, hq with
    | 0, hq => cases hq; exact ⟨hAI, hRI⟩
    | 1, hq => cases hq; exact ⟨hAJ, hRJ⟩
    | 2, hq => cases hq; exact ⟨hAZ, hRZ⟩
    | k + 3, hq => simp at hq
  have hS : va_S (fun q : Nat => s.heap.size ≤ q) s.heap s.heap [] := va_S.rf
  have hP : va_P (dC, dI) cls [] s.heap := fun k q h => by simp at h
  have hD : va_D (fun q : Nat => s.heap.size ≤ q) [] := ⟨fun i j p q h => by simp at h, fun k q h => by simp at h⟩
  have hl := lv_entry ([.ref b]) (n := 4) (Nat.le_of_ble_eq_true rfl)
  rw [lg_entry_eq]
  generalize (lg_sl ([.ref b]) ++ List.replicate (4 - (lg_sl ([.ref b])).length) Slot.unset).toArray = ls at hl ⊢
  have hl : lv_has ls 4 [(0, .ref b)] := hl
  have h_c : 1 ≤ room_1.cells := Nat.le_of_ble_eq_true rfl
  have h_s : 6 ≤ room_1.slots := Nat.le_of_ble_eq_true rfl
  refine va_new (ci := 0) (fs := [.null, .null, .null, .null, .null, .null]) (C := R_CP) (T := F_CP) (N := 6) hx hb hts in_CP t_CP t_CP_ok hown (hts _ wcl_LW_7) (hts _ winst_CP) (hts _ wini_CP) hK.1 hP hD hS hA rfl (fun j hj => by rcases (show j = 0 ∨ j = 1 ∨ j = 2 ∨ j = 3 ∨ j = 4 ∨ j = 5 by omega) with rfl | rfl | rfl | rfl | rfl | rfl <;> rfl) h_c h_s d_LW_law_0 (fun qc H hP hD hS => ?_)
  have hP : va_P (dC, dI) cls [(qc, .inr (0, [.null, .null, .null, .null, .null, .null]))] H := hP
  have hD : va_D (fun q : Nat => s.heap.size ≤ q) [(qc, .inr (0, [.null, .null, .null, .null, .null, .null]))] := hD
  refine W.widen (k := 1) (n := 6) (by omega) (by omega) ?_
  refine lv_dup hx hb d_LW_law_3 rfl ?_
  have h_c : 30 ≤ room_1.cells := Nat.le_of_ble_eq_true rfl
  have h_s : 2594 ≤ room_1.slots := Nat.le_of_ble_eq_true rfl
  refine x_cn (wr := []) (w1 := fun (u9 : Nat × Nat × Nat × Nat × Nat × Nat × Nat × Nat × Nat × Nat × Nat × Nat × Nat × Nat × Nat × Nat × Nat × Nat × Nat × Nat × Nat × Nat × Nat × Nat × Nat × Nat × Nat × Nat × Nat) => [(qc, .inr (0, [.ref u9.1, .ref u9.2.2.2.1, .ref u9.2.2.2.2.2.2.2.2.2.2.1, .ref u9.2.2.2.2.2.2.2.2.2.2.2.2.2.2.2.2.2.1, .ref u9.2.2.2.2.2.2.2.2.2.2.2.2.2.2.2.2.2.2.2.2.2.1, .ref u9.2.2.2.2.2.2.2.2.2.2.2.2.2.2.2.2.2.2.2.2.2.2.2.1])), (u9.1, .inr (1, [.ref u9.2.1, .ref u9.2.2.1, .int (nI 0), .int (nI 0), .long 0])), (u9.2.1, .inl (cI, 41, .inl (nF (fun _ => 0)))), (u9.2.2.1, .inl (cI, 41, .inl (nF (fun _ => 0)))), (u9.2.2.2.1, .inr (2, [.ref u9.2.2.2.2.1, .ref u9.2.2.2.2.2.1, .ref u9.2.2.2.2.2.2.1, .ref u9.2.2.2.2.2.2.2.1, .ref u9.2.2.2.2.2.2.2.2.1, .int (nI 0), .long 0])), (u9.2.2.2.2.1, .inl (cI, 14, .inl (fun _ => 0))), (u9.2.2.2.2.2.1, .inl (cI, 14, .inl (fun _ => 0))), (u9.2.2.2.2.2.2.1, .inl (cI, 14, .inl (fun _ => 0))), (u9.2.2.2.2.2.2.2.1, .inl (cJ, 14, .inr (.inl (fun _ => 0)))), (u9.2.2.2.2.2.2.2.2.1, .inr (3, [.ref u9.2.2.2.2.2.2.2.2.2.1, .int (nI 0)])), (u9.2.2.2.2.2.2.2.2.2.1, .inl (cJ, 41, .inr (.inl (fun _ => 0)))), (u9.2.2.2.2.2.2.2.2.2.2.1, .inr (2, [.ref u9.2.2.2.2.2.2.2.2.2.2.2.1, .ref u9.2.2.2.2.2.2.2.2.2.2.2.2.1, .ref u9.2.2.2.2.2.2.2.2.2.2.2.2.2.1, .ref u9.2.2.2.2.2.2.2.2.2.2.2.2.2.2.1, .ref u9.2.2.2.2.2.2.2.2.2.2.2.2.2.2.2.1, .int (nI 0), .long 0])), (u9.2.2.2.2.2.2.2.2.2.2.2.1, .inl (cI, 14, .inl (fun _ => 0))), (u9.2.2.2.2.2.2.2.2.2.2.2.2.1, .inl (cI, 14, .inl (fun _ => 0))), (u9.2.2.2.2.2.2.2.2.2.2.2.2.2.1, .inl (cI, 14, .inl (fun _ => 0))), (u9.2.2.2.2.2.2.2.2.2.2.2.2.2.2.1, .inl (cJ, 14, .inr (.inl (fun _ => 0)))), (u9.2.2.2.2.2.2.2.2.2.2.2.2.2.2.2.1, .inr (3, [.ref u9.2.2.2.2.2.2.2.2.2.2.2.2.2.2.2.2.1, .int (nI 0)])), (u9.2.2.2.2.2.2.2.2.2.2.2.2.2.2.2.2.1, .inl (cJ, 41, .inr (.inl (fun _ => 0)))), (u9.2.2.2.2.2.2.2.2.2.2.2.2.2.2.2.2.2.1, .inr (4, [.ref u9.2.2.2.2.2.2.2.2.2.2.2.2.2.2.2.2.2.2.1, .ref u9.2.2.2.2.2.2.2.2.2.2.2.2.2.2.2.2.2.2.2.1, .ref u9.2.2.2.2.2.2.2.2.2.2.2.2.2.2.2.2.2.2.2.2.1, .int (nI 0)])), (u9.2.2.2.2.2.2.2.2.2.2.2.2.2.2.2.2.2.2.1, .inl (cI, 784, .inl (nF (fun _ => 0)))), (u9.2.2.2.2.2.2.2.2.2.2.2.2.2.2.2.2.2.2.2.1, .inl (cI, 28, .inl (fun _ => 0))), (u9.2.2.2.2.2.2.2.2.2.2.2.2.2.2.2.2.2.2.2.2.1, .inl (cI, 28, .inl (nF (fun _ => 0)))), (u9.2.2.2.2.2.2.2.2.2.2.2.2.2.2.2.2.2.2.2.2.2.1, .inr (5, [.ref u9.2.2.2.2.2.2.2.2.2.2.2.2.2.2.2.2.2.2.2.2.2.2.1])), (u9.2.2.2.2.2.2.2.2.2.2.2.2.2.2.2.2.2.2.2.2.2.2.1, .inl (cI, 14, .inl (fun _ => 0))), (u9.2.2.2.2.2.2.2.2.2.2.2.2.2.2.2.2.2.2.2.2.2.2.2.1, .inr (6, [.ref u9.2.2.2.2.2.2.2.2.2.2.2.2.2.2.2.2.2.2.2.2.2.2.2.2.1, .ref u9.2.2.2.2.2.2.2.2.2.2.2.2.2.2.2.2.2.2.2.2.2.2.2.2.2.2.1, .ref u9.2.2.2.2.2.2.2.2.2.2.2.2.2.2.2.2.2.2.2.2.2.2.2.2.2.2.2.1, .int (nI 0), .ref u9.2.2.2.2.2.2.2.2.2.2.2.2.2.2.2.2.2.2.2.2.2.2.2.2.2.2.2.2, .int (nI 0), .long 0])), (u9.2.2.2.2.2.2.2.2.2.2.2.2.2.2.2.2.2.2.2.2.2.2.2.2.1, .inr (3, [.ref u9.2.2.2.2.2.2.2.2.2.2.2.2.2.2.2.2.2.2.2.2.2.2.2.2.2.1, .int (nI 0)])), (u9.2.2.2.2.2.2.2.2.2.2.2.2.2.2.2.2.2.2.2.2.2.2.2.2.2.1, .inl (cJ, 41, .inr (.inl (fun _ => 0)))), (u9.2.2.2.2.2.2.2.2.2.2.2.2.2.2.2.2.2.2.2.2.2.2.2.2.2.2.1, .inl (cJ, 1274, .inr (.inl (fun _ => 0)))), (u9.2.2.2.2.2.2.2.2.2.2.2.2.2.2.2.2.2.2.2.2.2.2.2.2.2.2.2.1, .inl (cI, 92, .inl (nF (fun _ => 0)))), (u9.2.2.2.2.2.2.2.2.2.2.2.2.2.2.2.2.2.2.2.2.2.2.2.2.2.2.2.2, .inl (cJ, 14, .inr (.inl (fun _ => 0))))]) (k_I (rest := [.ref qc]) ⟨hx, hb, hml, hown, hts⟩ (c_CP_init l dC dI cI cJ cZ qc H.size) wml_LW_9 wim_CP_init wini_CP wcode_CP_init rfl (by decide +kernel) ⟨(Nat.le_of_ble_eq_true rfl), (Nat.le_of_ble_eq_true rfl)⟩ (pre_C (hP.sub (ws' := [(qc, .inr (0, [.null, .null, .null, .null, .null, .null]))]) [0] rfl) hK (hD.sub (ws' := [(qc, .inr (0, [.null, .null, .null, .null, .null, .null]))]) [0] (by decide) rfl)) hl.1 rfl (Nat.le_of_ble_eq_true rfl) d_LW_law_4 ⟨h_c, h_s⟩) hP hD hS hA [0] [] rfl rfl (by decide) (by decide) (fun u0 H locs _ hP hD hS => ?_)
  obtain ⟨q5_CP, q7_9_CP, q15_9_CP, q16_CP, q7_20_CP, q15_20_CP, q23_20_CP, q31_20_CP, q37_20_CP, q7_41_20_CP, q27_CP, q7_31_CP, q15_31_CP, q23_31_CP, q31_31_CP, q37_31_CP, q7_41_31_CP, q38_CP, q8_42_CP, q16_42_CP, q24_42_CP, q49_CP, q7_53_CP, q60_CP, q5_64_CP, q7_9_64_CP, q19_64_CP, q27_64_CP, q35_64_CP⟩ := u0
  have hP : va_P (dC, dI) cls [(qc, .inr (0, [.ref q5_CP, .ref q16_CP, .ref q27_CP, .ref q38_CP, .ref q49_CP, .ref q60_CP])), (q5_CP, .inr (1, [.ref q7_9_CP, .ref q15_9_CP, .int (nI 0), .int (nI 0), .long 0])), (q7_9_CP, .inl (cI, 41, .inl (nF (fun _ => 0)))), (q15_9_CP, .inl (cI, 41, .inl (nF (fun _ => 0)))), (q16_CP, .inr (2, [.ref q7_20_CP, .ref q15_20_CP, .ref q23_20_CP, .ref q31_20_CP, .ref q37_20_CP, .int (nI 0), .long 0])), (q7_20_CP, .inl (cI, 14, .inl (fun _ => 0))), (q15_20_CP, .inl (cI, 14, .inl (fun _ => 0))), (q23_20_CP, .inl (cI, 14, .inl (fun _ => 0))), (q31_20_CP, .inl (cJ, 14, .inr (.inl (fun _ => 0)))), (q37_20_CP, .inr (3, [.ref q7_41_20_CP, .int (nI 0)])), (q7_41_20_CP, .inl (cJ, 41, .inr (.inl (fun _ => 0)))), (q27_CP, .inr (2, [.ref q7_31_CP, .ref q15_31_CP, .ref q23_31_CP, .ref q31_31_CP, .ref q37_31_CP, .int (nI 0), .long 0])), (q7_31_CP, .inl (cI, 14, .inl (fun _ => 0))), (q15_31_CP, .inl (cI, 14, .inl (fun _ => 0))), (q23_31_CP, .inl (cI, 14, .inl (fun _ => 0))), (q31_31_CP, .inl (cJ, 14, .inr (.inl (fun _ => 0)))), (q37_31_CP, .inr (3, [.ref q7_41_31_CP, .int (nI 0)])), (q7_41_31_CP, .inl (cJ, 41, .inr (.inl (fun _ => 0)))), (q38_CP, .inr (4, [.ref q8_42_CP, .ref q16_42_CP, .ref q24_42_CP, .int (nI 0)])), (q8_42_CP, .inl (cI, 784, .inl (nF (fun _ => 0)))), (q16_42_CP, .inl (cI, 28, .inl (fun _ => 0))), (q24_42_CP, .inl (cI, 28, .inl (nF (fun _ => 0)))), (q49_CP, .inr (5, [.ref q7_53_CP])), (q7_53_CP, .inl (cI, 14, .inl (fun _ => 0))), (q60_CP, .inr (6, [.ref q5_64_CP, .ref q19_64_CP, .ref q27_64_CP, .int (nI 0), .ref q35_64_CP, .int (nI 0), .long 0])), (q5_64_CP, .inr (3, [.ref q7_9_64_CP, .int (nI 0)])), (q7_9_64_CP, .inl (cJ, 41, .inr (.inl (fun _ => 0)))), (q19_64_CP, .inl (cJ, 1274, .inr (.inl (fun _ => 0)))), (q27_64_CP, .inl (cI, 92, .inl (nF (fun _ => 0)))), (q35_64_CP, .inl (cJ, 14, .inr (.inl (fun _ => 0))))] H := hP
  have hD : va_D (fun q : Nat => s.heap.size ≤ q) [(qc, .inr (0, [.ref q5_CP, .ref q16_CP, .ref q27_CP, .ref q38_CP, .ref q49_CP, .ref q60_CP])), (q5_CP, .inr (1, [.ref q7_9_CP, .ref q15_9_CP, .int (nI 0), .int (nI 0), .long 0])), (q7_9_CP, .inl (cI, 41, .inl (nF (fun _ => 0)))), (q15_9_CP, .inl (cI, 41, .inl (nF (fun _ => 0)))), (q16_CP, .inr (2, [.ref q7_20_CP, .ref q15_20_CP, .ref q23_20_CP, .ref q31_20_CP, .ref q37_20_CP, .int (nI 0), .long 0])), (q7_20_CP, .inl (cI, 14, .inl (fun _ => 0))), (q15_20_CP, .inl (cI, 14, .inl (fun _ => 0))), (q23_20_CP, .inl (cI, 14, .inl (fun _ => 0))), (q31_20_CP, .inl (cJ, 14, .inr (.inl (fun _ => 0)))), (q37_20_CP, .inr (3, [.ref q7_41_20_CP, .int (nI 0)])), (q7_41_20_CP, .inl (cJ, 41, .inr (.inl (fun _ => 0)))), (q27_CP, .inr (2, [.ref q7_31_CP, .ref q15_31_CP, .ref q23_31_CP, .ref q31_31_CP, .ref q37_31_CP, .int (nI 0), .long 0])), (q7_31_CP, .inl (cI, 14, .inl (fun _ => 0))), (q15_31_CP, .inl (cI, 14, .inl (fun _ => 0))), (q23_31_CP, .inl (cI, 14, .inl (fun _ => 0))), (q31_31_CP, .inl (cJ, 14, .inr (.inl (fun _ => 0)))), (q37_31_CP, .inr (3, [.ref q7_41_31_CP, .int (nI 0)])), (q7_41_31_CP, .inl (cJ, 41, .inr (.inl (fun _ => 0)))), (q38_CP, .inr (4, [.ref q8_42_CP, .ref q16_42_CP, .ref q24_42_CP, .int (nI 0)])), (q8_42_CP, .inl (cI, 784, .inl (nF (fun _ => 0)))), (q16_42_CP, .inl (cI, 28, .inl (fun _ => 0))), (q24_42_CP, .inl (cI, 28, .inl (nF (fun _ => 0)))), (q49_CP, .inr (5, [.ref q7_53_CP])), (q7_53_CP, .inl (cI, 14, .inl (fun _ => 0))), (q60_CP, .inr (6, [.ref q5_64_CP, .ref q19_64_CP, .ref q27_64_CP, .int (nI 0), .ref q35_64_CP, .int (nI 0), .long 0])), (q5_64_CP, .inr (3, [.ref q7_9_64_CP, .int (nI 0)])), (q7_9_64_CP, .inl (cJ, 41, .inr (.inl (fun _ => 0)))), (q19_64_CP, .inl (cJ, 1274, .inr (.inl (fun _ => 0)))), (q27_64_CP, .inl (cI, 92, .inl (nF (fun _ => 0)))), (q35_64_CP, .inl (cJ, 14, .inr (.inl (fun _ => 0))))] := hD
  refine W.widen (k := 30) (n := 2594) (by omega) (by omega) ?_
  refine lv_astore_n (lv' := [(1, .ref qc), (0, .ref b)]) hx hb d_LW_law_7 rfl hl (by decide) rfl (fun ls hl => ?_)
  have h_c : 31 ≤ room_1.cells := Nat.le_of_ble_eq_true rfl
  have h_s : 2609 ≤ room_1.slots := Nat.le_of_ble_eq_true rfl
  refine va_new (ci := 7) (fs := [.int (nI 0), .int (nI 0), .int (nI 0), .null, .null, .null, .null, .null, .int (nI 0), .null, .null, .int (nI 0), .null, .null, .int (nI 0)]) (C := R_MO) (T := F_MO) (N := 15) hx hb hts in_MO t_MO t_MO_ok hown (hts _ wcl_LW_10) (hts _ winst_MO) (hts _ wini_MO) hK.1 hP hD hS hA rfl (fun j hj => by rcases (show j = 0 ∨ j = 1 ∨ j = 2 ∨ j = 3 ∨ j = 4 ∨ j = 5 ∨ j = 6 ∨ j = 7 ∨ j = 8 ∨ j = 9 ∨ j = 10 ∨ j = 11 ∨ j = 12 ∨ j = 13 ∨ j = 14 by omega) with rfl | rfl | rfl | rfl | rfl | rfl | rfl | rfl | rfl | rfl | rfl | rfl | rfl | rfl | rfl <;> rfl) h_c h_s d_LW_law_8 (fun qm H hP hD hS => ?_)
  have hP : va_P (dC, dI) cls [(qc, .inr (0, [.ref q5_CP, .ref q16_CP, .ref q27_CP, .ref q38_CP, .ref q49_CP, .ref q60_CP])), (q5_CP, .inr (1, [.ref q7_9_CP, .ref q15_9_CP, .int (nI 0), .int (nI 0), .long 0])), (q7_9_CP, .inl (cI, 41, .inl (nF (fun _ => 0)))), (q15_9_CP, .inl (cI, 41, .inl (nF (fun _ => 0)))), (q16_CP, .inr (2, [.ref q7_20_CP, .ref q15_20_CP, .ref q23_20_CP, .ref q31_20_CP, .ref q37_20_CP, .int (nI 0), .long 0])), (q7_20_CP, .inl (cI, 14, .inl (fun _ => 0))), (q15_20_CP, .inl (cI, 14, .inl (fun _ => 0))), (q23_20_CP, .inl (cI, 14, .inl (fun _ => 0))), (q31_20_CP, .inl (cJ, 14, .inr (.inl (fun _ => 0)))), (q37_20_CP, .inr (3, [.ref q7_41_20_CP, .int (nI 0)])), (q7_41_20_CP, .inl (cJ, 41, .inr (.inl (fun _ => 0)))), (q27_CP, .inr (2, [.ref q7_31_CP, .ref q15_31_CP, .ref q23_31_CP, .ref q31_31_CP, .ref q37_31_CP, .int (nI 0), .long 0])), (q7_31_CP, .inl (cI, 14, .inl (fun _ => 0))), (q15_31_CP, .inl (cI, 14, .inl (fun _ => 0))), (q23_31_CP, .inl (cI, 14, .inl (fun _ => 0))), (q31_31_CP, .inl (cJ, 14, .inr (.inl (fun _ => 0)))), (q37_31_CP, .inr (3, [.ref q7_41_31_CP, .int (nI 0)])), (q7_41_31_CP, .inl (cJ, 41, .inr (.inl (fun _ => 0)))), (q38_CP, .inr (4, [.ref q8_42_CP, .ref q16_42_CP, .ref q24_42_CP, .int (nI 0)])), (q8_42_CP, .inl (cI, 784, .inl (nF (fun _ => 0)))), (q16_42_CP, .inl (cI, 28, .inl (fun _ => 0))), (q24_42_CP, .inl (cI, 28, .inl (nF (fun _ => 0)))), (q49_CP, .inr (5, [.ref q7_53_CP])), (q7_53_CP, .inl (cI, 14, .inl (fun _ => 0))), (q60_CP, .inr (6, [.ref q5_64_CP, .ref q19_64_CP, .ref q27_64_CP, .int (nI 0), .ref q35_64_CP, .int (nI 0), .long 0])), (q5_64_CP, .inr (3, [.ref q7_9_64_CP, .int (nI 0)])), (q7_9_64_CP, .inl (cJ, 41, .inr (.inl (fun _ => 0)))), (q19_64_CP, .inl (cJ, 1274, .inr (.inl (fun _ => 0)))), (q27_64_CP, .inl (cI, 92, .inl (nF (fun _ => 0)))), (q35_64_CP, .inl (cJ, 14, .inr (.inl (fun _ => 0)))), (qm, .inr (7, [.int (nI 0), .int (nI 0), .int (nI 0), .null, .null, .null, .null, .null, .int (nI 0), .null, .null, .int (nI 0), .null, .null, .int (nI 0)]))] H := hP
  have hD : va_D (fun q : Nat => s.heap.size ≤ q) [(qc, .inr (0, [.ref q5_CP, .ref q16_CP, .ref q27_CP, .ref q38_CP, .ref q49_CP, .ref q60_CP])), (q5_CP, .inr (1, [.ref q7_9_CP, .ref q15_9_CP, .int (nI 0), .int (nI 0), .long 0])), (q7_9_CP, .inl (cI, 41, .inl (nF (fun _ => 0)))), (q15_9_CP, .inl (cI, 41, .inl (nF (fun _ => 0)))), (q16_CP, .inr (2, [.ref q7_20_CP, .ref q15_20_CP, .ref q23_20_CP, .ref q31_20_CP, .ref q37_20_CP, .int (nI 0), .long 0])), (q7_20_CP, .inl (cI, 14, .inl (fun _ => 0))), (q15_20_CP, .inl (cI, 14, .inl (fun _ => 0))), (q23_20_CP, .inl (cI, 14, .inl (fun _ => 0))), (q31_20_CP, .inl (cJ, 14, .inr (.inl (fun _ => 0)))), (q37_20_CP, .inr (3, [.ref q7_41_20_CP, .int (nI 0)])), (q7_41_20_CP, .inl (cJ, 41, .inr (.inl (fun _ => 0)))), (q27_CP, .inr (2, [.ref q7_31_CP, .ref q15_31_CP, .ref q23_31_CP, .ref q31_31_CP, .ref q37_31_CP, .int (nI 0), .long 0])), (q7_31_CP, .inl (cI, 14, .inl (fun _ => 0))), (q15_31_CP, .inl (cI, 14, .inl (fun _ => 0))), (q23_31_CP, .inl (cI, 14, .inl (fun _ => 0))), (q31_31_CP, .inl (cJ, 14, .inr (.inl (fun _ => 0)))), (q37_31_CP, .inr (3, [.ref q7_41_31_CP, .int (nI 0)])), (q7_41_31_CP, .inl (cJ, 41, .inr (.inl (fun _ => 0)))), (q38_CP, .inr (4, [.ref q8_42_CP, .ref q16_42_CP, .ref q24_42_CP, .int (nI 0)])), (q8_42_CP, .inl (cI, 784, .inl (nF (fun _ => 0)))), (q16_42_CP, .inl (cI, 28, .inl (fun _ => 0))), (q24_42_CP, .inl (cI, 28, .inl (nF (fun _ => 0)))), (q49_CP, .inr (5, [.ref q7_53_CP])), (q7_53_CP, .inl (cI, 14, .inl (fun _ => 0))), (q60_CP, .inr (6, [.ref q5_64_CP, .ref q19_64_CP, .ref q27_64_CP, .int (nI 0), .ref q35_64_CP, .int (nI 0), .long 0])), (q5_64_CP, .inr (3, [.ref q7_9_64_CP, .int (nI 0)])), (q7_9_64_CP, .inl (cJ, 41, .inr (.inl (fun _ => 0)))), (q19_64_CP, .inl (cJ, 1274, .inr (.inl (fun _ => 0)))), (q27_64_CP, .inl (cI, 92, .inl (nF (fun _ => 0)))), (q35_64_CP, .inl (cJ, 14, .inr (.inl (fun _ => 0)))), (qm, .inr (7, [.int (nI 0), .int (nI 0), .int (nI 0), .null, .null, .null, .null, .null, .int (nI 0), .null, .null, .int (nI 0), .null, .null, .int (nI 0)]))] := hD
  refine W.widen (k := 31) (n := 2609) (by omega) (by omega) ?_
  refine lv_dup hx hb d_LW_law_11 rfl ?_
  have h_c : 40 ≤ room_1.cells := Nat.le_of_ble_eq_true rfl
  have h_s : 19226 ≤ room_1.slots := Nat.le_of_ble_eq_true rfl
  refine x_cn (wr := [(qc, .inr (0, [.ref q5_CP, .ref q16_CP, .ref q27_CP, .ref q38_CP, .ref q49_CP, .ref q60_CP])), (q5_CP, .inr (1, [.ref q7_9_CP, .ref q15_9_CP, .int (nI 0), .int (nI 0), .long 0])), (q7_9_CP, .inl (cI, 41, .inl (nF (fun _ => 0)))), (q15_9_CP, .inl (cI, 41, .inl (nF (fun _ => 0)))), (q16_CP, .inr (2, [.ref q7_20_CP, .ref q15_20_CP, .ref q23_20_CP, .ref q31_20_CP, .ref q37_20_CP, .int (nI 0), .long 0])), (q7_20_CP, .inl (cI, 14, .inl (fun _ => 0))), (q15_20_CP, .inl (cI, 14, .inl (fun _ => 0))), (q23_20_CP, .inl (cI, 14, .inl (fun _ => 0))), (q31_20_CP, .inl (cJ, 14, .inr (.inl (fun _ => 0)))), (q37_20_CP, .inr (3, [.ref q7_41_20_CP, .int (nI 0)])), (q7_41_20_CP, .inl (cJ, 41, .inr (.inl (fun _ => 0)))), (q27_CP, .inr (2, [.ref q7_31_CP, .ref q15_31_CP, .ref q23_31_CP, .ref q31_31_CP, .ref q37_31_CP, .int (nI 0), .long 0])), (q7_31_CP, .inl (cI, 14, .inl (fun _ => 0))), (q15_31_CP, .inl (cI, 14, .inl (fun _ => 0))), (q23_31_CP, .inl (cI, 14, .inl (fun _ => 0))), (q31_31_CP, .inl (cJ, 14, .inr (.inl (fun _ => 0)))), (q37_31_CP, .inr (3, [.ref q7_41_31_CP, .int (nI 0)])), (q7_41_31_CP, .inl (cJ, 41, .inr (.inl (fun _ => 0)))), (q38_CP, .inr (4, [.ref q8_42_CP, .ref q16_42_CP, .ref q24_42_CP, .int (nI 0)])), (q8_42_CP, .inl (cI, 784, .inl (nF (fun _ => 0)))), (q16_42_CP, .inl (cI, 28, .inl (fun _ => 0))), (q24_42_CP, .inl (cI, 28, .inl (nF (fun _ => 0)))), (q49_CP, .inr (5, [.ref q7_53_CP])), (q7_53_CP, .inl (cI, 14, .inl (fun _ => 0))), (q60_CP, .inr (6, [.ref q5_64_CP, .ref q19_64_CP, .ref q27_64_CP, .int (nI 0), .ref q35_64_CP, .int (nI 0), .long 0])), (q5_64_CP, .inr (3, [.ref q7_9_64_CP, .int (nI 0)])), (q7_9_64_CP, .inl (cJ, 41, .inr (.inl (fun _ => 0)))), (q19_64_CP, .inl (cJ, 1274, .inr (.inl (fun _ => 0)))), (q27_64_CP, .inl (cI, 92, .inl (nF (fun _ => 0)))), (q35_64_CP, .inl (cJ, 14, .inr (.inl (fun _ => 0))))]) (w1 := fun (u9 : Nat × Nat × Nat × Nat × Nat × Nat × Nat × Nat × Nat) => [(qm, .inr (7, [.int (nI 0), .int (nI 0), .int (nI 0), .ref u9.1, .ref u9.2.1, .ref u9.2.2.1, .ref u9.2.2.2.1, .ref u9.2.2.2.2.1, .int (nI 0), .ref u9.2.2.2.2.2.1, .ref u9.2.2.2.2.2.2.1, .int (nI 0), .ref u9.2.2.2.2.2.2.2.1, .ref u9.2.2.2.2.2.2.2.2, .int (nI 0)])), (u9.1, .inl (cI, 41, .inl (nF (fun _ => 0)))), (u9.2.1, .inl (cI, 41, .inl (nF (fun _ => 0)))), (u9.2.2.1, .inl (cZ, 41, .inl (bF (fun _ => false)))), (u9.2.2.2.1, .inl (cI, 14, .inl (fun _ => 0))), (u9.2.2.2.2.1, .inl (cI, 14, .inl (fun _ => 0))), (u9.2.2.2.2.2.1, .inl (cI, 41, .inl (nF (fun _ => 0)))), (u9.2.2.2.2.2.2.1, .inl (cI, 41, .inl (nF (fun _ => 0)))), (u9.2.2.2.2.2.2.2.1, .inl (cI, 8192, .inl (nF (fun _ => 0)))), (u9.2.2.2.2.2.2.2.2, .inl (cZ, 8192, .inl (bF (fun _ => false))))]) (k_I (rest := [.ref qm]) ⟨hx, hb, hml, hown, hts⟩ (c_MO_init l dC dI cI cJ cZ qm H.size) wml_LW_12 wim_MO_init wini_MO wcode_MO_init rfl (by decide +kernel) ⟨(Nat.le_of_ble_eq_true rfl), (Nat.le_of_ble_eq_true rfl)⟩ (pre_C (hP.sub (ws' := [(qm, .inr (7, [.int (nI 0), .int (nI 0), .int (nI 0), .null, .null, .null, .null, .null, .int (nI 0), .null, .null, .int (nI 0), .null, .null, .int (nI 0)]))]) [30] rfl) hK (hD.sub (ws' := [(qm, .inr (7, [.int (nI 0), .int (nI 0), .int (nI 0), .null, .null, .null, .null, .null, .int (nI 0), .null, .null, .int (nI 0), .null, .null, .int (nI 0)]))]) [30] (by decide) rfl)) hl.1 rfl (Nat.le_of_ble_eq_true rfl) d_LW_law_12 ⟨h_c, h_s⟩) hP hD hS hA [30] [0, 1, 2, 3, 4, 5, 6, 7, 8, 9, 10, 11, 12, 13, 14, 15, 16, 17, 18, 19, 20, 21, 22, 23, 24, 25, 26, 27, 28, 29] rfl rfl (by decide) (by decide) (fun u8 H locs _ hP hD hS => ?_)
  obtain ⟨q7_MO, q15_MO, q23_MO, q31_MO, q39_MO, q47_MO, q55_MO, q64_MO, q73_MO⟩ := u8
  have hP : va_P (dC, dI) cls [(qc, .inr (0, [.ref q5_CP, .ref q16_CP, .ref q27_CP, .ref q38_CP, .ref q49_CP, .ref q60_CP])), (q5_CP, .inr (1, [.ref q7_9_CP, .ref q15_9_CP, .int (nI 0), .int (nI 0), .long 0])), (q7_9_CP, .inl (cI, 41, .inl (nF (fun _ => 0)))), (q15_9_CP, .inl (cI, 41, .inl (nF (fun _ => 0)))), (q16_CP, .inr (2, [.ref q7_20_CP, .ref q15_20_CP, .ref q23_20_CP, .ref q31_20_CP, .ref q37_20_CP, .int (nI 0), .long 0])), (q7_20_CP, .inl (cI, 14, .inl (fun _ => 0))), (q15_20_CP, .inl (cI, 14, .inl (fun _ => 0))), (q23_20_CP, .inl (cI, 14, .inl (fun _ => 0))), (q31_20_CP, .inl (cJ, 14, .inr (.inl (fun _ => 0)))), (q37_20_CP, .inr (3, [.ref q7_41_20_CP, .int (nI 0)])), (q7_41_20_CP, .inl (cJ, 41, .inr (.inl (fun _ => 0)))), (q27_CP, .inr (2, [.ref q7_31_CP, .ref q15_31_CP, .ref q23_31_CP, .ref q31_31_CP, .ref q37_31_CP, .int (nI 0), .long 0])), (q7_31_CP, .inl (cI, 14, .inl (fun _ => 0))), (q15_31_CP, .inl (cI, 14, .inl (fun _ => 0))), (q23_31_CP, .inl (cI, 14, .inl (fun _ => 0))), (q31_31_CP, .inl (cJ, 14, .inr (.inl (fun _ => 0)))), (q37_31_CP, .inr (3, [.ref q7_41_31_CP, .int (nI 0)])), (q7_41_31_CP, .inl (cJ, 41, .inr (.inl (fun _ => 0)))), (q38_CP, .inr (4, [.ref q8_42_CP, .ref q16_42_CP, .ref q24_42_CP, .int (nI 0)])), (q8_42_CP, .inl (cI, 784, .inl (nF (fun _ => 0)))), (q16_42_CP, .inl (cI, 28, .inl (fun _ => 0))), (q24_42_CP, .inl (cI, 28, .inl (nF (fun _ => 0)))), (q49_CP, .inr (5, [.ref q7_53_CP])), (q7_53_CP, .inl (cI, 14, .inl (fun _ => 0))), (q60_CP, .inr (6, [.ref q5_64_CP, .ref q19_64_CP, .ref q27_64_CP, .int (nI 0), .ref q35_64_CP, .int (nI 0), .long 0])), (q5_64_CP, .inr (3, [.ref q7_9_64_CP, .int (nI 0)])), (q7_9_64_CP, .inl (cJ, 41, .inr (.inl (fun _ => 0)))), (q19_64_CP, .inl (cJ, 1274, .inr (.inl (fun _ => 0)))), (q27_64_CP, .inl (cI, 92, .inl (nF (fun _ => 0)))), (q35_64_CP, .inl (cJ, 14, .inr (.inl (fun _ => 0)))), (qm, .inr (7, [.int (nI 0), .int (nI 0), .int (nI 0), .ref q7_MO, .ref q15_MO, .ref q23_MO, .ref q31_MO, .ref q39_MO, .int (nI 0), .ref q47_MO, .ref q55_MO, .int (nI 0), .ref q64_MO, .ref q73_MO, .int (nI 0)])), (q7_MO, .inl (cI, 41, .inl (nF (fun _ => 0)))), (q15_MO, .inl (cI, 41, .inl (nF (fun _ => 0)))), (q23_MO, .inl (cZ, 41, .inl (bF (fun _ => false)))), (q31_MO, .inl (cI, 14, .inl (fun _ => 0))), (q39_MO, .inl (cI, 14, .inl (fun _ => 0))), (q47_MO, .inl (cI, 41, .inl (nF (fun _ => 0)))), (q55_MO, .inl (cI, 41, .inl (nF (fun _ => 0)))), (q64_MO, .inl (cI, 8192, .inl (nF (fun _ => 0)))), (q73_MO, .inl (cZ, 8192, .inl (bF (fun _ => false))))] H := hP
  have hD : va_D (fun q : Nat => s.heap.size ≤ q) [(qc, .inr (0, [.ref q5_CP, .ref q16_CP, .ref q27_CP, .ref q38_CP, .ref q49_CP, .ref q60_CP])), (q5_CP, .inr (1, [.ref q7_9_CP, .ref q15_9_CP, .int (nI 0), .int (nI 0), .long 0])), (q7_9_CP, .inl (cI, 41, .inl (nF (fun _ => 0)))), (q15_9_CP, .inl (cI, 41, .inl (nF (fun _ => 0)))), (q16_CP, .inr (2, [.ref q7_20_CP, .ref q15_20_CP, .ref q23_20_CP, .ref q31_20_CP, .ref q37_20_CP, .int (nI 0), .long 0])), (q7_20_CP, .inl (cI, 14, .inl (fun _ => 0))), (q15_20_CP, .inl (cI, 14, .inl (fun _ => 0))), (q23_20_CP, .inl (cI, 14, .inl (fun _ => 0))), (q31_20_CP, .inl (cJ, 14, .inr (.inl (fun _ => 0)))), (q37_20_CP, .inr (3, [.ref q7_41_20_CP, .int (nI 0)])), (q7_41_20_CP, .inl (cJ, 41, .inr (.inl (fun _ => 0)))), (q27_CP, .inr (2, [.ref q7_31_CP, .ref q15_31_CP, .ref q23_31_CP, .ref q31_31_CP, .ref q37_31_CP, .int (nI 0), .long 0])), (q7_31_CP, .inl (cI, 14, .inl (fun _ => 0))), (q15_31_CP, .inl (cI, 14, .inl (fun _ => 0))), (q23_31_CP, .inl (cI, 14, .inl (fun _ => 0))), (q31_31_CP, .inl (cJ, 14, .inr (.inl (fun _ => 0)))), (q37_31_CP, .inr (3, [.ref q7_41_31_CP, .int (nI 0)])), (q7_41_31_CP, .inl (cJ, 41, .inr (.inl (fun _ => 0)))), (q38_CP, .inr (4, [.ref q8_42_CP, .ref q16_42_CP, .ref q24_42_CP, .int (nI 0)])), (q8_42_CP, .inl (cI, 784, .inl (nF (fun _ => 0)))), (q16_42_CP, .inl (cI, 28, .inl (fun _ => 0))), (q24_42_CP, .inl (cI, 28, .inl (nF (fun _ => 0)))), (q49_CP, .inr (5, [.ref q7_53_CP])), (q7_53_CP, .inl (cI, 14, .inl (fun _ => 0))), (q60_CP, .inr (6, [.ref q5_64_CP, .ref q19_64_CP, .ref q27_64_CP, .int (nI 0), .ref q35_64_CP, .int (nI 0), .long 0])), (q5_64_CP, .inr (3, [.ref q7_9_64_CP, .int (nI 0)])), (q7_9_64_CP, .inl (cJ, 41, .inr (.inl (fun _ => 0)))), (q19_64_CP, .inl (cJ, 1274, .inr (.inl (fun _ => 0)))), (q27_64_CP, .inl (cI, 92, .inl (nF (fun _ => 0)))), (q35_64_CP, .inl (cJ, 14, .inr (.inl (fun _ => 0)))), (qm, .inr (7, [.int (nI 0), .int (nI 0), .int (nI 0), .ref q7_MO, .ref q15_MO, .ref q23_MO, .ref q31_MO, .ref q39_MO, .int (nI 0), .ref q47_MO, .ref q55_MO, .int (nI 0), .ref q64_MO, .ref q73_MO, .int (nI 0)])), (q7_MO, .inl (cI, 41, .inl (nF (fun _ => 0)))), (q15_MO, .inl (cI, 41, .inl (nF (fun _ => 0)))), (q23_MO, .inl (cZ, 41, .inl (bF (fun _ => false)))), (q31_MO, .inl (cI, 14, .inl (fun _ => 0))), (q39_MO, .inl (cI, 14, .inl (fun _ => 0))), (q47_MO, .inl (cI, 41, .inl (nF (fun _ => 0)))), (q55_MO, .inl (cI, 41, .inl (nF (fun _ => 0)))), (q64_MO, .inl (cI, 8192, .inl (nF (fun _ => 0)))), (q73_MO, .inl (cZ, 8192, .inl (bF (fun _ => false))))] := hD
  refine W.widen (k := 40) (n := 19226) (by omega) (by omega) ?_
  refine lv_astore_n (lv' := [(2, .ref qm), (1, .ref qc), (0, .ref b)]) hx hb d_LW_law_15 rfl hl (by decide) rfl (fun ls hl => ?_)
  refine lv_iconst (v := (nI 0)) hx hb d_LW_law_16 (by decide) ?_
  refine lv_istore_n (lv' := [(3, .int (nI 0)), (2, .ref qm), (1, .ref qc), (0, .ref b)]) hx hb d_LW_law_17 rfl hl (by decide) rfl (fun ls hl => ?_)
  have hP : va_P (dC, dI) cls (WL cI cJ cZ ⟨qc, q5_CP, q16_CP, q27_CP, q38_CP, q49_CP, q60_CP, q7_9_CP, q15_9_CP, q7_20_CP, q15_20_CP, q23_20_CP, q31_20_CP, q37_20_CP, q7_41_20_CP, q7_31_CP, q15_31_CP, q23_31_CP, q31_31_CP, q37_31_CP, q7_41_31_CP, q8_42_CP, q16_42_CP, q24_42_CP, q7_53_CP, q5_64_CP, q7_9_64_CP, q19_64_CP, q27_64_CP, q35_64_CP⟩ ⟨qm, q7_MO, q15_MO, q23_MO, q31_MO, q39_MO, q47_MO, q55_MO, q64_MO, q73_MO⟩ ⟨0, 0, 0, (fun _ => 0), (fun _ => 0), (fun _ => 0), (fun _ => 0), (fun _ => 0), (fun _ => 0), 0, (fun _ => 0), nI 0, 0, (fun _ => 0), (fun _ => 0), (fun _ => 0), (fun _ => 0), nI 0, (fun _ => 0), nI 0, 0, (fun _ => 0), (fun _ => 0), (fun _ => 0), nI 0, (fun _ => 0), nI 0, (fun _ => 0), (fun _ => 0), (fun _ => 0), nI 0, (fun _ => 0), nI 0, 0⟩ ⟨nI 0, 0, 0, nI 0, nI 0, nI 0, (fun _ => 0), (fun _ => 0), (fun _ => false), (fun _ => 0), (fun _ => 0), (fun _ => 0), (fun _ => 0), (fun _ => 0), (fun _ => false)⟩) H := hP.sub [0, 1, 2, 3, 4, 5, 6, 7, 8, 9, 10, 11, 12, 13, 14, 15, 16, 17, 18, 19, 20, 21, 22, 23, 24, 25, 26, 27, 28, 29, 30, 31, 32, 33, 34, 35, 36, 37, 38, 39] rfl
  have hD : va_D (fun q : Nat => s.heap.size ≤ q) (WL cI cJ cZ ⟨qc, q5_CP, q16_CP, q27_CP, q38_CP, q49_CP, q60_CP, q7_9_CP, q15_9_CP, q7_20_CP, q15_20_CP, q23_20_CP, q31_20_CP, q37_20_CP, q7_41_20_CP, q7_31_CP, q15_31_CP, q23_31_CP, q31_31_CP, q37_31_CP, q7_41_31_CP, q8_42_CP, q16_42_CP, q24_42_CP, q7_53_CP, q5_64_CP, q7_9_64_CP, q19_64_CP, q27_64_CP, q35_64_CP⟩ ⟨qm, q7_MO, q15_MO, q23_MO, q31_MO, q39_MO, q47_MO, q55_MO, q64_MO, q73_MO⟩ ⟨0, 0, 0, (fun _ => 0), (fun _ => 0), (fun _ => 0), (fun _ => 0), (fun _ => 0), (fun _ => 0), 0, (fun _ => 0), nI 0, 0, (fun _ => 0), (fun _ => 0), (fun _ => 0), (fun _ => 0), nI 0, (fun _ => 0), nI 0, 0, (fun _ => 0), (fun _ => 0), (fun _ => 0), nI 0, (fun _ => 0), nI 0, (fun _ => 0), (fun _ => 0), (fun _ => 0), nI 0, (fun _ => 0), nI 0, 0⟩ ⟨nI 0, 0, 0, nI 0, nI 0, nI 0, (fun _ => 0), (fun _ => 0), (fun _ => false), (fun _ => 0), (fun _ => 0), (fun _ => 0), (fun _ => 0), (fun _ => 0), (fun _ => false)⟩) := hD.sub [0, 1, 2, 3, 4, 5, 6, 7, 8, 9, 10, 11, 12, 13, 14, 15, 16, 17, 18, 19, 20, 21, 22, 23, 24, 25, 26, 27, 28, 29, 30, 31, 32, 33, 34, 35, 36, 37, 38, 39] (by decide) rfl
  have hz : ∀ k : Nat, (fun _ : Nat => 0) k < 14 := fun _ => (by decide : 0 < 14)
  have hz3 : ∀ k : Nat, (fun _ : Nat => 0) k < 3 := fun _ => (by decide : 0 < 3)
  exact law_loop (ca := ⟨qc, q5_CP, q16_CP, q27_CP, q38_CP, q49_CP, q60_CP, q7_9_CP, q15_9_CP, q7_20_CP, q15_20_CP, q23_20_CP, q31_20_CP, q37_20_CP, q7_41_20_CP, q7_31_CP, q15_31_CP, q23_31_CP, q31_31_CP, q37_31_CP, q7_41_31_CP, q8_42_CP, q16_42_CP, q24_42_CP, q7_53_CP, q5_64_CP, q7_9_64_CP, q19_64_CP, q27_64_CP, q35_64_CP⟩) (ma := ⟨qm, q7_MO, q15_MO, q23_MO, q31_MO, q39_MO, q47_MO, q55_MO, q64_MO, q73_MO⟩) ⟨hx, hb, hml, hown, hts, hK, hX, hbl, hbA, by omega⟩ C0 (L + 1) 0 ⟨0, 0, 0, (fun _ => 0), (fun _ => 0), (fun _ => 0), (fun _ => 0), (fun _ => 0), (fun _ => 0), 0, (fun _ => 0), nI 0, 0, (fun _ => 0), (fun _ => 0), (fun _ => 0), (fun _ => 0), nI 0, (fun _ => 0), nI 0, 0, (fun _ => 0), (fun _ => 0), (fun _ => 0), nI 0, (fun _ => 0), nI 0, (fun _ => 0), (fun _ => 0), (fun _ => 0), nI 0, (fun _ => 0), nI 0, 0⟩ ⟨nI 0, 0, 0, nI 0, nI 0, nI 0, (fun _ => 0), (fun _ => 0), (fun _ => false), (fun _ => 0), (fun _ => 0), (fun _ => 0), (fun _ => 0), (fun _ => 0), (fun _ => false)⟩ H locs ls (by omega) (Nat.zero_le L) ⟨GAR_0 hz hz, SKI_0, rfl, rfl, rfl, hz, hz, lk_clear, hz3⟩ hP hD hS (lv_sub hl [3, 2, 1, 0] rfl)
set_option maxHeartbeats 4000000 in
theorem lw_walk (l : Launch) (b : Addr) (xs : List Int32) : MetFree l x (headSpec (Jvm.Cond.code x code maxLocals ret :: tables_1) room_1) (lw_P b xs) (fun _ _ _ _ _ => True) lw_Q := by
  refine MetFree.of_bodyS (code := code) (maxLocals := maxLocals) (ret := ret) (by decide) ?_ ?_
  · intro args s m h hn
    obtain ⟨meth, c, h1, h2, h3, h4, h5, h6, -, -⟩ := Cond.code_spec hn (atoms_spec (ws := Jvm.Cond.code x code maxLocals ret :: tables_1) h _ List.mem_cons_self)
    exact ⟨meth, c, h1, h2, h3, h4, h5, h6⟩
  · intro p e s m args below meth c s₁ B hml0 hP _
    obtain ⟨rfl, hx, hbd, hgv⟩ := hP
    obtain ⟨scr, harrAt, hlist, hof, hsmall⟩ := hx
    obtain ⟨hcb, hkn, -, -⟩ := State.arrayAt?_spec harrAt
    have hown : s.vm.findClass R_law = some m.cls := findClass_of_methodNamed B.named
    have hts0 : ∀ c ∈ (Jvm.Cond.code x code maxLocals ret :: tables_1), c.before #[Value.ref b] s = true := atoms_spec (ws := Jvm.Cond.code x code maxLocals ret :: tables_1) B.pre
    have hts : ∀ w ∈ lw_tbl, w.before #[Value.ref b] s = true := k2_hts_sels lw_privs (fun w hw => hts0 w (List.mem_cons_of_mem _ hw)) lw_privs_ok
    have hml : c.maxLocals = 4 := B.maxLocals_eq (hts0 _ List.mem_cons_self)
    have X₀ : Stand p l e room_1 s m #[Value.ref b] below meth c s₁ [] 0 0 := Stand.of_body B
    have hh0 : s₁.heap = s.heap := by rw [B.state]; rfl
    have hsz : scr.slots.size = xs.length := by rw [← Array.length_toList, hlist, List.length_map]
    have hval : ∀ j : Nat, j < xs.length → scr.slots[j]? = some (.int (xs.getD j 0)) := fun j hj => by
      rw [← Array.getElem?_toList, hlist]
      simp [hj]
    have hbl : b < s.heap.size := (Array.getElem?_eq_some_iff.mp hcb).1
    have hX : va_X b xs.length (fun j => xs.getD j 0) s s.heap := ⟨scr, hcb, hof, hkn, hsz, hval⟩
    have K : W p l e room_1 s m #[Value.ref b] below meth c s₁.heap [] 0 0 (lw_Z below #[Value.ref b] s) (entryFrame m ([Value.ref b] : List Value).toArray 4) := by
      rw [hh0]
      exact whole_start l hbd ⟨B.exec, B.bytes, B.returns, hml, hown, hts, hX, hbl, B.notSynchronized, hgv⟩
    obtain ⟨t, a1, o, b1, b2, b3⟩ := K s₁ rfl X₀
    exact ⟨t, o, a1, b1, b2, b3⟩
theorem lw_pre_spec {args : Array Value} {s : State} (h : (Jvm.Cond.and given_1 narrow_1).before args s = true) (hr : rest_1_c.before args s = true) : ∃ (b : Addr) (xs : List Int32), lw_P b xs args s := by
  have hs := flat_of_before _ h
  have hq := flat_of_before _ hr
  have hc : (Cond.count 1).before args s = true := hs _ (by decide +kernel)
  have harr : (Cond.arrayOf (.arg 0) .int).before args s = true := hs _ (by decide +kernel)
  have hle : (Cond.le (.length (.arg 0)) (.int 1536)).before args s = true := hs _ (by decide +kernel)
  have hlen : (Cond.isInt (.length (.arg 0))).before args s = true := hq _ (by decide +kernel)
  have hall : (Cond.all (.arg 0) (.isInt (.elem (.arg 0) (.index 0)))).before args s = true := hq _ (by decide +kernel)
  obtain ⟨b, xs, hb, hx⟩ := State.ints_of_pre rfl harr hlen hall
  have hsm : xs.length < 2 ^ 31 := hx.choose_spec.2.2.2
  have hev : (Term.length (.arg 0)).eval args s none [] s = some (.int xs.length.toInt32) := hx.length_eval hb
  have hv := Cond.le_ints hev (show (Term.int 1536).eval args s none [] s = some (.int 1536) from rfl)
  have hd : xs.length.toInt32 ≤ 1536 := by
    simpa [Cond.before, Cond.holds, hv] using hle
  have hN : xs.length ≤ 1536 := (Int32.ofNat_le_ofNat hsm (by decide)).mp (show Int32.ofNat xs.length ≤ Int32.ofNat 1536 from hd)
  exact ⟨b, xs, Cond.one_arg hc (show args[0]? = some (.ref b) from hb), hx, hN, h⟩
theorem lw_comes (l : Launch) : Comes l x (Jvm.Cond.code x code maxLocals ret :: tables_1) room_1 (fun tb e args s => Calls_1 tb e args s ∧ rest_1 tb e args s ∧ Pre_1 tb e args s)
    (fun _ _ args s o t => lw_Q args s o t) := by
  intro p e ha hc hk s m args below hf hfit hheap happ hpre
  obtain ⟨b, xs, hP⟩ := lw_pre_spec hpre.2.2 hpre.2.1
  obtain ⟨k, o, h1, h2, h3, hQ⟩ := lw_walk l b xs p e ha hc hk s m args below hf ((Spec.applies_iff_loose hf).mp happ).1 hP trivial
  exact ⟨k, o, h1, h2, h3, hQ⟩
theorem lw_frame {s t : State} {o : Outcome} {args : Array Value} (h : Framed s o t [] 40 19226) :
    Framed s o t (fieldLocs frame_1_writes args s ++ arrayLocs frame_1_arrays args s ++ staticLocs frame_1_statics s) 40 19226 := h
theorem lw_limb (L : Cond) (hL : ∀ (args : Array Value) (s t : State), L.after args s (.returned (some (.int 1))) t = true) :
    ArmFor flags0 classFile x code maxLocals ret World_1 tables_1 room_1 Calls_1 rest_1 Pre_1
      (fun tb e a s o t => postC L tb e a s o t ∧ Framed s o t (fieldLocs frame_1_writes a s ++ arrayLocs frame_1_arrays a s ++ staticLocs frame_1_statics s) 40 19226) := by
  intro l _ _ _ p e ha hc hk s m args below hf hfit hheap happ hpre
  obtain ⟨k, o, h1, h2, h3, rfl, hF⟩ := lw_comes l p e ha hc hk s m args below hf hfit hheap happ hpre
  exact ⟨k, _, h1, h2, h3, hL args s _, lw_frame hF⟩
theorem i_vc : Claimed_1_1 ∧ Claimed_1_2 := ⟨lw_limb limb_1_1 (fun args s t => by simp [limb_1_1, Cond.after, Cond.holds, Cond.value]), lw_limb limb_1_2 (fun args s t => Cond.after_iff.mpr (by
  first | (rw [show limb_1_2 = Cond.eq .result (.int 1) from rfl, Cond.eq_ints (x := 1) (y := 1) rfl rfl]; simp; done) | (simp [limb_1_2, Cond.value, Term.eval]; done)))⟩
