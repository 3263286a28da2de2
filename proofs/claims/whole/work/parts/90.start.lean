/-! THE CLAIM OUT OF ONE WALK OF THE LAW'S BODY. Your part is whole_start (and what it stands on); all else here is the same for every law, but numbers. -/
/-- what holds at the law's entry: the machine, the code, the tables' words (any of lw_tbl by 'hts w (by decide +kernel)'), the script of L ints xs at the cell b, what the Statement gives of the start (any of its parts by flat_of_before) -/
def lw_At (p : Program) (s : State) (m : MethodId) (meth : Method) (c : Code) (b L : Nat) (xs : Nat → Int32) : Prop :=
  p.tables.exec = Jvm.exec ∧ c.code = code ∧ meth.sig.returnType = ret ∧ c.maxLocals = 9 ∧ s.vm.findClass R_law = some m.cls ∧ (∀ w ∈ lw_tbl, w.before #[Value.ref b] s = true) ∧ va_X b L xs s s.heap ∧ b < s.heap.size ∧ meth.locks = false ∧ (Jvm.Cond.and given_1 narrow_1).before #[Value.ref b] s = true
/-! the law's loop and its start -/
theorem rv_lawret {l : Launch} {D : va_G} {tys : List (ClassId × FieldType)} {own : String} {nL : Nat} {hh : String × List ExceptionTableEntry} {cu su : Nat} {ws : va_W} {pc : Nat} {lv : List (Nat × Value)} {b L : Nat} {xs : Nat → Int32} (hdg : decode code pc = .ok (.ireturn, 1)) (hcu : cu ≤ 603072) (hsu : su ≤ 7207018) : rv_V l D tys own code nL (some .boolean) hh room_1 (rv_L b L xs) cu su ws pc lv [.int 1] := by
  intro p e s m args below meth c A H locs ls ok hP hD hS hl
  obtain ⟨hx, hb, hml, hown, hts, hrt, hlk, hK, hA, hy, ht⟩ := ok
  by_cases hs : va_X b L xs s s.heap ∧ b < s.heap.size ∧ ¬ A b ∧ ∀ q, A q → s.heap.size ≤ q
  · refine va_forget (fun q hq => hs.2.2.2 _ (hS.2.2 q hq)) ?_
    refine W.widen (k := 603072) (n := 7207018) hcu hsu ?_
    intro T hT X
    have hlocks := hlk
    obtain ⟨fs, hret, hrun, hended, hW, hframe⟩ := X.leave (v := some (.int 1)) (hlocks := hlocks) (fun h => by rw [hrt] at h; cases h)
    have hmeth' : T.vm.method? m = some meth := X.method'
    refine ⟨T.setFrames fs, ?_, fun _ s0 hs0 => ?_⟩
    · jvm_step X.here [X.here.top, hx, hb, hdg, hmeth', hrt, narrow_b1]
      (try refine ⟨rfl, ?_⟩); (try refine ⟨rfl, ?_⟩)
      first | (intro acts; rw [hret _ acts rfl rfl rfl]) | rw [hret _ _ rfl rfl rfl]
      exact Steps.refl _
    · subst hs0
      exact ⟨.returned (some (.int 1)), hrun, hended, rfl, lw_closed (Drawn.sameBut.refl _ lw_cs) ⟨_, rfl⟩ hW hframe⟩
  · intro T hT X
    exact ⟨_, Steps.refl _, fun h => absurd h hs⟩
theorem lx_cond {j L : Nat} (hL : L ≤ 2048) (hj : 4 * j ≤ 2052) : nI L - 4 < nI (4 * j) ↔ L < 4 * j + 4 := by
  have e : (nI L - 4 : Int32).toInt = (L : Int) - 4 := pk_sub_toInt (a := L) (b := 4) (by omega) (by omega)
  rw [Int32.lt_iff_toInt_lt, e, nI_toInt (by omega)]
  omega
theorem law_loop {l : Launch} {D : va_G} {ta : Nat → ClassId} {ad bd : Nat → Nat} {b L : Nat} {xs : Nat → Int32} {oa od : Nat} {hh : String × List ExceptionTableEntry} (hl9 : l.stackTraces = false) (hL : L ≤ 2048) : ∀ (n j : Nat), L + 4 ≤ 4 * j + 4 * n → 4 * j ≤ L + 3 → ∀ {μ ν : Mem} {u : Nat → Int64} {v : Nat → UInt64} {cu su : Nat}, Rel μ ν → cu ≤ 60 + 12 * j → su ≤ 2000 + 72 * j → rv_V l D (rv_T ta) RL cL_law 9 (some .boolean) hh room_1 (rv_L b L xs) cu su (lwA ta ad bd oa od μ ν u v) 28 [(0, .ref b), (1, .ref (ad 0)), (2, .ref (bd 0)), (3, .ref oa), (4, .ref od), (5, .int (nI (4 * j)))] [] := by
  intro n
  induction n with
  | zero =>
    intro j h1 h2
    exact absurd h1 (by omega)
  | succ n ih =>
    intro j h1 h2 μ ν u v cu su hR hcu hsu
    refine rv_iload dL_law_28 5 rfl ?_
    refine rv_aload_n dL_law_30 rfl 0 rfl ?_
    refine rv_slen dL_law_31 ?_
    refine rv_iconst (v := 4) dL_law_32 (by decide) ?_
    refine rv_isub dL_law_33 ?_
    refine rv_icmp_gt (tgt := 2238) dL_law_34 (by decide) (fun hc => ?_) (fun hc => ?_)
    · refine rv_iconst (v := 1) dL_law_2238 (by decide) ?_
      exact rv_lawret dL_law_2239 (by omega) (by omega)
    · have hc2 : 4 * j + 4 ≤ L := by
        rcases Nat.lt_or_ge L (4 * j + 4) with h | h
        · exact absurd ((lx_cond hL (by omega)).mpr h) hc
        · exact h
      have e1 : nI (4 * j) + 1 = nI (4 * j + 1) := nI_add _ 1
      have e2 : nI (4 * j) + 2 = nI (4 * j + 2) := nI_add _ 2
      have e3 : nI (4 * j) + 3 = nI (4 * j + 3) := nI_add _ 3
      refine rv_aload_n dL_law_37 rfl 0 rfl ?_
      refine rv_iload dL_law_38 5 rfl ?_
      refine rv_sld (vp_in_nI (by omega) (by omega)) dL_law_40 ?_
      refine rv_bipush (v := 63) dL_law_41 (by decide) ?_
      refine rv_iand dL_law_43 ?_
      refine lc_all hl9 hR (by rw [e1]; exact vp_in_nI (by omega) (by omega)) (by rw [e2]; exact vp_in_nI (by omega) (by omega)) (by rw [e3]; exact vp_in_nI (by omega) (by omega)) (by omega) (by omega) (fun {μ2 ν2 u2 v2 cu2 su2} hR2 hcu2 hsu2 => ?_) _
      refine rv_iinc (v := nI (4 * (j + 1))) (lv2 := [(5, .int (nI (4 * (j + 1)))), (0, .ref b), (1, .ref (ad 0)), (2, .ref (bd 0)), (3, .ref oa), (4, .ref od)]) dL_law_2232 5 rfl (nI_add (4 * j) 4) (by decide) rfl ?_
      refine rv_goto (tgt := 28) dL_law_2235 (by decide) ?_
      refine rv_sub [1, 2, 3, 4, 5, 0] rfl ?_
      exact ih (j + 1) (by omega) (by omega) hR2 (by omega) (by omega)
theorem law_start {l : Launch} {D : va_G} {ta : Nat → ClassId} {b L : Nat} {xs : Nat → Int32} {hh : String × List ExceptionTableEntry} (hl9 : l.stackTraces = false) (hL : L ≤ 2048) : rv_V l D (rv_T ta) RL cL_law 9 (some .boolean) hh room_1 (rv_L b L xs) 0 0 [] 0 [(0, .ref b)] [] := by
  refine rv_new (fs := [.null, .null, .null, .null, .null, .null, .null, .null, .null]) in_X8 tyX8 tyX8_ok wk_L_8 wn_X8 wz_X8 cl_X8 (fun j hj => by match j, hj with | 0, _ => rfl | 1, _ => rfl | 2, _ => rfl | 3, _ => rfl | 4, _ => rfl | 5, _ => rfl | 6, _ => rfl | 7, _ => rfl | 8, _ => rfl | j + 9, hj => exact absurd hj (by omega)) (rv_le rfl) (rv_le rfl) dL_law_0 (fun h0 => ?_)
  refine rv_ws (ws2 := [(h0, .inr (10, [.null, .null, .null, .null, .null, .null, .null, .null, .null]))]) rfl ?_
  refine rv_dup dL_law_3 rfl ?_
  refine rv_callI (rest := [.ref h0]) (ci_X8 h0) wm_L_127 wi_X8_init rfl wc_X8_init wz_X8 np_X8_init ⟨rv_le rfl, rv_le rfl⟩ ⟨rv_le rfl, rv_le rfl⟩ dL_law_4 rfl (rv_le rfl) (fun v9 w9 h9 => ?_)
  obtain ⟨rfl, q1, q2, q3, q4, q5, q6, q7, q8, q9, q10, q11, q12, q13, q14, q15, q16, q17, q18, q19, q20, q21, q22, q23, q24, q25, rfl⟩ := h9
  obtain ⟨ad, had⟩ : ∃ ad : Nat → Nat, ad = (fun k => ([h0, q1, q2, q3, q4, q5, q6, q7, q8, q9, q10, q11, q12, q13, q14, q15, q16, q17, q18, q19, q20, q21, q22, q23, q24, q25] : List Nat).getD k 0) := ⟨_, rfl⟩
  obtain rfl : h0 = ad 0 := by rw [had]; rfl
  refine rv_ws (ws2 := wx ta ad mu0) (by rw [had]; rfl) ?_
  clear had
  refine rv_astore_n (lv2 := [(1, .ref (ad 0)), (0, .ref b)]) dL_law_7 rfl (by decide) rfl ?_
  refine rv_new (fs := [.int 0, .int 0, .int 0, .null, .null, .null, .null, .null, .null, .int 0, .int 0, .int 0, .int 0, .int 0, .int 0, .null, .null, .null, .null, .null, .null, .null, .int 0, .null, .null]) in_X9 tyX9 tyX9_ok wk_L_128 wn_X9 wz_X9 cl_X9 (fun j hj => by match j, hj with | 0, _ => rfl | 1, _ => rfl | 2, _ => rfl | 3, _ => rfl | 4, _ => rfl | 5, _ => rfl | 6, _ => rfl | 7, _ => rfl | 8, _ => rfl | 9, _ => rfl | 10, _ => rfl | 11, _ => rfl | 12, _ => rfl | 13, _ => rfl | 14, _ => rfl | 15, _ => rfl | 16, _ => rfl | 17, _ => rfl | 18, _ => rfl | 19, _ => rfl | 20, _ => rfl | 21, _ => rfl | 22, _ => rfl | 23, _ => rfl | 24, _ => rfl | j + 25, hj => exact absurd hj (by omega)) (rv_le rfl) (rv_le rfl) dL_law_8 (fun g0 => ?_)
  refine rv_dup dL_law_11 rfl ?_
  refine rv_callI (rest := [.ref g0]) (rv_Cframe (wr := wx ta ad mu0) (ci_X9 g0) [26] [0, 1, 2, 3, 4, 5, 6, 7, 8, 9, 10, 11, 12, 13, 14, 15, 16, 17, 18, 19, 20, 21, 22, 23, 24, 25] rfl rfl rfl rfl (by decide)) wm_L_130 wi_X9_init rfl wc_X9_init wz_X9 np_X9_init ⟨rv_le rfl, rv_le rfl⟩ ⟨rv_le rfl, rv_le rfl⟩ dL_law_12 rfl (rv_le rfl) (fun v9 w9 h9 => ?_)
  obtain ⟨w8, ⟨rfl, p1, p2, p3, p4, p5, p6, p7, p8, p9, p10, p11, p12, p13, p14, p15, rfl⟩, rfl⟩ := h9
  obtain ⟨bd, hbd⟩ : ∃ bd : Nat → Nat, bd = (fun k => ([g0, p1, p2, p3, p4, p5, p6, p7, p8, p9, p10, p11, p12, p13, p14, p15] : List Nat).getD k 0) := ⟨_, rfl⟩
  obtain rfl : g0 = bd 0 := by rw [hbd]; rfl
  refine rv_ws (ws2 := wx ta ad mu0 ++ wm ta bd nu0) (by rw [hbd]; rfl) ?_
  clear hbd
  refine rv_astore_n (lv2 := [(2, .ref (bd 0)), (1, .ref (ad 0)), (0, .ref b)]) dL_law_15 rfl (by decide) rfl ?_
  refine rv_iconst (v := 1) dL_law_16 (by decide) ?_
  refine rv_newa (atype := .long) (ty := .long) (N := 1) (a0 := (1, .inr (.inl (fun _ => 0)))) wa_long rfl 2 rfl (fun _ h => h) (fun _ => rfl) (by decide) rfl (rv_le rfl) (rv_le rfl) (rv_le rfl) dL_law_17 (fun oa => ?_)
  refine rv_astore_n (lv2 := [(3, .ref oa), (2, .ref (bd 0)), (1, .ref (ad 0)), (0, .ref b)]) dL_law_19 rfl (by decide) rfl ?_
  refine rv_iconst (v := 1) dL_law_20 (by decide) ?_
  refine rv_newa (atype := .double) (ty := .double) (N := 1) (a0 := (1, .inr (.inr (.inr (.inl (fun _ => 0)))))) wa_double rfl 4 rfl (fun _ h => h) (fun _ => rfl) (by decide) rfl (rv_le rfl) (rv_le rfl) (rv_le rfl) dL_law_21 (fun od => ?_)
  refine rv_astore (lv2 := [(4, .ref od), (3, .ref oa), (2, .ref (bd 0)), (1, .ref (ad 0)), (0, .ref b)]) dL_law_23 (by decide) rfl ?_
  refine rv_iconst (v := 0) dL_law_25 (by decide) ?_
  refine rv_istore (lv2 := [(5, .int (nI (4 * 0))), (4, .ref od), (3, .ref oa), (2, .ref (bd 0)), (1, .ref (ad 0)), (0, .ref b)]) dL_law_26 (by decide) rfl ?_
  refine rv_pick (ws2 := lwA ta ad bd oa od mu0 nu0 (fun _ => 0) (fun _ => 0)) [43, 42, 0, 1, 2, 3, 4, 5, 6, 7, 8, 9, 10, 11, 12, 13, 14, 15, 16, 17, 18, 19, 20, 21, 22, 23, 24, 25, 26, 27, 28, 29, 30, 31, 32, 33, 34, 35, 36, 37, 38, 39, 40, 41] rfl rfl ?_
  refine rv_sub [5, 4, 3, 2, 1, 0] rfl ?_
  exact law_loop hl9 hL (L + 1) 0 (by omega) (by omega) rel0 (by decide) (by decide)
set_option maxRecDepth 100000 in
theorem in9_J0 : ∀ w ∈ u_ws RJ0 TJ0 2, w ∈ lw_tbl := by decide +kernel
set_option maxRecDepth 100000 in
theorem in9_Jx00060 : ∀ w ∈ u_ws RJx00060 TJx00060 6, w ∈ lw_tbl := by decide +kernel
set_option maxRecDepth 100000 in
theorem in9_X0 : ∀ w ∈ u_ws RX0 TX0 3, w ∈ lw_tbl := by decide +kernel
set_option maxRecDepth 100000 in
theorem in9_X1 : ∀ w ∈ u_ws RX1 TX1 3, w ∈ lw_tbl := by decide +kernel
set_option maxRecDepth 100000 in
theorem in9_X2 : ∀ w ∈ u_ws RX2 TX2 2, w ∈ lw_tbl := by decide +kernel
set_option maxRecDepth 100000 in
theorem in9_X3 : ∀ w ∈ u_ws RX3 TX3 3, w ∈ lw_tbl := by decide +kernel
set_option maxRecDepth 100000 in
theorem in9_X4 : ∀ w ∈ u_ws RX4 TX4 7, w ∈ lw_tbl := by decide +kernel
set_option maxRecDepth 100000 in
theorem in9_X5 : ∀ w ∈ u_ws RX5 TX5 5, w ∈ lw_tbl := by decide +kernel
set_option maxRecDepth 100000 in
theorem in9_X6 : ∀ w ∈ u_ws RX6 TX6 6, w ∈ lw_tbl := by decide +kernel
set_option maxRecDepth 100000 in
theorem in9_X7 : ∀ w ∈ u_ws RX7 TX7 3, w ∈ lw_tbl := by decide +kernel
set_option maxRecDepth 100000 in
theorem in9_X8 : ∀ w ∈ u_ws RX8 TX8 9, w ∈ lw_tbl := by decide +kernel
set_option maxRecDepth 100000 in
theorem in9_X9 : ∀ w ∈ u_ws RX9 TX9 25, w ∈ lw_tbl := by decide +kernel
theorem ar_known {args : Array Value} {s : State} {ty : FieldType} (hne : ∀ C, ty ≠ .object C) (h : (Cond.arrayClass ty).before args s = true) : ∃ cA : ClassId, ArrOfT s cA ty ∧ va_RA s cA ty := by
  obtain ⟨cA, kA, comp, h1, h2, h3⟩ := Cond.arrayClass_spec h
  refine ⟨cA, fun n z => ⟨fun k h => (by cases h), kA, h2, comp, h3⟩, ?_⟩
  cases ty with
  | object C => exact absurd rfl (hne C)
  | _ => exact h1
theorem sys_start {s : State} {b : Nat} {A : Nat → Prop} (hts : ∀ w ∈ lw_tbl, w.before #[Value.ref b] s = true) (hfl : ∀ c ∈ flatC (Jvm.Cond.and given_1 narrow_1), c.before #[Value.ref b] s = true) (hA : ∀ a : Nat, a < s.heap.size → ¬ A a) : rv_Sys A s := by
  have htb : ∀ {w : Cond} (i : Nat), tables_1[i]? = some w → w.before #[Value.ref b] s = true := fun i h => hts _ (List.mem_append_right _ (List.mem_of_getElem? h))
  have ss : ∀ {k : Nat} {tx : String} (i : Nat), tables_1[i]? = some (Cond.stringRef "Rosterproof" k tx) → Cond.exactly (.string "Rosterproof" k) "java/lang/String" ∈ flatC (Jvm.Cond.and given_1 narrow_1) → ∃ sa : Nat, vk_R "Rosterproof" k tx sa s := by
    intro k tx i h1 h2
    obtain ⟨a, _, _, _, q1, _⟩ := Cond.exactly_spec (hfl _ h2)
    exact ⟨a, vk_R.of (htb i h1) q1⟩
  refine ⟨fun w hw => va_Nw.of (NW_on hw) (hts w (List.mem_append_right _ (List.mem_filter.mp hw).1)), ?_, ?_, ⟨?_, ?_⟩, ?_⟩
  · show ∀ q ∈ rv_texts, ∃ sa : Nat, vk_R q.1 q.2.1 q.2.2 sa s
    unfold rv_texts
    exact List.forall_mem_cons.mpr ⟨ss 512 (by decide +kernel) (by decide +kernel), List.forall_mem_cons.mpr ⟨ss 566 (by decide +kernel) (by decide +kernel), List.forall_mem_cons.mpr ⟨ss 722 (by decide +kernel) (by decide +kernel), List.forall_mem_cons.mpr ⟨ss 755 (by decide +kernel) (by decide +kernel), List.forall_mem_cons.mpr ⟨ss 884 (by decide +kernel) (by decide +kernel), List.forall_mem_cons.mpr ⟨ss 893 (by decide +kernel) (by decide +kernel), List.forall_mem_cons.mpr ⟨ss 918 (by decide +kernel) (by decide +kernel), List.forall_mem_cons.mpr ⟨ss 932 (by decide +kernel) (by decide +kernel), List.forall_mem_cons.mpr ⟨ss 1016 (by decide +kernel) (by decide +kernel), List.forall_mem_cons.mpr ⟨ss 652 (by decide +kernel) (by decide +kernel), List.forall_mem_cons.mpr ⟨ss 699 (by decide +kernel) (by decide +kernel), List.forall_mem_cons.mpr ⟨ss 596 (by decide +kernel) (by decide +kernel), List.forall_mem_cons.mpr ⟨ss 559 (by decide +kernel) (by decide +kernel), List.forall_mem_cons.mpr ⟨ss 978 (by decide +kernel) (by decide +kernel), List.forall_mem_cons.mpr ⟨ss 943 (by decide +kernel) (by decide +kernel), List.forall_mem_cons.mpr ⟨ss 796 (by decide +kernel) (by decide +kernel), fun _ h => absurd h List.not_mem_nil⟩⟩⟩⟩⟩⟩⟩⟩⟩⟩⟩⟩⟩⟩⟩⟩
  · show ∀ q ∈ rv_nocast, va_Nc q.1 q.2 s
    unfold rv_nocast
    exact List.forall_mem_cons.mpr ⟨va_Nc.of (hfl _ (by decide +kernel)), List.forall_mem_cons.mpr ⟨va_Nc.of (hfl _ (by decide +kernel)), List.forall_mem_cons.mpr ⟨va_Nc.of (hfl _ (by decide +kernel)), List.forall_mem_cons.mpr ⟨va_Nc.of (hfl _ (by decide +kernel)), List.forall_mem_cons.mpr ⟨va_Nc.of (hfl _ (by decide +kernel)), List.forall_mem_cons.mpr ⟨va_Nc.of (hfl _ (by decide +kernel)), List.forall_mem_cons.mpr ⟨va_Nc.of (hfl _ (by decide +kernel)), List.forall_mem_cons.mpr ⟨va_Nc.of (hfl _ (by decide +kernel)), fun _ h => absurd h List.not_mem_nil⟩⟩⟩⟩⟩⟩⟩⟩
  · exact vx_Zqof (htb 494 (by decide +kernel)) (htb 11 (by decide +kernel)) (hfl _ (by decide +kernel)) hA
  · exact vx_Zqof (htb 496 (by decide +kernel)) (htb 11 (by decide +kernel)) (hfl _ (by decide +kernel)) hA
  · have el : ∀ j : Nat, j < 7 → Cond.eq (.elem (.field (.string "Rosterproof" 192) "java/lang/String" "value" "[B") (.int (Int32.ofNat j))) (.int (([97, 107, 114, 110, 119, 104, 100] : List Int32).getD j 0)) ∈ flatC (Jvm.Cond.and given_1 narrow_1) := by decide +kernel
    have i0 : ∀ i : Nat, i < 1 → i = 0 := fun i h => by omega
    obtain ⟨adK, adV, k1, k2⟩ := vk_Sof (args := #[Value.ref b]) (s := s) (N := 1) (tm := fun _ => .string "Rosterproof" 192) (len := [7]) (byt := [[97, 107, 114, 110, 119, 104, 100]]) (A := A) (fun i h => by rw [i0 i h]; decide) (fun i _ => hfl _ (by decide +kernel)) (fun i _ => hfl _ (by decide +kernel)) (fun i _ => hfl _ (by decide +kernel)) (fun i h => by rw [i0 i h]; exact hfl _ (by decide +kernel)) (fun i h j hj => by rw [i0 i h] at hj ⊢; exact hfl _ (el j hj)) (fun i j h h2 hij => absurd ((i0 i h).trans (i0 j h2).symm) hij) hA
    exact ⟨⟨adK, adV, k1, vk_R.of (htb 798 (by decide +kernel)) (k2 0 (by decide))⟩, va_Zof (htb 808 (by decide +kernel)) (htb 19 (by decide +kernel)) (va_eqt (hfl _ (by decide +kernel))) hA, va_Zqof (htb 824 (by decide +kernel)) (htb 24 (by decide +kernel)) (hfl _ (by decide +kernel)) hA⟩
set_option maxHeartbeats 4000000 in
theorem whole_start {p : Program} {e : Env} {s : State} {m : MethodId} {below : List Frame} {meth : Method} {c : Code} (l : Launch) (hflags : l.flags = flags0) {b L : Nat} {xs : Nat → Int32} (hL : L ≤ 2048) (C0 : lw_At p s m meth c b L xs) : W p l e room_1 s m #[Value.ref b] below meth c s.heap [] 0 0 (lw_Z below #[Value.ref b] s) (entryFrame m ([Value.ref b] : List Value).toArray 9) := by
  obtain ⟨hx, hb, hr, hml, hown, hts, hX, hbl, hlocks, hgv⟩ := C0
  have hl9 : l.stackTraces = false := by unfold Launch.stackTraces; rw [hflags]; decide +kernel
  obtain ⟨cJ0, iJ0, kJ0⟩ := u_known (C := RJ0) (T := TJ0) (N := 2) (n := 4) hts in9_J0 (hts (.instantiable RJ0 4) (List.mem_append_right _ (List.mem_of_getElem? (i := 626) (by decide +kernel))))
  obtain ⟨cJx00060, iJx00060, kJx00060⟩ := u_known (C := RJx00060) (T := TJx00060) (N := 6) (n := 6) hts in9_Jx00060 (hts (.instantiable RJx00060 6) (List.mem_append_right _ (List.mem_of_getElem? (i := 608) (by decide +kernel))))
  obtain ⟨cX0, iX0, kX0⟩ := u_known (C := RX0) (T := TX0) (N := 3) (n := 3) hts in9_X0 (hts (.instantiable RX0 3) (List.mem_append_right _ (List.mem_of_getElem? (i := 174) (by decide +kernel))))
  obtain ⟨cX1, iX1, kX1⟩ := u_known (C := RX1) (T := TX1) (N := 3) (n := 3) hts in9_X1 (hts (.instantiable RX1 3) (List.mem_append_right _ (List.mem_of_getElem? (i := 136) (by decide +kernel))))
  obtain ⟨cX2, iX2, kX2⟩ := u_known (C := RX2) (T := TX2) (N := 2) (n := 2) hts in9_X2 (hts (.instantiable RX2 2) (List.mem_append_right _ (List.mem_of_getElem? (i := 152) (by decide +kernel))))
  obtain ⟨cX3, iX3, kX3⟩ := u_known (C := RX3) (T := TX3) (N := 3) (n := 3) hts in9_X3 (hts (.instantiable RX3 3) (List.mem_append_right _ (List.mem_of_getElem? (i := 120) (by decide +kernel))))
  obtain ⟨cX4, iX4, kX4⟩ := u_known (C := RX4) (T := TX4) (N := 7) (n := 7) hts in9_X4 (hts (.instantiable RX4 7) (List.mem_append_right _ (List.mem_of_getElem? (i := 166) (by decide +kernel))))
  obtain ⟨cX5, iX5, kX5⟩ := u_known (C := RX5) (T := TX5) (N := 5) (n := 5) hts in9_X5 (hts (.instantiable RX5 5) (List.mem_append_right _ (List.mem_of_getElem? (i := 95) (by decide +kernel))))
  obtain ⟨cX6, iX6, kX6⟩ := u_known (C := RX6) (T := TX6) (N := 6) (n := 6) hts in9_X6 (hts (.instantiable RX6 6) (List.mem_append_right _ (List.mem_of_getElem? (i := 56) (by decide +kernel))))
  obtain ⟨cX7, iX7, kX7⟩ := u_known (C := RX7) (T := TX7) (N := 3) (n := 3) hts in9_X7 (hts (.instantiable RX7 3) (List.mem_append_right _ (List.mem_of_getElem? (i := 37) (by decide +kernel))))
  obtain ⟨cX8, iX8, kX8⟩ := u_known (C := RX8) (T := TX8) (N := 9) (n := 9) hts in9_X8 (hts (.instantiable RX8 9) (List.mem_append_right _ (List.mem_of_getElem? (i := 29) (by decide +kernel))))
  obtain ⟨cX9, iX9, kX9⟩ := u_known (C := RX9) (T := TX9) (N := 25) (n := 25) hts in9_X9 (hts (.instantiable RX9 25) (List.mem_append_right _ (List.mem_of_getElem? (i := 1019) (by decide +kernel))))
  obtain ⟨a0, ha0⟩ := ar_known (ty := .int) (fun C h => by cases h) (hts _ (List.mem_append_right _ (List.mem_of_getElem? (i := 54) (by decide +kernel))))
  obtain ⟨a1, ha1⟩ := ar_known (ty := .boolean) (fun C h => by cases h) (hts _ (List.mem_append_right _ (List.mem_of_getElem? (i := 118) (by decide +kernel))))
  obtain ⟨a2, ha2⟩ := ar_known (ty := .long) (fun C h => by cases h) (hts _ (List.mem_append_right _ (List.mem_of_getElem? (i := 164) (by decide +kernel))))
  obtain ⟨a3, ha3⟩ := ar_known (ty := .char) (fun C h => by cases h) (hts _ (List.mem_append_right _ (List.mem_of_getElem? (i := 1100) (by decide +kernel))))
  obtain ⟨a4, ha4⟩ := ar_known (ty := .double) (fun C h => by cases h) (hts _ (List.mem_append_right _ (List.mem_of_getElem? (i := 1354) (by decide +kernel))))
  obtain ⟨D, hD1⟩ : ∃ D : va_G, ∀ (k : Nat) (q : vw_C), vwCl[k]? = some q → u_Kn s q.1 q.2.1 q.2.2 (D.1 k) (D.2 k) := by
    refine ⟨(fun k => if k = 0 then cJ0 else if k = 1 then cJx00060 else if k = 2 then cX0 else if k = 3 then cX1 else if k = 4 then cX2 else if k = 5 then cX3 else if k = 6 then cX4 else if k = 7 then cX5 else if k = 8 then cX6 else if k = 9 then cX7 else if k = 10 then cX8 else cX9, fun k => if k = 0 then iJ0 else if k = 1 then iJx00060 else if k = 2 then iX0 else if k = 3 then iX1 else if k = 4 then iX2 else if k = 5 then iX3 else if k = 6 then iX4 else if k = 7 then iX5 else if k = 8 then iX6 else if k = 9 then iX7 else if k = 10 then iX8 else iX9), ?_⟩
    intro k q hq
    match k, hq with
    | 0, hq => cases hq; exact kJ0
    | 1, hq => cases hq; exact kJx00060
    | 2, hq => cases hq; exact kX0
    | 3, hq => cases hq; exact kX1
    | 4, hq => cases hq; exact kX2
    | 5, hq => cases hq; exact kX3
    | 6, hq => cases hq; exact kX4
    | 7, hq => cases hq; exact kX5
    | 8, hq => cases hq; exact kX6
    | 9, hq => cases hq; exact kX7
    | 10, hq => cases hq; exact kX8
    | 11, hq => cases hq; exact kX9
    | k + 12, hq => simp [vwCl] at hq
  obtain ⟨ta, hta⟩ : ∃ ta : Nat → ClassId, ∀ (k : Nat) (q : ClassId × FieldType), (rv_T ta)[k]? = some q → ArrOfT s q.1 q.2 ∧ va_RA s q.1 q.2 := by
    refine ⟨fun k => ([a0, a1, a2, a3, a4] : List ClassId).getD k 0, ?_⟩
    intro k q hq
    match k, hq with
    | 0, hq => cases hq; exact ha0
    | 1, hq => cases hq; exact ha1
    | 2, hq => cases hq; exact ha2
    | 3, hq => cases hq; exact ha3
    | 4, hq => cases hq; exact ha4
    | k + 5, hq => simp [rv_T] at hq
  have hK : va_K D vwCl (rv_T ta) s := ⟨hD1, hta⟩
  have hAn : ∀ a : Nat, a < s.heap.size → ¬ (fun q : Nat => s.heap.size ≤ q) a := fun a h => Nat.not_le.mpr h
  have hfl := flat_of_before _ hgv
  have hy : rv_Sys (fun q : Nat => s.heap.size ≤ q) s := sys_start hts hfl hAn
  have hle := lv_entry ([.ref b]) (n := 9) (Nat.le_of_ble_eq_true rfl)
  rw [lg_entry_eq]
  have K := law_start (l := l) (D := D) (ta := ta) (b := b) (L := L) (xs := xs) (hh := ("", c.exceptionTable.toList)) hl9 hL p e s m #[Value.ref b] below meth c (fun q : Nat => s.heap.size ≤ q) s.heap [] _ ⟨hx, hb, hml, hown, fun w hw => hts w (List.mem_filter.mp hw).1, hr, hlocks, hK, fun _ h => h, hy, rfl, Or.inl rfl⟩ (fun k q h => by simp at h) ⟨fun i j p q h => by simp at h, fun k q h => by simp at h⟩ va_S.rf hle
  intro T hT X
  obtain ⟨t, h1, h2⟩ := K T hT X
  exact ⟨t, h1, h2 ⟨hX, hbl, Nat.not_le.mpr hbl, fun _ h => h⟩ s rfl⟩
set_option maxHeartbeats 4000000 in
theorem lw_walk (l : Launch) (hflags : l.flags = flags0) (b : Addr) (xs : List Int32) : MetFree l x (headSpec (Jvm.Cond.code x code maxLocals ret :: tables_1) room_1) (lw_P b xs) (fun _ _ _ _ _ => True) lw_Q := by
  refine MetFree.of_bodyS (code := code) (maxLocals := maxLocals) (ret := ret) (by decide) ?_ ?_
  · intro args s m h hn
    obtain ⟨meth, c, h1, h2, h3, h4, h5, h6, -, -⟩ := Cond.code_spec hn (atoms_spec (ws := Jvm.Cond.code x code maxLocals ret :: tables_1) h _ List.mem_cons_self)
    exact ⟨meth, c, h1, h2, h3, h4, h5, h6⟩
  · intro p e s m args below meth c s₁ B hml0 hP _
    obtain ⟨rfl, hx, hbd, hgv⟩ := hP
    obtain ⟨scr, harrAt, hlist, hof, hsmall⟩ := hx
    obtain ⟨hcb, hkn, -, -⟩ := State.arrayAt?_spec harrAt
    have hown : s.vm.findClass R_law = some m.cls := findClass_of_methodNamed B.named
    have hts0 : ∀ c ∈ (Jvm.Cond.code x code maxLocals ret :: tables_1), c.before #[Value.ref b] s = true := atoms_spec (ws := Jvm.Cond.code x code maxLocals ret :: tables_1) B.pre
    have hts : ∀ w ∈ lw_tbl, w.before #[Value.ref b] s = true := k2_hts_sels lw_privs (fun w hw => hts0 w (List.mem_cons_of_mem _ hw)) lw_privs_ok
    have hml : c.maxLocals = 9 := B.maxLocals_eq (hts0 _ List.mem_cons_self)
    have X₀ : Stand p l e room_1 s m #[Value.ref b] below meth c s₁ [] 0 0 := Stand.of_body B
    have hh0 : s₁.heap = s.heap := by rw [B.state]; rfl
    have hsz : scr.slots.size = xs.length := by rw [← Array.length_toList, hlist, List.length_map]
    have hval : ∀ j : Nat, j < xs.length → scr.slots[j]? = some (.int (xs.getD j 0)) := fun j hj => by
      rw [← Array.getElem?_toList, hlist]
      simp [hj]
    have hbl : b < s.heap.size := (Array.getElem?_eq_some_iff.mp hcb).1
    have hX : va_X b xs.length (fun j => xs.getD j 0) s s.heap := ⟨scr, hcb, hof, hkn, hsz, hval⟩
    have K : W p l e room_1 s m #[Value.ref b] below meth c s₁.heap [] 0 0 (lw_Z below #[Value.ref b] s) (entryFrame m ([Value.ref b] : List Value).toArray 9) := by
      rw [hh0]
      exact whole_start l hflags hbd ⟨B.exec, B.bytes, B.returns, hml, hown, hts, hX, hbl, B.notSynchronized, hgv⟩
    obtain ⟨t, a1, o, b1, b2, b3⟩ := K s₁ rfl X₀
    exact ⟨t, o, a1, b1, b2, b3⟩
theorem lw_pre_spec {args : Array Value} {s : State} (h : (Jvm.Cond.and given_1 narrow_1).before args s = true) (hr : rest_1_c.before args s = true) : ∃ (b : Addr) (xs : List Int32), lw_P b xs args s := by
  have hs := flat_of_before _ h
  have hq := flat_of_before _ hr
  have hc : (Cond.count 1).before args s = true := hs _ (by decide +kernel)
  have harr : (Cond.arrayOf (.arg 0) .int).before args s = true := hs _ (by decide +kernel)
  have hle : (Cond.le (.length (.arg 0)) (.int 2048)).before args s = true := hs _ (by decide +kernel)
  have hlen : (Cond.isInt (.length (.arg 0))).before args s = true := hq _ (by decide +kernel)
  have hall : (Cond.all (.arg 0) (.isInt (.elem (.arg 0) (.index 0)))).before args s = true := hq _ (by decide +kernel)
  obtain ⟨b, xs, hb, hx⟩ := State.ints_of_pre rfl harr hlen hall
  have hsm : xs.length < 2 ^ 31 := hx.choose_spec.2.2.2
  have hev : (Term.length (.arg 0)).eval args s none [] s = some (.int xs.length.toInt32) := hx.length_eval hb
  have hv := Cond.le_ints hev (show (Term.int 2048).eval args s none [] s = some (.int 2048) from rfl)
  have hd : xs.length.toInt32 ≤ 2048 := by
    simpa [Cond.before, Cond.holds, hv] using hle
  have hN : xs.length ≤ 2048 := (Int32.ofNat_le_ofNat hsm (by decide)).mp (show Int32.ofNat xs.length ≤ Int32.ofNat 2048 from hd)
  exact ⟨b, xs, Cond.one_arg hc (show args[0]? = some (.ref b) from hb), hx, hN, h⟩
theorem lw_comes (l : Launch) (hflags : l.flags = flags0) : Comes l x (Jvm.Cond.code x code maxLocals ret :: tables_1) room_1 (fun tb e args s => Calls_1 tb e args s ∧ rest_1 tb e args s ∧ Pre_1 tb e args s)
    (fun _ _ args s o t => lw_Q args s o t) := by
  intro p e ha hc hk s m args below hf hfit hheap happ hpre
  obtain ⟨b, xs, hP⟩ := lw_pre_spec hpre.2.2 hpre.2.1
  obtain ⟨k, o, h1, h2, h3, hQ⟩ := lw_walk l hflags b xs p e ha hc hk s m args below hf ((Spec.applies_iff_loose hf).mp happ).1 hP trivial
  exact ⟨k, o, h1, h2, h3, hQ⟩
theorem lw_frame {s t : State} {o : Outcome} {args : Array Value} (h : State.butDraws s t lw_cs (fun t1 => Framed s o t1 [] 603072 7207018)) :
    State.butDraws s t [Jvm.Choice.named "NaN.bits"] (fun t1 => Framed s o t1 (fieldLocs frame_1_writes args s ++ arrayLocs frame_1_arrays args s ++ staticLocs frame_1_statics s) 603072 7207018) := h
theorem lw_limb (L : Cond) (hL : ∀ (args : Array Value) (s t : State), L.after args s (.returned (some (.int 1))) t = true) :
    ArmFor flags0 classFile x code maxLocals ret World_1 tables_1 room_1 Calls_1 rest_1 Pre_1
      (fun tb e a s o t => postC L tb e a s o t ∧ State.butDraws s t [Jvm.Choice.named "NaN.bits"] (fun t1 => Framed s o t1 (fieldLocs frame_1_writes a s ++ arrayLocs frame_1_arrays a s ++ staticLocs frame_1_statics s) 603072 7207018)) := by
  intro l hflags _ _ p e ha hc hk s m args below hf hfit hheap happ hpre
  obtain ⟨k, o, h1, h2, h3, rfl, hF⟩ := lw_comes l hflags p e ha hc hk s m args below hf hfit hheap happ hpre
  exact ⟨k, _, h1, h2, h3, hL args s _, lw_frame hF⟩
theorem i_vc : Claimed_1_1 ∧ Claimed_1_2 := ⟨lw_limb limb_1_1 (fun args s t => by simp [limb_1_1, Cond.after, Cond.holds, Cond.value]), lw_limb limb_1_2 (fun args s t => Cond.after_iff.mpr (by
  first | (rw [show limb_1_2 = Cond.eq .result (.int 1) from rfl, Cond.eq_ints (x := 1) (y := 1) rfl rfl]; simp; done) | (simp [limb_1_2, Cond.value, Term.eval]; done)))⟩
