/-! the frame rule for contracts; rows for what makes cells -/
theorem wa_int : Cond.arrayClass .int ∈ AW := AW_in 54 (by decide +kernel) (by decide +kernel)
theorem wa_boolean : Cond.arrayClass .boolean ∈ AW := AW_in 118 (by decide +kernel) (by decide +kernel)
theorem wa_long : Cond.arrayClass .long ∈ AW := AW_in 164 (by decide +kernel) (by decide +kernel)
theorem wa_char : Cond.arrayClass .char ∈ AW := AW_in 1100 (by decide +kernel) (by decide +kernel)
theorem wa_double : Cond.arrayClass .double ∈ AW := AW_in 1354 (by decide +kernel) (by decide +kernel)
theorem wi_obj : Cond.instanceMethod objectInit ∈ AW := AW_in 34 (by decide +kernel) (by decide +kernel)
theorem wc_obj : Cond.code objectInit ⟨#[0xb1]⟩ 1 none ∈ AW := AW_in 35 (by decide +kernel) (by decide +kernel)
theorem wn_X0 : Cond.instantiable RX0 3 ∈ AW := AW_in 174 (by decide +kernel) (by decide +kernel)
theorem wn_X1 : Cond.instantiable RX1 3 ∈ AW := AW_in 136 (by decide +kernel) (by decide +kernel)
theorem wn_X2 : Cond.instantiable RX2 2 ∈ AW := AW_in 152 (by decide +kernel) (by decide +kernel)
theorem wn_X3 : Cond.instantiable RX3 3 ∈ AW := AW_in 120 (by decide +kernel) (by decide +kernel)
theorem wn_X4 : Cond.instantiable RX4 7 ∈ AW := AW_in 166 (by decide +kernel) (by decide +kernel)
theorem wn_X5 : Cond.instantiable RX5 5 ∈ AW := AW_in 95 (by decide +kernel) (by decide +kernel)
theorem wn_X6 : Cond.instantiable RX6 6 ∈ AW := AW_in 56 (by decide +kernel) (by decide +kernel)
theorem wn_X7 : Cond.instantiable RX7 3 ∈ AW := AW_in 37 (by decide +kernel) (by decide +kernel)
theorem wn_X8 : Cond.instantiable RX8 9 ∈ AW := AW_in 29 (by decide +kernel) (by decide +kernel)
theorem wn_X9 : Cond.instantiable RX9 25 ∈ AW := AW_in 1019 (by decide +kernel) (by decide +kernel)
theorem rv_Sys.narrow {A0 A1 : Nat → Prop} {U : State} (h : rv_Sys A0 U) (hF : ∀ q, A1 q → A0 q) : rv_Sys A1 U := ⟨h.1, h.2.1, h.2.2.1, ⟨h.2.2.2.1.1.narrow hF, h.2.2.2.1.2.narrow hF⟩, h.2.2.2.2.1.imp (fun _ k => k.imp (fun _ k => ⟨k.1.narrow hF, k.2⟩)), h.2.2.2.2.2.1.narrow hF, h.2.2.2.2.2.2.narrow hF⟩
theorem rv_pk {is : List Nat} {ws w : va_W} (h : is.map (fun i => ws[i]?) = w.map some) {k : Nat} {q : Nat × va_E} (hk : w[k]? = some q) : ∃ i : Nat, ws[i]? = some q := by
  have h1 : (is.map (fun i => ws[i]?))[k]? = some (some q) := by rw [h, List.getElem?_map, hk]; rfl
  rw [List.getElem?_map] at h1
  cases hi : is[k]? with
  | none => rw [hi] at h1; cases h1
  | some i => rw [hi] at h1; exact ⟨i, Option.some.inj h1⟩
theorem rv_pkP {D : va_G} {cl : List vw_C} {is : List Nat} {ws w : va_W} {H : Heap} (h : is.map (fun i => ws[i]?) = w.map some) (hP : va_P D cl ws H) : va_P D cl w H := fun k q hk => by
  obtain ⟨i, hi⟩ := rv_pk h hk
  exact hP i q hi
theorem rv_pkA {is : List Nat} {ws w : va_W} {sz q : Nat} (h : is.map (fun i => ws[i]?) = w.map some) (hA : va_A w sz q) : va_A ws sz q := by
  rcases hA with ⟨k, e, hk⟩ | hA
  · obtain ⟨i, hi⟩ := rv_pk h hk
    exact Or.inl ⟨i, e, hi⟩
  · exact Or.inr hA
section FR
variable {l : Launch} {D : va_G} {tys : List (ClassId × FieldType)} {own : String} {cc : ByteArray} {nL : Nat} {ret : Option FieldType} {hh : String × List ExceptionTableEntry} {R : Room} {Phi : rv_Phi} {cu su mc ms : Nat} {ws ws2 wc wr : va_W} {pc : Nat} {lv lv2 : List (Nat × Value)} {st rest : List Value} {F F2 : Option Value → va_W → Prop} {G G2 : String → va_W → Prop} {y : MethodName} {d : Nat} {av : List Value}
theorem rv_Cmono (h : rv_C l D tys y cc nL ret d mc ms av ws F) (hF : ∀ v w, F v w → F2 v w) : rv_C l D tys y cc nL ret d mc ms av ws F2 := fun sz => MetFree.mono (h sz) (fun _ _ h => h) (fun _ _ _ _ _ h => h) (fun a s o t _ hq => by
  obtain ⟨⟨⟨v, w, e, hf, hp, hd⟩, hva⟩, hL⟩ := hq
  exact ⟨⟨⟨v, w, e, hF v w hf, hp, hd⟩, hva⟩, hL⟩)
theorem rv_Cframe (hC : rv_C l D tys y cc nL ret d mc ms av wc F) (isC isR : List Nat) (h1 : isC.map (fun i => ws[i]?) = wc.map some) (h2 : isR.map (fun i => ws[i]?) = wr.map some) (hn : va_nd isC = true) (hn2 : va_nd isR = true) (hdis : ∀ i ∈ isR, i ∉ isC) : rv_C l D tys y cc nL ret d mc ms av ws (fun v w => ∃ w1, F v w1 ∧ w = wr ++ w1) := by
  intro sz
  have hsub : ∀ q, va_A wc sz q → va_A ws sz q := fun q => rv_pkA h1
  refine MetFree.mono (hC sz) (fun a U h => ?_) (fun _ _ _ _ _ h => h) (fun a st o t hp hq => ?_)
  · obtain ⟨e, hs, hP, hK, hD, hy⟩ := h
    exact ⟨e, hs, rv_pkP h1 hP, hK, hD.sub isC hn h1, hy.narrow hsub⟩
  · obtain ⟨e, hs, hP, hK, hD, hy⟩ := hp
    obtain ⟨⟨⟨v, w1, e1, hf, hP1, hD1⟩, hF1⟩, L, hfe, hLf⟩ := hq
    subst hs
    obtain ⟨hP2, hD2⟩ := va_join hP hD.self isC isR h1 h2 hn2 hdis hF1.2 hsub hP1 hD1
    exact ⟨⟨⟨v, wr ++ w1, e1, ⟨w1, hf, rfl⟩, hP2, hD2⟩, ⟨hF1.1, fun q q1 q2 => hF1.2 q q1 (fun z => q2 (hsub q z))⟩⟩, L, hfe, fun q hq => hsub _ (hLf q hq)⟩
theorem rv_CXframe (hC : rv_CX l D tys y cc nL ret d mc ms av wc F G) (isC isR : List Nat) (h1 : isC.map (fun i => ws[i]?) = wc.map some) (h2 : isR.map (fun i => ws[i]?) = wr.map some) (hn : va_nd isC = true) (hn2 : va_nd isR = true) (hdis : ∀ i ∈ isR, i ∉ isC) : rv_CX l D tys y cc nL ret d mc ms av ws (fun v w => ∃ w1, F v w1 ∧ w = wr ++ w1) (fun E w => ∃ w1, G E w1 ∧ w = wr ++ w1) := by
  intro sz
  have hsub : ∀ q, va_A wc sz q → va_A ws sz q := fun q => rv_pkA h1
  refine MetFree.mono (hC sz) (fun a U h => ?_) (fun _ _ _ _ _ h => h) (fun a st o t hp hq => ?_)
  · obtain ⟨e, hs, hP, hK, hD, hy⟩ := h
    exact ⟨e, hs, rv_pkP h1 hP, hK, hD.sub isC hn h1, hy.narrow hsub⟩
  · obtain ⟨e, hs, hP, hK, hD, hy⟩ := hp
    subst hs
    rcases hq with ⟨⟨⟨v, w1, e1, hf, hP1, hD1⟩, hF1⟩, L, hfe, hLf⟩ | ⟨q, e1, E, ce, L, ⟨⟨w1, hg, hP1, hD1⟩, hF1⟩, g1, g2, g3, g4, g5, g6⟩
    · obtain ⟨hP2, hD2⟩ := va_join hP hD.self isC isR h1 h2 hn2 hdis hF1.2 hsub hP1 hD1
      exact Or.inl ⟨⟨⟨v, wr ++ w1, e1, ⟨w1, hf, rfl⟩, hP2, hD2⟩, ⟨hF1.1, fun q q1 q2 => hF1.2 q q1 (fun z => q2 (hsub q z))⟩⟩, L, hfe, fun q hq => hsub _ (hLf q hq)⟩
    · obtain ⟨hP2, hD2⟩ := va_join hP hD.self isC isR h1 h2 hn2 hdis hF1.2 hsub hP1 hD1
      exact Or.inr ⟨q, e1, E, ce, L, ⟨⟨wr ++ w1, ⟨w1, hg, rfl⟩, hP2, hD2⟩, ⟨hF1.1, fun q q1 q2 => hF1.2 q q1 (fun z => q2 (hsub q z))⟩⟩, g1, g2, g3, g4, g5, fun z hz => hsub _ (g6 z hz)⟩
theorem rv_pick (is : List Nat) (h1 : is.map (fun i => ws[i]?) = ws2.map some) (hn : va_nd is = true) (k : rv_V l D tys own cc nL ret hh R Phi cu su ws2 pc lv st) : rv_V l D tys own cc nL ret hh R Phi cu su ws pc lv st := by
  intro p e s m args below meth c A H locs ls ok hP hD hS hl
  exact k p e s m args below meth c A H locs ls ok (rv_pkP h1 hP) (hD.sub is hn h1) hS hl
theorem rv_objInit {a idx : Nat} (hlink : Cond.methodLink own idx objectInit ∈ AW) (hdg : decode cc pc = .ok (.invokespecial idx, 3)) (hf : 1 ≤ R.frames) (hlo : (rest.map fun v => v.category).sum + 12 ≤ R.locals) (k : rv_V l D tys own cc nL ret hh R Phi cu su ws (pc + 3) lv rest) : rv_V l D tys own cc nL ret hh R Phi cu su ws pc lv (.ref a :: rest) := by
  intro p e s m args below meth c A H locs ls ok hP hD hS hl
  refine W.objInit ok.1 ok.2.1 ok.2.2.2.1 (ok.2.2.2.2.1 _ hlink) (ok.2.2.2.2.1 _ wi_obj) (ok.2.2.2.2.1 _ wc_obj) rfl (hl.1.trans ok.2.2.1.symm) rfl hdg hf ?_ ?_
  · show 2 * 0 + _ + 12 ≤ _
    omega
  · exact k p e s m args below meth c A H locs ls ok hP hD hS hl
theorem rv_new {C : String} {T : u_T} {N ci index : Nat} {fs : List Value} (hin : ∀ w ∈ u_ws C T N, w ∈ AW) (ty : Nat → FieldType) (hty : ∀ k, k < N → parseFieldDescriptor (T k).2.2.1 = some (ty k)) (hcl : Cond.classLink own index C ∈ AW) (hinst : Cond.instantiable C N ∈ AW) (hini : Cond.initialized C ∈ AW) (hc : vwCl[ci]? = some (C, T, N)) (hfs : ∀ j, j < N → defaultValue (ty j) = vp_V fs j) (hcells : cu + 1 ≤ R.cells) (hslots : su + N ≤ R.slots) (hdg : decode cc pc = .ok (.new index, 3)) (k : ∀ q : Nat, rv_V l D tys own cc nL ret hh R Phi (cu + 1) (su + N) (ws ++ [(q, .inr (ci, fs))]) (pc + 3) lv (.ref q :: rest)) : rv_V l D tys own cc nL ret hh R Phi cu su ws pc lv rest := by
  intro p e s m args below meth c A H locs ls ok hP hD hS hl
  have hts := ok.2.2.2.2.1
  exact va_new ok.1 ok.2.1 hts hin ty hty ok.2.2.2.1 (hts _ hcl) (hts _ hinst) (hts _ hini) ok.2.2.2.2.2.2.2.1 hP hD hS ok.2.2.2.2.2.2.2.2.1 hc hfs hcells hslots hdg (fun q H2 hP2 hD2 hS2 => k q p e s m args below meth c A H2 locs ls ok hP2 hD2 hS2 hl)
theorem rv_newa {atype : ArrayType} {ty : FieldType} {n : Int32} {N : Nat} {a0 : vp_A} {cT : ClassId} (harr : Cond.arrayClass (newarray.typeOf atype) ∈ AW) (hty : newarray.typeOf atype = ty) (t0 : Nat) (ht : tys[t0]? = some (cT, ty)) (hra : ∀ U : State, va_RA U cT ty → U.vm.findClass ("[" ++ ty.toString) = some cT) (ha : ∀ cA : ClassId, vp_cell cA a0 = arrV cA N (fun _ => defaultValue ty)) (hn : ¬ n < 0) (hN : n.toNatClampNeg = N) (hbytes : N * componentBytes ty ≤ 536870912) (hcells : cu + 1 ≤ R.cells) (hslots : su + N ≤ R.slots) (hdg : decode cc pc = .ok (.newarray atype, 2)) (k : ∀ q : Nat, rv_V l D tys own cc nL ret hh R Phi (cu + 1) (su + N) (ws ++ [(q, .inl (cT, a0))]) (pc + 2) lv (.ref q :: rest)) : rv_V l D tys own cc nL ret hh R Phi cu su ws pc lv (.int n :: rest) := by
  intro p e s m args below meth c A H locs ls ok hP hD hS hl
  subst hty
  have hK := ok.2.2.2.2.2.2.2.1
  refine va_newaK (g := F0 m pc ls (.int n :: rest)) ok.1 ok.2.1 (ok.2.2.2.2.1 _ harr) rfl hdg rfl hn hN hbytes hcells hslots (h := H.size) rfl (fun H2 cA e1 e2 e3 h4 h5 => ?_)
  obtain rfl : cA = cT := Option.some.inj (h5.symm.trans (hra s (hK.2 t0 _ ht).2))
  have hlt : ∀ (k : Nat) (q : Nat × va_E), ws[k]? = some q → q.1 < H.size := fun k q hk => (hP k q hk).lt
  refine k H.size p e s m args below meth c A H2 locs ls ok ((hP.kept (fun k q hk => e3 _ (hlt k q hk))).app (fun k y hy => ?_)) (hD.push hP rfl (ok.2.2.2.2.2.2.2.2.1 _ hS.1)) ⟨Nat.le_trans hS.1 (by omega), fun y h1 h2 => (e3 y (Nat.lt_of_lt_of_le h1 hS.1)).trans (hS.2.1 y h1 h2), hS.2.2⟩ hl
  have hz : k < 1 := (List.getElem?_eq_some_iff.mp hy).1
  rw [show k = 0 by omega] at hy
  cases hy
  show H2[H.size]? = some (vp_cell cA a0)
  rw [ha]
  exact e1
theorem rv_putF {a ci N index : Nat} {C : String} {T : u_T} {fs : List Value} {v : Value} {ty : FieldType} (hin : ∀ w ∈ u_ws C T N, w ∈ AW) (hc : vwCl[ci]? = some (C, T, N)) (kf : Nat) (hk : kf < N) (hlink : Cond.fieldLink own index (T kf).1 (T kf).2.1 (T kf).2.2.1 ∈ AW) (ty0 : Nat → FieldType) (hty : ∀ k, k < N → parseFieldDescriptor (T k).2.2.1 = some (ty0 k)) (hnm : ∀ a, a < N → ∀ b, b < N → a ≠ b → (T a).2.1 ≠ (T b).2.1) (hfin : (T kf).2.2.2 = true) (hdecl : (T kf).1 = own) (hd : parseFieldDescriptor (T kf).2.2.1 = some ty) (hn : narrow ty v = v) (hfit : fits ty v = true) (hi : hh.1 = "<init>") (hdg : decode cc pc = .ok (.putfield index, 3)) (q0 : Nat) (he : ws[q0]? = some (a, .inr (ci, fs))) (hl2 : kf < fs.length) (hw : ws.set q0 (a, .inr (ci, fs.set kf v)) = ws2) (k : rv_V l D tys own cc nL ret hh R Phi cu su ws2 (pc + 3) lv rest) : rv_V l D tys own cc nL ret hh R Phi cu su ws pc lv (v :: .ref a :: rest) := by
  intro p e s m args below meth c A H locs ls ok hP hD hS hl
  subst hw
  have hin2 : meth.name = "<init>" := by
    rcases ok.2.2.2.2.2.2.2.2.2.2.2 with h | h
    · rw [hi] at h; exact absurd h (by decide)
    · rw [h, hi]
  exact va_putF ok.1 ok.2.1 ok.2.2.2.2.1 hin ty0 hty hnm ok.2.2.2.1 ok.2.2.2.2.2.2.2.1 hP hD hS q0 he hc kf hk (ok.2.2.2.2.1 _ hlink) (fun _ h => h) hfin hin2 hdecl hd hn hfit hl2 hdg (fun H2 locs2 hP2 hD2 hS2 => k p e s m args below meth c A H2 locs2 ls ok hP2 hD2 hS2 hl)
theorem rv_Iof (hcl : y.cls = own) (hnm : y.name = "<init>") (hy : plainName own = true) (hl : (lg_sl av).length ≤ nL) (he : lv_args 0 av = lv) (k : rv_V l D tys own cc nL ret ("<init>", []) (rv_rm d mc ms) (rv_M D F mc ms) 0 0 ws 0 lv []) : rv_C l D tys y cc nL ret d mc ms av ws F := by
  subst hcl he
  intro sz
  refine Met.ofW (cc := cc) (maxL := nL) (ret := ret) hy rfl ?_
  intro p e s m args below meth c s₁ B hml hv
  obtain ⟨rfl, hsz, hP, hK, hD, hy2⟩ := hv
  have hts := atoms_spec (ws := Cond.code y cc nL ret :: AW) B.pre
  have ht : c.exceptionTable.toList = [] := by
    obtain ⟨meth9, c9, h1, h2, -, -, -, -, h7, -⟩ := Cond.code_spec B.named (hts _ List.mem_cons_self)
    cases Option.some.inj (h1.symm.trans B.method)
    cases Option.some.inj (h2.symm.trans (Stand.of_body B).code)
    rw [Array.isEmpty_iff.mp h7]
  have hle := lv_entry av (n := nL) hl
  rw [lg_entry_eq]
  subst hsz
  exact k p e s m av.toArray below meth c (va_A ws s.heap.size) s.heap [] _ ⟨B.exec, B.bytes, hml, findClass_of_methodNamed B.named, fun w hw => hts w (List.mem_cons_of_mem _ hw), B.returns, B.notSynchronized, hK, fun q hq => Or.inr hq, hy2, ht, Or.inr ((name_of_methodNamed B.named B.method).1.trans hnm)⟩ hP hD.self va_S.rf hle
end FR
