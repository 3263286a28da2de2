/-! breachKind: the text's letters -/
def rv_kc (k : Int32) : Int32 := if k = 0 then 97 else if k = 1 then 107 else if k = 2 then 114 else if k = 3 then 110 else if k = 4 then 119 else if k = 5 then 104 else 100
def f_X8_breachKind (μ : Mem) (x1 : Int32) : Option ((String ⊕ Int32) × Mem) := (f_X8_requireBreach μ x1).bind fun r1 => rv_thm r1.1 r1.2 fun t2 => (f_X8_kindOf t2).bind fun r3 => if 0 ≤ r3 ∧ r3 < 7 then some (.inr (rv_kc r3), r1.2) else some (.inr 32, r1.2)
/-! a contract with a fact on the start beside it; the text of the letters -/
/-- the text at q, whose bytes lie at t -/
def strE (q t : Nat) (A : Nat → Prop) (U : State) : Prop := va_O "java/lang/String" q A U U.heap ∧ va_OF "java/lang/String" "coder" "B" (.int 0) q A U U.heap ∧ va_OF "java/lang/String" "value" "[B" (.ref t) q A U U.heap ∧ va_T .byte t 7 (fun j => .int (([97, 107, 114, 110, 119, 104, 100] : List Int32).getD j 0)) A U U.heap
theorem strE.blind {q t : Nat} {A : Nat → Prop} {U : State} {g : JFrame} {mk : MethodId} {a : Array Value} (h : strE q t A U) : strE q t A (U.calling g mk a) := ⟨va_O.moved (u := U) (U := U.calling g mk a) (Vm.Alike.refl U.vm) h.1, va_OF.moved (u := U) (U := U.calling g mk a) (Vm.Alike.refl U.vm) h.2.1, va_OF.moved (u := U) (U := U.calling g mk a) (Vm.Alike.refl U.vm) h.2.2.1, va_T.moved (u := U) (U := U.calling g mk a) (Vm.Alike.refl U.vm) h.2.2.2⟩
theorem strE.call {q t : Nat} {A0 A1 : Nat → Prop} {s U : State} {H : Heap} {locs : List Loc} (h : strE q t A0 s) (hS : va_S A0 s.heap H locs) (hU : U.heap = H) (hW : s.WarmedH U.vm) (hF : ∀ q, A1 q → A0 q) : strE q t A1 U := by
  unfold strE
  rw [hU]
  exact ⟨(va_O.moved hW.alike (h.1.kept hS.2.1)).narrow hF, (va_OF.moved hW.alike (h.2.1.kept hS.2.1)).narrow hF, (va_OF.moved hW.alike (h.2.2.1.kept hS.2.1)).narrow hF, (va_T.moved hW.alike (h.2.2.2.kept hS.2.1)).narrow hF⟩
def rv_PE (q t : Nat) (Phi : rv_Phi) : rv_Phi := fun below args s A z => strE q t A s → Phi below args s A z
def rv_CE (q t : Nat) (l : Launch) (D : va_G) (tys : List (ClassId × FieldType)) (y : MethodName) (cc : ByteArray) (nL : Nat) (ret : Option FieldType) (d mc ms : Nat) (av : List Value) (ws : va_W) (F : Option Value → va_W → Prop) : Prop :=
  ∀ sz : Nat, Met l y (Cond.code y cc nL ret :: AW) (rv_rm d mc ms) (va_Pc av (fun U => rv_Pre D tys ws sz U ∧ strE q t (va_A ws sz) U)) (rv_Q D (va_A ws sz) F) mc ms (va_A ws sz)
theorem rv_PreE.blind {q t : Nat} {D : va_G} {tys : List (ClassId × FieldType)} {ws : va_W} {sz : Nat} {av : List Value} : FrameBlind (va_Pc av (fun U => rv_Pre D tys ws sz U ∧ strE q t (va_A ws sz) U)) := by
  intro a U g mk h
  obtain ⟨e, ⟨h1, h2, h3, h4, h5⟩, h6⟩ := h
  exact ⟨e, ⟨h1, h2, va_K.moved (u := U) (U := U.calling g mk a) (Vm.Alike.refl U.vm) h3, h4, h5.blind⟩, h6.blind⟩
section RK
variable {l : Launch} {D : va_G} {tys : List (ClassId × FieldType)} {own : String} {cc : ByteArray} {nL : Nat} {ret : Option FieldType} {hh : String × List ExceptionTableEntry} {R : Room} {Phi : rv_Phi} {cu su mc ms : Nat} {ws ws2 : va_W} {pc : Nat} {lv lv2 : List (Nat × Value)} {st rest : List Value} {F : Option Value → va_W → Prop} {q t : Nat}
theorem rk_of (k : rv_V l D tys own cc nL ret hh R Phi cu su ws pc lv st) : rv_V l D tys own cc nL ret hh R (rv_PE q t Phi) cu su ws pc lv st := by
  intro p e s m args below meth c A H locs ls ok hP hD hS hl
  intro T hT X
  obtain ⟨z, h1, h2⟩ := k p e s m args below meth c A H locs ls ok hP hD hS hl T hT X
  exact ⟨z, h1, fun _ => h2⟩
theorem rk_use (k : ∀ (p : Program) (e : Env) (s : State) (m : MethodId) (args : Array Value) (below : List Frame) (meth : Method) (c : Code) (A : Nat → Prop) (H : Heap) (locs : List Loc) (ls : Array Slot),
    rv_ok D tys own cc nL ret hh p s m args meth c A → strE q t A s → va_P D vwCl ws H → va_D A ws → va_S A s.heap H locs → lv_has ls nL lv → W p l e R s m args below meth c H locs cu su (rv_PE q t Phi below args s A) (F0 m pc ls st)) : rv_V l D tys own cc nL ret hh R (rv_PE q t Phi) cu su ws pc lv st := by
  intro p e s m args below meth c A H locs ls ok hP hD hS hl
  by_cases hE : strE q t A s
  · exact k p e s m args below meth c A H locs ls ok hE hP hD hS hl
  · intro T hT X
    exact ⟨_, Steps.refl _, fun h => absurd h hE⟩
theorem rk_Cof {y : MethodName} {d : Nat} {av : List Value} (hcl : y.cls = own) (hy : plainName own = true) (hl : (lg_sl av).length ≤ nL) (he : lv_args 0 av = lv) (k : rv_V l D tys own cc nL ret ("", []) (rv_rm d mc ms) (rv_PE q t (rv_M D F mc ms)) 0 0 ws 0 lv []) : rv_CE q t l D tys y cc nL ret d mc ms av ws F := by
  subst hcl he
  intro sz
  refine Met.ofW (cc := cc) (maxL := nL) (ret := ret) hy rfl ?_
  intro p e s m args below meth c s₁ B hml hv
  obtain ⟨rfl, ⟨hsz, hP, hK, hD, hy2⟩, hE⟩ := hv
  have hts := atoms_spec (ws := Cond.code y cc nL ret :: AW) B.pre
  have ht : c.exceptionTable.toList = [] := by
    obtain ⟨meth9, c9, h1, h2, -, -, -, -, h7, -⟩ := Cond.code_spec B.named (hts _ List.mem_cons_self)
    cases Option.some.inj (h1.symm.trans B.method)
    cases Option.some.inj (h2.symm.trans (Stand.of_body B).code)
    rw [Array.isEmpty_iff.mp h7]
  have hle := lv_entry av (n := nL) hl
  rw [lg_entry_eq]
  subst hsz
  intro T hT X
  obtain ⟨z, h1, h2⟩ := k p e s m av.toArray below meth c (va_A ws s.heap.size) s.heap [] _ ⟨B.exec, B.bytes, hml, findClass_of_methodNamed B.named, fun w hw => hts w (List.mem_cons_of_mem _ hw), B.returns, B.notSynchronized, hK, fun q hq => Or.inr hq, hy2, ht, Or.inl rfl⟩ hP hD.self va_S.rf hle T hT X
  exact ⟨z, h1, h2 hE⟩
theorem rk_value {index : Nat} (hlink : Cond.fieldLink own index "java/lang/String" "value" "[B" ∈ AW) (hdg : decode cc pc = .ok (.getfield index, 3)) (k : rv_V l D tys own cc nL ret hh R (rv_PE q t Phi) cu su ws (pc + 3) lv (.ref t :: rest)) : rv_V l D tys own cc nL ret hh R (rv_PE q t Phi) cu su ws pc lv (.ref q :: rest) :=
  rk_use (fun p e s m args below meth c A H locs ls ok hE hP hD hS hl => vk_getf ok.1 ok.2.1 hE.2.2.1 hS ok.2.2.2.1 (ok.2.2.2.2.1 _ hlink) (fun _ h => h) hdg (k p e s m args below meth c A H locs ls ok hP hD hS hl))
theorem rk_coder {index : Nat} (hlink : Cond.fieldLink own index "java/lang/String" "coder" "B" ∈ AW) (hdg : decode cc pc = .ok (.getfield index, 3)) (k : rv_V l D tys own cc nL ret hh R (rv_PE q t Phi) cu su ws (pc + 3) lv (.int 0 :: rest)) : rv_V l D tys own cc nL ret hh R (rv_PE q t Phi) cu su ws pc lv (.ref q :: rest) :=
  rk_use (fun p e s m args below meth c A H locs ls ok hE hP hD hS hl => vk_getf ok.1 ok.2.1 hE.2.1 hS ok.2.2.2.1 (ok.2.2.2.2.1 _ hlink) (fun _ h => h) hdg (k p e s m args below meth c A H locs ls ok hP hD hS hl))
theorem rk_len (hdg : decode cc pc = .ok (.arraylength, 1)) (k : rv_V l D tys own cc nL ret hh R (rv_PE q t Phi) cu su ws (pc + 1) lv (.int 7 :: rest)) : rv_V l D tys own cc nL ret hh R (rv_PE q t Phi) cu su ws pc lv (.ref t :: rest) :=
  rk_use (fun p e s m args below meth c A H locs ls ok hE hP hD hS hl => va_tlen ok.1 ok.2.1 hE.2.2.2 hS (v := 7) rfl hdg (k p e s m args below meth c A H locs ls ok hP hD hS hl))
theorem rk_byte {j : Nat} (hj : j < 7) (hdg : decode cc pc = .ok (.baload, 1)) (k : rv_V l D tys own cc nL ret hh R (rv_PE q t Phi) cu su ws (pc + 1) lv (.int (([97, 107, 114, 110, 119, 104, 100] : List Int32).getD j 0) :: rest)) : rv_V l D tys own cc nL ret hh R (rv_PE q t Phi) cu su ws pc lv (.int (nI j) :: .ref t :: rest) :=
  rk_use (fun p e s m args below meth c A H locs ls ok hE hP hD hS hl => va_tb ok.1 ok.2.1 hE.2.2.2 hS (vp_in_nI hj (by decide)) (by rw [nI_clamp (by omega)]) hdg (k p e s m args below meth c A H locs ls ok hP hD hS hl))
theorem rk_compact {index : Nat} (hlink : Cond.fieldLink own index "java/lang/String" "COMPACT_STRINGS" "Z" ∈ AW) (hdg : decode cc pc = .ok (.getstatic index, 3)) (k : rv_V l D tys own cc nL ret hh R Phi cu su ws (pc + 3) lv (.int 1 :: rest)) : rv_V l D tys own cc nL ret hh R Phi cu su ws pc lv rest := by
  intro p e s m args below meth c A H locs ls ok hP hD hS hl
  obtain ⟨hx, hb, hml, hown, hts, hrt, hlk, hK, hA, hy, ht⟩ := id ok
  exact va_gets hx hb hy.2.2.2.2.2.1 hS hown (hts _ hlink) (fun _ h => h) hdg (k p e s m args below meth c A H locs ls ok hP hD hS hl)
theorem rk_sioobe {index : Nat} (hlink : Cond.fieldLink own index "jdk/internal/util/Preconditions" "SIOOBE_FORMATTER" "Ljava/util/function/BiFunction;" ∈ AW) (hdg : decode cc pc = .ok (.getstatic index, 3)) (k : ∀ v : Value, (v = .null ∨ ∃ z : Nat, v = .ref z) → rv_V l D tys own cc nL ret hh R Phi cu su ws (pc + 3) lv (v :: rest)) : rv_V l D tys own cc nL ret hh R Phi cu su ws pc lv rest := by
  intro p e s m args below meth c A H locs ls ok hP hD hS hl
  obtain ⟨hx, hb, hml, hown, hts, hrt, hlk, hK, hA, hy, ht⟩ := id ok
  rcases hy.2.2.2.2.2.2 with h | ⟨z, h⟩
  · exact va_gets hx hb h hS hown (hts _ hlink) (fun _ h => h) hdg (k _ (.inl rfl) p e s m args below meth c A H locs ls ok hP hD hS hl)
  · exact va_gets hx hb h hS hown (hts _ hlink) (fun _ h => h) hdg (k _ (.inr ⟨z, rfl⟩) p e s m args below meth c A H locs ls ok hP hD hS hl)
theorem rk_callV {y : MethodName} {As : List Value} {cy : ByteArray} {nc dc mcc msc index : Nat} {rc : Option FieldType} {F2 : Option Value → va_W → Prop} (hC : rv_CE q t l D tys y cy nc rc dc mcc msc (.ref q :: As) ws F2) (hlink : Cond.methodLink own index y ∈ AW) (hinst : Cond.instanceMethod y ∈ AW) (hsel : Cond.selects "java/lang/String" y y ∈ AW) (hcode : Cond.code y cy nc rc ∈ AW) (hini : Cond.initialized y.cls ∈ AW) (hnp : y.cls ≠ "java/lang/invoke/MethodHandle" ∧ y.cls ≠ "java/lang/invoke/VarHandle" ∧ (parseMethodDescriptor y.desc).map (fun d => d.parameters.length) = some As.length) (hf : cu + mcc ≤ R.cells ∧ su + msc ≤ R.slots) (hR : 20 * dc + 1 ≤ R.frames ∧ 8 + (nc + 11) + 200 * dc ≤ R.locals) (hdg : decode cc pc = .ok (.invokevirtual index, 3)) (hst : st = As.reverse ++ .ref q :: rest) (hrest : (rest.map fun v => v.category).sum ≤ 8)
    (k : ∀ (v : Option Value) (ws3 : va_W), F2 v ws3 → rv_V l D tys own cc nL ret hh R (rv_PE q t Phi) (cu + mcc) (su + msc) ws3 (pc + 3) lv (v.toList ++ rest)) : rv_V l D tys own cc nL ret hh R (rv_PE q t Phi) cu su ws pc lv st := by
  refine rk_use (fun p e s m args below meth c A H locs ls ok hE hP hD hS hl => ?_)
  obtain ⟨hx, hb, hml, hown, hts, hrt, hlk, hK, hA, hy, ht⟩ := id ok
  subst hst
  have hF0 : ∀ q, va_A ws H.size q → A q := fun q h => h.elim (fun ⟨k9, e9, h9⟩ => hD.2 k9 (q, e9) h9) (fun h => hA q (Nat.le_trans hS.1 h))
  have hcw : CallW R s args own "java/lang/String" index y cy nc rc (Cond.code y cy nc rc :: AW) (rv_rm dc mcc msc) mcc msc As.length := ⟨callB_of As.length hts (AW_GIc hcode) rfl rfl rfl (hts _ hini) (hts _ hlink) hnp hR, hts _ hinst, hts _ hsel⟩
  have hr := va_runV (g := F0 m pc ls (As.reverse ++ .ref q :: rest)) (As := As) (rest := rest) (locs := locs) (cells := cu) (slots := su) (e := e) (below := below) (meth := meth) ⟨hx, hb, hml, hown, hts⟩ (hC H.size) hcw ⟨rv_PreE.blind, va_Orecv hE.1 hS, (fun U hU hW => ⟨rfl, ⟨by rw [hU], by rw [hU]; exact hP, va_K.moved hW.alike hK, hD.weaken (fun _ _ _ _ => trivial), hy.call hS hU hW hF0⟩, hE.call hS hU hW hF0⟩)⟩ rfl rfl hl.1 rfl (lv_room hrest) hdg hf
  intro T hT X
  obtain ⟨v, st₀, t9, T2, L, h0, X2, hL, e1, e2, ⟨⟨v2, ws3, hv, hF2, hP2, hD2⟩, hz, hk⟩, st2⟩ := hr T hT X
  cases hv
  rw [h0] at hz hk
  obtain ⟨t3, a1, b1⟩ := k v ws3 hF2 p e s m args below meth c A T2.heap (locs ++ L) ls ok (by rw [e1]; exact hP2) (hD2.weaken (fun _ q _ h => hF0 q.1 h)) ⟨Nat.le_trans hS.1 (by rw [e1]; exact hz), fun q h1 h2 => by rw [e1, hk q (Nat.lt_of_lt_of_le h1 hS.1) (fun z => h2 (hF0 q z))]; exact hS.2.1 q h1 h2, fun q hq => (List.mem_append.mp hq).elim (hS.2.2 q) (fun h => hF0 _ (hL q h))⟩ hl T2 rfl X2
  exact ⟨t3, st2 t3 a1, b1⟩
theorem rk_callS {y : MethodName} {As : List Value} {cy : ByteArray} {nc dc mcc msc index : Nat} {rc : Option FieldType} {F2 : Option Value → va_W → Prop} (hC : rv_CE q t l D tys y cy nc rc dc mcc msc As ws F2) (hlink : Cond.methodLink own index y ∈ AW) (hstat : Cond.static y ∈ AW) (hcode : Cond.code y cy nc rc ∈ AW) (hini : Cond.initialized y.cls ∈ AW) (hnp : y.cls ≠ "java/lang/invoke/MethodHandle" ∧ y.cls ≠ "java/lang/invoke/VarHandle" ∧ (parseMethodDescriptor y.desc).map (fun d => d.parameters.length) = some As.length) (hf : cu + mcc ≤ R.cells ∧ su + msc ≤ R.slots) (hR : 20 * dc + 1 ≤ R.frames ∧ 8 + (nc + 11) + 200 * dc ≤ R.locals) (hdg : decode cc pc = .ok (.invokestatic index, 3)) (hst : st = As.reverse ++ rest) (hrest : (rest.map fun v => v.category).sum ≤ 8)
    (k : ∀ (v : Option Value) (ws3 : va_W), F2 v ws3 → rv_V l D tys own cc nL ret hh R (rv_PE q t Phi) (cu + mcc) (su + msc) ws3 (pc + 3) lv (v.toList ++ rest)) : rv_V l D tys own cc nL ret hh R (rv_PE q t Phi) cu su ws pc lv st := by
  refine rk_use (fun p e s m args below meth c A H locs ls ok hE hP hD hS hl => ?_)
  obtain ⟨hx, hb, hml, hown, hts, hrt, hlk, hK, hA, hy, ht⟩ := id ok
  subst hst
  have hF0 : ∀ q, va_A ws H.size q → A q := fun q h => h.elim (fun ⟨k9, e9, h9⟩ => hD.2 k9 (q, e9) h9) (fun h => hA q (Nat.le_trans hS.1 h))
  have hcw : CallB R s args own index y cy nc rc (Cond.code y cy nc rc :: AW) (rv_rm dc mcc msc) mcc msc As.length ∧ (Cond.static y).before args s = true := ⟨callB_of As.length hts (AW_GIc hcode) rfl rfl rfl (hts _ hini) (hts _ hlink) hnp hR, hts _ hstat⟩
  have hr := va_runS (g := F0 m pc ls (As.reverse ++ rest)) (As := As) (rest := rest) (locs := locs) (cells := cu) (slots := su) (e := e) (below := below) (meth := meth) ⟨hx, hb, hml, hown, hts⟩ (hC H.size) hcw ⟨rv_PreE.blind, (fun U hU hW => ⟨rfl, ⟨by rw [hU], by rw [hU]; exact hP, va_K.moved hW.alike hK, hD.weaken (fun _ _ _ _ => trivial), hy.call hS hU hW hF0⟩, hE.call hS hU hW hF0⟩)⟩ rfl rfl hl.1 rfl (lv_room hrest) hdg hf
  intro T hT X
  obtain ⟨v, st₀, t9, T2, L, h0, X2, hL, e1, e2, ⟨⟨v2, ws3, hv, hF2, hP2, hD2⟩, hz, hk⟩, st2⟩ := hr T hT X
  cases hv
  rw [h0] at hz hk
  obtain ⟨t3, a1, b1⟩ := k v ws3 hF2 p e s m args below meth c A T2.heap (locs ++ L) ls ok (by rw [e1]; exact hP2) (hD2.weaken (fun _ q _ h => hF0 q.1 h)) ⟨Nat.le_trans hS.1 (by rw [e1]; exact hz), fun q h1 h2 => by rw [e1, hk q (Nat.lt_of_lt_of_le h1 hS.1) (fun z => h2 (hF0 q z))]; exact hS.2.1 q h1 h2, fun q hq => (List.mem_append.mp hq).elim (hS.2.2 q) (fun h => hF0 _ (hL q h))⟩ hl T2 rfl X2
  exact ⟨t3, st2 t3 a1, b1⟩
end RK
theorem wfk_9 : Cond.fieldLink RJ0 9 "java/lang/String" "value" "[B" ∈ AW := AW_in 1376 (by decide +kernel) (by decide +kernel)
theorem wfk_15 : Cond.fieldLink RJ0 15 "java/lang/String" "coder" "B" ∈ AW := AW_in 1377 (by decide +kernel) (by decide +kernel)
theorem wfk_38 : Cond.fieldLink RJ0 38 "java/lang/String" "COMPACT_STRINGS" "Z" ∈ AW := AW_in 807 (by decide +kernel) (by decide +kernel)
theorem wfk_1053 : Cond.fieldLink RJ0 1053 "jdk/internal/util/Preconditions" "SIOOBE_FORMATTER" "Ljava/util/function/BiFunction;" ∈ AW := AW_in 823 (by decide +kernel) (by decide +kernel)
theorem ck_J3_checkIndex {l : Launch} {D : va_G} {tys : List (ClassId × FieldType)} {ws : va_W} {i n : Int32} {v : Value} (hv : v = .null ∨ ∃ z : Nat, v = .ref z) (h0 : ¬ i < 0) (h1 : i < n) : rv_C l D tys yJ3_checkIndex_8e157 cJ3_checkIndex_8e157 3 (some .int) 0 0 0 [.int i, .int n, v] ws (rv_F (some (.int i)) ws) := by
  have key : ∀ v : Value, (lg_sl [.int i, .int n, v]).length ≤ 3 → lv_args 0 [.int i, .int n, v] = [(0, .int i), (1, .int n), (2, v)] → rv_C l D tys yJ3_checkIndex_8e157 cJ3_checkIndex_8e157 3 (some .int) 0 0 0 [.int i, .int n, v] ws (rv_F (some (.int i)) ws) := by
    intro v e1 e2
    refine rv_Cof2 (own := RJ3) (lv := [(0, .int i), (1, .int n), (2, v)]) rfl (by decide) e1 e2 ?_
    refine rv_iload_n dJ3_checkIndex_8e157_0 rfl 0 rfl ?_
    refine rv_if_lt (tgt := 9) dJ3_checkIndex_8e157_1 (by decide) (fun h => absurd h h0) (fun _ => ?_)
    refine rv_iload_n dJ3_checkIndex_8e157_4 rfl 0 rfl ?_
    refine rv_iload_n dJ3_checkIndex_8e157_5 rfl 1 rfl ?_
    refine rv_icmp_lt (tgt := 16) dJ3_checkIndex_8e157_6 (by decide) (fun _ => ?_) (fun h => absurd h1 h)
    refine rv_iload_n dJ3_checkIndex_8e157_16 rfl 0 rfl ?_
    exact rv_iret rfl dJ3_checkIndex_8e157_17 (rv_le rfl) (rv_le rfl) ⟨rfl, rfl⟩
  rcases hv with rfl | ⟨z, rfl⟩
  · exact key _ (rv_le rfl) rfl
  · exact key _ (rv_le rfl) rfl
theorem ck_J0_checkIndex {l : Launch} {D : va_G} {tys : List (ClassId × FieldType)} {ws : va_W} {i n : Int32} (h0 : ¬ i < 0) (h1 : i < n) : rv_C l D tys yJ0_checkIndex_df160 cJ0_checkIndex_df160 2 none 1 0 0 [.int i, .int n] ws (rv_F none ws) := by
  refine rv_Cof2 (own := RJ0) (lv := [(0, .int i), (1, .int n)]) rfl (by decide) (rv_le rfl) rfl ?_
  refine rv_iload_n dJ0_checkIndex_df160_0 rfl 0 rfl ?_
  refine rv_iload_n dJ0_checkIndex_df160_1 rfl 1 rfl ?_
  refine rk_sioobe wfk_1053 dJ0_checkIndex_df160_2 (fun v hv => ?_)
  refine rv_callS1 (rest := []) (ck_J3_checkIndex hv h0 h1) wm_J0_1059 ws_J3_checkIndex_8e157 wc_J3_checkIndex_8e157 wz_J3 np_J3_checkIndex_8e157 dJ0_checkIndex_df160_5 rfl ⟨rv_le rfl, rv_le rfl⟩ ⟨rv_le rfl, rv_le rfl⟩ (rv_le rfl) ?_
  refine rv_pop dJ0_checkIndex_df160_8 rfl ?_
  exact rv_vret rfl dJ0_checkIndex_df160_9 (rv_le rfl) (rv_le rfl) ⟨rfl, rfl⟩
theorem kc_b : ∀ j, j < 7 → (((([97, 107, 114, 110, 119, 104, 100] : List Int32).getD j 0) &&& 255).toUInt32 % 65536).toInt32 = rv_kc (nI j) ∧ narrow .char (.int (rv_kc (nI j))) = .int (rv_kc (nI j)) := by decide +kernel
theorem ck_J1_charAt {l : Launch} {D : va_G} {tys : List (ClassId × FieldType)} {ws : va_W} {q t j : Nat} (hj : j < 7) : rv_CE q t l D tys yJ1_charAt_3b067 cJ1_charAt_3b067 2 (some .char) 2 0 0 [.ref t, .int (nI j)] ws (rv_F (some (.int (rv_kc (nI j)))) ws) := by
  refine rk_Cof (own := RJ1) (lv := [(0, .ref t), (1, .int (nI j))]) rfl (by decide) (rv_le rfl) rfl ?_
  refine rv_iload_n dJ1_charAt_3b067_0 rfl 1 rfl ?_
  refine rv_aload_n dJ1_charAt_3b067_1 rfl 0 rfl ?_
  refine rk_len dJ1_charAt_3b067_2 ?_
  refine rv_callS0 (rest := []) (ck_J0_checkIndex (nI_pos (by omega)) (nI_lt (b := 7) hj (by decide))) wm_J1_9 ws_J0_checkIndex_df160 wc_J0_checkIndex_df160 wz_J0 np_J0_checkIndex_df160 dJ1_charAt_3b067_3 rfl ⟨rv_le rfl, rv_le rfl⟩ ⟨rv_le rfl, rv_le rfl⟩ (rv_le rfl) ?_
  refine rv_aload_n dJ1_charAt_3b067_6 rfl 0 rfl ?_
  refine rv_iload_n dJ1_charAt_3b067_7 rfl 1 rfl ?_
  refine rk_byte hj dJ1_charAt_3b067_8 ?_
  refine rv_sipush (v := 255) dJ1_charAt_3b067_9 (by decide) ?_
  refine rv_iand dJ1_charAt_3b067_12 ?_
  refine rv_i2c (v := rv_kc (nI j)) dJ1_charAt_3b067_13 (kc_b j hj).1 ?_
  exact rk_of (rv_zret rfl (kc_b j hj).2 dJ1_charAt_3b067_14 (rv_le rfl) (rv_le rfl) ⟨rfl, rfl⟩)
theorem ck_J0_coder {l : Launch} {D : va_G} {tys : List (ClassId × FieldType)} {ws : va_W} {q t : Nat} : rv_CE q t l D tys yJ0_coder_7d493 cJ0_coder_7d493 1 (some .byte) 0 0 0 [.ref q] ws (rv_F (some (.int 0)) ws) := by
  refine rk_Cof (own := RJ0) (lv := [(0, .ref q)]) rfl (by decide) (rv_le rfl) rfl ?_
  refine rk_compact wfk_38 dJ0_coder_7d493_0 ?_
  refine rv_if_eq (tgt := 13) dJ0_coder_7d493_3 (by decide) (fun h => absurd h (by decide)) (fun _ => ?_)
  refine rv_aload_n dJ0_coder_7d493_6 rfl 0 rfl ?_
  refine rk_coder wfk_15 dJ0_coder_7d493_7 ?_
  refine rv_goto (tgt := 14) dJ0_coder_7d493_10 (by decide) ?_
  exact rk_of (rv_zret rfl (by decide +kernel) dJ0_coder_7d493_14 (rv_le rfl) (rv_le rfl) ⟨rfl, rfl⟩)
theorem ck_J0_isLatin1 {l : Launch} {D : va_G} {tys : List (ClassId × FieldType)} {ws : va_W} {q t : Nat} : rv_CE q t l D tys yJ0_isLatin1_aae02 cJ0_isLatin1_aae02 1 (some .boolean) 0 0 0 [.ref q] ws (rv_F (some (.int 1)) ws) := by
  refine rk_Cof (own := RJ0) (lv := [(0, .ref q)]) rfl (by decide) (rv_le rfl) rfl ?_
  refine rk_compact wfk_38 dJ0_isLatin1_aae02_0 ?_
  refine rv_if_eq (tgt := 17) dJ0_isLatin1_aae02_3 (by decide) (fun h => absurd h (by decide)) (fun _ => ?_)
  refine rv_aload_n dJ0_isLatin1_aae02_6 rfl 0 rfl ?_
  refine rk_coder wfk_15 dJ0_isLatin1_aae02_7 ?_
  refine rv_if_ne (tgt := 17) dJ0_isLatin1_aae02_10 (by decide) (fun h => absurd rfl h) (fun _ => ?_)
  refine rv_iconst (v := 1) dJ0_isLatin1_aae02_13 (by decide) ?_
  refine rv_goto (tgt := 18) dJ0_isLatin1_aae02_14 (by decide) ?_
  exact rk_of (rv_zret rfl (by decide +kernel) dJ0_isLatin1_aae02_18 (rv_le rfl) (rv_le rfl) ⟨rfl, rfl⟩)
theorem ck_J0_length {l : Launch} {D : va_G} {tys : List (ClassId × FieldType)} {ws : va_W} {q t : Nat} : rv_CE q t l D tys yJ0_length_8abf5 cJ0_length_8abf5 1 (some .int) 1 0 0 [.ref q] ws (rv_F (some (.int 7)) ws) := by
  refine rk_Cof (own := RJ0) (lv := [(0, .ref q)]) rfl (by decide) (rv_le rfl) rfl ?_
  refine rv_aload_n dJ0_length_8abf5_0 rfl 0 rfl ?_
  refine rk_value wfk_9 dJ0_length_8abf5_1 ?_
  refine rk_len dJ0_length_8abf5_4 ?_
  refine rv_aload_n dJ0_length_8abf5_5 rfl 0 rfl ?_
  refine rk_callV (As := []) (rest := [.int 7]) ck_J0_coder wm_J0_335 wi_J0_coder_7d493 wl_J0_coder_7d493 wc_J0_coder_7d493 wz_J0 np_J0_coder_7d493 ⟨rv_le rfl, rv_le rfl⟩ ⟨rv_le rfl, rv_le rfl⟩ dJ0_length_8abf5_6 rfl (rv_le rfl) (fun v9 w9 h9 => ?_)
  obtain ⟨rfl, rfl⟩ := h9
  refine rv_ishr dJ0_length_8abf5_9 ?_
  exact rk_of (rv_iret rfl dJ0_length_8abf5_10 (rv_le rfl) (rv_le rfl) ⟨by decide +kernel, rfl⟩)
theorem ck_J0_charAt {l : Launch} {D : va_G} {tys : List (ClassId × FieldType)} {ws : va_W} {q t j : Nat} (hj : j < 7) : rv_CE q t l D tys yJ0_charAt_5068e cJ0_charAt_5068e 2 (some .char) 3 0 0 [.ref q, .int (nI j)] ws (rv_F (some (.int (rv_kc (nI j)))) ws) := by
  refine rk_Cof (own := RJ0) (lv := [(0, .ref q), (1, .int (nI j))]) rfl (by decide) (rv_le rfl) rfl ?_
  refine rv_aload_n dJ0_charAt_5068e_0 rfl 0 rfl ?_
  refine rk_callV (As := []) (rest := []) ck_J0_isLatin1 wm_J0_492 wi_J0_isLatin1_aae02 wl_J0_isLatin1_aae02 wc_J0_isLatin1_aae02 wz_J0 np_J0_isLatin1_aae02 ⟨rv_le rfl, rv_le rfl⟩ ⟨rv_le rfl, rv_le rfl⟩ dJ0_charAt_5068e_1 rfl (rv_le rfl) (fun v9 w9 h9 => ?_)
  obtain ⟨rfl, rfl⟩ := h9
  refine rv_if_eq (tgt := 16) dJ0_charAt_5068e_4 (by decide) (fun h => absurd h (by decide)) (fun _ => ?_)
  refine rv_aload_n dJ0_charAt_5068e_7 rfl 0 rfl ?_
  refine rk_value wfk_9 dJ0_charAt_5068e_8 ?_
  refine rv_iload_n dJ0_charAt_5068e_11 rfl 1 rfl ?_
  refine rk_callS (As := [.ref t, .int (nI j)]) (rest := []) (ck_J1_charAt hj) wm_J0_495 ws_J1_charAt_3b067 wc_J1_charAt_3b067 wz_J1 np_J1_charAt_3b067 ⟨rv_le rfl, rv_le rfl⟩ ⟨rv_le rfl, rv_le rfl⟩ dJ0_charAt_5068e_12 rfl (rv_le rfl) (fun v9 w9 h9 => ?_)
  obtain ⟨rfl, rfl⟩ := h9
  exact rk_of (rv_zret rfl (kc_b j hj).2 dJ0_charAt_5068e_15 (rv_le rfl) (rv_le rfl) ⟨rfl, rfl⟩)
/-- the text is at hand from here on -/
theorem rk_text {l : Launch} {D : va_G} {tys : List (ClassId × FieldType)} {own : String} {cc : ByteArray} {nL : Nat} {ret : Option FieldType} {hh : String × List ExceptionTableEntry} {R : Room} {Phi : rv_Phi} {cu su : Nat} {ws : va_W} {pc : Nat} {lv : List (Nat × Value)} {st : List Value} (k : ∀ q t : Nat, rv_V l D tys own cc nL ret hh R (rv_PE q t (fun below args s A z => vk_R RX8 192 "akrnwhd" q s → Phi below args s A z)) cu su ws pc lv st) : rv_V l D tys own cc nL ret hh R Phi cu su ws pc lv st := by
  intro p e s m args below meth c A H locs ls ok hP hD hS hl
  intro T hT X
  obtain ⟨hx, hb, hml, hown, hts, hrt, hlk, hK, hA, hy, ht⟩ := id ok
  obtain ⟨⟨adK, adV, k1, k2⟩, _⟩ := hy.2.2.2.2
  obtain ⟨z, h1, h2⟩ := k (adK 0) (adV 0) p e s m args below meth c A H locs ls ok hP hD hS hl T hT X
  exact ⟨z, h1, h2 (k1.1 0 (by decide)) k2⟩
theorem rk_ldc {l : Launch} {D : va_G} {tys : List (ClassId × FieldType)} {cc : ByteArray} {nL : Nat} {ret : Option FieldType} {hh : String × List ExceptionTableEntry} {R : Room} {Phi : rv_Phi} {cu su : Nat} {ws : va_W} {pc : Nat} {lv : List (Nat × Value)} {rest : List Value} {q t : Nat} (hdg : decode cc pc = .ok (.ldc 192, 2)) (k : rv_V l D tys RX8 cc nL ret hh R (rv_PE q t (fun below args s A z => vk_R RX8 192 "akrnwhd" q s → Phi below args s A z)) cu su ws (pc + 2) lv (.ref q :: rest)) : rv_V l D tys RX8 cc nL ret hh R (rv_PE q t (fun below args s A z => vk_R RX8 192 "akrnwhd" q s → Phi below args s A z)) cu su ws pc lv rest := by
  intro p e s m args below meth c A H locs ls ok hP hD hS hl
  by_cases hZ : vk_R RX8 192 "akrnwhd" q s
  · exact va_ldcS ok.1 ok.2.1 ok.2.2.2.1 hZ hdg (k p e s m args below meth c A H locs ls ok hP hD hS hl)
  · intro T hT X
    exact ⟨_, Steps.refl _, fun _ h => absurd h hZ⟩
theorem rk_end {l : Launch} {D : va_G} {tys : List (ClassId × FieldType)} {own : String} {cc : ByteArray} {nL : Nat} {ret : Option FieldType} {hh : String × List ExceptionTableEntry} {R : Room} {Phi : rv_Phi} {cu su : Nat} {ws : va_W} {pc : Nat} {lv : List (Nat × Value)} {st : List Value} {q t : Nat} (k : rv_V l D tys own cc nL ret hh R Phi cu su ws pc lv st) : rv_V l D tys own cc nL ret hh R (rv_PE q t (fun below args s A z => vk_R RX8 192 "akrnwhd" q s → Phi below args s A z)) cu su ws pc lv st := by
  intro p e s m args below meth c A H locs ls ok hP hD hS hl
  intro T hT X
  obtain ⟨z, h1, h2⟩ := k p e s m args below meth c A H locs ls ok hP hD hS hl T hT X
  exact ⟨z, h1, fun _ _ => h2⟩
theorem kc_in {x : Int32} (h0 : ¬ x < 0) (h1 : x < 7) : ∃ j, j < 7 ∧ x = nI j := by
  obtain ⟨j, hj, rfl⟩ := nI_of h0
  exact ⟨j, (nI_ltI (b := 7) hj (by decide)).mp h1, rfl⟩
theorem ct_X8_breachKind {l : Launch} {D : va_G} {ta : Nat → ClassId} {ad : Nat → Nat} {μ : Mem} {x1 : Int32} {r : (String ⊕ Int32) × Mem} (hl9 : l.stackTraces = false) (h : f_X8_breachKind μ x1 = some r) : rv_CX l D (rv_T ta) yX8_breachKind cX8_breachKind 3 (some .char) 6 4 24 [.ref (ad 0), .int x1] (wx ta ad μ) (rv_FX rv_vI r.1 (wx ta ad r.2)) (rv_GX r.1 (wx ta ad r.2)) := by
  refine rv_CXof2 (own := RX8) (lv := [(0, .ref (ad 0)), (1, .int x1)]) rfl (by decide) (rv_le rfl) rfl ?_
  unfold f_X8_breachKind at h
  refine rv_aload_n dX8_breachKind_0 rfl 0 rfl ?_
  refine rv_iload_n dX8_breachKind_1 rfl 1 rfl ?_
  obtain ⟨r1, hr1, h⟩ := rv_bind h
  refine rv_xcallVI (rest := []) (ct_X8_requireBreach hl9 hr1) wm_X8_186 wi_X8_requireBreach wl_X8_requireBreach wc_X8_requireBreach wz_X8 rfl np_X8_requireBreach dX8_breachKind_2 rfl ⟨rv_le rfl, rv_le rfl⟩ ⟨rv_le rfl, rv_le rfl⟩ (rv_le rfl) 0 (wx_0 ta ad μ) cl_X8 (fun E9 h8 => ?_) (fun t2 et2 => ?_)
  · obtain rfl := rv_thm_l h8 h
    exact rv_out rfl (rv_le rfl) (rv_le rfl) ⟨rfl, rfl⟩
  · replace h := rv_thm_r et2 h
    obtain ⟨r3, hr3, h⟩ := rv_bind h
    refine rv_callS1 (rest := []) (ct_X8_kindOf hr3) wm_X8_189 ws_X8_kindOf wc_X8_kindOf wz_X8 np_X8_kindOf dX8_breachKind_5 rfl ⟨rv_le rfl, rv_le rfl⟩ ⟨rv_le rfl, rv_le rfl⟩ (rv_le rfl) ?_
    refine rv_istore_n (lv2 := [(2, .int r3), (0, .ref (ad 0)), (1, .int x1)]) dX8_breachKind_8 rfl (by decide) rfl ?_
    refine rv_iload_n dX8_breachKind_9 rfl 0 rfl ?_
    have no : ¬ (0 ≤ r3 ∧ r3 < 7) → rv_V l D (rv_T ta) RX8 cX8_breachKind 3 (some .char) ("", []) (rv_rm 6 4 24) (rv_X D (rv_FX rv_vI r.1 (wx ta ad r.2)) (rv_GX r.1 (wx ta ad r.2)) 4 24) (0 + 1 + 0) (0 + 6 + 0) (wx ta ad r1.2) 31 [(2, .int r3), (0, .ref (ad 0)), (1, .int x1)] [] := by
      intro hn
      rw [if_neg hn] at h
      obtain rfl := Option.some.inj h
      refine rv_bipush (v := 32) dX8_breachKind_31 (by decide) ?_
      exact rv_zretX rfl (by decide +kernel) dX8_breachKind_33 (rv_le rfl) (rv_le rfl) ⟨_, rfl, rfl, rfl⟩
    refine rv_if_lt (tgt := 31) dX8_breachKind_10 (by decide) (fun hlt => no (fun q => Int32.not_le.mpr hlt q.1)) (fun h0 => ?_)
    refine rk_text (fun q t => ?_)
    refine rv_iload_n dX8_breachKind_13 rfl 0 rfl ?_
    refine rk_ldc dX8_breachKind_14 ?_
    refine rk_callV (As := []) (rest := [.int r3]) ck_J0_length wm_X8_194 wi_J0_length_8abf5 wl_J0_length_8abf5 wc_J0_length_8abf5 wz_J0 np_J0_length_8abf5 ⟨rv_le rfl, rv_le rfl⟩ ⟨rv_le rfl, rv_le rfl⟩ dX8_breachKind_16 rfl (rv_le rfl) (fun v9 w9 h9 => ?_)
    obtain ⟨rfl, rfl⟩ := h9
    refine rv_icmp_ge (tgt := 31) dX8_breachKind_19 (by decide) (fun hge => rk_end (no (fun q => Int32.not_le.mpr q.2 hge))) (fun hlt => ?_)
    have hlt7 : r3 < 7 := by
      rw [← Int32.not_le]
      exact hlt
    obtain ⟨j, hj, rfl⟩ := kc_in h0 hlt7
    rw [if_pos ⟨Int32.not_lt.mp h0, hlt7⟩] at h
    obtain rfl := Option.some.inj h
    refine rk_ldc dX8_breachKind_22 ?_
    refine rv_iload_n dX8_breachKind_24 rfl 0 rfl ?_
    refine rk_callV (As := [.int (nI j)]) (rest := []) (ck_J0_charAt hj) wm_X8_199 wi_J0_charAt_5068e wl_J0_charAt_5068e wc_J0_charAt_5068e wz_J0 np_J0_charAt_5068e ⟨rv_le rfl, rv_le rfl⟩ ⟨rv_le rfl, rv_le rfl⟩ dX8_breachKind_25 rfl (rv_le rfl) (fun v9 w9 h9 => ?_)
    obtain ⟨rfl, rfl⟩ := h9
    refine rv_goto (tgt := 33) dX8_breachKind_28 (by decide) ?_
    exact rk_end (rv_zretX rfl (kc_b j hj).2 dX8_breachKind_33 (rv_le rfl) (rv_le rfl) ⟨_, rfl, rfl, rfl⟩)
