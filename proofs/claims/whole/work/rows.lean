section
-- ===== PART A: goes FIRST, ahead of the names: the tables' words, and 'selects' of the private methods out of them =====
/-- a private method of a class that the tables say can be made, by its rows of tables_1 -/
def lw_okq (q : MethodName × Nat) : Prop := (q.1.cls ≠ "java/lang/invoke/MethodHandle" ∧ q.1.cls ≠ "java/lang/invoke/VarHandle") ∧ Cond.instantiable q.1.cls q.2 ∈ tables_1 ∧ Cond.privateMethod q.1 ∈ tables_1 ∧ Cond.instanceMethod q.1 ∈ tables_1
theorem lw_p0 : lw_okq (⟨"Rosterproof$Measures", "isNightAt", "(II)Z"⟩, 3) := ⟨⟨by decide +kernel, by decide +kernel⟩, List.mem_of_getElem? (i := 120) (by decide +kernel), List.mem_of_getElem? (i := 348) (by decide +kernel), List.mem_of_getElem? (i := 349) (by decide +kernel)⟩
theorem lw_p1 : lw_okq (⟨"Rosterproof$Measures", "isRowOfNights", "(III)Z"⟩, 3) := ⟨⟨by decide +kernel, by decide +kernel⟩, List.mem_of_getElem? (i := 120) (by decide +kernel), List.mem_of_getElem? (i := 360) (by decide +kernel), List.mem_of_getElem? (i := 361) (by decide +kernel)⟩
theorem lw_p2 : lw_okq (⟨"Rosterproof$Findings", "daysOf", "(II)I"⟩, 2) := ⟨⟨by decide +kernel, by decide +kernel⟩, List.mem_of_getElem? (i := 152) (by decide +kernel), List.mem_of_getElem? (i := 383) (by decide +kernel), List.mem_of_getElem? (i := 384) (by decide +kernel)⟩
theorem lw_p3 : lw_okq (⟨"Rosterproof$Mender", "touching", "(I)I"⟩, 7) := ⟨⟨by decide +kernel, by decide +kernel⟩, List.mem_of_getElem? (i := 166) (by decide +kernel), List.mem_of_getElem? (i := 393) (by decide +kernel), List.mem_of_getElem? (i := 394) (by decide +kernel)⟩
theorem lw_p4 : lw_okq (⟨"Rosterproof$Mender", "findLast", "(II)Z"⟩, 7) := ⟨⟨by decide +kernel, by decide +kernel⟩, List.mem_of_getElem? (i := 166) (by decide +kernel), List.mem_of_getElem? (i := 418) (by decide +kernel), List.mem_of_getElem? (i := 419) (by decide +kernel)⟩
theorem lw_p5 : lw_okq (⟨"Rosterproof$Roster", "countStaff", "(III)V"⟩, 5) := ⟨⟨by decide +kernel, by decide +kernel⟩, List.mem_of_getElem? (i := 95) (by decide +kernel), List.mem_of_getElem? (i := 437) (by decide +kernel), List.mem_of_getElem? (i := 438) (by decide +kernel)⟩
theorem lw_p6 : lw_okq (⟨"Rosterproof$Mender", "findTwo", "(IZ)Z"⟩, 7) := ⟨⟨by decide +kernel, by decide +kernel⟩, List.mem_of_getElem? (i := 166) (by decide +kernel), List.mem_of_getElem? (i := 447) (by decide +kernel), List.mem_of_getElem? (i := 448) (by decide +kernel)⟩
theorem lw_p7 : lw_okq (⟨"Rosterproof$Mender", "change", "(II)V"⟩, 7) := ⟨⟨by decide +kernel, by decide +kernel⟩, List.mem_of_getElem? (i := 166) (by decide +kernel), List.mem_of_getElem? (i := 451) (by decide +kernel), List.mem_of_getElem? (i := 452) (by decide +kernel)⟩
theorem lw_p8 : lw_okq (⟨"java/lang/Throwable", "fillInStackTrace", "(I)Ljava/lang/Throwable;"⟩, 6) := ⟨⟨by decide +kernel, by decide +kernel⟩, List.mem_of_getElem? (i := 510) (by decide +kernel), List.mem_of_getElem? (i := 508) (by decide +kernel), List.mem_of_getElem? (i := 509) (by decide +kernel)⟩
theorem lw_p9 : lw_okq (⟨"Rosterproof", "requireShift", "(I)V"⟩, 9) := ⟨⟨by decide +kernel, by decide +kernel⟩, List.mem_of_getElem? (i := 29) (by decide +kernel), List.mem_of_getElem? (i := 580) (by decide +kernel), List.mem_of_getElem? (i := 581) (by decide +kernel)⟩
theorem lw_p10 : lw_okq (⟨"Rosterproof", "requirePerson", "(I)V"⟩, 9) := ⟨⟨by decide +kernel, by decide +kernel⟩, List.mem_of_getElem? (i := 29) (by decide +kernel), List.mem_of_getElem? (i := 636) (by decide +kernel), List.mem_of_getElem? (i := 637) (by decide +kernel)⟩
theorem lw_p11 : lw_okq (⟨"Rosterproof", "requireBreach", "(I)I"⟩, 9) := ⟨⟨by decide +kernel, by decide +kernel⟩, List.mem_of_getElem? (i := 29) (by decide +kernel), List.mem_of_getElem? (i := 792) (by decide +kernel), List.mem_of_getElem? (i := 793) (by decide +kernel)⟩
theorem lw_p12 : lw_okq (⟨"Rosterproof", "sizeAfterExchange", "(III)I"⟩, 9) := ⟨⟨by decide +kernel, by decide +kernel⟩, List.mem_of_getElem? (i := 29) (by decide +kernel), List.mem_of_getElem? (i := 895) (by decide +kernel), List.mem_of_getElem? (i := 896) (by decide +kernel)⟩
theorem lw_p13 : lw_okq (⟨"Rosterproof", "requireChange", "(I)V"⟩, 9) := ⟨⟨by decide +kernel, by decide +kernel⟩, List.mem_of_getElem? (i := 29) (by decide +kernel), List.mem_of_getElem? (i := 975) (by decide +kernel), List.mem_of_getElem? (i := 976) (by decide +kernel)⟩
theorem lw_p14 : lw_okq (⟨"RosterproofModel", "goesOn", "(I)Z"⟩, 25) := ⟨⟨by decide +kernel, by decide +kernel⟩, List.mem_of_getElem? (i := 1019) (by decide +kernel), List.mem_of_getElem? (i := 1110) (by decide +kernel), List.mem_of_getElem? (i := 1111) (by decide +kernel)⟩
theorem lw_p15 : lw_okq (⟨"RosterproofModel", "isShift", "(I)Z"⟩, 25) := ⟨⟨by decide +kernel, by decide +kernel⟩, List.mem_of_getElem? (i := 1019) (by decide +kernel), List.mem_of_getElem? (i := 1125) (by decide +kernel), List.mem_of_getElem? (i := 1126) (by decide +kernel)⟩
def lw_privs_1 : List (MethodName × Nat) := [(⟨"Rosterproof$Measures", "isNightAt", "(II)Z"⟩, 3), (⟨"Rosterproof$Measures", "isRowOfNights", "(III)Z"⟩, 3), (⟨"Rosterproof$Findings", "daysOf", "(II)I"⟩, 2), (⟨"Rosterproof$Mender", "touching", "(I)I"⟩, 7), (⟨"Rosterproof$Mender", "findLast", "(II)Z"⟩, 7), (⟨"Rosterproof$Roster", "countStaff", "(III)V"⟩, 5), (⟨"Rosterproof$Mender", "findTwo", "(IZ)Z"⟩, 7), (⟨"Rosterproof$Mender", "change", "(II)V"⟩, 7), (⟨"java/lang/Throwable", "fillInStackTrace", "(I)Ljava/lang/Throwable;"⟩, 6), (⟨"Rosterproof", "requireShift", "(I)V"⟩, 9), (⟨"Rosterproof", "requirePerson", "(I)V"⟩, 9), (⟨"Rosterproof", "requireBreach", "(I)I"⟩, 9), (⟨"Rosterproof", "sizeAfterExchange", "(III)I"⟩, 9), (⟨"Rosterproof", "requireChange", "(I)V"⟩, 9), (⟨"RosterproofModel", "goesOn", "(I)Z"⟩, 25), (⟨"RosterproofModel", "isShift", "(I)Z"⟩, 25)]
theorem lw_r1 : ∀ q ∈ lw_privs_1, lw_okq q := List.forall_mem_cons.mpr ⟨lw_p0, List.forall_mem_cons.mpr ⟨lw_p1, List.forall_mem_cons.mpr ⟨lw_p2, List.forall_mem_cons.mpr ⟨lw_p3, List.forall_mem_cons.mpr ⟨lw_p4, List.forall_mem_cons.mpr ⟨lw_p5, List.forall_mem_cons.mpr ⟨lw_p6, List.forall_mem_cons.mpr ⟨lw_p7, List.forall_mem_cons.mpr ⟨lw_p8, List.forall_mem_cons.mpr ⟨lw_p9, List.forall_mem_cons.mpr ⟨lw_p10, List.forall_mem_cons.mpr ⟨lw_p11, List.forall_mem_cons.mpr ⟨lw_p12, List.forall_mem_cons.mpr ⟨lw_p13, List.forall_mem_cons.mpr ⟨lw_p14, List.forall_mem_cons.mpr ⟨lw_p15, fun _ h => absurd h List.not_mem_nil⟩⟩⟩⟩⟩⟩⟩⟩⟩⟩⟩⟩⟩⟩⟩⟩
theorem lw_p16 : lw_okq (⟨"RosterproofModel", "isNightShift", "(I)Z"⟩, 25) := ⟨⟨by decide +kernel, by decide +kernel⟩, List.mem_of_getElem? (i := 1019) (by decide +kernel), List.mem_of_getElem? (i := 1129) (by decide +kernel), List.mem_of_getElem? (i := 1130) (by decide +kernel)⟩
theorem lw_p17 : lw_okq (⟨"RosterproofModel", "isPerson", "(I)Z"⟩, 25) := ⟨⟨by decide +kernel, by decide +kernel⟩, List.mem_of_getElem? (i := 1019) (by decide +kernel), List.mem_of_getElem? (i := 1137) (by decide +kernel), List.mem_of_getElem? (i := 1138) (by decide +kernel)⟩
theorem lw_p18 : lw_okq (⟨"RosterproofModel", "at", "(II)I"⟩, 25) := ⟨⟨by decide +kernel, by decide +kernel⟩, List.mem_of_getElem? (i := 1019) (by decide +kernel), List.mem_of_getElem? (i := 1168) (by decide +kernel), List.mem_of_getElem? (i := 1169) (by decide +kernel)⟩
theorem lw_p19 : lw_okq (⟨"RosterproofModel", "lastBefore", "(II)I"⟩, 25) := ⟨⟨by decide +kernel, by decide +kernel⟩, List.mem_of_getElem? (i := 1019) (by decide +kernel), List.mem_of_getElem? (i := 1188) (by decide +kernel), List.mem_of_getElem? (i := 1189) (by decide +kernel)⟩
theorem lw_p20 : lw_okq (⟨"RosterproofModel", "minutesBefore", "(II)I"⟩, 25) := ⟨⟨by decide +kernel, by decide +kernel⟩, List.mem_of_getElem? (i := 1019) (by decide +kernel), List.mem_of_getElem? (i := 1192) (by decide +kernel), List.mem_of_getElem? (i := 1193) (by decide +kernel)⟩
theorem lw_p21 : lw_okq (⟨"RosterproofModel", "rowOf", "(I)I"⟩, 25) := ⟨⟨by decide +kernel, by decide +kernel⟩, List.mem_of_getElem? (i := 1019) (by decide +kernel), List.mem_of_getElem? (i := 1200) (by decide +kernel), List.mem_of_getElem? (i := 1201) (by decide +kernel)⟩
theorem lw_p22 : lw_okq (⟨"RosterproofModel", "sumFrom", "(III)I"⟩, 25) := ⟨⟨by decide +kernel, by decide +kernel⟩, List.mem_of_getElem? (i := 1019) (by decide +kernel), List.mem_of_getElem? (i := 1213) (by decide +kernel), List.mem_of_getElem? (i := 1214) (by decide +kernel)⟩
theorem lw_p23 : lw_okq (⟨"RosterproofModel", "tellsAll", "()V"⟩, 25) := ⟨⟨by decide +kernel, by decide +kernel⟩, List.mem_of_getElem? (i := 1019) (by decide +kernel), List.mem_of_getElem? (i := 1226) (by decide +kernel), List.mem_of_getElem? (i := 1227) (by decide +kernel)⟩
theorem lw_p24 : lw_okq (⟨"RosterproofModel", "isBreach", "(III)Z"⟩, 25) := ⟨⟨by decide +kernel, by decide +kernel⟩, List.mem_of_getElem? (i := 1019) (by decide +kernel), List.mem_of_getElem? (i := 1230) (by decide +kernel), List.mem_of_getElem? (i := 1231) (by decide +kernel)⟩
theorem lw_p25 : lw_okq (⟨"RosterproofModel", "isRestShort", "(II)Z"⟩, 25) := ⟨⟨by decide +kernel, by decide +kernel⟩, List.mem_of_getElem? (i := 1019) (by decide +kernel), List.mem_of_getElem? (i := 1234) (by decide +kernel), List.mem_of_getElem? (i := 1235) (by decide +kernel)⟩
theorem lw_p26 : lw_okq (⟨"RosterproofModel", "isRow", "(IIIZ)Z"⟩, 25) := ⟨⟨by decide +kernel, by decide +kernel⟩, List.mem_of_getElem? (i := 1019) (by decide +kernel), List.mem_of_getElem? (i := 1238) (by decide +kernel), List.mem_of_getElem? (i := 1239) (by decide +kernel)⟩
theorem lw_p27 : lw_okq (⟨"RosterproofModel", "tells", "(CIII)V"⟩, 25) := ⟨⟨by decide +kernel, by decide +kernel⟩, List.mem_of_getElem? (i := 1019) (by decide +kernel), List.mem_of_getElem? (i := 1245) (by decide +kernel), List.mem_of_getElem? (i := 1246) (by decide +kernel)⟩
theorem lw_p28 : lw_okq (⟨"RosterproofModel", "onShift", "(II)I"⟩, 25) := ⟨⟨by decide +kernel, by decide +kernel⟩, List.mem_of_getElem? (i := 1019) (by decide +kernel), List.mem_of_getElem? (i := 1249) (by decide +kernel), List.mem_of_getElem? (i := 1250) (by decide +kernel)⟩
theorem lw_p29 : lw_okq (⟨"RosterproofModel", "tells", "(I)Z"⟩, 25) := ⟨⟨by decide +kernel, by decide +kernel⟩, List.mem_of_getElem? (i := 1019) (by decide +kernel), List.mem_of_getElem? (i := 1257) (by decide +kernel), List.mem_of_getElem? (i := 1258) (by decide +kernel)⟩
theorem lw_p30 : lw_okq (⟨"RosterproofModel", "breachesOf", "(I)I"⟩, 25) := ⟨⟨by decide +kernel, by decide +kernel⟩, List.mem_of_getElem? (i := 1019) (by decide +kernel), List.mem_of_getElem? (i := 1277) (by decide +kernel), List.mem_of_getElem? (i := 1278) (by decide +kernel)⟩
theorem lw_p31 : lw_okq (⟨"RosterproofModel", "isFair", "(III)Z"⟩, 25) := ⟨⟨by decide +kernel, by decide +kernel⟩, List.mem_of_getElem? (i := 1019) (by decide +kernel), List.mem_of_getElem? (i := 1285) (by decide +kernel), List.mem_of_getElem? (i := 1286) (by decide +kernel)⟩
def lw_privs_2 : List (MethodName × Nat) := [(⟨"RosterproofModel", "isNightShift", "(I)Z"⟩, 25), (⟨"RosterproofModel", "isPerson", "(I)Z"⟩, 25), (⟨"RosterproofModel", "at", "(II)I"⟩, 25), (⟨"RosterproofModel", "lastBefore", "(II)I"⟩, 25), (⟨"RosterproofModel", "minutesBefore", "(II)I"⟩, 25), (⟨"RosterproofModel", "rowOf", "(I)I"⟩, 25), (⟨"RosterproofModel", "sumFrom", "(III)I"⟩, 25), (⟨"RosterproofModel", "tellsAll", "()V"⟩, 25), (⟨"RosterproofModel", "isBreach", "(III)Z"⟩, 25), (⟨"RosterproofModel", "isRestShort", "(II)Z"⟩, 25), (⟨"RosterproofModel", "isRow", "(IIIZ)Z"⟩, 25), (⟨"RosterproofModel", "tells", "(CIII)V"⟩, 25), (⟨"RosterproofModel", "onShift", "(II)I"⟩, 25), (⟨"RosterproofModel", "tells", "(I)Z"⟩, 25), (⟨"RosterproofModel", "breachesOf", "(I)I"⟩, 25), (⟨"RosterproofModel", "isFair", "(III)Z"⟩, 25)]
theorem lw_r2 : ∀ q ∈ lw_privs_2, lw_okq q := List.forall_mem_cons.mpr ⟨lw_p16, List.forall_mem_cons.mpr ⟨lw_p17, List.forall_mem_cons.mpr ⟨lw_p18, List.forall_mem_cons.mpr ⟨lw_p19, List.forall_mem_cons.mpr ⟨lw_p20, List.forall_mem_cons.mpr ⟨lw_p21, List.forall_mem_cons.mpr ⟨lw_p22, List.forall_mem_cons.mpr ⟨lw_p23, List.forall_mem_cons.mpr ⟨lw_p24, List.forall_mem_cons.mpr ⟨lw_p25, List.forall_mem_cons.mpr ⟨lw_p26, List.forall_mem_cons.mpr ⟨lw_p27, List.forall_mem_cons.mpr ⟨lw_p28, List.forall_mem_cons.mpr ⟨lw_p29, List.forall_mem_cons.mpr ⟨lw_p30, List.forall_mem_cons.mpr ⟨lw_p31, fun _ h => absurd h List.not_mem_nil⟩⟩⟩⟩⟩⟩⟩⟩⟩⟩⟩⟩⟩⟩⟩⟩
theorem lw_p32 : lw_okq (⟨"RosterproofModel", "placeOf", "(I)I"⟩, 25) := ⟨⟨by decide +kernel, by decide +kernel⟩, List.mem_of_getElem? (i := 1019) (by decide +kernel), List.mem_of_getElem? (i := 1289) (by decide +kernel), List.mem_of_getElem? (i := 1290) (by decide +kernel)⟩
theorem lw_p33 : lw_okq (⟨"RosterproofModel", "exchanges", "(III)V"⟩, 25) := ⟨⟨by decide +kernel, by decide +kernel⟩, List.mem_of_getElem? (i := 1019) (by decide +kernel), List.mem_of_getElem? (i := 1293) (by decide +kernel), List.mem_of_getElem? (i := 1294) (by decide +kernel)⟩
theorem lw_p34 : lw_okq (⟨"RosterproofModel", "partnerOf", "(II)I"⟩, 25) := ⟨⟨by decide +kernel, by decide +kernel⟩, List.mem_of_getElem? (i := 1019) (by decide +kernel), List.mem_of_getElem? (i := 1301) (by decide +kernel), List.mem_of_getElem? (i := 1302) (by decide +kernel)⟩
theorem lw_p35 : lw_okq (⟨"RosterproofModel", "leastSize", "()I"⟩, 25) := ⟨⟨by decide +kernel, by decide +kernel⟩, List.mem_of_getElem? (i := 1019) (by decide +kernel), List.mem_of_getElem? (i := 1309) (by decide +kernel), List.mem_of_getElem? (i := 1310) (by decide +kernel)⟩
theorem lw_p36 : lw_okq (⟨"RosterproofModel", "mends", "(III)Z"⟩, 25) := ⟨⟨by decide +kernel, by decide +kernel⟩, List.mem_of_getElem? (i := 1019) (by decide +kernel), List.mem_of_getElem? (i := 1313) (by decide +kernel), List.mem_of_getElem? (i := 1314) (by decide +kernel)⟩
theorem lw_p37 : lw_okq (⟨"RosterproofModel", "isLawful", "()Z"⟩, 25) := ⟨⟨by decide +kernel, by decide +kernel⟩, List.mem_of_getElem? (i := 1019) (by decide +kernel), List.mem_of_getElem? (i := 1317) (by decide +kernel), List.mem_of_getElem? (i := 1318) (by decide +kernel)⟩
def lw_privs_3 : List (MethodName × Nat) := [(⟨"RosterproofModel", "placeOf", "(I)I"⟩, 25), (⟨"RosterproofModel", "exchanges", "(III)V"⟩, 25), (⟨"RosterproofModel", "partnerOf", "(II)I"⟩, 25), (⟨"RosterproofModel", "leastSize", "()I"⟩, 25), (⟨"RosterproofModel", "mends", "(III)Z"⟩, 25), (⟨"RosterproofModel", "isLawful", "()Z"⟩, 25)]
theorem lw_r3 : ∀ q ∈ lw_privs_3, lw_okq q := List.forall_mem_cons.mpr ⟨lw_p32, List.forall_mem_cons.mpr ⟨lw_p33, List.forall_mem_cons.mpr ⟨lw_p34, List.forall_mem_cons.mpr ⟨lw_p35, List.forall_mem_cons.mpr ⟨lw_p36, List.forall_mem_cons.mpr ⟨lw_p37, fun _ h => absurd h List.not_mem_nil⟩⟩⟩⟩⟩⟩
def lw_privs : List (MethodName × Nat) := lw_privs_1 ++ (lw_privs_2 ++ (lw_privs_3))
def lw_tbl : List Cond := k2_sels lw_privs ++ tables_1
theorem lw_privs_ok : ∀ q ∈ lw_privs, lw_okq q := by
  show ∀ q ∈ lw_privs_1 ++ (lw_privs_2 ++ (lw_privs_3)), lw_okq q
  exact List.forall_mem_append.mpr ⟨lw_r1, List.forall_mem_append.mpr ⟨lw_r2, lw_r3⟩⟩
/-- the streams that the claim lets the run draw from -/
abbrev lw_cs : List Choice := [Jvm.Choice.named "NaN.bits"]
theorem lw_bits : nanBits ∈ lw_cs := by first | decide | exact List.mem_cons_self | simp [lw_cs, nanBits]
-- ===== end of PART A; then your names; then what follows =====
end
section
/-! ===== BEGIN words of one list among another's, by their places ===== -/
theorem goodIn_r {big : List Cond} (ws : List Cond) (ps : List Nat) (hp : ws = ps.filterMap (fun i => big[i]?)) (h : ws.all goodWord = true) : GoodIn big ws := by
  intro w hw
  have h1 := List.all_eq_true.mp h w hw
  rw [hp] at hw
  obtain ⟨i, -, hi⟩ := List.mem_filterMap.mp hw
  have hm : w ∈ big := by first | exact List.mem_of_getElem? hi | exact List.getElem?_mem hi
  exact ⟨hm, good_of_word h1⟩
theorem goodIn_app {big a b : List Cond} (ha : GoodIn big a) (hb : GoodIn big b) : GoodIn big (a ++ b) := fun w h => (List.mem_append.mp h).elim (ha w) (hb w)
theorem goodIn_ca {big a b : List Cond} {c : Cond} (ha : GoodIn big (c :: a)) (hb : GoodIn big b) : GoodIn big (c :: (a ++ b)) := fun w h => (List.mem_cons.mp h).elim (fun e => ha w (List.mem_cons.mpr (Or.inl e))) (fun h => (List.mem_append.mp h).elim (fun h => ha w (List.mem_cons.mpr (Or.inr h))) (hb w))
theorem goodIn_sub {big ws : List Cond} (hm : ∀ w ∈ ws, w ∈ big) (h : ws.all goodWord = true) : GoodIn big ws := fun w hw => ⟨hm w hw, good_of_word (List.all_eq_true.mp h w hw)⟩
/-! ===== END ===== -/

/-! ===== BEGIN exceptions that leave a method, and their catching by the caller (launches without stack traces) ===== -/
section VXA
/-! The laws vx_back, vx_callV, vx_callS, vx_callSW, vx_throw0, vx_throwS follow proofs of the library, with one case more: JvmDerived/Free/Laws.lean (Back.of_free), Shelf42/LK1.lean (callV, callS), Shelf/KitTraced.lean (throwNew0V, throwNewS). -/
/-- where a method has thrown q: the class by its name, the cell, what was written, the world -/
def vx_T (XC : String → State → State → Prop) (st : State) (q : Addr) (t : State) (mc ms : Nat) (free : Addr → Prop) : Prop :=
  ∃ (E : String) (ce : Cell) (L : List Loc), XC E st t ∧ t.heap[q]? = some ce ∧ ce.vm = .none ∧ st.vm.findClass E = some ce.cls ∧ st.WarmedH t.vm ∧ st.sameButNew ({ t with vm := st.vm } : State) L mc ms ∧ ∀ z ∈ L, free z.base
def vx_Q (Qc : Array Value → State → Outcome → State → Prop) (XC : String → State → State → Prop) (mc ms : Nat) (free : Addr → Prop) : Array Value → State → Outcome → State → Prop := fun a st o t =>
  (Qc a st o t ∧ ∃ L, FrameEnd st o t L mc ms ∧ ∀ q ∈ L, free q.base) ∨ ∃ q, o = .threw q ∧ vx_T XC st q t mc ms free
/-- a callee that returns or throws -/
def vx_Met (l : Launch) (y : MethodName) (ws : List Cond) (rm : Room) (Pc : Array Value → State → Prop) (Qc : Array Value → State → Outcome → State → Prop) (XC : String → State → State → Prop) (mc ms : Nat) (free : Addr → Prop) : Prop :=
  MetFree l y (headSpec ws rm) Pc (fun _ _ _ _ _ => True) (vx_Q Qc XC mc ms free)
def vx_Post (XC : String → State → State → Prop) (mc ms : Nat) (free : Addr → Prop) : Pt → Array Value → Addr → Pt → Prop := fun A a q B =>
  ∃ (g : JFrame) (mk : MethodId) (t : State) (L : List Loc) (E : String) (ce : Cell), B.U.heap = t.heap ∧ B.U.vm = t.vm ∧ XC E (A.U.calling g mk a) t ∧ t.heap[q]? = some ce ∧ ce.vm = .none ∧ A.U.vm.findClass E = some ce.cls ∧ B.locs = A.locs ++ L ∧ (∀ z ∈ L, free z.base) ∧ B.cells = A.cells + mc ∧ B.slots = A.slots + ms
def vx_Back (l : Launch) (R : Room) (p : Program) (e : Env) (below : List Frame) (s : State) (sargs : Array Value) (y : MethodName) (len W9 : Nat)
    (Pre : Pt → Array Value → Prop) (Post : Pt → Array Value → Option Value → Pt → Prop) (PostX : Pt → Array Value → Addr → Pt → Prop) : Prop :=
  ∀ (m : MethodId) (meth : Method) (c : Code) (A : Pt) (g : JFrame) (ig : Instr) (mk : MethodId) (a : Array Value),
    Stand p l e R s m sargs below meth c A.U A.locs A.cells A.slots → g.method = m → g.locals.size = c.maxLocals → decode c.code g.pc = .ok (ig, len) →
    2 * g.monitorRoom + (g.stack.map fun v => v.category).sum ≤ W9 → A.U.methodNamed? y = some mk → Pre A a →
    (∃ (v : Option Value) (B : Pt), Stand p l e R s m sargs below meth c B.U B.locs B.cells B.slots ∧ Post A a v B ∧
      Steps p.tables e below (doInvoke e (A.U.setTop g) [] mk a).1 (B.U.setTop { g with pc := g.pc + len, stack := v.toList ++ g.stack })) ∨
    (∃ (q : Addr) (B : Pt), Stand p l e R s m sargs below meth c B.U B.locs B.cells B.slots ∧ PostX A a q B ∧
      Steps p.tables e below (doInvoke e (A.U.setTop g) [] mk a).1 ((B.U.setTop g).pushFrame (.throwing q)))
section Payer
variable {l : Launch} {R : Room} {p : Program} {e : Env} {below : List Frame} {s : State} {sargs : Array Value} {y : MethodName} {len W9 : Nat}
theorem vx_back {ws : List Cond} {rm : Room} {Pc : Array Value → State → Prop} {Qc : Array Value → State → Outcome → State → Prop} {XC : String → State → State → Prop} {mc ms : Nat} {free : Addr → Prop} {bytes : ByteArray} {maxL : Nat} {ret : Option FieldType}
    (hM : vx_Met l y ws rm Pc Qc XC mc ms free) (hblind : FrameBlind Pc) (hrc : rm.cells = mc) (hrs : rm.slots = ms)
    (hframes : rm.frames + 1 ≤ R.frames) (hlocals : W9 + (maxL + 11) + rm.locals ≤ R.locals)
    (hws : ∀ w ∈ ws, ∀ a' U, s.WarmedH U.vm → w.before a' U = true) (hcode : Cond.code y bytes maxL ret ∈ ws) (hinit : ∀ a' U, s.WarmedH U.vm → (Cond.initialized y.cls).before a' U = true) :
    vx_Back l R p e below s sargs y len W9 (PreOf R mc ms Pc) (PostOf Qc mc ms free) (vx_Post XC mc ms free) := by
  intro m meth c A g ig mk a X hg hsize hdg hW hn hp
  have h1 : (headSpec ws rm).pre.before a A.U = true := atoms_intro fun w hw => hws w hw _ _ X.warmed
  have h2 : (Cond.code y bytes maxL ret).before a A.U = true := hws _ hcode _ _ X.warmed
  have h3 : (Cond.initialized y.cls).before a A.U = true := hinit _ _ X.warmed
  have h4 : A.cells + (headSpec ws rm).room.cells ≤ R.cells := by rw [show (headSpec ws rm).room.cells = mc from hrc]; exact hp.1
  have h5 : A.slots + (headSpec ws rm).room.slots ≤ R.slots := by rw [show (headSpec ws rm).room.slots = ms from hrs]; exact hp.2.1
  have hPc : Pc a (A.U.calling g mk a) := hblind _ _ _ _ hp.2.2
  obtain ⟨U, Ls, c0, s0⟩ := A
  dsimp only [Pt.U, Pt.locs, Pt.cells, Pt.slots] at h1 h2 h3 h4 h5 X hn hPc ⊢
  obtain ⟨methY, cY, hmY, hcY, -, hlY, -, -, -, -⟩ := Cond.code_spec hn h2
  obtain ⟨kY, hkY, -⟩ := className_of_methodNamed hn
  have hinitY : kY.init = .initialized := Cond.initialized_spec (findClass_of_methodNamed hn) hkY h3
  have h : At U g.method c below := by rw [hg]; exact X.here
  have hlocals9 : W9 + (maxL + 11) + (headSpec ws rm).room.locals ≤ R.locals := hlocals
  have happ : (headSpec ws rm).appliesLoose y e.platform (U.calling g mk a) = true :=
    Spec.appliesLoose_calling (g := g) h hdg hn hkY hinitY
      (X.room_calling (g := g) (R' := (headSpec ws rm).room) hsize hmY hcY hframes (by rw [hlY]; omega) h4 h5) h1
  obtain ⟨mid, hmid⟩ := h.above
  have hfr : (U.setTop g).frames = (.java g :: mid) ++ below := by rw [State.frames_setTop' g h.top, hmid]; rfl
  obtain ⟨o, s₂, hsteps, -, hend, hq⟩ := Steps.callFree hM p X.admits X.cas X.clock (acts := []) hfr happ hPc trivial
  have hq' : vx_Q Qc XC mc ms free a (U.calling g mk a) o s₂ := hq
  rw [State.frames_setTop' g h.top] at hend
  obtain ⟨g₀, hg0⟩ := Option.isSome_iff_exists.mp h.top
  obtain ⟨r, hr⟩ := State.topJava?_eq_some.mp hg0
  have hr' : (({ U with heap := s₂.heap, slotsUsed := s₂.slotsUsed } : State).setVm s₂.vm).frames = .java g₀ :: r := hr
  rcases hq' with ⟨hqc, L, hfe, hL⟩ | ⟨q, rfl, E, ce, L, hx, hce, hcv, hcl, hW₂, hsm, hL⟩
  · obtain ⟨⟨v, rfl⟩, hW₂, e2, q2, q3, q4, q5, q6⟩ := id hfe
    have e3 : s₂ = ({ (U.calling g mk a).setFrames s₂.frames with heap := s₂.heap, slotsUsed := s₂.slotsUsed } : State).setVm s₂.vm := by
      have : s₂ = ({ s₂ with vm := (U.calling g mk a).vm } : State).setVm s₂.vm := rfl
      rw [e2] at this
      exact this
    obtain ⟨c₂, i₂, len₂, hc₂, hd₂, hf₂⟩ := hend
    have hW' : U.WarmedH s₂.vm := hW₂
    have hcc : c₂ = c := by
      have h1 : s₂.code? g.method = U.code? g.method := by
        rw [State.code?_eq, State.code?_eq, hW'.alike.method?]
      exact Option.some.inj (hc₂.symm.trans (h1.trans h.code))
    subst hcc
    have hlen : len₂ = len := by rw [hdg] at hd₂; cases hd₂; rfl
    subst hlen
    have hs₂ : s₂ = (({ U with heap := s₂.heap, slotsUsed := s₂.slotsUsed } : State).setVm s₂.vm).setTop { g with pc := g.pc + len₂, stack := v.toList ++ g.stack } := by
      refine e3.trans ?_
      rw [hf₂, State.calling_eq h.top, State.setFrames_setFrames, State.setTop_of_frames _ hr', hr]
      rfl
    have hsame : U.sameButNew ({ U with heap := s₂.heap, slotsUsed := s₂.slotsUsed } : State) L mc ms := by
      refine ⟨?_, q2, q3, q4, q5, q6⟩
      obtain ⟨t, ht, -⟩ := State.frames_cons hr
      show ({ U with heap := s₂.heap, slotsUsed := s₂.slotsUsed } : State) = { U.setFrames U.frames with heap := s₂.heap, slotsUsed := s₂.slotsUsed }
      rw [State.setFrames_self ht]
    subst hg
    refine Or.inl ⟨v, ⟨(({ U with heap := s₂.heap, slotsUsed := s₂.slotsUsed } : State).setVm s₂.vm), Ls ++ L, c0 + mc, s0 + ms⟩,
      ⟨X.admits, X.cas, X.clock, X.frames, X.room, X.hears, X.method, X.code, (X.here.setHeapUsed s₂.heap s₂.slotsUsed).setVm hW'.alike, X.tail, State.WarmedH.trans X.warmed hW', X.limits, X.bytes, X.same.trans (hsame.setVm s.vm)⟩,
      ⟨g, mk, s₂, L, rfl, rfl, hqc, rfl, hL, rfl, rfl⟩, ?_⟩
    show Steps p.tables e below _ ((({ U with heap := s₂.heap, slotsUsed := s₂.slotsUsed } : State).setVm s₂.vm).setTop { g with pc := g.pc + len₂, stack := v.toList ++ g.stack })
    rw [← hs₂]
    exact hsteps
  · obtain ⟨e2, q2, q3, q4, q5, q6⟩ := id hsm
    have e3 : s₂ = ({ (U.calling g mk a).setFrames s₂.frames with heap := s₂.heap, slotsUsed := s₂.slotsUsed } : State).setVm s₂.vm := by
      have : s₂ = ({ s₂ with vm := (U.calling g mk a).vm } : State).setVm s₂.vm := rfl
      rw [e2] at this
      exact this
    have hf₂ : s₂.frames = .throwing q :: .java g :: U.frames.tail := hend
    have hW' : U.WarmedH s₂.vm := hW₂
    have hs₂ : s₂ = ((({ U with heap := s₂.heap, slotsUsed := s₂.slotsUsed } : State).setVm s₂.vm).setTop g).pushFrame (.throwing q) := by
      refine e3.trans ?_
      rw [hf₂, State.calling_eq h.top, State.setFrames_setFrames, State.pushFrame, State.frames_setTop _ hr', State.setTop_of_frames _ hr', State.setFrames_setFrames, hr]
      rfl
    have hsame : U.sameButNew ({ U with heap := s₂.heap, slotsUsed := s₂.slotsUsed } : State) L mc ms := by
      refine ⟨?_, q2, q3, q4, q5, q6⟩
      obtain ⟨t, ht, -⟩ := State.frames_cons hr
      show ({ U with heap := s₂.heap, slotsUsed := s₂.slotsUsed } : State) = { U.setFrames U.frames with heap := s₂.heap, slotsUsed := s₂.slotsUsed }
      rw [State.setFrames_self ht]
    subst hg
    refine Or.inr ⟨q, ⟨(({ U with heap := s₂.heap, slotsUsed := s₂.slotsUsed } : State).setVm s₂.vm), Ls ++ L, c0 + mc, s0 + ms⟩,
      ⟨X.admits, X.cas, X.clock, X.frames, X.room, X.hears, X.method, X.code, (X.here.setHeapUsed s₂.heap s₂.slotsUsed).setVm hW'.alike, X.tail, State.WarmedH.trans X.warmed hW', X.limits, X.bytes, X.same.trans (hsame.setVm s.vm)⟩,
      ⟨g, mk, s₂, L, E, ce, rfl, rfl, hx, hce, hcv, hcl, rfl, hL, rfl, rfl⟩, ?_⟩
    show Steps p.tables e below _ (((({ U with heap := s₂.heap, slotsUsed := s₂.slotsUsed } : State).setVm s₂.vm).setTop g).pushFrame (.throwing q))
    rw [← hs₂]
    exact hsteps
end Payer
section Calls
variable {p : Program} {l : Launch} {e : Env} {R : Room} {s : State} {m : MethodId} {args : Array Value} {below : List Frame} {meth : Method} {c : Code} {T : State} {locs : List Loc} {cells slots : Nat}
theorem vx_callV (X : Stand p l e R s m args below meth c T locs cells slots) (hexec : p.tables.exec = Jvm.exec) {own C : String} {index : Nat} {y : MethodName} {bytes : ByteArray} {maxL : Nat} {ret : Option FieldType}
    (hown : s.vm.findClass own = some m.cls) (hlink : (Cond.methodLink own index y).before args s = true) (hinst : (Cond.instanceMethod y).before args s = true) (hsel : (Cond.selects C y y).before args s = true)
    (hcode : (Cond.code y bytes maxL ret).before args s = true) (hy : y.cls ≠ "java/lang/invoke/MethodHandle" ∧ y.cls ≠ "java/lang/invoke/VarHandle")
    {W9 : Nat} {Pre : Pt → Array Value → Prop} {Post : Pt → Array Value → Option Value → Pt → Prop} {PostX : Pt → Array Value → Addr → Pt → Prop} (hK : vx_Back l R p e below s args y 3 W9 Pre Post PostX)
    {b : Addr} {cellB : Cell} (hcell : T.heap[b]? = some cellB) (hobj : cellB.vm.isStatics = false) (hcls : s.vm.findClass C = some cellB.cls)
    {g : JFrame} (hg : g.method = m) (hsize : g.locals.size = c.maxLocals) {argsL rest : List Value} (hlen : ∀ sig, parseMethodDescriptor y.desc = some sig → argsL.length = sig.parameters.length)
    (hstack : g.stack = argsL.reverse ++ .ref b :: rest) (hW : 2 * g.monitorRoom + (rest.map fun v => v.category).sum ≤ W9) (hdg : decode c.code g.pc = .ok (.invokevirtual index, 3))
    (hpre : ∀ vm₁, s.WarmedH vm₁ → Pre ⟨T.setVm vm₁, locs, cells, slots⟩ (Value.ref b :: argsL).toArray) :
    (∃ (v : Option Value) (vm₁ : Vm) (B : Pt), s.WarmedH vm₁ ∧ Stand p l e R s m args below meth c B.U B.locs B.cells B.slots ∧ Post ⟨T.setVm vm₁, locs, cells, slots⟩ (Value.ref b :: argsL).toArray v B ∧
      ∀ target, Steps p.tables e below (B.U.setTop { g with pc := g.pc + 3, stack := v.toList ++ rest }) target → Steps p.tables e below (T.setTop g) target) ∨
    (∃ (q : Addr) (vm₁ : Vm) (B : Pt), s.WarmedH vm₁ ∧ Stand p l e R s m args below meth c B.U B.locs B.cells B.slots ∧ PostX ⟨T.setVm vm₁, locs, cells, slots⟩ (Value.ref b :: argsL).toArray q B ∧
      Steps p.tables e below (T.setTop g) ((B.U.setTop { g with stack := rest }).pushFrame (.throwing q))) := by
  obtain ⟨mk, methM, hnamed, hmethM, hstM, habM⟩ := Cond.instanceMethod_spec hinst
  obtain ⟨methM', cM, hmethM', -, -, -, -, -, -, hsigM⟩ := Cond.code_spec hnamed hcode
  cases hmethM.symm.trans hmethM'
  obtain ⟨c2, r2, m2, q1, q2, q3, q4, kP, hkP, hkPi⟩ := Cond.selects_spec hsel
  cases hcls.symm.trans q1
  cases (State.methodFound?_of_named hnamed hy).symm.trans q2
  cases hnamed.symm.trans q3
  have hselP : selectMethod e.platform s.vm cellB.cls mk = .method mk := by rw [Launch.admits_selectMethod X.admits]; exact q4
  obtain ⟨vm₁, X₁, hstep₁⟩ := X.invokevirtual hexec hown hlink hnamed hmethM hstM hkP hkPi hy (a := b) (cell := cellB) hcell
    (fun z h => by rw [h] at hobj; cases hobj) hselP hmethM habM hkP hkPi (g := g) hg (argsL := argsL) (rest := rest) (hlen _ hsigM) hstack hdg
  rcases hK m meth c ⟨T.setVm vm₁, locs, cells, slots⟩ { g with stack := rest } (.invokevirtual index) mk (Value.ref b :: argsL).toArray X₁ hg hsize hdg hW (X₁.named hnamed) (hpre vm₁ X₁.warmed) with ⟨v, B, X', hpost, hsteps⟩ | ⟨q, B, X', hpost, hsteps⟩
  · exact Or.inl ⟨v, vm₁, B, X₁.warmed, X', hpost, fun target h => hstep₁ _ fun acts => by rw [doInvoke_state]; exact hsteps.trans h⟩
  · exact Or.inr ⟨q, vm₁, B, X₁.warmed, X', hpost, hstep₁ _ fun acts => by rw [doInvoke_state]; exact hsteps⟩
theorem vx_callS (X : Stand p l e R s m args below meth c T locs cells slots) (hexec : p.tables.exec = Jvm.exec) {own : String} {index : Nat} {y : MethodName} {bytes : ByteArray} {maxL : Nat} {ret : Option FieldType}
    (hown : s.vm.findClass own = some m.cls) (hlink : (Cond.methodLink own index y).before args s = true) (hstat : (Cond.static y).before args s = true) (hinit : (Cond.initialized y.cls).before args s = true)
    (hcode : (Cond.code y bytes maxL ret).before args s = true) (hy : y.cls ≠ "java/lang/invoke/MethodHandle" ∧ y.cls ≠ "java/lang/invoke/VarHandle")
    {W9 : Nat} {Pre : Pt → Array Value → Prop} {Post : Pt → Array Value → Option Value → Pt → Prop} {PostX : Pt → Array Value → Addr → Pt → Prop} (hK : vx_Back l R p e below s args y 3 W9 Pre Post PostX)
    {g : JFrame} (hg : g.method = m) (hsize : g.locals.size = c.maxLocals) {argsL rest : List Value} (hlen : ∀ sig, parseMethodDescriptor y.desc = some sig → argsL.length = sig.parameters.length)
    (hstack : g.stack = argsL.reverse ++ rest) (hW : 2 * g.monitorRoom + (rest.map fun v => v.category).sum ≤ W9) (hdg : decode c.code g.pc = .ok (.invokestatic index, 3))
    (hpre : ∀ vm₁, s.WarmedH vm₁ → Pre ⟨T.setVm vm₁, locs, cells, slots⟩ argsL.toArray) :
    (∃ (v : Option Value) (vm₁ : Vm) (B : Pt), s.WarmedH vm₁ ∧ Stand p l e R s m args below meth c B.U B.locs B.cells B.slots ∧ Post ⟨T.setVm vm₁, locs, cells, slots⟩ argsL.toArray v B ∧
      ∀ target, Steps p.tables e below (B.U.setTop { g with pc := g.pc + 3, stack := v.toList ++ rest }) target → Steps p.tables e below (T.setTop g) target) ∨
    (∃ (q : Addr) (vm₁ : Vm) (B : Pt), s.WarmedH vm₁ ∧ Stand p l e R s m args below meth c B.U B.locs B.cells B.slots ∧ PostX ⟨T.setVm vm₁, locs, cells, slots⟩ argsL.toArray q B ∧
      Steps p.tables e below (T.setTop g) ((B.U.setTop { g with stack := rest }).pushFrame (.throwing q))) := by
  obtain ⟨mk, hnamed⟩ := Cond.code_named hcode
  obtain ⟨methM, cM, hmethM, -, -, -, -, -, -, hsigM⟩ := Cond.code_spec hnamed hcode
  have hstatic : methM.isStatic = true := Cond.static_spec hnamed hmethM hstat
  obtain ⟨kP, hkP, -⟩ := className_of_methodNamed hnamed
  have hinitP : kP.init = .initialized := Cond.initialized_spec (findClass_of_methodNamed hnamed) hkP hinit
  obtain ⟨vm₁, X₁, hstep₁⟩ := X.invokestatic hexec hown hlink hnamed hmethM hstatic hkP hinitP hy (g := g) hg (argsL := argsL) (rest := rest) (hlen _ hsigM) hstack hdg
  rcases hK m meth c ⟨T.setVm vm₁, locs, cells, slots⟩ { g with stack := rest } (.invokestatic index) mk argsL.toArray X₁ hg hsize hdg hW (X₁.named hnamed) (hpre vm₁ X₁.warmed) with ⟨v, B, X', hpost, hsteps⟩ | ⟨q, B, X', hpost, hsteps⟩
  · exact Or.inl ⟨v, vm₁, B, X₁.warmed, X', hpost, fun target h => hstep₁ _ fun acts => by rw [doInvoke_state]; exact hsteps.trans h⟩
  · exact Or.inr ⟨q, vm₁, B, X₁.warmed, X', hpost, hstep₁ _ fun acts => by rw [doInvoke_state]; exact hsteps⟩
end Calls
theorem vx_cls {s : State} {T : State} {vm₁ : Vm} {E : String} {k : ClassId} (hW : s.WarmedH vm₁) (h : (T.setVm vm₁).vm.findClass E = some k) : s.vm.findClass E = some k := by
  have h1 : vm₁.findClass E = some k := h
  rw [hW.alike.findClass] at h1
  exact h1
/-- the method's frame g, with q thrown over it -/
def vx_W (p : Program) (l : Launch) (e : Env) (R : Room) (s : State) (m : MethodId) (args : Array Value) (below : List Frame) (meth : Method) (c : Code) (H : Heap) (locs : List Loc) (cells slots : Nat) (Q : State → Prop) (g : JFrame) (q : Addr) : Prop :=
  ∀ T : State, T.heap = H → Stand p l e R s m args below meth c T locs cells slots → ∃ t, Steps p.tables e below ((T.setTop g).pushFrame (.throwing q)) t ∧ Q t
def vx_Run (p : Program) (l : Launch) (e : Env) (R : Room) (s : State) (m : MethodId) (args : Array Value) (below : List Frame) (meth : Method) (c : Code) (H : Heap) (locs : List Loc) (cells slots mc ms : Nat) (g : JFrame) (rest : List Value) (Qa : State → Outcome → State → Prop) (XC : String → State → State → Prop) (free : Addr → Prop) : Prop :=
  ∀ T : State, T.heap = H → Stand p l e R s m args below meth c T locs cells slots →
    (∃ (v : Option Value) (st₀ t T' : State) (L : List Loc), st₀.heap = H ∧ Stand p l e R s m args below meth c T' (locs ++ L) (cells + mc) (slots + ms) ∧ (∀ q ∈ L, free q.base) ∧ T'.heap = t.heap ∧ T'.vm = t.vm ∧ Qa st₀ (.returned v) t ∧
      Goes p e below T g T' { g with pc := g.pc + 3, stack := v.toList ++ rest }) ∨
    (∃ (q : Addr) (st₀ t T' : State) (L : List Loc) (E : String) (ce : Cell), st₀.heap = H ∧ Stand p l e R s m args below meth c T' (locs ++ L) (cells + mc) (slots + ms) ∧ (∀ z ∈ L, free z.base) ∧ T'.heap = t.heap ∧ T'.vm = t.vm ∧ XC E st₀ t ∧ t.heap[q]? = some ce ∧ ce.vm = .none ∧ s.vm.findClass E = some ce.cls ∧
      Steps p.tables e below (T.setTop g) ((T'.setTop { g with stack := rest }).pushFrame (.throwing q)))
def vx_X {S : Type} (px : S → Prop) (B : String → S → State → Prop) (A : Nat → Prop) : String → State → State → Prop := fun E st t => ∃ u : S, px u ∧ B E u t ∧ va_F A st t
section Runs
variable {p : Program} {l : Launch} {e : Env} {R : Room} {s : State} {m : MethodId} {args : Array Value} {below : List Frame} {meth : Method} {c : Code} {H : Heap} {locs : List Loc} {cells slots : Nat}
variable {y : MethodName} {bytes cc : ByteArray} {maxL nL mc ms n index : Nat} {ret : Option FieldType} {ws : List Cond} {rm : Room} {Pc : Array Value → State → Prop} {Qc : Array Value → State → Outcome → State → Prop} {XC : String → State → State → Prop} {free : Addr → Prop} {Ts : List Cond} {own C : String} {b : Addr} {As rest : List Value} {g : JFrame}
theorem vx_callBack (cb : CallB R s args own index y bytes maxL ret ws rm mc ms n) (hM : vx_Met l y ws rm Pc Qc XC mc ms free) (hbl : FrameBlind Pc) : vx_Back l R p e below s args y 3 8 (PreOf R mc ms Pc) (PostOf Qc mc ms free) (vx_Post XC mc ms free) := by
  obtain ⟨hrc, hrs, hfr, hlo, hws, hcw, -, hini, -⟩ := cb
  exact vx_back (bytes := bytes) (maxL := maxL) (ret := ret) hM hbl hrc hrs hfr hlo hws hcw (fun a' U hW => word_at hW (Or.inl (by first | rfl | simp [Cond.onTables, Cond.keeps, Cond.steady])) hini)
theorem vx_runV (S : CallFix p m c cc nL s args Ts own) (hM : vx_Met l y ws rm Pc Qc XC mc ms free) (cw : CallW R s args own C index y bytes maxL ret ws rm mc ms n) (hp : PreV s H C b Pc As)
    (hg : g.method = m) (hn : As.length = n) (hsize : g.locals.size = nL) (hstack : g.stack = As.reverse ++ .ref b :: rest) (hW : 2 * g.monitorRoom + (rest.map fun v => v.category).sum ≤ 8) (hdg : decode cc g.pc = .ok (.invokevirtual index, 3)) (hf : cells + mc ≤ R.cells ∧ slots + ms ≤ R.slots) :
    vx_Run p l e R s m args below meth c H locs cells slots mc ms g rest (Qc (Value.ref b :: As).toArray) XC free := by
  have hK : vx_Back l R p e below s args y 3 8 (PreOf R mc ms Pc) (PostOf Qc mc ms free) (vx_Post XC mc ms free) := vx_callBack cw.1 hM hp.1
  obtain ⟨⟨-, -, -, -, -, -, hcode, -, hy, hlen, hl⟩, hin, hse⟩ := cw
  obtain ⟨hx, hb, hml, ho, -⟩ := S
  obtain ⟨-, ⟨cellB, hcB, hoB, hclB⟩, hPc⟩ := hp
  intro T hT X
  rcases vx_callV X hx (C := C) (bytes := bytes) (maxL := maxL) (ret := ret) ho hl hin hse hcode hy hK (by rw [hT]; exact hcB) hoB hclB hg (hsize.trans hml.symm) (argsL := As) (rest := rest) (fun sig h => hn.trans (hlen sig h)) hstack hW (by rw [hb]; exact hdg)
    (fun vm₁ hW₁ => ⟨hf.1, hf.2, hPc (T.setVm vm₁) hT hW₁⟩) with ⟨v, vm₁, ⟨U', l2, c2, s2⟩, hW₁, X', ⟨g', mk, t, L, e1, e2, hq, h1, hL, h2, h3⟩, st⟩ | ⟨q, vm₁, ⟨U', l2, c2, s2⟩, hW₁, X', ⟨g', mk, t, L, E, ce, e1, e2, hq, hce, hcv, hcl, h1, hL, h2, h3⟩, st⟩
  · dsimp only [Pt.U, Pt.locs, Pt.cells, Pt.slots] at X' e1 e2 h1 h2 h3 st
    subst h1; subst h2; subst h3
    exact Or.inl ⟨v, (T.setVm vm₁).calling g' mk (Value.ref b :: As).toArray, t, U', L, hT, X', hL, e1, e2, hq, st⟩
  · dsimp only [Pt.U, Pt.locs, Pt.cells, Pt.slots] at X' e1 e2 h1 h2 h3 st hcl
    subst h1; subst h2; subst h3
    exact Or.inr ⟨q, (T.setVm vm₁).calling g' mk (Value.ref b :: As).toArray, t, U', L, E, ce, hT, X', hL, e1, e2, hq, hce, hcv, vx_cls hW₁ hcl, st⟩
theorem vx_runS (S : CallFix p m c cc nL s args Ts own) (hM : vx_Met l y ws rm Pc Qc XC mc ms free) (cw : CallB R s args own index y bytes maxL ret ws rm mc ms n ∧ (Cond.static y).before args s = true) (hp : PreS s H Pc As)
    (hg : g.method = m) (hn : As.length = n) (hsize : g.locals.size = nL) (hstack : g.stack = As.reverse ++ rest) (hW : 2 * g.monitorRoom + (rest.map fun v => v.category).sum ≤ 8) (hdg : decode cc g.pc = .ok (.invokestatic index, 3)) (hf : cells + mc ≤ R.cells ∧ slots + ms ≤ R.slots) :
    vx_Run p l e R s m args below meth c H locs cells slots mc ms g rest (Qc As.toArray) XC free := by
  have hK : vx_Back l R p e below s args y 3 8 (PreOf R mc ms Pc) (PostOf Qc mc ms free) (vx_Post XC mc ms free) := vx_callBack cw.1 hM hp.1
  obtain ⟨⟨-, -, -, -, -, -, hcode, hini, hy, hlen, hl⟩, hstt⟩ := cw
  obtain ⟨hx, hb, hml, ho, -⟩ := S
  intro T hT X
  rcases vx_callS X hx (bytes := bytes) (maxL := maxL) (ret := ret) ho hl hstt hini hcode hy hK hg (hsize.trans hml.symm) (argsL := As) (rest := rest) (fun sig h => hn.trans (hlen sig h)) hstack hW (by rw [hb]; exact hdg)
    (fun vm₁ hW₁ => ⟨hf.1, hf.2, hp.2 (T.setVm vm₁) hT hW₁⟩) with ⟨v, vm₁, ⟨U', l2, c2, s2⟩, hW₁, X', ⟨g', mk, t, L, e1, e2, hq, h1, hL, h2, h3⟩, st⟩ | ⟨q, vm₁, ⟨U', l2, c2, s2⟩, hW₁, X', ⟨g', mk, t, L, E, ce, e1, e2, hq, hce, hcv, hcl, h1, hL, h2, h3⟩, st⟩
  · dsimp only [Pt.U, Pt.locs, Pt.cells, Pt.slots] at X' e1 e2 h1 h2 h3 st
    subst h1; subst h2; subst h3
    exact Or.inl ⟨v, (T.setVm vm₁).calling g' mk As.toArray, t, U', L, hT, X', hL, e1, e2, hq, st⟩
  · dsimp only [Pt.U, Pt.locs, Pt.cells, Pt.slots] at X' e1 e2 h1 h2 h3 st hcl
    subst h1; subst h2; subst h3
    exact Or.inr ⟨q, (T.setVm vm₁).calling g' mk As.toArray, t, U', L, E, ce, hT, X', hL, e1, e2, hq, hce, hcv, vx_cls hW₁ hcl, st⟩
end Runs
section Rows
variable {p : Program} {l : Launch} {e : Env} {R : Room} {s : State} {m : MethodId} {args : Array Value} {below : List Frame} {meth : Method} {c : Code} {H : Heap} {locs : List Loc} {cells slots : Nat} {Q : State → Prop}
variable {mc ms : Nat} {free : Addr → Prop} {A0 A1 : Nat → Prop} {H0 : Heap} {a : Array Value} {pc : Nat} {ls : Array Slot} {st0 rest : List Value}
theorem vx_keep {st₀ t T' : State} {L : List Loc} (h0 : st₀.heap = H) (e1 : T'.heap = t.heap) (hS : va_S A0 H0 H locs) (hA : ∀ q, q < H.size → A1 q → A0 q) (hf : ∀ q, free q → A0 q) (hL : ∀ q ∈ L, free q.base) (hF : va_F A1 st₀ t) :
    H.size ≤ T'.heap.size ∧ (∀ q : Nat, q < H.size → ¬ A1 q → T'.heap[q]? = H[q]?) ∧ va_S A0 H0 T'.heap (locs ++ L) := by
  obtain ⟨hz, hk⟩ := hF
  rw [h0] at hz hk
  exact ⟨by rw [e1]; exact hz, fun q h1 h2 => by rw [e1]; exact hk q h1 h2,
    ⟨Nat.le_trans hS.1 (by rw [e1]; exact hz), fun q h1 h2 => by rw [e1, hk q (Nat.lt_of_lt_of_le h1 hS.1) (fun z => h2 (hA q (Nat.lt_of_lt_of_le h1 hS.1) z))]; exact hS.2.1 q h1 h2, fun q hq => by
      rcases List.mem_append.mp hq with h | h
      · exact hS.2.2 q h
      · exact hf _ (hL q h)⟩⟩
theorem vx_calli {S SX : Type} {post : Int32 → S → Prop} {px : SX → Prop} {B : S → State → Prop} {BX : String → SX → State → Prop} {AX : Nat → Prop} (hr : vx_Run p l e R s m args below meth c H locs cells slots mc ms (F0 m pc ls st0) rest (va_Qi post B A1 a) (vx_X px BX AX) free) (hS : va_S A0 H0 H locs) (hA : ∀ q, q < H.size → A1 q → A0 q) (hf : ∀ q, free q → A0 q) (hAX : ∀ q, q < H.size → AX q → A0 q)
    (kx : ∀ (E : String) (ce : Cell) (q9 : Addr) (u : SX) (t : State) (H1 : Heap) (locs1 : List Loc), t.heap = H1 → s.vm.Alike t.vm → px u → BX E u t → H.size ≤ H1.size → (∀ q : Nat, q < H.size → ¬ AX q → H1[q]? = H[q]?) → va_S A0 H0 H1 locs1 → H1[q9]? = some ce → ce.vm = .none → s.vm.findClass E = some ce.cls → vx_W p l e R s m args below meth c H1 locs1 (cells + mc) (slots + ms) Q (F0 m pc ls rest) q9)
    (kk : ∀ (r : Int32) (u : S) (t : State) (H1 : Heap) (locs1 : List Loc), t.heap = H1 → s.vm.Alike t.vm → post r u → B u t → H.size ≤ H1.size → (∀ q : Nat, q < H.size → ¬ A1 q → H1[q]? = H[q]?) → va_S A0 H0 H1 locs1 → W p l e R s m args below meth c H1 locs1 (cells + mc) (slots + ms) Q (F0 m (pc + 3) ls (.int r :: rest))) : W p l e R s m args below meth c H locs cells slots Q (F0 m pc ls st0) := by
  intro T hT X
  rcases hr T hT X with ⟨v, st₀, t, T', L, h0, X', hL, e1, e2, ⟨⟨r, u, hv, hp, hb⟩, hF⟩, st⟩ | ⟨q, st₀, t, T', L, E, ce, h0, X', hL, e1, e2, ⟨u, hp, hb, hF⟩, hce, hcv, hcl, st⟩
  · cases hv
    obtain ⟨k1, k2, k3⟩ := vx_keep h0 e1 hS hA hf hL hF
    obtain ⟨t2, a1, b1⟩ := kk r u t T'.heap (locs ++ L) e1.symm (by rw [← e2]; exact X'.warmed.alike) hp hb k1 k2 k3 T' rfl X'
    exact ⟨t2, st t2 a1, b1⟩
  · obtain ⟨k1, k2, k3⟩ := vx_keep h0 e1 hS hAX hf hL hF
    obtain ⟨t2, a1, b1⟩ := kx E ce q u t T'.heap (locs ++ L) e1.symm (by rw [← e2]; exact X'.warmed.alike) hp hb k1 k2 k3 (by rw [e1]; exact hce) hcv hcl T' rfl X'
    exact ⟨t2, st.trans a1, b1⟩
theorem vx_calll {S SX : Type} {post : Int64 → S → Prop} {px : SX → Prop} {B : S → State → Prop} {BX : String → SX → State → Prop} {AX : Nat → Prop} (hr : vx_Run p l e R s m args below meth c H locs cells slots mc ms (F0 m pc ls st0) rest (va_Ql post B A1 a) (vx_X px BX AX) free) (hS : va_S A0 H0 H locs) (hA : ∀ q, q < H.size → A1 q → A0 q) (hf : ∀ q, free q → A0 q) (hAX : ∀ q, q < H.size → AX q → A0 q)
    (kx : ∀ (E : String) (ce : Cell) (q9 : Addr) (u : SX) (t : State) (H1 : Heap) (locs1 : List Loc), t.heap = H1 → s.vm.Alike t.vm → px u → BX E u t → H.size ≤ H1.size → (∀ q : Nat, q < H.size → ¬ AX q → H1[q]? = H[q]?) → va_S A0 H0 H1 locs1 → H1[q9]? = some ce → ce.vm = .none → s.vm.findClass E = some ce.cls → vx_W p l e R s m args below meth c H1 locs1 (cells + mc) (slots + ms) Q (F0 m pc ls rest) q9)
    (kk : ∀ (r : Int64) (u : S) (t : State) (H1 : Heap) (locs1 : List Loc), t.heap = H1 → s.vm.Alike t.vm → post r u → B u t → H.size ≤ H1.size → (∀ q : Nat, q < H.size → ¬ A1 q → H1[q]? = H[q]?) → va_S A0 H0 H1 locs1 → W p l e R s m args below meth c H1 locs1 (cells + mc) (slots + ms) Q (F0 m (pc + 3) ls (.long r :: rest))) : W p l e R s m args below meth c H locs cells slots Q (F0 m pc ls st0) := by
  intro T hT X
  rcases hr T hT X with ⟨v, st₀, t, T', L, h0, X', hL, e1, e2, ⟨⟨r, u, hv, hp, hb⟩, hF⟩, st⟩ | ⟨q, st₀, t, T', L, E, ce, h0, X', hL, e1, e2, ⟨u, hp, hb, hF⟩, hce, hcv, hcl, st⟩
  · cases hv
    obtain ⟨k1, k2, k3⟩ := vx_keep h0 e1 hS hA hf hL hF
    obtain ⟨t2, a1, b1⟩ := kk r u t T'.heap (locs ++ L) e1.symm (by rw [← e2]; exact X'.warmed.alike) hp hb k1 k2 k3 T' rfl X'
    exact ⟨t2, st t2 a1, b1⟩
  · obtain ⟨k1, k2, k3⟩ := vx_keep h0 e1 hS hAX hf hL hF
    obtain ⟨t2, a1, b1⟩ := kx E ce q u t T'.heap (locs ++ L) e1.symm (by rw [← e2]; exact X'.warmed.alike) hp hb k1 k2 k3 (by rw [e1]; exact hce) hcv hcl T' rfl X'
    exact ⟨t2, st.trans a1, b1⟩
theorem vx_callf {S SX : Type} {post : UInt32 → S → Prop} {px : SX → Prop} {B : S → State → Prop} {BX : String → SX → State → Prop} {AX : Nat → Prop} (hr : vx_Run p l e R s m args below meth c H locs cells slots mc ms (F0 m pc ls st0) rest (va_Qf post B A1 a) (vx_X px BX AX) free) (hS : va_S A0 H0 H locs) (hA : ∀ q, q < H.size → A1 q → A0 q) (hf : ∀ q, free q → A0 q) (hAX : ∀ q, q < H.size → AX q → A0 q)
    (kx : ∀ (E : String) (ce : Cell) (q9 : Addr) (u : SX) (t : State) (H1 : Heap) (locs1 : List Loc), t.heap = H1 → s.vm.Alike t.vm → px u → BX E u t → H.size ≤ H1.size → (∀ q : Nat, q < H.size → ¬ AX q → H1[q]? = H[q]?) → va_S A0 H0 H1 locs1 → H1[q9]? = some ce → ce.vm = .none → s.vm.findClass E = some ce.cls → vx_W p l e R s m args below meth c H1 locs1 (cells + mc) (slots + ms) Q (F0 m pc ls rest) q9)
    (kk : ∀ (r : UInt32) (u : S) (t : State) (H1 : Heap) (locs1 : List Loc), t.heap = H1 → s.vm.Alike t.vm → post r u → B u t → H.size ≤ H1.size → (∀ q : Nat, q < H.size → ¬ A1 q → H1[q]? = H[q]?) → va_S A0 H0 H1 locs1 → W p l e R s m args below meth c H1 locs1 (cells + mc) (slots + ms) Q (F0 m (pc + 3) ls (.float r :: rest))) : W p l e R s m args below meth c H locs cells slots Q (F0 m pc ls st0) := by
  intro T hT X
  rcases hr T hT X with ⟨v, st₀, t, T', L, h0, X', hL, e1, e2, ⟨⟨r, u, hv, hp, hb⟩, hF⟩, st⟩ | ⟨q, st₀, t, T', L, E, ce, h0, X', hL, e1, e2, ⟨u, hp, hb, hF⟩, hce, hcv, hcl, st⟩
  · cases hv
    obtain ⟨k1, k2, k3⟩ := vx_keep h0 e1 hS hA hf hL hF
    obtain ⟨t2, a1, b1⟩ := kk r u t T'.heap (locs ++ L) e1.symm (by rw [← e2]; exact X'.warmed.alike) hp hb k1 k2 k3 T' rfl X'
    exact ⟨t2, st t2 a1, b1⟩
  · obtain ⟨k1, k2, k3⟩ := vx_keep h0 e1 hS hAX hf hL hF
    obtain ⟨t2, a1, b1⟩ := kx E ce q u t T'.heap (locs ++ L) e1.symm (by rw [← e2]; exact X'.warmed.alike) hp hb k1 k2 k3 (by rw [e1]; exact hce) hcv hcl T' rfl X'
    exact ⟨t2, st.trans a1, b1⟩
theorem vx_calld {S SX : Type} {post : UInt64 → S → Prop} {px : SX → Prop} {B : S → State → Prop} {BX : String → SX → State → Prop} {AX : Nat → Prop} (hr : vx_Run p l e R s m args below meth c H locs cells slots mc ms (F0 m pc ls st0) rest (va_Qd post B A1 a) (vx_X px BX AX) free) (hS : va_S A0 H0 H locs) (hA : ∀ q, q < H.size → A1 q → A0 q) (hf : ∀ q, free q → A0 q) (hAX : ∀ q, q < H.size → AX q → A0 q)
    (kx : ∀ (E : String) (ce : Cell) (q9 : Addr) (u : SX) (t : State) (H1 : Heap) (locs1 : List Loc), t.heap = H1 → s.vm.Alike t.vm → px u → BX E u t → H.size ≤ H1.size → (∀ q : Nat, q < H.size → ¬ AX q → H1[q]? = H[q]?) → va_S A0 H0 H1 locs1 → H1[q9]? = some ce → ce.vm = .none → s.vm.findClass E = some ce.cls → vx_W p l e R s m args below meth c H1 locs1 (cells + mc) (slots + ms) Q (F0 m pc ls rest) q9)
    (kk : ∀ (r : UInt64) (u : S) (t : State) (H1 : Heap) (locs1 : List Loc), t.heap = H1 → s.vm.Alike t.vm → post r u → B u t → H.size ≤ H1.size → (∀ q : Nat, q < H.size → ¬ A1 q → H1[q]? = H[q]?) → va_S A0 H0 H1 locs1 → W p l e R s m args below meth c H1 locs1 (cells + mc) (slots + ms) Q (F0 m (pc + 3) ls (.double r :: rest))) : W p l e R s m args below meth c H locs cells slots Q (F0 m pc ls st0) := by
  intro T hT X
  rcases hr T hT X with ⟨v, st₀, t, T', L, h0, X', hL, e1, e2, ⟨⟨r, u, hv, hp, hb⟩, hF⟩, st⟩ | ⟨q, st₀, t, T', L, E, ce, h0, X', hL, e1, e2, ⟨u, hp, hb, hF⟩, hce, hcv, hcl, st⟩
  · cases hv
    obtain ⟨k1, k2, k3⟩ := vx_keep h0 e1 hS hA hf hL hF
    obtain ⟨t2, a1, b1⟩ := kk r u t T'.heap (locs ++ L) e1.symm (by rw [← e2]; exact X'.warmed.alike) hp hb k1 k2 k3 T' rfl X'
    exact ⟨t2, st t2 a1, b1⟩
  · obtain ⟨k1, k2, k3⟩ := vx_keep h0 e1 hS hAX hf hL hF
    obtain ⟨t2, a1, b1⟩ := kx E ce q u t T'.heap (locs ++ L) e1.symm (by rw [← e2]; exact X'.warmed.alike) hp hb k1 k2 k3 (by rw [e1]; exact hce) hcv hcl T' rfl X'
    exact ⟨t2, st.trans a1, b1⟩
theorem vx_callv {S SX : Type} {post : S → Prop} {px : SX → Prop} {B : S → State → Prop} {BX : String → SX → State → Prop} {AX : Nat → Prop} (hr : vx_Run p l e R s m args below meth c H locs cells slots mc ms (F0 m pc ls st0) rest (va_Qv post B A1 a) (vx_X px BX AX) free) (hS : va_S A0 H0 H locs) (hA : ∀ q, q < H.size → A1 q → A0 q) (hf : ∀ q, free q → A0 q) (hAX : ∀ q, q < H.size → AX q → A0 q)
    (kx : ∀ (E : String) (ce : Cell) (q9 : Addr) (u : SX) (t : State) (H1 : Heap) (locs1 : List Loc), t.heap = H1 → s.vm.Alike t.vm → px u → BX E u t → H.size ≤ H1.size → (∀ q : Nat, q < H.size → ¬ AX q → H1[q]? = H[q]?) → va_S A0 H0 H1 locs1 → H1[q9]? = some ce → ce.vm = .none → s.vm.findClass E = some ce.cls → vx_W p l e R s m args below meth c H1 locs1 (cells + mc) (slots + ms) Q (F0 m pc ls rest) q9)
    (kk : ∀ (u : S) (t : State) (H1 : Heap) (locs1 : List Loc), t.heap = H1 → s.vm.Alike t.vm → post u → B u t → H.size ≤ H1.size → (∀ q : Nat, q < H.size → ¬ A1 q → H1[q]? = H[q]?) → va_S A0 H0 H1 locs1 → W p l e R s m args below meth c H1 locs1 (cells + mc) (slots + ms) Q (F0 m (pc + 3) ls (rest))) : W p l e R s m args below meth c H locs cells slots Q (F0 m pc ls st0) := by
  intro T hT X
  rcases hr T hT X with ⟨v, st₀, t, T', L, h0, X', hL, e1, e2, ⟨⟨u, hv, hp, hb⟩, hF⟩, st⟩ | ⟨q, st₀, t, T', L, E, ce, h0, X', hL, e1, e2, ⟨u, hp, hb, hF⟩, hce, hcv, hcl, st⟩
  · cases hv
    obtain ⟨k1, k2, k3⟩ := vx_keep h0 e1 hS hA hf hL hF
    obtain ⟨t2, a1, b1⟩ := kk u t T'.heap (locs ++ L) e1.symm (by rw [← e2]; exact X'.warmed.alike) hp hb k1 k2 k3 T' rfl X'
    exact ⟨t2, st t2 a1, b1⟩
  · obtain ⟨k1, k2, k3⟩ := vx_keep h0 e1 hS hAX hf hL hF
    obtain ⟨t2, a1, b1⟩ := kx E ce q u t T'.heap (locs ++ L) e1.symm (by rw [← e2]; exact X'.warmed.alike) hp hb k1 k2 k3 (by rw [e1]; exact hce) hcv hcl T' rfl X'
    exact ⟨t2, st.trans a1, b1⟩
/-- caught by the row x of this method's table; the rows ahead don't take it -/
theorem vx_catch {own name : String} {E : String} {ce : Cell} {q : Addr} (hown : s.vm.findClass own = some m.cls) (pre : List ExceptionTableEntry) (x : ExceptionTableEntry) (suf : List ExceptionTableEntry) (hsplit : c.exceptionTable.toList = pre ++ x :: suf)
    (hpass : ∀ z ∈ pre, covers z pc = false ∨ (z.catchType ≠ 0 ∧ ∃ nm : String, (Cond.classLink own z.catchType nm).before args s = true ∧ va_Nc E nm s)) (hx : covers x pc = true) (h0 : x.catchType ≠ 0)
    (hlink : (Cond.classLink own x.catchType name).before args s = true) (hcast : (Cond.castable E name).before args s = true) (hcell : H[q]? = some ce) (hv : ce.vm = .none) (hcl : s.vm.findClass E = some ce.cls)
    (kk : W p l e R s m args below meth c H locs cells slots Q (F0 m x.handlerPc ls [.ref q])) : vx_W p l e R s m args below meth c H locs cells slots Q (F0 m pc ls rest) q := by
  intro T hT X
  have hpl : e.platform.magicAccessors = ({} : Platform).magicAccessors := by rw [X.admits.platform]
  obtain ⟨c3, c4, hc3, hc4, hasg⟩ := Cond.castable_spec hcast
  cases Option.some.inj (hc3.symm.trans hcl)
  obtain ⟨c5, hc5, hcl5⟩ := Cond.classLink_spec hown hlink e.platform hpl
  cases Option.some.inj (hc4.symm.trans hc5)
  obtain ⟨vm', X', st⟩ := X.thenCaughtThrough q (g := F0 m pc ls rest) rfl (Steps.refl _) (by rw [hT]; exact hcell) (by rw [hv]; rfl) (by obtain ⟨k9, h9, -⟩ := Vm.findClass_spec hcl; exact ⟨k9, h9⟩) pre x suf hsplit
    (fun z hz => by
      rcases hpass z hz with h | ⟨hz0, nm, hl1, hn1⟩
      · exact Or.inl h
      · obtain ⟨c6, hc6, hcl6⟩ := Cond.classLink_spec hown hl1 e.platform hpl
        obtain ⟨a8, b8, h1, h2, h3⟩ := hn1
        cases Option.some.inj (h1.symm.trans hcl)
        cases Option.some.inj (h2.symm.trans hc6)
        exact Or.inr ⟨hz0, _, hcl6, h3⟩) hx (Or.inr ⟨h0, c4, hcl5, hasg⟩)
  obtain ⟨t, a1, b1⟩ := kk (T.setVm vm') hT X'
  exact ⟨t, st.trans a1, b1⟩
end Rows
section Ends
variable {p : Program} {l : Launch} {e : Env} {R : Room} {s : State} {m : MethodId} {args : Array Value} {below : List Frame} {meth : Method} {c : Code} {H : Heap} {locs : List Loc} {cells slots : Nat} {Q : State → Prop}
variable {mc ms : Nat} {free : Addr → Prop} {A0 A1 : Nat → Prop} {H0 : Heap} {a : Array Value} {ls : Array Slot} {st0 rest : List Value}
variable {Qc : Array Value → State → Outcome → State → Prop} {XC : String → State → State → Prop}
/-- what a body that may throw owes at its end -/
def vx_MQ (below : List Frame) (Qc : Array Value → State → Outcome → State → Prop) (XC : String → State → State → Prop) (a : Array Value) (s : State) (mc ms : Nat) (free : Addr → Prop) : State → Prop := fun t =>
  ∃ o, t.status = .running ∧ Ended t below o ∧ vx_Q Qc XC mc ms free a s o t
theorem vx_ret {g : JFrame} {mc ms : Nat} (k : W p l e R s m args below meth c H locs cells slots (MQ below Qc args s mc ms free) g) : W p l e R s m args below meth c H locs cells slots (vx_MQ below Qc XC args s mc ms free) g := by
  intro T hT X
  obtain ⟨t, a1, o, b1, b2, b3, b4⟩ := k T hT X
  exact ⟨t, a1, o, b1, b2, Or.inl ⟨b3, b4⟩⟩
/-- not caught here: it goes on to the caller -/
theorem vx_widen {g : JFrame} {q : Addr} {k n : Nat} (h1 : cells ≤ k) (h2 : slots ≤ n) (kk : vx_W p l e R s m args below meth c H locs k n Q g q) : vx_W p l e R s m args below meth c H locs cells slots Q g q := fun T hT X => kk T hT (stand_widen X h1 h2)
theorem vx_out {pc : Nat} {E : String} {ce : Cell} {q : Addr} {mc ms : Nat} (hout : ∀ x ∈ c.exceptionTable.toList, covers x pc = false) (hlocks : meth.locks = false) (hcell : H[q]? = some ce) (hv : ce.vm = .none) (hcl : s.vm.findClass E = some ce.cls)
    (hx : ∀ t : State, t.heap = H → s.vm.Alike t.vm → XC E s t) (hf : ∀ z ∈ locs, free z.base) (hc : cells ≤ mc) (hs : slots ≤ ms) :
    vx_W p l e R s m args below meth c H locs cells slots (vx_MQ below Qc XC args s mc ms free) (F0 m pc ls rest) q := by
  intro T hT X
  obtain ⟨st1, hrun, hend, hW, hsm⟩ := X.leaveThrown q (g := F0 m pc ls rest) rfl rfl rfl hout hlocks
  have hcell9 : (T.setFrames (.throwing q :: below)).heap[q]? = some ce := by
    show T.heap[q]? = some ce
    rw [hT]; exact hcell
  exact ⟨_, st1, .threw q, hrun, hend, Or.inr ⟨q, rfl, E, ce, locs, hx _ hT hW.alike, hcell9, hv, hcl, hW, hsm.mono hc hs, hf⟩⟩
theorem vx_frame {U : State} {k n : Nat} (h : s.sameButNew ({ U with vm := s.vm } : State) locs k n) : s.heap.size ≤ U.heap.size ∧ ∀ q : Nat, q < s.heap.size → (∀ z ∈ locs, z.base ≠ q) → U.heap[q]? = s.heap[q]? := by
  obtain ⟨-, h2, -, -, -, h6⟩ := h
  refine ⟨h2, fun q hq hz => ?_⟩
  obtain ⟨c9, e1, e2, e3, e4⟩ := h6 q _ (Array.getElem?_eq_getElem hq)
  have hs : c9.slots = (s.heap[q]).slots := Array.ext_getElem? fun i => e4 i fun hm => hz _ hm rfl
  have h9 : c9 = s.heap[q] := by
    rw [hs] at e2
    exact e2
  have e5 : U.heap[q]? = some c9 := e1
  rw [e5, h9, Array.getElem?_eq_getElem hq]
/-- the words of a throw but the four that speak of the heap -/
def vx_no (w : Cond) : Bool := decide (w ≠ .isRef (.static Bundle.tN "UNASSIGNED_STACK" Bundle.steD)) && decide (w ≠ .isRef (.static Bundle.tN "SUPPRESSED_SENTINEL" Bundle.listD)) && decide (w ≠ .laysStatic Bundle.tN "UNASSIGNED_STACK" Bundle.steD) && decide (w ≠ .laysStatic Bundle.tN "SUPPRESSED_SENTINEL" Bundle.listD)
def vx_at0 (own : String) (ic : Nat) (X : String) (names : List String) : List Cond := (Bundle.ownAtoms0 own ic X names).filter vx_no
def vx_atS (own : String) (ic : Nat) (X : String) (names : List String) : List Cond := (Bundle.ownAtoms own ic X names).filter vx_no
/-- a word that the tables alone decide, or a good one -/
def vx_ot (w : Cond) : Bool := w.onTables || goodWord w
theorem vx_ot_at {args a' : Array Value} {s U : State} {w : Cond} (hW : s.WarmedH U.vm) (hvm : s.vm = U.vm) (hg : vx_ot w = true) (h : w.before args s = true) : w.before a' U = true := by
  simp only [vx_ot, Bool.or_eq_true] at hg
  rcases hg with hg | hg
  · exact va_tabs hg hvm h
  · exact word_at hW (good_of_word hg) h
/-- a list's words: the good ones out of the method's own list, the others by premises of their own -/
theorem vx_hat {args : Array Value} {s : State} {L B : List Cond} (h1 : ∀ w ∈ L.filter goodWord, w.before args s = true) (h2 : ∀ w ∈ L.filter (fun w => !goodWord w), w ∈ B) (h3 : ∀ w ∈ B, w.before args s = true) : ∀ w ∈ L, w.before args s = true := by
  intro w hw
  by_cases g : goodWord w = true
  · exact h1 w (List.mem_filter.mpr ⟨hw, g⟩)
  · refine h3 w (h2 w (List.mem_filter.mpr ⟨hw, ?_⟩))
    show (!goodWord w) = true
    cases hgw : goodWord w
    · rfl
    · exact absurd hgw g
theorem vx_c {args : Array Value} {s : State} {w : Cond} {B : List Cond} (h : w.before args s = true) (t : ∀ w ∈ B, w.before args s = true) : ∀ w' ∈ w :: B, w'.before args s = true := fun w' h' => (List.mem_cons.mp h').elim (fun e => by rw [e]; exact h) (t w')
theorem vx_n {args : Array Value} {s : State} : ∀ w ∈ ([] : List Cond), w.before args s = true := fun _ h => nomatch h
theorem vx_own {args : Array Value} {s : State} {L : List Cond} (h1 : ∀ w ∈ L.filter vx_no, w.before args s = true)
    (hU : (Cond.isRef (.static Bundle.tN "UNASSIGNED_STACK" Bundle.steD)).before args s = true) (hN : (Cond.isRef (.static Bundle.tN "SUPPRESSED_SENTINEL" Bundle.listD)).before args s = true)
    (lU : (Cond.laysStatic Bundle.tN "UNASSIGNED_STACK" Bundle.steD).before args s = true) (lN : (Cond.laysStatic Bundle.tN "SUPPRESSED_SENTINEL" Bundle.listD).before args s = true) : ∀ w ∈ L, w.before args s = true := by
  intro w hw
  by_cases e1 : w = .isRef (.static Bundle.tN "UNASSIGNED_STACK" Bundle.steD)
  · rw [e1]; exact hU
  · by_cases e2 : w = .isRef (.static Bundle.tN "SUPPRESSED_SENTINEL" Bundle.listD)
    · rw [e2]; exact hN
    · by_cases e3 : w = .laysStatic Bundle.tN "UNASSIGNED_STACK" Bundle.steD
      · rw [e3]; exact lU
      · by_cases e4 : w = .laysStatic Bundle.tN "SUPPRESSED_SENTINEL" Bundle.listD
        · rw [e4]; exact lN
        · exact h1 w (List.mem_filter.mpr ⟨hw, by unfold vx_no; rw [decide_eq_true e1, decide_eq_true e2, decide_eq_true e3, decide_eq_true e4]; rfl⟩)
/-- where a static field lies, its class's statics cell in H -/
def vx_L (C n d : String) (A : Nat → Prop) (U : State) (H : Heap) : Prop := ∃ (c : ClassId) (k : Class) (i : Nat) (f : Field) (a : Nat) (cell : Cell), U.vm.findClass C = some c ∧ U.fieldFound? C n d = some (c, k, i, f) ∧ f.isStatic = true ∧ k.statics = some a ∧ H[a]? = some cell ∧ cell.vm.isStatics = true ∧ cell.cls = c ∧ f.slot < cell.slots.size ∧ k.staticTypes[f.slot]? = some f.type ∧ ¬ A a
theorem vx_L.moved {C n d : String} {A : Nat → Prop} {u U : State} {H : Heap} (hvm : u.vm.Alike U.vm) (h : vx_L C n d A u H) : vx_L C n d A U H := by
  obtain ⟨c, k, i, f, a, cell, h1, h2, h3, h4, h5, h6, h7, h8, h9, h10⟩ := h
  obtain ⟨k', hi', he⟩ := State.fieldFound?_setVm hvm h2
  exact ⟨c, k', i, f, a, cell, by rw [hvm.findClass]; exact h1, hi', h3, by rw [he]; exact h4, h5, h6, h7, h8, by rw [he]; exact h9, h10⟩
theorem vx_L.kept {C n d : String} {A : Nat → Prop} {U : State} {H H1 : Heap} (h : vx_L C n d A U H) (hq : ∀ a : Nat, a < H.size → ¬ A a → H1[a]? = H[a]?) : vx_L C n d A U H1 := by
  obtain ⟨c, k, i, f, a, cell, h1, h2, h3, h4, h5, h6, h7, h8, h9, h10⟩ := h
  exact ⟨c, k, i, f, a, cell, h1, h2, h3, h4, by rw [hq a (Array.getElem?_eq_some_iff.mp h5).1 h10]; exact h5, h6, h7, h8, h9, h10⟩
theorem vx_L.narrow {C n d : String} {A B : Nat → Prop} {U : State} {H : Heap} (h : vx_L C n d A U H) (hAB : ∀ q, B q → A q) : vx_L C n d B U H := by
  obtain ⟨c, k, i, f, a, cell, h1, h2, h3, h4, h5, h6, h7, h8, h9, h10⟩ := h
  exact ⟨c, k, i, f, a, cell, h1, h2, h3, h4, h5, h6, h7, h8, h9, fun z => h10 (hAB _ z)⟩
theorem vx_L.word {C n d : String} {A : Nat → Prop} {s : State} {args : Array Value} (h : vx_L C n d A s s.heap) : (Cond.laysStatic C n d).before args s = true := by
  obtain ⟨c, k, i, f, a, cell, h1, h2, h3, h4, h5, h6, h7, h8, h9, -⟩ := h
  show (Cond.laysStatic C n d).holds args s none s [] = true
  exact Cond.laysStatic_of h1 h2 h3 h4 h5 h6 h7 h8 h9
/-- .. and what it holds: null or some reference -/
def vx_Zq (C n d : String) (A : Nat → Prop) (U : State) (H : Heap) : Prop := va_Zq C n d A U H ∧ vx_L C n d A U H
theorem vx_Zq.moved {C n d : String} {A : Nat → Prop} {u U : State} {H : Heap} (hvm : u.vm.Alike U.vm) (h : vx_Zq C n d A u H) : vx_Zq C n d A U H := ⟨va_Zq.moved hvm h.1, vx_L.moved hvm h.2⟩
theorem vx_Zq.kept {C n d : String} {A : Nat → Prop} {U : State} {H H1 : Heap} (h : vx_Zq C n d A U H) (hq : ∀ a : Nat, a < H.size → ¬ A a → H1[a]? = H[a]?) : vx_Zq C n d A U H1 := ⟨va_Zq.kept h.1 hq, vx_L.kept h.2 hq⟩
theorem vx_Zq.narrow {C n d : String} {A B : Nat → Prop} {U : State} {H : Heap} (h : vx_Zq C n d A U H) (hAB : ∀ q, B q → A q) : vx_Zq C n d B U H := ⟨va_Zq.narrow h.1 hAB, vx_L.narrow h.2 hAB⟩
theorem vx_Zqof {args : Array Value} {s : State} {C n d : String} {A : Nat → Prop} (hl : (Cond.laysStatic C n d).before args s = true) (hini : (Cond.initialized C).before args s = true) (h : (Cond.isRef (.static C n d)).before args s = true) (hA : ∀ a : Nat, a < s.heap.size → ¬ A a) : vx_Zq C n d A s s.heap := by
  refine ⟨va_Zqof hl hini h hA, ?_⟩
  obtain ⟨c, k, i, f, a, cell, h1, h2, h3, h4, h5, h6, h7, h8, h9⟩ := Cond.laysStatic_spec hl
  exact ⟨c, k, i, f, a, cell, h1, h2, h3, h4, h5, h6, h7, h8, h9, hA a (Array.getElem?_eq_some_iff.mp h5).1⟩
theorem vx_isRef {C n d : String} {v : Value} {A : Nat → Prop} {s : State} {args : Array Value} (h : va_Z C n d v A s s.heap) (hv : v.isRef = true) : (Cond.isRef (.static C n d)).before args s = true := by
  obtain ⟨cf, kf, fi, f, a, cell, h1, h2, h3, h4, h5, h6, h7, -⟩ := h
  have he : (Term.static C n d).eval args s none [] s = some v := by
    simp [Term.eval, State.fieldNamed?, h1, h2, h4, h5, h6, h7]
  simp only [Cond.before, Cond.holds, Cond.value, he]
  cases v <;> simp_all [Value.isRef]
theorem vx_isRefq {C n d : String} {A : Nat → Prop} {s : State} {args : Array Value} (h : va_Zq C n d A s s.heap) : (Cond.isRef (.static C n d)).before args s = true := by
  rcases h with h | ⟨t, h⟩
  · exact vx_isRef h rfl
  · exact vx_isRef h rfl
/-- the same frame, seen from here: as if the method were called anew in this heap -/
theorem vx_rebase {T : State} (X : Stand p l e R s m args below meth c T locs cells slots) {R' : Room} (hf : R'.frames ≤ R.frames) (hl : R'.locals ≤ R.locals) (hc : cells + R'.cells ≤ R.cells) (hs : slots + R'.slots ≤ R.slots) :
    Stand p l e R' ((T.setVm s.vm).setFrames (.invoking m args :: below)) m args below meth c T [] 0 0 := by
  have htop : (T.setVm s.vm).topJava?.isSome := X.here.top
  have hF : ((T.setVm s.vm).setFrames (.invoking m args :: below)).frames = .invoking m args :: below := State.frames_setFrames _ (State.cur_lt_of_top htop)
  obtain ⟨g₀, hg0⟩ := Option.isSome_iff_exists.mp htop
  obtain ⟨r, hr⟩ := State.topJava?_eq_some.mp hg0
  have hl9 : e.platform.stackLimits (T.setVm s.vm).me = e.platform.stackLimits s.me := X.limits
  have hb9 : (T.setVm s.vm).me.stackBytes = s.me.stackBytes := X.bytes
  refine ⟨X.admits, X.cas, X.clock, hF, ?_, X.hears, X.method, X.code, X.here, X.tail, X.warmed, ?_, ?_, ?_⟩
  · have h := X.room
    have hU : ((T.setVm s.vm).setFrames (.invoking m args :: below)).localsInUse = s.localsInUse := by
      rw [State.localsInUse_invoking hF (meth := meth) (c := c) X.method X.code, State.localsInUse_invoking X.frames X.method X.code]
    simp only [State.hasRoom, Bool.and_eq_true, decide_eq_true_eq] at h ⊢
    obtain ⟨⟨⟨⟨h1, h2, h3, h4, h5, h6⟩, h7⟩, h8⟩, h9⟩ := h
    rw [X.frames, List.length_cons] at h2 h3
    have q1 := X.heapSize
    have q2 := X.used
    simp only [hF, hU, List.length_cons, State.stackLimits_setFrames, State.stackBytes_setFrames, hl9, hb9]
    refine ⟨⟨⟨⟨by omega, by omega, by omega, by omega, by omega, h6⟩, ?_⟩, ?_⟩, X.book⟩
    · show T.heap.size + R'.cells ≤ e.platform.maxCells
      omega
    · show T.slotsUsed + R'.slots ≤ e.platform.maxSlots
      omega
  · rw [State.stackLimits_setFrames]; rfl
  · rw [State.stackBytes_setFrames]; rfl
  · refine ⟨?_, Nat.le_refl _, Nat.le_refl _, ?_, ?_, fun a c9 h9 => ⟨c9, h9, rfl, rfl, fun _ _ => rfl⟩⟩
    · obtain ⟨t, ht, -⟩ := State.frames_cons hr
      show T.setVm s.vm = { ((T.setVm s.vm).setFrames (.invoking m args :: below)).setFrames (T.setVm s.vm).frames with heap := T.heap, slotsUsed := T.slotsUsed }
      rw [State.setFrames_setFrames, State.setFrames_self ht]
      rfl
    · show T.slotsUsed = T.slotsUsed + ((T.heap.toList.drop T.heap.size).map (·.slots.size)).sum
      rw [List.drop_eq_nil_of_le (Nat.le_of_eq Array.length_toList)]
      rfl
    · show ((T.heap.toList.drop T.heap.size).map (·.slots.size)).sum ≤ 0
      rw [List.drop_eq_nil_of_le (Nat.le_of_eq Array.length_toList)]
      exact Nat.le_refl _
/-- 'throw new E()': new; dup; invokespecial; athrow -/
theorem vx_throw0 {cc : ByteArray} {pc : Nat} (hexec : p.tables.exec = Jvm.exec) (hb : c.code = cc) (hl : l.stackTraces = false) {own cls : String} {names : List String} {ik ic mc ms : Nat} {A : Nat → Prop}
    (hown : s.vm.findClass own = some m.cls) (hcls : Bundle.fit cls = true) (hnames : ∀ n ∈ names, Bundle.fit n = true)
    (hk : (Cond.classLink own ik cls).before args s = true) (hini : (Cond.initialized cls).before args s = true) (hat : ∀ w ∈ vx_at0 own ic cls names, w.before args s = true)
    (hgood : ∀ w ∈ Cond.classLink own ik cls :: Cond.initialized cls :: vx_at0 own ic cls names, vx_ot w = true)
    (hU : vx_Zq Bundle.tN "UNASSIGNED_STACK" Bundle.steD A s s.heap) (hN : vx_Zq Bundle.tN "SUPPRESSED_SENTINEL" Bundle.listD A s s.heap) (hS : va_S A s.heap H locs) (hsize : ls.size = c.maxLocals)
    (d0 : decode cc pc = .ok (.new ik, 3)) (d3 : decode cc (pc + 3) = .ok (.dup, 1)) (d4 : decode cc (pc + 4) = .ok (.invokespecial ic, 3)) (d7 : decode cc (pc + 7) = .ok (.athrow, 1))
    (hout : ∀ x ∈ c.exceptionTable.toList, covers x (pc + 7) = false)
    (hRframes : names.length + 3 < R.frames) (hRlocals : (rest.map fun v => v.category).sum + (13 * (names.length + 1) + 42) ≤ R.locals) (hRcells : cells + 1 ≤ R.cells) (hRslots : slots + 6 ≤ R.slots) (hlocks : meth.locks = false)
    (hx : ∀ t : State, s.vm.Alike t.vm → H.size ≤ t.heap.size → (∀ q : Nat, q < H.size → t.heap[q]? = H[q]?) → XC cls s t)
    (hf : ∀ z ∈ locs, free z.base) (hc : cells + 1 ≤ mc) (hs : slots + 6 ≤ ms) :
    W p l e R s m args below meth c H locs cells slots (vx_MQ below Qc XC args s mc ms free) (F0 m pc ls rest) := by
  intro T hT X
  have htr : e.platform.stackTraces = false := (show e.platform.stackTraces = l.stackTraces by rw [X.admits.platform]).trans hl
  have Y := vx_rebase X (R' := { frames := R.frames, locals := R.locals, cells := 1, slots := 6 }) (Nat.le_refl _) (Nat.le_refl _) hRcells hRslots
  obtain ⟨s', hA⟩ : ∃ z, z = (T.setVm s.vm).setFrames (.invoking m args :: below) := ⟨_, rfl⟩
  rw [← hA] at Y
  have hvm : s'.vm = s.vm := by rw [hA]; rfl
  have hhp : s'.heap = H := by rw [hA]; exact hT
  have hW0 : s.WarmedH s'.vm := by rw [hvm]; exact State.WarmedH.refl s
  have hat' : ∀ w ∈ vx_at0 own ic cls names, w.before args s' = true := fun w hw => vx_ot_at hW0 hvm.symm (hgood w (List.mem_cons_of_mem _ (List.mem_cons_of_mem _ hw))) (hat w hw)
  have hk' : (Cond.classLink own ik cls).before args s' = true := vx_ot_at hW0 hvm.symm (hgood _ List.mem_cons_self) hk
  have hini' : (Cond.initialized cls).before args s' = true := vx_ot_at hW0 hvm.symm (hgood _ (List.mem_cons_of_mem _ List.mem_cons_self)) hini
  have hU' : vx_Zq Bundle.tN "UNASSIGNED_STACK" Bundle.steD A s' s'.heap := by rw [hhp]; exact vx_Zq.moved hW0.alike (hU.kept hS.2.1)
  have hN' : vx_Zq Bundle.tN "SUPPRESSED_SENTINEL" Bundle.listD A s' s'.heap := by rw [hhp]; exact vx_Zq.moved hW0.alike (hN.kept hS.2.1)
  have h : ∀ w ∈ Bundle.ownAtoms0 own ic cls names, w.before args s' = true := vx_own hat' (vx_isRefq hU'.1) (vx_isRefq hN'.1) hU'.2.word hN'.2.word
  have hown' : s'.vm.findClass own = some m.cls := by rw [hvm]; exact hown
  have hins : (Cond.instantiable cls 6).before args s' = true := h _ (by simp [Bundle.ownAtoms0])
  obtain ⟨vm₁, cX, kX, hfX, hkX, -, -, X₁, st1⟩ := Y.newCold hexec (own := own) (C := cls) (index := ik) (n := 6) hown' hk' hins hini'
    (g := F0 m pc ls rest) rfl (by rw [hb]; exact d0) (Nat.le_refl _) (Nat.le_refl _)
  generalize hT1 : (T.setVm vm₁).pushCell { cls := cX, slots := kX.instanceTypes.map defaultValue, vm := .none } = T1 at X₁ st1
  have hcat : (Value.ref T.heap.size).category = 1 := rfl
  have hcellA : T1.heap[T.heap.size]? = some (freshCell cX kX) := by rw [← hT1]; exact State.heap_pushCell_size _ _
  have d3' : decode c.code (pc + 3) = .ok (.dup, 1) := by rw [hb]; exact d3
  obtain ⟨U, hsteps, hrun, hend, hW, hsame, ce, hce, hO⟩ := X₁.ctorThrow0 hexec htr (own := own) (cls := cls) (names := names) (ic := ic) hown' hcls hnames h (fun x hx => nomatch hx) hfX hkX hcellA (by rw [hhp, hT]; exact Nat.le_refl _)
    (g := { method := m, pc := pc + 4, locals := ls, stack := .ref T.heap.size :: .ref T.heap.size :: rest, locked := none }) rfl hsize rfl rfl (rest := rest) rfl
    (by rw [hb]; exact d4) (by rw [hb]; exact d7) hout hRframes (by simp only [List.map_cons, List.sum_cons, hcat]; omega) hlocks
  obtain ⟨f1, f2⟩ := vx_frame hsame
  rw [hhp] at f1 f2
  have hWs : s.WarmedH U.vm := State.WarmedH.trans hW0 hW
  have hcl : s.vm.findClass cls = some ce.cls := by
    have h9 := hO.cls
    rw [hvm] at h9
    exact h9
  have hall : s.sameButNew ({ U with vm := s.vm } : State) locs mc ms := by
    subst hA
    obtain ⟨e1, e2⟩ := hsame
    rw [State.setFrames_setFrames] at e1
    have h2 : (T.setVm s.vm).sameButNew ({ U with vm := s.vm } : State) [] (0 + 1) (0 + 6) := ⟨e1, e2⟩
    have h3 := X.same.trans h2
    rw [List.append_nil] at h3
    exact h3.mono hc hs
  refine ⟨U, ?_, .threw T.heap.size, hrun, hend, Or.inr ⟨T.heap.size, rfl, cls, ce, locs, hx U hWs.alike f1 (fun q hq => f2 q hq (fun z hz => nomatch hz)), hce, hO.vm, hcl, hWs, hall, hf⟩⟩
  refine st1 _ ?_
  show Steps p.tables e below (T1.setTop { method := m, pc := pc + 3, locals := ls, stack := .ref T.heap.size :: rest, locked := none }) _
  jvm_step X₁.here [X₁.here.top, hexec, d3', Value.category]
  exact hsteps
/-- 'throw new E("text")': new; dup; ldc; invokespecial; athrow -/
theorem vx_throwS {cc : ByteArray} {pc : Nat} (hexec : p.tables.exec = Jvm.exec) (hb : c.code = cc) (hl : l.stackTraces = false) {own cls text : String} {names : List String} {ik is ic mc ms sa : Nat} {A : Nat → Prop}
    (hown : s.vm.findClass own = some m.cls) (hcls : Bundle.fit cls = true) (hnames : ∀ n ∈ names, Bundle.fit n = true)
    (hk : (Cond.classLink own ik cls).before args s = true) (hini : (Cond.initialized cls).before args s = true) (hstr : vk_R own is text sa s) (hat : ∀ w ∈ vx_atS own ic cls names, w.before args s = true)
    (hgood : ∀ w ∈ Cond.classLink own ik cls :: Cond.initialized cls :: vx_atS own ic cls names, vx_ot w = true)
    (hU : vx_Zq Bundle.tN "UNASSIGNED_STACK" Bundle.steD A s s.heap) (hN : vx_Zq Bundle.tN "SUPPRESSED_SENTINEL" Bundle.listD A s s.heap) (hS : va_S A s.heap H locs) (hsize : ls.size = c.maxLocals)
    (d0 : decode cc pc = .ok (.new ik, 3)) (d3 : decode cc (pc + 3) = .ok (.dup, 1)) (d4 : decode cc (pc + 4) = .ok (.ldc is, 2)) (d6 : decode cc (pc + 6) = .ok (.invokespecial ic, 3)) (d9 : decode cc (pc + 9) = .ok (.athrow, 1))
    (hout : ∀ x ∈ c.exceptionTable.toList, covers x (pc + 9) = false)
    (hRframes : names.length + 3 < R.frames) (hRlocals : (rest.map fun v => v.category).sum + (13 * (names.length + 1) + 43) ≤ R.locals) (hRcells : cells + 1 ≤ R.cells) (hRslots : slots + 6 ≤ R.slots) (hlocks : meth.locks = false)
    (hx : ∀ t : State, s.vm.Alike t.vm → H.size ≤ t.heap.size → (∀ q : Nat, q < H.size → t.heap[q]? = H[q]?) → XC cls s t)
    (hf : ∀ z ∈ locs, free z.base) (hc : cells + 1 ≤ mc) (hs : slots + 6 ≤ ms) :
    W p l e R s m args below meth c H locs cells slots (vx_MQ below Qc XC args s mc ms free) (F0 m pc ls rest) := by
  intro T hT X
  have htr : e.platform.stackTraces = false := (show e.platform.stackTraces = l.stackTraces by rw [X.admits.platform]).trans hl
  have Y := vx_rebase X (R' := { frames := R.frames, locals := R.locals, cells := 1, slots := 6 }) (Nat.le_refl _) (Nat.le_refl _) hRcells hRslots
  obtain ⟨s', hA⟩ : ∃ z, z = (T.setVm s.vm).setFrames (.invoking m args :: below) := ⟨_, rfl⟩
  rw [← hA] at Y
  have hvm : s'.vm = s.vm := by rw [hA]; rfl
  have hhp : s'.heap = H := by rw [hA]; exact hT
  have hW0 : s.WarmedH s'.vm := by rw [hvm]; exact State.WarmedH.refl s
  have hat' : ∀ w ∈ vx_atS own ic cls names, w.before args s' = true := fun w hw => vx_ot_at hW0 hvm.symm (hgood w (List.mem_cons_of_mem _ (List.mem_cons_of_mem _ hw))) (hat w hw)
  have hk' : (Cond.classLink own ik cls).before args s' = true := vx_ot_at hW0 hvm.symm (hgood _ List.mem_cons_self) hk
  have hini' : (Cond.initialized cls).before args s' = true := vx_ot_at hW0 hvm.symm (hgood _ (List.mem_cons_of_mem _ List.mem_cons_self)) hini
  have hU' : vx_Zq Bundle.tN "UNASSIGNED_STACK" Bundle.steD A s' s'.heap := by rw [hhp]; exact vx_Zq.moved hW0.alike (hU.kept hS.2.1)
  have hN' : vx_Zq Bundle.tN "SUPPRESSED_SENTINEL" Bundle.listD A s' s'.heap := by rw [hhp]; exact vx_Zq.moved hW0.alike (hN.kept hS.2.1)
  have h : ∀ w ∈ Bundle.ownAtoms own ic cls names, w.before args s' = true := vx_own hat' (vx_isRefq hU'.1) (vx_isRefq hN'.1) hU'.2.word hN'.2.word
  have hown' : s'.vm.findClass own = some m.cls := by rw [hvm]; exact hown
  have hins : (Cond.instantiable cls 6).before args s' = true := h _ (by simp [Bundle.ownAtoms])
  obtain ⟨vm₁, cX, kX, hfX, hkX, -, -, X₁, st1⟩ := Y.newCold hexec (own := own) (C := cls) (index := ik) (n := 6) hown' hk' hins hini'
    (g := F0 m pc ls rest) rfl (by rw [hb]; exact d0) (Nat.le_refl _) (Nat.le_refl _)
  generalize hT1 : (T.setVm vm₁).pushCell { cls := cX, slots := kX.instanceTypes.map defaultValue, vm := .none } = T1 at X₁ st1
  have hcat : (Value.ref T.heap.size).category = 1 := rfl
  have hcellA : T1.heap[T.heap.size]? = some (freshCell cX kX) := by rw [← hT1]; exact State.heap_pushCell_size _ _
  have d3' : decode c.code (pc + 3) = .ok (.dup, 1) := by rw [hb]; exact d3
  have d4' : decode c.code (pc + 4) = .ok (.ldc is, 2) := by rw [hb]; exact d4
  have hstr' : vk_R own is text sa s' := vk_R.warm hW0 hstr
  obtain ⟨U, hsteps, hrun, hend, hW, hsame, ce, hce, hO⟩ := X₁.ctorThrowS hexec htr (own := own) (cls := cls) (names := names) (ic := ic) hown' hcls hnames h (fun x hx => nomatch hx) hfX hkX hcellA (by rw [hhp, hT]; exact Nat.le_refl _) (msg := .ref sa) rfl
    (g := { method := m, pc := pc + 6, locals := ls, stack := .ref sa :: .ref T.heap.size :: .ref T.heap.size :: rest, locked := none }) rfl hsize rfl rfl (rest := rest) rfl
    (by rw [hb]; exact d6) (by rw [hb]; exact d9) hout hRframes (by simp only [List.map_cons, List.sum_cons, hcat]; omega) hlocks
  obtain ⟨f1, f2⟩ := vx_frame hsame
  rw [hhp] at f1 f2
  have hWs : s.WarmedH U.vm := State.WarmedH.trans hW0 hW
  have hcl : s.vm.findClass cls = some ce.cls := by
    have h9 := hO.cls
    rw [hvm] at h9
    exact h9
  have hall : s.sameButNew ({ U with vm := s.vm } : State) locs mc ms := by
    subst hA
    obtain ⟨e1, e2⟩ := hsame
    rw [State.setFrames_setFrames] at e1
    have h2 : (T.setVm s.vm).sameButNew ({ U with vm := s.vm } : State) [] (0 + 1) (0 + 6) := ⟨e1, e2⟩
    have h3 := X.same.trans h2
    rw [List.append_nil] at h3
    exact h3.mono hc hs
  refine ⟨U, ?_, .threw T.heap.size, hrun, hend, Or.inr ⟨T.heap.size, rfl, cls, ce, locs, hx U hWs.alike f1 (fun q hq => f2 q hq (fun z hz => nomatch hz)), hce, hO.vm, hcl, hWs, hall, hf⟩⟩
  refine st1 _ ?_
  show Steps p.tables e below (T1.setTop { method := m, pc := pc + 3, locals := ls, stack := .ref T.heap.size :: rest, locked := none }) _
  jvm_step X₁.here [X₁.here.top, hexec, d3', Value.category]
  exact X₁.ldcString hexec (own := own) (text := text) (index := is) (a := sa) hown' hstr'.1 hstr'.2
    (g := { method := m, pc := pc + 4, locals := ls, stack := .ref T.heap.size :: .ref T.heap.size :: rest, locked := none }) rfl d4' _ hsteps
/-- 'throw new E("text")', the text by a wide index -/
theorem vx_throwSW {cc : ByteArray} {pc : Nat} (hexec : p.tables.exec = Jvm.exec) (hb : c.code = cc) (hl : l.stackTraces = false) {own cls text : String} {names : List String} {ik is ic mc ms sa : Nat} {A : Nat → Prop}
    (hown : s.vm.findClass own = some m.cls) (hcls : Bundle.fit cls = true) (hnames : ∀ n ∈ names, Bundle.fit n = true)
    (hk : (Cond.classLink own ik cls).before args s = true) (hini : (Cond.initialized cls).before args s = true) (hstr : vk_R own is text sa s) (hat : ∀ w ∈ vx_atS own ic cls names, w.before args s = true)
    (hgood : ∀ w ∈ Cond.classLink own ik cls :: Cond.initialized cls :: vx_atS own ic cls names, vx_ot w = true)
    (hU : vx_Zq Bundle.tN "UNASSIGNED_STACK" Bundle.steD A s s.heap) (hN : vx_Zq Bundle.tN "SUPPRESSED_SENTINEL" Bundle.listD A s s.heap) (hS : va_S A s.heap H locs) (hsize : ls.size = c.maxLocals)
    (d0 : decode cc pc = .ok (.new ik, 3)) (d3 : decode cc (pc + 3) = .ok (.dup, 1)) (d4 : decode cc (pc + 4) = .ok (.ldc_w is, 3)) (d7 : decode cc (pc + 7) = .ok (.invokespecial ic, 3)) (d10 : decode cc (pc + 10) = .ok (.athrow, 1))
    (hout : ∀ x ∈ c.exceptionTable.toList, covers x (pc + 10) = false)
    (hRframes : names.length + 3 < R.frames) (hRlocals : (rest.map fun v => v.category).sum + (13 * (names.length + 1) + 43) ≤ R.locals) (hRcells : cells + 1 ≤ R.cells) (hRslots : slots + 6 ≤ R.slots) (hlocks : meth.locks = false)
    (hx : ∀ t : State, s.vm.Alike t.vm → H.size ≤ t.heap.size → (∀ q : Nat, q < H.size → t.heap[q]? = H[q]?) → XC cls s t)
    (hf : ∀ z ∈ locs, free z.base) (hc : cells + 1 ≤ mc) (hs : slots + 6 ≤ ms) :
    W p l e R s m args below meth c H locs cells slots (vx_MQ below Qc XC args s mc ms free) (F0 m pc ls rest) := by
  intro T hT X
  have htr : e.platform.stackTraces = false := (show e.platform.stackTraces = l.stackTraces by rw [X.admits.platform]).trans hl
  have Y := vx_rebase X (R' := { frames := R.frames, locals := R.locals, cells := 1, slots := 6 }) (Nat.le_refl _) (Nat.le_refl _) hRcells hRslots
  obtain ⟨s', hA⟩ : ∃ z, z = (T.setVm s.vm).setFrames (.invoking m args :: below) := ⟨_, rfl⟩
  rw [← hA] at Y
  have hvm : s'.vm = s.vm := by rw [hA]; rfl
  have hhp : s'.heap = H := by rw [hA]; exact hT
  have hW0 : s.WarmedH s'.vm := by rw [hvm]; exact State.WarmedH.refl s
  have hat' : ∀ w ∈ vx_atS own ic cls names, w.before args s' = true := fun w hw => vx_ot_at hW0 hvm.symm (hgood w (List.mem_cons_of_mem _ (List.mem_cons_of_mem _ hw))) (hat w hw)
  have hk' : (Cond.classLink own ik cls).before args s' = true := vx_ot_at hW0 hvm.symm (hgood _ List.mem_cons_self) hk
  have hini' : (Cond.initialized cls).before args s' = true := vx_ot_at hW0 hvm.symm (hgood _ (List.mem_cons_of_mem _ List.mem_cons_self)) hini
  have hU' : vx_Zq Bundle.tN "UNASSIGNED_STACK" Bundle.steD A s' s'.heap := by rw [hhp]; exact vx_Zq.moved hW0.alike (hU.kept hS.2.1)
  have hN' : vx_Zq Bundle.tN "SUPPRESSED_SENTINEL" Bundle.listD A s' s'.heap := by rw [hhp]; exact vx_Zq.moved hW0.alike (hN.kept hS.2.1)
  have h : ∀ w ∈ Bundle.ownAtoms own ic cls names, w.before args s' = true := vx_own hat' (vx_isRefq hU'.1) (vx_isRefq hN'.1) hU'.2.word hN'.2.word
  have hown' : s'.vm.findClass own = some m.cls := by rw [hvm]; exact hown
  have hins : (Cond.instantiable cls 6).before args s' = true := h _ (by simp [Bundle.ownAtoms])
  obtain ⟨vm₁, cX, kX, hfX, hkX, -, -, X₁, st1⟩ := Y.newCold hexec (own := own) (C := cls) (index := ik) (n := 6) hown' hk' hins hini'
    (g := F0 m pc ls rest) rfl (by rw [hb]; exact d0) (Nat.le_refl _) (Nat.le_refl _)
  generalize hT1 : (T.setVm vm₁).pushCell { cls := cX, slots := kX.instanceTypes.map defaultValue, vm := .none } = T1 at X₁ st1
  have hcat : (Value.ref T.heap.size).category = 1 := rfl
  have hcellA : T1.heap[T.heap.size]? = some (freshCell cX kX) := by rw [← hT1]; exact State.heap_pushCell_size _ _
  have d3' : decode c.code (pc + 3) = .ok (.dup, 1) := by rw [hb]; exact d3
  have d4' : decode c.code (pc + 4) = .ok (.ldc_w is, 3) := by rw [hb]; exact d4
  have hstr' : vk_R own is text sa s' := vk_R.warm hW0 hstr
  obtain ⟨U, hsteps, hrun, hend, hW, hsame, ce, hce, hO⟩ := X₁.ctorThrowS hexec htr (own := own) (cls := cls) (names := names) (ic := ic) hown' hcls hnames h (fun x hx => nomatch hx) hfX hkX hcellA (by rw [hhp, hT]; exact Nat.le_refl _) (msg := .ref sa) rfl
    (g := { method := m, pc := pc + 7, locals := ls, stack := .ref sa :: .ref T.heap.size :: .ref T.heap.size :: rest, locked := none }) rfl hsize rfl rfl (rest := rest) rfl
    (by rw [hb]; exact d7) (by rw [hb]; exact d10) hout hRframes (by simp only [List.map_cons, List.sum_cons, hcat]; omega) hlocks
  obtain ⟨f1, f2⟩ := vx_frame hsame
  rw [hhp] at f1 f2
  have hWs : s.WarmedH U.vm := State.WarmedH.trans hW0 hW
  have hcl : s.vm.findClass cls = some ce.cls := by
    have h9 := hO.cls
    rw [hvm] at h9
    exact h9
  have hall : s.sameButNew ({ U with vm := s.vm } : State) locs mc ms := by
    subst hA
    obtain ⟨e1, e2⟩ := hsame
    rw [State.setFrames_setFrames] at e1
    have h2 : (T.setVm s.vm).sameButNew ({ U with vm := s.vm } : State) [] (0 + 1) (0 + 6) := ⟨e1, e2⟩
    have h3 := X.same.trans h2
    rw [List.append_nil] at h3
    exact h3.mono hc hs
  refine ⟨U, ?_, .threw T.heap.size, hrun, hend, Or.inr ⟨T.heap.size, rfl, cls, ce, locs, hx U hWs.alike f1 (fun q hq => f2 q hq (fun z hz => nomatch hz)), hce, hO.vm, hcl, hWs, hall, hf⟩⟩
  refine st1 _ ?_
  show Steps p.tables e below (T1.setTop { method := m, pc := pc + 3, locals := ls, stack := .ref T.heap.size :: rest, locked := none }) _
  jvm_step X₁.here [X₁.here.top, hexec, d3', Value.category]
  exact X₁.ldcStringW hexec (own := own) (text := text) (index := is) (a := sa) hown' hstr'.1 hstr'.2
    (g := { method := m, pc := pc + 4, locals := ls, stack := .ref T.heap.size :: .ref T.heap.size :: rest, locked := none }) rfl d4' _ hsteps
end Ends
section Bodies
variable {l : Launch}
theorem vx_ofW {y : MethodName} {ws ws' : List Cond} {rm : Room} {Pc : Array Value → State → Prop} {Qc : Array Value → State → Outcome → State → Prop} {XC : String → State → State → Prop} {mc ms : Nat} {free : Addr → Prop} {cc : ByteArray} {maxL : Nat} {ret : Option FieldType}
    (hy : plainName y.cls = true) (hw : ws = Cond.code y cc maxL ret :: ws')
    (body : ∀ p e s m args below meth c s₁, BodyLoose p l y (headSpec ws rm) cc maxL ret e s m args below meth c s₁ → c.maxLocals = maxL → (∀ x ∈ c.exceptionTable.toList, False) → Pc args s →
      W p l e (headSpec ws rm).room s m args below meth c s.heap [] 0 0 (vx_MQ below Qc XC args s mc ms free) (entryFrame m args maxL)) : vx_Met l y ws rm Pc Qc XC mc ms free := by
  refine MetFree.of_bodyS (code := cc) (maxLocals := maxL) (ret := ret) hy ?_ ?_
  · intro args s m h hn
    obtain ⟨meth, c, h1, h2, h3, h4, h5, h6, -, -⟩ := Cond.code_spec hn (atoms_spec (ws := ws) h _ (by rw [hw]; exact List.mem_cons_self))
    exact ⟨meth, c, h1, h2, h3, h4, h5, h6⟩
  · intro p e s m args below meth c s₁ B hml hP _
    have hh0 : s₁.heap = s.heap := by rw [B.state]; rfl
    have ht : ∀ x ∈ c.exceptionTable.toList, False := by
      obtain ⟨meth9, c9, h1, h2, -, -, -, -, h7, -⟩ := Cond.code_spec B.named (atoms_spec (ws := ws) B.pre _ (by rw [hw]; exact List.mem_cons_self))
      cases Option.some.inj (h1.symm.trans B.method)
      cases Option.some.inj (h2.symm.trans (Stand.of_body B).code)
      intro x hx
      rw [Array.isEmpty_iff.mp h7] at hx
      cases hx
    obtain ⟨t, a1, o, b1, b2, b3⟩ := body p e s m args below meth c s₁ B hml ht hP s₁ hh0 (Stand.of_body B)
    exact ⟨t, o, a1, b1, b2, b3⟩
/-- the table of a body with handlers -/
theorem vx_table {p : Program} {x y : MethodName} {S : Spec} {cc bytes : ByteArray} {maxL maxL' : Nat} {ret ret' : Option FieldType} {e : Env} {s s₁ : State} {m : MethodId} {args : Array Value} {below : List Frame} {meth : Method} {c : Code} {hh : List (Nat × Nat × Nat × Nat)}
    (B : BodyLoose p l y S cc maxL ret e s m args below meth c s₁) (h : (Cond.codeWith y bytes maxL' ret' hh).before args s = true) : c.exceptionTable.toList = tableOf hh := by
  obtain ⟨m9, meth9, c9, hn9, h1, h2, -, -, h6, -⟩ := Cond.codeWith_spec h
  cases Option.some.inj (hn9.symm.trans B.named)
  cases Option.some.inj (h1.symm.trans B.method)
  cases Option.some.inj (h2.symm.trans (Stand.of_body B).code)
  rw [← h6, table_eq]
end Bodies
end VXA
/-! ===== END ===== -/
/-! ===== BEGIN a static call of a method with an exception table ===== -/
section VXS
variable {p : Program} {l : Launch} {e : Env} {R : Room} {s : State} {m : MethodId} {args : Array Value} {below : List Frame} {meth : Method} {c : Code} {T : State} {H : Heap} {locs : List Loc} {cells slots : Nat}
abbrev vx_CSW (R : Room) (s : State) (args : Array Value) (own : String) (index : Nat) (y : MethodName) (bytes : ByteArray) (maxL : Nat) (ret : Option FieldType) (hh : List (Nat × Nat × Nat × Nat)) (ws : List Cond) (rm : Room) (mc ms n : Nat) : Prop :=
  (rm.cells = mc ∧ rm.slots = ms ∧ rm.frames + 1 ≤ R.frames ∧ 8 + (maxL + 11) + rm.locals ≤ R.locals ∧ (∀ w ∈ ws, ∀ (a' : Array Value) (U : State), s.WarmedH U.vm → w.before a' U = true) ∧ Cond.codeWith y bytes maxL ret hh ∈ ws) ∧
  (Cond.codeWith y bytes maxL ret hh).before args s = true ∧ (Cond.initialized y.cls).before args s = true ∧ (y.cls ≠ "java/lang/invoke/MethodHandle" ∧ y.cls ≠ "java/lang/invoke/VarHandle") ∧
  (∀ sig, parseMethodDescriptor y.desc = some sig → n = sig.parameters.length) ∧ (Cond.methodLink own index y).before args s = true ∧ (Cond.static y).before args s = true
theorem vx_cwSW {own : String} {index maxL mc ms : Nat} {y : MethodName} {bytes : ByteArray} {ret : Option FieldType} {hh : List (Nat × Nat × Nat × Nat)} {Ts ws ws' : List Cond} {rm : Room} (n : Nat) (ht : ∀ w ∈ Ts, w.before args s = true) (hT : GoodIn Ts (va_wsS own index y ws)) (hw : ws = Cond.codeWith y bytes maxL ret hh :: ws') (hrc : rm.cells = mc) (hrs : rm.slots = ms)
    (hd : y.cls ≠ "java/lang/invoke/MethodHandle" ∧ y.cls ≠ "java/lang/invoke/VarHandle" ∧ (parseMethodDescriptor y.desc).map (fun d => d.parameters.length) = some n) (hR : rm.frames + 1 ≤ R.frames ∧ 8 + (maxL + 11) + rm.locals ≤ R.locals) :
    vx_CSW R s args own index y bytes maxL ret hh ws rm mc ms n := by
  have ok : ∀ w ∈ va_wsS own index y ws, w.before args s = true := fun w h => ht w (hT w h).1
  have hG : GoodIn Ts ws := fun w h => hT w (by unfold va_wsS; exact List.mem_append_right _ h)
  have hc : Cond.codeWith y bytes maxL ret hh ∈ ws := by rw [hw]; exact List.mem_cons_self
  refine ⟨⟨hrc, hrs, hR.1, hR.2, pay_in ht hG, hc⟩, ht _ (hG _ hc).1, ok _ (by simp [va_wsS]), ⟨hd.1, hd.2.1⟩, fun sig h => ?_, ok _ (by simp [va_wsS]), ok _ (by simp [va_wsS])⟩
  have h2 := hd.2.2
  rw [h] at h2
  exact (Option.some.inj h2).symm
theorem vx_callSW (X : Stand p l e R s m args below meth c T locs cells slots) (hexec : p.tables.exec = Jvm.exec) {own : String} {index : Nat} {y : MethodName} {bytes : ByteArray} {maxL : Nat} {ret : Option FieldType} {hh : List (Nat × Nat × Nat × Nat)}
    (hown : s.vm.findClass own = some m.cls) (hlink : (Cond.methodLink own index y).before args s = true) (hstat : (Cond.static y).before args s = true) (hinit : (Cond.initialized y.cls).before args s = true)
    (hcode : (Cond.codeWith y bytes maxL ret hh).before args s = true) (hy : y.cls ≠ "java/lang/invoke/MethodHandle" ∧ y.cls ≠ "java/lang/invoke/VarHandle")
    {W9 : Nat} {Pre : Pt → Array Value → Prop} {Post : Pt → Array Value → Option Value → Pt → Prop} (hK : Back l R p e below s args y 3 W9 Pre Post)
    {g : JFrame} (hg : g.method = m) (hsize : g.locals.size = c.maxLocals) {argsL rest : List Value} (hlen : ∀ sig, parseMethodDescriptor y.desc = some sig → argsL.length = sig.parameters.length)
    (hstack : g.stack = argsL.reverse ++ rest) (hW : 2 * g.monitorRoom + (rest.map fun v => v.category).sum ≤ W9) (hdg : decode c.code g.pc = .ok (.invokestatic index, 3))
    (hpre : ∀ vm₁, s.WarmedH vm₁ → Pre ⟨T.setVm vm₁, locs, cells, slots⟩ argsL.toArray) :
    ∃ (v : Option Value) (vm₁ : Vm) (B : Pt), s.WarmedH vm₁ ∧ Stand p l e R s m args below meth c B.U B.locs B.cells B.slots ∧ Post ⟨T.setVm vm₁, locs, cells, slots⟩ argsL.toArray v B ∧
      ∀ target, Steps p.tables e below (B.U.setTop { g with pc := g.pc + 3, stack := v.toList ++ rest }) target → Steps p.tables e below (T.setTop g) target := by
  obtain ⟨mk, methM, cM, hnamed, hmethM, -, -, -, -, -, -, hsigM⟩ := Cond.codeWith_spec hcode
  have hstatic : methM.isStatic = true := Cond.static_spec hnamed hmethM hstat
  obtain ⟨kP, hkP, -⟩ := className_of_methodNamed hnamed
  have hinitP : kP.init = .initialized := Cond.initialized_spec (findClass_of_methodNamed hnamed) hkP hinit
  obtain ⟨vm₁, X₁, hstep₁⟩ := X.invokestatic hexec hown hlink hnamed hmethM hstatic hkP hinitP hy (g := g) hg (argsL := argsL) (rest := rest) (hlen _ hsigM) hstack hdg
  obtain ⟨v, B, X', hpost, hsteps⟩ := hK m meth c ⟨T.setVm vm₁, locs, cells, slots⟩ { g with stack := rest } (.invokestatic index) mk argsL.toArray X₁ hg hsize hdg hW (X₁.named hnamed) (hpre vm₁ X₁.warmed)
  exact ⟨v, vm₁, B, X₁.warmed, X', hpost, fun target h => hstep₁ _ fun acts => by rw [doInvoke_state]; exact hsteps.trans h⟩
theorem vx_runSW {y : MethodName} {bytes cc : ByteArray} {maxL nL mc ms n index : Nat} {ret : Option FieldType} {hh : List (Nat × Nat × Nat × Nat)} {ws : List Cond} {rm : Room} {Pc : Array Value → State → Prop} {Qc : Array Value → State → Outcome → State → Prop} {free : Addr → Prop} {Ts : List Cond} {own : String} {As rest : List Value} {g : JFrame}
    (S : CallFix p m c cc nL s args Ts own) (hM : Met l y ws rm Pc Qc mc ms free) (cw : vx_CSW R s args own index y bytes maxL ret hh ws rm mc ms n) (hp : PreS s H Pc As)
    (hg : g.method = m) (hn : As.length = n) (hsize : g.locals.size = nL) (hstack : g.stack = As.reverse ++ rest) (hW : 2 * g.monitorRoom + (rest.map fun v => v.category).sum ≤ 8) (hdg : decode cc g.pc = .ok (.invokestatic index, 3)) (hf : cells + mc ≤ R.cells ∧ slots + ms ≤ R.slots) :
    va_Run p l e R s m args below meth c H locs cells slots mc ms g rest (Qc As.toArray) (free) := by
  obtain ⟨⟨hrc, hrs, hfr, hlo, hws, hcw⟩, hcode, hini, hy, hlen, hl, hstt⟩ := cw
  have hK : Back l R p e below s args y 3 8 (PreOf R mc ms Pc) (PostOf Qc mc ms free) := va_backW (hh := hh) (bytes := bytes) (maxL := maxL) (ret := ret) hM hp.1 hrc hrs hfr hlo hws hcw (fun a' U hW => word_at hW (Or.inl (by first | rfl | simp [Cond.onTables, Cond.keeps, Cond.steady])) hini)
  obtain ⟨hx, hb, hml, ho, -⟩ := S
  intro T hT X
  obtain ⟨v, vm₁, ⟨U', l2, c2, s2⟩, hW₁, X', ⟨g', mk, t, L, e1, e2, hq, h1, hL, h2, h3⟩, st⟩ := vx_callSW X hx (hh := hh) (bytes := bytes) (maxL := maxL) (ret := ret) ho hl hstt hini hcode hy hK hg (hsize.trans hml.symm) (argsL := As) (rest := rest) (fun sig h => hn.trans (hlen sig h)) hstack hW (by rw [hb]; exact hdg)
    (fun vm₁ hW₁ => ⟨hf.1, hf.2, hp.2 (T.setVm vm₁) hT hW₁⟩)
  dsimp only [Pt.U, Pt.locs, Pt.cells, Pt.slots] at X' e1 e2 h1 h2 h3 st
  subst h1; subst h2; subst h3
  exact ⟨v, (T.setVm vm₁).calling g' mk As.toArray, t, U', L, hT, X', hL, e1, e2, hq, st⟩
/-- not caught here, past rows that name other classes: it goes on to the caller -/
theorem vx_outP {p : Program} {l : Launch} {e : Env} {R : Room} {s : State} {m : MethodId} {args : Array Value} {below : List Frame} {meth : Method} {c : Code} {H : Heap} {locs : List Loc} {cells slots : Nat} {free : Addr → Prop} {ls : Array Slot} {rest : List Value} {Qc : Array Value → State → Outcome → State → Prop} {XC : String → State → State → Prop}
    {pc : Nat} {own E : String} {ce : Cell} {q : Addr} {mc ms : Nat} (hown : s.vm.findClass own = some m.cls) (hlocks : meth.locks = false)
    (hpass : ∀ z ∈ c.exceptionTable.toList, covers z pc = false ∨ (z.catchType ≠ 0 ∧ ∃ nm : String, (Cond.classLink own z.catchType nm).before args s = true ∧ va_Nc E nm s)) (hcell : H[q]? = some ce) (hv : ce.vm = .none) (hcl : s.vm.findClass E = some ce.cls)
    (hx : ∀ t : State, t.heap = H → s.vm.Alike t.vm → XC E s t) (hf : ∀ z ∈ locs, free z.base) (hc : cells ≤ mc) (hs : slots ≤ ms) :
    vx_W p l e R s m args below meth c H locs cells slots (vx_MQ below Qc XC args s mc ms free) (F0 m pc ls rest) q := by
  intro T hT X
  have hpl : e.platform.magicAccessors = ({} : Platform).magicAccessors := by rw [X.admits.platform]
  obtain ⟨vm', hW', X', st⟩ := X.outThrough hlocks q (g := F0 m pc ls rest) rfl rfl rfl (cell := ce) (by rw [hT]; exact hcell) (by rw [hv]; rfl)
    (by obtain ⟨k9, h9, -⟩ := Vm.findClass_spec hcl; exact ⟨k9, h9⟩) (fun z hz => by
      rcases hpass z hz with h | ⟨hz0, nm, hl1, hn1⟩
      · exact Or.inl h
      · obtain ⟨c6, hc6, hcl6⟩ := Cond.classLink_spec hown hl1 e.platform hpl
        obtain ⟨a8, b8, h1, h2, h3⟩ := hn1
        cases Option.some.inj (h1.symm.trans hcl)
        cases Option.some.inj (h2.symm.trans hc6)
        exact Or.inr ⟨hz0, _, hcl6, h3⟩)
  obtain ⟨g₀, hfr⟩ := X'.frames_eq
  have hcell9 : ((T.setVm vm').setFrames (.throwing q :: below)).heap[q]? = some ce := by
    show T.heap[q]? = some ce
    rw [hT]; exact hcell
  have hend : Ended ((T.setVm vm').setFrames (.throwing q :: below)) below (.threw q) := State.frames_setFrames _ (State.cur_lt_of_frames hfr)
  refine ⟨(T.setVm vm').setFrames (.throwing q :: below), ?_, .threw q, X'.here.running, hend, Or.inr ⟨q, rfl, E, ce, locs, hx _ hT (X'.ends _).1.alike, hcell9, hv, hcl, (X'.ends _).1, (X'.ends _).2.mono hc hs, hf⟩⟩
  rw [X.pushThrowing_eq]
  exact st
/-- a thing of a world lies in the heap -/
theorem vx_lt {D : va_G} {cl : List vw_C} {ws : va_W} {H1 : Heap} (h : va_P D cl ws H1) {k : Nat} {q : Nat × va_E} (hk : ws[k]? = some q) : q.1 < H1.size := (h k q hk).lt
end VXS
/-! ===== END ===== -/
/-! ===== BEGIN methods with a table of their own: called by a name, returning or throwing ===== -/
section VXH
/-! vx_backW, vx_callVX, vx_callSX, vx_callVW, vx_runVW, vx_runVX, vx_runSX, vx_ofWH follow the same proofs as their sisters above (Free/Laws.lean, Shelf42/LK1.lean); vx_outP calls Shelf42/NT130.lean (outThrough). -/
section
variable {l : Launch} {R : Room} {p : Program} {e : Env} {below : List Frame} {s : State} {sargs : Array Value} {y : MethodName} {len W9 : Nat}
theorem vx_backW {ws : List Cond} {rm : Room} {Pc : Array Value → State → Prop} {Qc : Array Value → State → Outcome → State → Prop} {XC : String → State → State → Prop} {mc ms : Nat} {free : Addr → Prop} {bytes : ByteArray} {maxL : Nat} {ret : Option FieldType} {hh : List (Nat × Nat × Nat × Nat)}
    (hM : vx_Met l y ws rm Pc Qc XC mc ms free) (hblind : FrameBlind Pc) (hrc : rm.cells = mc) (hrs : rm.slots = ms)
    (hframes : rm.frames + 1 ≤ R.frames) (hlocals : W9 + (maxL + 11) + rm.locals ≤ R.locals)
    (hws : ∀ w ∈ ws, ∀ a' U, s.WarmedH U.vm → w.before a' U = true) (hcode : Cond.codeWith y bytes maxL ret hh ∈ ws) (hinit : ∀ a' U, s.WarmedH U.vm → (Cond.initialized y.cls).before a' U = true) :
    vx_Back l R p e below s sargs y len W9 (PreOf R mc ms Pc) (PostOf Qc mc ms free) (vx_Post XC mc ms free) := by
  intro m meth c A g ig mk a X hg hsize hdg hW hn hp
  have h1 : (headSpec ws rm).pre.before a A.U = true := atoms_intro fun w hw => hws w hw _ _ X.warmed
  have h2 : (Cond.codeWith y bytes maxL ret hh).before a A.U = true := hws _ hcode _ _ X.warmed
  have h3 : (Cond.initialized y.cls).before a A.U = true := hinit _ _ X.warmed
  have h4 : A.cells + (headSpec ws rm).room.cells ≤ R.cells := by rw [show (headSpec ws rm).room.cells = mc from hrc]; exact hp.1
  have h5 : A.slots + (headSpec ws rm).room.slots ≤ R.slots := by rw [show (headSpec ws rm).room.slots = ms from hrs]; exact hp.2.1
  have hPc : Pc a (A.U.calling g mk a) := hblind _ _ _ _ hp.2.2
  obtain ⟨U, Ls, c0, s0⟩ := A
  dsimp only [Pt.U, Pt.locs, Pt.cells, Pt.slots] at h1 h2 h3 h4 h5 X hn hPc ⊢
  obtain ⟨m9, methY, cY, hn9, hmY, hcY, -, hlY, -⟩ := Cond.codeWith_spec h2
  cases Option.some.inj (hn9.symm.trans hn)
  obtain ⟨kY, hkY, -⟩ := className_of_methodNamed hn
  have hinitY : kY.init = .initialized := Cond.initialized_spec (findClass_of_methodNamed hn) hkY h3
  have h : At U g.method c below := by rw [hg]; exact X.here
  have hlocals9 : W9 + (maxL + 11) + (headSpec ws rm).room.locals ≤ R.locals := hlocals
  have happ : (headSpec ws rm).appliesLoose y e.platform (U.calling g mk a) = true :=
    Spec.appliesLoose_calling (g := g) h hdg hn hkY hinitY
      (X.room_calling (g := g) (R' := (headSpec ws rm).room) hsize hmY hcY hframes (by rw [hlY]; omega) h4 h5) h1
  obtain ⟨mid, hmid⟩ := h.above
  have hfr : (U.setTop g).frames = (.java g :: mid) ++ below := by rw [State.frames_setTop' g h.top, hmid]; rfl
  obtain ⟨o, s₂, hsteps, -, hend, hq⟩ := Steps.callFree hM p X.admits X.cas X.clock (acts := []) hfr happ hPc trivial
  have hq' : vx_Q Qc XC mc ms free a (U.calling g mk a) o s₂ := hq
  rw [State.frames_setTop' g h.top] at hend
  obtain ⟨g₀, hg0⟩ := Option.isSome_iff_exists.mp h.top
  obtain ⟨r, hr⟩ := State.topJava?_eq_some.mp hg0
  have hr' : (({ U with heap := s₂.heap, slotsUsed := s₂.slotsUsed } : State).setVm s₂.vm).frames = .java g₀ :: r := hr
  rcases hq' with ⟨hqc, L, hfe, hL⟩ | ⟨q, rfl, E, ce, L, hx, hce, hcv, hcl, hW₂, hsm, hL⟩
  · obtain ⟨⟨v, rfl⟩, hW₂, e2, q2, q3, q4, q5, q6⟩ := id hfe
    have e3 : s₂ = ({ (U.calling g mk a).setFrames s₂.frames with heap := s₂.heap, slotsUsed := s₂.slotsUsed } : State).setVm s₂.vm := by
      have : s₂ = ({ s₂ with vm := (U.calling g mk a).vm } : State).setVm s₂.vm := rfl
      rw [e2] at this
      exact this
    obtain ⟨c₂, i₂, len₂, hc₂, hd₂, hf₂⟩ := hend
    have hW' : U.WarmedH s₂.vm := hW₂
    have hcc : c₂ = c := by
      have h1 : s₂.code? g.method = U.code? g.method := by
        rw [State.code?_eq, State.code?_eq, hW'.alike.method?]
      exact Option.some.inj (hc₂.symm.trans (h1.trans h.code))
    subst hcc
    have hlen : len₂ = len := by rw [hdg] at hd₂; cases hd₂; rfl
    subst hlen
    have hs₂ : s₂ = (({ U with heap := s₂.heap, slotsUsed := s₂.slotsUsed } : State).setVm s₂.vm).setTop { g with pc := g.pc + len₂, stack := v.toList ++ g.stack } := by
      refine e3.trans ?_
      rw [hf₂, State.calling_eq h.top, State.setFrames_setFrames, State.setTop_of_frames _ hr', hr]
      rfl
    have hsame : U.sameButNew ({ U with heap := s₂.heap, slotsUsed := s₂.slotsUsed } : State) L mc ms := by
      refine ⟨?_, q2, q3, q4, q5, q6⟩
      obtain ⟨t, ht, -⟩ := State.frames_cons hr
      show ({ U with heap := s₂.heap, slotsUsed := s₂.slotsUsed } : State) = { U.setFrames U.frames with heap := s₂.heap, slotsUsed := s₂.slotsUsed }
      rw [State.setFrames_self ht]
    subst hg
    refine Or.inl ⟨v, ⟨(({ U with heap := s₂.heap, slotsUsed := s₂.slotsUsed } : State).setVm s₂.vm), Ls ++ L, c0 + mc, s0 + ms⟩,
      ⟨X.admits, X.cas, X.clock, X.frames, X.room, X.hears, X.method, X.code, (X.here.setHeapUsed s₂.heap s₂.slotsUsed).setVm hW'.alike, X.tail, State.WarmedH.trans X.warmed hW', X.limits, X.bytes, X.same.trans (hsame.setVm s.vm)⟩,
      ⟨g, mk, s₂, L, rfl, rfl, hqc, rfl, hL, rfl, rfl⟩, ?_⟩
    show Steps p.tables e below _ ((({ U with heap := s₂.heap, slotsUsed := s₂.slotsUsed } : State).setVm s₂.vm).setTop { g with pc := g.pc + len₂, stack := v.toList ++ g.stack })
    rw [← hs₂]
    exact hsteps
  · obtain ⟨e2, q2, q3, q4, q5, q6⟩ := id hsm
    have e3 : s₂ = ({ (U.calling g mk a).setFrames s₂.frames with heap := s₂.heap, slotsUsed := s₂.slotsUsed } : State).setVm s₂.vm := by
      have : s₂ = ({ s₂ with vm := (U.calling g mk a).vm } : State).setVm s₂.vm := rfl
      rw [e2] at this
      exact this
    have hf₂ : s₂.frames = .throwing q :: .java g :: U.frames.tail := hend
    have hW' : U.WarmedH s₂.vm := hW₂
    have hs₂ : s₂ = ((({ U with heap := s₂.heap, slotsUsed := s₂.slotsUsed } : State).setVm s₂.vm).setTop g).pushFrame (.throwing q) := by
      refine e3.trans ?_
      rw [hf₂, State.calling_eq h.top, State.setFrames_setFrames, State.pushFrame, State.frames_setTop _ hr', State.setTop_of_frames _ hr', State.setFrames_setFrames, hr]
      rfl
    have hsame : U.sameButNew ({ U with heap := s₂.heap, slotsUsed := s₂.slotsUsed } : State) L mc ms := by
      refine ⟨?_, q2, q3, q4, q5, q6⟩
      obtain ⟨t, ht, -⟩ := State.frames_cons hr
      show ({ U with heap := s₂.heap, slotsUsed := s₂.slotsUsed } : State) = { U.setFrames U.frames with heap := s₂.heap, slotsUsed := s₂.slotsUsed }
      rw [State.setFrames_self ht]
    subst hg
    refine Or.inr ⟨q, ⟨(({ U with heap := s₂.heap, slotsUsed := s₂.slotsUsed } : State).setVm s₂.vm), Ls ++ L, c0 + mc, s0 + ms⟩,
      ⟨X.admits, X.cas, X.clock, X.frames, X.room, X.hears, X.method, X.code, (X.here.setHeapUsed s₂.heap s₂.slotsUsed).setVm hW'.alike, X.tail, State.WarmedH.trans X.warmed hW', X.limits, X.bytes, X.same.trans (hsame.setVm s.vm)⟩,
      ⟨g, mk, s₂, L, E, ce, rfl, rfl, hx, hce, hcv, hcl, rfl, hL, rfl, rfl⟩, ?_⟩
    show Steps p.tables e below _ (((({ U with heap := s₂.heap, slotsUsed := s₂.slotsUsed } : State).setVm s₂.vm).setTop g).pushFrame (.throwing q))
    rw [← hs₂]
    exact hsteps
end
variable {p : Program} {l : Launch} {e : Env} {R : Room} {s : State} {m : MethodId} {args : Array Value} {below : List Frame} {meth : Method} {c : Code} {T : State} {H : Heap} {locs : List Loc} {cells slots : Nat}
theorem vx_callVX (X : Stand p l e R s m args below meth c T locs cells slots) (hexec : p.tables.exec = Jvm.exec) {own C : String} {index : Nat} {y : MethodName} {bytes : ByteArray} {maxL : Nat} {ret : Option FieldType} {hh : List (Nat × Nat × Nat × Nat)}
    (hown : s.vm.findClass own = some m.cls) (hlink : (Cond.methodLink own index y).before args s = true) (hinst : (Cond.instanceMethod y).before args s = true) (hsel : (Cond.selects C y y).before args s = true)
    (hcode : (Cond.codeWith y bytes maxL ret hh).before args s = true) (hy : y.cls ≠ "java/lang/invoke/MethodHandle" ∧ y.cls ≠ "java/lang/invoke/VarHandle")
    {W9 : Nat} {Pre : Pt → Array Value → Prop} {Post : Pt → Array Value → Option Value → Pt → Prop} {PostX : Pt → Array Value → Addr → Pt → Prop} (hK : vx_Back l R p e below s args y 3 W9 Pre Post PostX)
    {b : Addr} {cellB : Cell} (hcell : T.heap[b]? = some cellB) (hobj : cellB.vm.isStatics = false) (hcls : s.vm.findClass C = some cellB.cls)
    {g : JFrame} (hg : g.method = m) (hsize : g.locals.size = c.maxLocals) {argsL rest : List Value} (hlen : ∀ sig, parseMethodDescriptor y.desc = some sig → argsL.length = sig.parameters.length)
    (hstack : g.stack = argsL.reverse ++ .ref b :: rest) (hW : 2 * g.monitorRoom + (rest.map fun v => v.category).sum ≤ W9) (hdg : decode c.code g.pc = .ok (.invokevirtual index, 3))
    (hpre : ∀ vm₁, s.WarmedH vm₁ → Pre ⟨T.setVm vm₁, locs, cells, slots⟩ (Value.ref b :: argsL).toArray) :
    (∃ (v : Option Value) (vm₁ : Vm) (B : Pt), s.WarmedH vm₁ ∧ Stand p l e R s m args below meth c B.U B.locs B.cells B.slots ∧ Post ⟨T.setVm vm₁, locs, cells, slots⟩ (Value.ref b :: argsL).toArray v B ∧
      ∀ target, Steps p.tables e below (B.U.setTop { g with pc := g.pc + 3, stack := v.toList ++ rest }) target → Steps p.tables e below (T.setTop g) target) ∨
    (∃ (q : Addr) (vm₁ : Vm) (B : Pt), s.WarmedH vm₁ ∧ Stand p l e R s m args below meth c B.U B.locs B.cells B.slots ∧ PostX ⟨T.setVm vm₁, locs, cells, slots⟩ (Value.ref b :: argsL).toArray q B ∧
      Steps p.tables e below (T.setTop g) ((B.U.setTop { g with stack := rest }).pushFrame (.throwing q))) := by
  obtain ⟨mk, methM, hnamed, hmethM, hstM, habM⟩ := Cond.instanceMethod_spec hinst
  obtain ⟨m8, methM', cM, hn8, hmethM', -, -, -, -, -, -, hsigM⟩ := Cond.codeWith_spec hcode
  cases Option.some.inj (hn8.symm.trans hnamed)
  cases hmethM.symm.trans hmethM'
  obtain ⟨c2, r2, m2, q1, q2, q3, q4, kP, hkP, hkPi⟩ := Cond.selects_spec hsel
  cases hcls.symm.trans q1
  cases (State.methodFound?_of_named hnamed hy).symm.trans q2
  cases hnamed.symm.trans q3
  have hselP : selectMethod e.platform s.vm cellB.cls mk = .method mk := by rw [Launch.admits_selectMethod X.admits]; exact q4
  obtain ⟨vm₁, X₁, hstep₁⟩ := X.invokevirtual hexec hown hlink hnamed hmethM hstM hkP hkPi hy (a := b) (cell := cellB) hcell
    (fun z h => by rw [h] at hobj; cases hobj) hselP hmethM habM hkP hkPi (g := g) hg (argsL := argsL) (rest := rest) (hlen _ hsigM) hstack hdg
  rcases hK m meth c ⟨T.setVm vm₁, locs, cells, slots⟩ { g with stack := rest } (.invokevirtual index) mk (Value.ref b :: argsL).toArray X₁ hg hsize hdg hW (X₁.named hnamed) (hpre vm₁ X₁.warmed) with ⟨v, B, X', hpost, hsteps⟩ | ⟨q, B, X', hpost, hsteps⟩
  · exact Or.inl ⟨v, vm₁, B, X₁.warmed, X', hpost, fun target h => hstep₁ _ fun acts => by rw [doInvoke_state]; exact hsteps.trans h⟩
  · exact Or.inr ⟨q, vm₁, B, X₁.warmed, X', hpost, hstep₁ _ fun acts => by rw [doInvoke_state]; exact hsteps⟩
theorem vx_callSX (X : Stand p l e R s m args below meth c T locs cells slots) (hexec : p.tables.exec = Jvm.exec) {own : String} {index : Nat} {y : MethodName} {bytes : ByteArray} {maxL : Nat} {ret : Option FieldType} {hh : List (Nat × Nat × Nat × Nat)}
    (hown : s.vm.findClass own = some m.cls) (hlink : (Cond.methodLink own index y).before args s = true) (hstat : (Cond.static y).before args s = true) (hinit : (Cond.initialized y.cls).before args s = true)
    (hcode : (Cond.codeWith y bytes maxL ret hh).before args s = true) (hy : y.cls ≠ "java/lang/invoke/MethodHandle" ∧ y.cls ≠ "java/lang/invoke/VarHandle")
    {W9 : Nat} {Pre : Pt → Array Value → Prop} {Post : Pt → Array Value → Option Value → Pt → Prop} {PostX : Pt → Array Value → Addr → Pt → Prop} (hK : vx_Back l R p e below s args y 3 W9 Pre Post PostX)
    {g : JFrame} (hg : g.method = m) (hsize : g.locals.size = c.maxLocals) {argsL rest : List Value} (hlen : ∀ sig, parseMethodDescriptor y.desc = some sig → argsL.length = sig.parameters.length)
    (hstack : g.stack = argsL.reverse ++ rest) (hW : 2 * g.monitorRoom + (rest.map fun v => v.category).sum ≤ W9) (hdg : decode c.code g.pc = .ok (.invokestatic index, 3))
    (hpre : ∀ vm₁, s.WarmedH vm₁ → Pre ⟨T.setVm vm₁, locs, cells, slots⟩ argsL.toArray) :
    (∃ (v : Option Value) (vm₁ : Vm) (B : Pt), s.WarmedH vm₁ ∧ Stand p l e R s m args below meth c B.U B.locs B.cells B.slots ∧ Post ⟨T.setVm vm₁, locs, cells, slots⟩ argsL.toArray v B ∧
      ∀ target, Steps p.tables e below (B.U.setTop { g with pc := g.pc + 3, stack := v.toList ++ rest }) target → Steps p.tables e below (T.setTop g) target) ∨
    (∃ (q : Addr) (vm₁ : Vm) (B : Pt), s.WarmedH vm₁ ∧ Stand p l e R s m args below meth c B.U B.locs B.cells B.slots ∧ PostX ⟨T.setVm vm₁, locs, cells, slots⟩ argsL.toArray q B ∧
      Steps p.tables e below (T.setTop g) ((B.U.setTop { g with stack := rest }).pushFrame (.throwing q))) := by
  obtain ⟨mk, methM, cM, hnamed, hmethM, -, -, -, -, -, -, hsigM⟩ := Cond.codeWith_spec hcode
  have hstatic : methM.isStatic = true := Cond.static_spec hnamed hmethM hstat
  obtain ⟨kP, hkP, -⟩ := className_of_methodNamed hnamed
  have hinitP : kP.init = .initialized := Cond.initialized_spec (findClass_of_methodNamed hnamed) hkP hinit
  obtain ⟨vm₁, X₁, hstep₁⟩ := X.invokestatic hexec hown hlink hnamed hmethM hstatic hkP hinitP hy (g := g) hg (argsL := argsL) (rest := rest) (hlen _ hsigM) hstack hdg
  rcases hK m meth c ⟨T.setVm vm₁, locs, cells, slots⟩ { g with stack := rest } (.invokestatic index) mk argsL.toArray X₁ hg hsize hdg hW (X₁.named hnamed) (hpre vm₁ X₁.warmed) with ⟨v, B, X', hpost, hsteps⟩ | ⟨q, B, X', hpost, hsteps⟩
  · exact Or.inl ⟨v, vm₁, B, X₁.warmed, X', hpost, fun target h => hstep₁ _ fun acts => by rw [doInvoke_state]; exact hsteps.trans h⟩
  · exact Or.inr ⟨q, vm₁, B, X₁.warmed, X', hpost, hstep₁ _ fun acts => by rw [doInvoke_state]; exact hsteps⟩
theorem vx_callVW (X : Stand p l e R s m args below meth c T locs cells slots) (hexec : p.tables.exec = Jvm.exec) {own C : String} {index : Nat} {y : MethodName} {bytes : ByteArray} {maxL : Nat} {ret : Option FieldType} {hh : List (Nat × Nat × Nat × Nat)}
    (hown : s.vm.findClass own = some m.cls) (hlink : (Cond.methodLink own index y).before args s = true) (hinst : (Cond.instanceMethod y).before args s = true) (hsel : (Cond.selects C y y).before args s = true)
    (hcode : (Cond.codeWith y bytes maxL ret hh).before args s = true) (hy : y.cls ≠ "java/lang/invoke/MethodHandle" ∧ y.cls ≠ "java/lang/invoke/VarHandle")
    {W9 : Nat} {Pre : Pt → Array Value → Prop} {Post : Pt → Array Value → Option Value → Pt → Prop} (hK : Back l R p e below s args y 3 W9 Pre Post)
    {b : Addr} {cellB : Cell} (hcell : T.heap[b]? = some cellB) (hobj : cellB.vm.isStatics = false) (hcls : s.vm.findClass C = some cellB.cls)
    {g : JFrame} (hg : g.method = m) (hsize : g.locals.size = c.maxLocals) {argsL rest : List Value} (hlen : ∀ sig, parseMethodDescriptor y.desc = some sig → argsL.length = sig.parameters.length)
    (hstack : g.stack = argsL.reverse ++ .ref b :: rest) (hW : 2 * g.monitorRoom + (rest.map fun v => v.category).sum ≤ W9) (hdg : decode c.code g.pc = .ok (.invokevirtual index, 3))
    (hpre : ∀ vm₁, s.WarmedH vm₁ → Pre ⟨T.setVm vm₁, locs, cells, slots⟩ (Value.ref b :: argsL).toArray) :
    ∃ (v : Option Value) (vm₁ : Vm) (B : Pt), s.WarmedH vm₁ ∧ Stand p l e R s m args below meth c B.U B.locs B.cells B.slots ∧ Post ⟨T.setVm vm₁, locs, cells, slots⟩ (Value.ref b :: argsL).toArray v B ∧
      ∀ target, Steps p.tables e below (B.U.setTop { g with pc := g.pc + 3, stack := v.toList ++ rest }) target → Steps p.tables e below (T.setTop g) target := by
  obtain ⟨mk, methM, hnamed, hmethM, hstM, habM⟩ := Cond.instanceMethod_spec hinst
  obtain ⟨m8, methM', cM, hn8, hmethM', -, -, -, -, -, -, hsigM⟩ := Cond.codeWith_spec hcode
  cases Option.some.inj (hn8.symm.trans hnamed)
  cases hmethM.symm.trans hmethM'
  obtain ⟨c2, r2, m2, q1, q2, q3, q4, kP, hkP, hkPi⟩ := Cond.selects_spec hsel
  cases hcls.symm.trans q1
  cases (State.methodFound?_of_named hnamed hy).symm.trans q2
  cases hnamed.symm.trans q3
  have hselP : selectMethod e.platform s.vm cellB.cls mk = .method mk := by rw [Launch.admits_selectMethod X.admits]; exact q4
  obtain ⟨vm₁, X₁, hstep₁⟩ := X.invokevirtual hexec hown hlink hnamed hmethM hstM hkP hkPi hy (a := b) (cell := cellB) hcell
    (fun z h => by rw [h] at hobj; cases hobj) hselP hmethM habM hkP hkPi (g := g) hg (argsL := argsL) (rest := rest) (hlen _ hsigM) hstack hdg
  obtain ⟨v, B, X', hpost, hsteps⟩ := hK m meth c ⟨T.setVm vm₁, locs, cells, slots⟩ { g with stack := rest } (.invokevirtual index) mk (Value.ref b :: argsL).toArray X₁ hg hsize hdg hW (X₁.named hnamed) (hpre vm₁ X₁.warmed)
  exact ⟨v, vm₁, B, X₁.warmed, X', hpost, fun target h => hstep₁ _ fun acts => by rw [doInvoke_state]; exact hsteps.trans h⟩
abbrev vx_CVW (R : Room) (s : State) (args : Array Value) (own C : String) (index : Nat) (y : MethodName) (bytes : ByteArray) (maxL : Nat) (ret : Option FieldType) (hh : List (Nat × Nat × Nat × Nat)) (ws : List Cond) (rm : Room) (mc ms n : Nat) : Prop :=
  (rm.cells = mc ∧ rm.slots = ms ∧ rm.frames + 1 ≤ R.frames ∧ 8 + (maxL + 11) + rm.locals ≤ R.locals ∧ (∀ w ∈ ws, ∀ (a' : Array Value) (U : State), s.WarmedH U.vm → w.before a' U = true) ∧ Cond.codeWith y bytes maxL ret hh ∈ ws) ∧
  (Cond.codeWith y bytes maxL ret hh).before args s = true ∧ (Cond.initialized y.cls).before args s = true ∧ (y.cls ≠ "java/lang/invoke/MethodHandle" ∧ y.cls ≠ "java/lang/invoke/VarHandle") ∧
  (∀ sig, parseMethodDescriptor y.desc = some sig → n = sig.parameters.length) ∧ (Cond.methodLink own index y).before args s = true ∧ (Cond.instanceMethod y).before args s = true ∧ (Cond.selects C y y).before args s = true
theorem vx_cwVW {own C : String} {index maxL mc ms : Nat} {y : MethodName} {bytes : ByteArray} {ret : Option FieldType} {hh : List (Nat × Nat × Nat × Nat)} {Ts ws ws' : List Cond} {rm : Room} (n : Nat) (ht : ∀ w ∈ Ts, w.before args s = true) (hT : GoodIn Ts (wsV own index C y ws)) (hw : ws = Cond.codeWith y bytes maxL ret hh :: ws') (hrc : rm.cells = mc) (hrs : rm.slots = ms)
    (hd : y.cls = C ∧ y.cls ≠ "java/lang/invoke/MethodHandle" ∧ y.cls ≠ "java/lang/invoke/VarHandle" ∧ (parseMethodDescriptor y.desc).map (fun d => d.parameters.length) = some n) (hR : rm.frames + 1 ≤ R.frames ∧ 8 + (maxL + 11) + rm.locals ≤ R.locals) :
    vx_CVW R s args own C index y bytes maxL ret hh ws rm mc ms n := by
  obtain ⟨hC, hd⟩ := hd
  subst hC
  have ok : ∀ w ∈ wsV own index y.cls y ws, w.before args s = true := fun w h => ht w (hT w h).1
  have hG : GoodIn Ts ws := fun w h => hT w (by unfold wsV; exact List.mem_append_right _ h)
  have hc : Cond.codeWith y bytes maxL ret hh ∈ ws := by rw [hw]; exact List.mem_cons_self
  refine ⟨⟨hrc, hrs, hR.1, hR.2, pay_in ht hG, hc⟩, ht _ (hG _ hc).1, ok _ (by simp [wsV]), ⟨hd.1, hd.2.1⟩, fun sig h => ?_, ok _ (by simp [wsV]), ok _ (by simp [wsV]), ok _ (by simp [wsV])⟩
  have h2 := hd.2.2
  rw [h] at h2
  exact (Option.some.inj h2).symm
theorem vx_runVW {y : MethodName} {bytes cc : ByteArray} {maxL nL mc ms n index : Nat} {ret : Option FieldType} {hh : List (Nat × Nat × Nat × Nat)} {ws : List Cond} {rm : Room} {Pc : Array Value → State → Prop} {Qc : Array Value → State → Outcome → State → Prop} {free : Addr → Prop} {Ts : List Cond} {own C : String} {b : Addr} {As rest : List Value} {g : JFrame}
    (S : CallFix p m c cc nL s args Ts own) (hM : Met l y ws rm Pc Qc mc ms free) (cw : vx_CVW R s args own C index y bytes maxL ret hh ws rm mc ms n) (hp : PreV s H C b Pc As)
    (hg : g.method = m) (hn : As.length = n) (hsize : g.locals.size = nL) (hstack : g.stack = As.reverse ++ .ref b :: rest) (hW : 2 * g.monitorRoom + (rest.map fun v => v.category).sum ≤ 8) (hdg : decode cc g.pc = .ok (.invokevirtual index, 3)) (hf : cells + mc ≤ R.cells ∧ slots + ms ≤ R.slots) :
    va_Run p l e R s m args below meth c H locs cells slots mc ms g rest (Qc (Value.ref b :: As).toArray) free := by
  obtain ⟨⟨hrc, hrs, hfr, hlo, hws, hcw⟩, hcode, hini, hy, hlen, hl, hin, hse⟩ := cw
  have hK : Back l R p e below s args y 3 8 (PreOf R mc ms Pc) (PostOf Qc mc ms free) := va_backW (hh := hh) (bytes := bytes) (maxL := maxL) (ret := ret) hM hp.1 hrc hrs hfr hlo hws hcw (fun a' U hW => word_at hW (Or.inl (by first | rfl | simp [Cond.onTables, Cond.keeps, Cond.steady])) hini)
  obtain ⟨hx, hb, hml, ho, -⟩ := S
  obtain ⟨-, ⟨cellB, hcB, hoB, hclB⟩, hPc⟩ := hp
  intro T hT X
  obtain ⟨v, vm₁, ⟨U', l2, c2, s2⟩, hW₁, X', ⟨g', mk, t, L, e1, e2, hq, h1, hL, h2, h3⟩, st⟩ := vx_callVW X hx (C := C) (hh := hh) (bytes := bytes) (maxL := maxL) (ret := ret) ho hl hin hse hcode hy hK (by rw [hT]; exact hcB) hoB hclB hg (hsize.trans hml.symm) (argsL := As) (rest := rest) (fun sig h => hn.trans (hlen sig h)) hstack hW (by rw [hb]; exact hdg)
    (fun vm₁ hW₁ => ⟨hf.1, hf.2, hPc (T.setVm vm₁) hT hW₁⟩)
  dsimp only [Pt.U, Pt.locs, Pt.cells, Pt.slots] at X' e1 e2 h1 h2 h3 st
  subst h1; subst h2; subst h3
  exact ⟨v, (T.setVm vm₁).calling g' mk (Value.ref b :: As).toArray, t, U', L, hT, X', hL, e1, e2, hq, st⟩
section
variable {y : MethodName} {bytes cc : ByteArray} {maxL nL mc ms n index : Nat} {ret : Option FieldType} {ws : List Cond} {rm : Room} {Pc : Array Value → State → Prop} {Qc : Array Value → State → Outcome → State → Prop} {XC : String → State → State → Prop} {free : Addr → Prop} {Ts : List Cond} {own C : String} {b : Addr} {As rest : List Value} {g : JFrame}
theorem vx_runVX {hh : List (Nat × Nat × Nat × Nat)} (S : CallFix p m c cc nL s args Ts own) (hM : vx_Met l y ws rm Pc Qc XC mc ms free) (cw : vx_CVW R s args own C index y bytes maxL ret hh ws rm mc ms n) (hp : PreV s H C b Pc As)
    (hg : g.method = m) (hn : As.length = n) (hsize : g.locals.size = nL) (hstack : g.stack = As.reverse ++ .ref b :: rest) (hW : 2 * g.monitorRoom + (rest.map fun v => v.category).sum ≤ 8) (hdg : decode cc g.pc = .ok (.invokevirtual index, 3)) (hf : cells + mc ≤ R.cells ∧ slots + ms ≤ R.slots) :
    vx_Run p l e R s m args below meth c H locs cells slots mc ms g rest (Qc (Value.ref b :: As).toArray) XC free := by
  obtain ⟨⟨hrc, hrs, hfr, hlo, hws, hcw⟩, hcode, hini, hy, hlen, hl, hin, hse⟩ := cw
  have hK : vx_Back l R p e below s args y 3 8 (PreOf R mc ms Pc) (PostOf Qc mc ms free) (vx_Post XC mc ms free) := vx_backW (hh := hh) (bytes := bytes) (maxL := maxL) (ret := ret) hM hp.1 hrc hrs hfr hlo hws hcw (fun a' U hW => word_at hW (Or.inl (by first | rfl | simp [Cond.onTables, Cond.keeps, Cond.steady])) hini)
  obtain ⟨hx, hb, hml, ho, -⟩ := S
  obtain ⟨-, ⟨cellB, hcB, hoB, hclB⟩, hPc⟩ := hp
  intro T hT X
  rcases vx_callVX X hx (C := C) (hh := hh) (bytes := bytes) (maxL := maxL) (ret := ret) ho hl hin hse hcode hy hK (by rw [hT]; exact hcB) hoB hclB hg (hsize.trans hml.symm) (argsL := As) (rest := rest) (fun sig h => hn.trans (hlen sig h)) hstack hW (by rw [hb]; exact hdg)
    (fun vm₁ hW₁ => ⟨hf.1, hf.2, hPc (T.setVm vm₁) hT hW₁⟩) with ⟨v, vm₁, ⟨U', l2, c2, s2⟩, hW₁, X', ⟨g', mk, t, L, e1, e2, hq, h1, hL, h2, h3⟩, st⟩ | ⟨q, vm₁, ⟨U', l2, c2, s2⟩, hW₁, X', ⟨g', mk, t, L, E, ce, e1, e2, hq, hce, hcv, hcl, h1, hL, h2, h3⟩, st⟩
  · dsimp only [Pt.U, Pt.locs, Pt.cells, Pt.slots] at X' e1 e2 h1 h2 h3 st
    subst h1; subst h2; subst h3
    exact Or.inl ⟨v, (T.setVm vm₁).calling g' mk (Value.ref b :: As).toArray, t, U', L, hT, X', hL, e1, e2, hq, st⟩
  · dsimp only [Pt.U, Pt.locs, Pt.cells, Pt.slots] at X' e1 e2 h1 h2 h3 st hcl
    subst h1; subst h2; subst h3
    exact Or.inr ⟨q, (T.setVm vm₁).calling g' mk (Value.ref b :: As).toArray, t, U', L, E, ce, hT, X', hL, e1, e2, hq, hce, hcv, vx_cls hW₁ hcl, st⟩
theorem vx_runSX {hh : List (Nat × Nat × Nat × Nat)} (S : CallFix p m c cc nL s args Ts own) (hM : vx_Met l y ws rm Pc Qc XC mc ms free) (cw : vx_CSW R s args own index y bytes maxL ret hh ws rm mc ms n) (hp : PreS s H Pc As)
    (hg : g.method = m) (hn : As.length = n) (hsize : g.locals.size = nL) (hstack : g.stack = As.reverse ++ rest) (hW : 2 * g.monitorRoom + (rest.map fun v => v.category).sum ≤ 8) (hdg : decode cc g.pc = .ok (.invokestatic index, 3)) (hf : cells + mc ≤ R.cells ∧ slots + ms ≤ R.slots) :
    vx_Run p l e R s m args below meth c H locs cells slots mc ms g rest (Qc As.toArray) XC free := by
  obtain ⟨⟨hrc, hrs, hfr, hlo, hws, hcw⟩, hcode, hini, hy, hlen, hl, hstt⟩ := cw
  have hK : vx_Back l R p e below s args y 3 8 (PreOf R mc ms Pc) (PostOf Qc mc ms free) (vx_Post XC mc ms free) := vx_backW (hh := hh) (bytes := bytes) (maxL := maxL) (ret := ret) hM hp.1 hrc hrs hfr hlo hws hcw (fun a' U hW => word_at hW (Or.inl (by first | rfl | simp [Cond.onTables, Cond.keeps, Cond.steady])) hini)
  obtain ⟨hx, hb, hml, ho, -⟩ := S
  intro T hT X
  rcases vx_callSX X hx (hh := hh) (bytes := bytes) (maxL := maxL) (ret := ret) ho hl hstt hini hcode hy hK hg (hsize.trans hml.symm) (argsL := As) (rest := rest) (fun sig h => hn.trans (hlen sig h)) hstack hW (by rw [hb]; exact hdg)
    (fun vm₁ hW₁ => ⟨hf.1, hf.2, hp.2 (T.setVm vm₁) hT hW₁⟩) with ⟨v, vm₁, ⟨U', l2, c2, s2⟩, hW₁, X', ⟨g', mk, t, L, e1, e2, hq, h1, hL, h2, h3⟩, st⟩ | ⟨q, vm₁, ⟨U', l2, c2, s2⟩, hW₁, X', ⟨g', mk, t, L, E, ce, e1, e2, hq, hce, hcv, hcl, h1, hL, h2, h3⟩, st⟩
  · dsimp only [Pt.U, Pt.locs, Pt.cells, Pt.slots] at X' e1 e2 h1 h2 h3 st
    subst h1; subst h2; subst h3
    exact Or.inl ⟨v, (T.setVm vm₁).calling g' mk As.toArray, t, U', L, hT, X', hL, e1, e2, hq, st⟩
  · dsimp only [Pt.U, Pt.locs, Pt.cells, Pt.slots] at X' e1 e2 h1 h2 h3 st hcl
    subst h1; subst h2; subst h3
    exact Or.inr ⟨q, (T.setVm vm₁).calling g' mk As.toArray, t, U', L, E, ce, hT, X', hL, e1, e2, hq, hce, hcv, vx_cls hW₁ hcl, st⟩
end
end VXH
theorem vx_ofWH {l : Launch} {y : MethodName} {ws ws' : List Cond} {rm : Room} {Pc : Array Value → State → Prop} {Qc : Array Value → State → Outcome → State → Prop} {XC : String → State → State → Prop} {mc ms : Nat} {free : Addr → Prop} {cc : ByteArray} {maxL : Nat} {ret : Option FieldType} {hh : List (Nat × Nat × Nat × Nat)}
    (hy : plainName y.cls = true) (hw : ws = Cond.codeWith y cc maxL ret hh :: ws')
    (body : ∀ p e s m args below meth c s₁, BodyLoose p l y (headSpec ws rm) cc maxL ret e s m args below meth c s₁ → c.maxLocals = maxL → Pc args s →
      W p l e (headSpec ws rm).room s m args below meth c s.heap [] 0 0 (vx_MQ below Qc XC args s mc ms free) (entryFrame m args maxL)) : vx_Met l y ws rm Pc Qc XC mc ms free := by
  refine MetFree.of_bodyS (code := cc) (maxLocals := maxL) (ret := ret) hy ?_ ?_
  · intro args s m h hn
    obtain ⟨m9, meth, c, hn9, h1, h2, h3, h4, -, h5, h6, -⟩ := Cond.codeWith_spec (atoms_spec (ws := ws) h _ (by rw [hw]; exact List.mem_cons_self))
    cases hn.symm.trans hn9
    exact ⟨meth, c, h1, h2, h3, h4, h5, h6⟩
  · intro p e s m args below meth c s₁ B hml hP _
    have hh0 : s₁.heap = s.heap := by rw [B.state]; rfl
    obtain ⟨t, a1, o, b1, b2, b3⟩ := body p e s m args below meth c s₁ B hml hP s₁ hh0 (Stand.of_body B)
    exact ⟨t, o, a1, b1, b2, b3⟩
/-! ===== END ===== -/

/-! ===== BEGIN what the machine throws by itself, no traces kept ===== -/
section VXM
set_option maxHeartbeats 1000000 in
/-- the machine throws cls with the message text, no traces kept: from its note over the frame g to 'throwing' over the same frame (follows the proofs of Stand.vmThrowsMessage, Shelf/KitTracedVmS.lean, and Stand.throwsMessageColdBareV, StandMessageColdV.lean, without the step out of the frame) -/
theorem vx_vmAt {p : Program} {l : Launch} {e : Env} {R : Room} {s : State} {m₀ : MethodId} {args : Array Value} {below : List Frame} {meth : Method} {c : Code} {W : State} {locs : List Loc} {cells slots : Nat}
    (X : Stand p l e R s m₀ args below meth c W locs cells slots) (hexec : p.tables.exec = Jvm.exec) (htr : e.platform.stackTraces = false) {cls : String} {names : List String} {text : String}
    (hcls : Bundle.fit cls = true) (hnames : ∀ n ∈ names, Bundle.fit n = true) (hsoe : (cls == "java/lang/StackOverflowError") = false) (hoom : (cls == "java/lang/OutOfMemoryError") = false)
    (h : ∀ a ∈ Bundle.messageArmAtoms cls names, a.before args s = true)
    (hlocs : ∀ x ∈ locs, ∀ cell, s.heap[x.base]? = some cell → cell.vm.isStatics = false)
    (htext : (text == notModelled) = false) (hlimit : ¬ (stringBytes (stringToUtf16 text)).size > e.platform.arrayLengthLimit) (hheap : ¬ (stringBytes (stringToUtf16 text)).size * componentBytes .byte > e.platform.maxHeapBytes)
    {g : JFrame} (hg : g.method = m₀) (hsize : g.locals.size = c.maxLocals)
    (hRframes : names.length + 4 < R.frames) (hRlocals : 2 * g.monitorRoom + (g.stack.map fun v => v.category).sum + 10240 ≤ R.locals) (hshort : 13 * names.length + 55 ≤ 10240)
    (hRcells : cells + 3 ≤ R.cells) (hRslots : slots + ((stringBytes (stringToUtf16 text)).size + 4 + 6) ≤ R.slots) (hlocks : meth.locks = false) :
    ∃ (S : State) (q : Addr) (ce : Cell), (∀ target, Steps p.tables e below ((S.setTop g).pushFrame (.throwing q)) target → Steps p.tables e below ((W.setTop g).pushFrame (.throwNew cls (some text) none)) target) ∧
      Stand p l e R s m₀ args below meth c S locs (cells + 3) (slots + ((stringBytes (stringToUtf16 text)).size + 4 + 6)) ∧ S.heap[q]? = some ce ∧ s.vm.findClass cls = some ce.cls ∧ ce.vm = .none := by
  have howns : e.platform.frameOwnsMonitors = true := by rw [X.admits.platform]
  have hfin : e.platform.finalization = false := by rw [X.admits.platform]
  have hpl : e.platform.magicAccessors = ({} : Platform).magicAccessors := by rw [X.admits.platform]
  have a : ∀ x, x ∈ Bundle.messageArmAtoms cls names → x.holds args s none s [] = true := fun x hx => h x hx
  obtain ⟨T, Z0, L, -, Y⟩ := ThrowableC.of_atoms (args := args) howns hfin hpl (fun x hx => h x (by simp [Bundle.messageArmAtoms, hx]))
  obtain ⟨Z, M, LZ, LM, hnZ⟩ := Init0T.ofS_atoms (args := args) hpl L Y (fun x hx => h x (by simp [Bundle.messageArmAtoms, hx]))
  obtain ⟨P1, Ps, hlen, L1, hL, hP1m, hlink1, hlink⟩ := Bundle.chainS (args := args) hpl hnZ names cls hcls hnames (fun x hx => h x (by simp [Bundle.messageArmAtoms, hx]))
  obtain ⟨Zs, LZs, hn4, hfitv, hfitc⟩ := StringT.of_atoms (args := args) (fun x hx => h x (by simp [Bundle.messageArmAtoms, hx]))
  have hfound : s.vm.findClass cls = some P1.m.cls := findClass_of_methodNamed hP1m
  obtain ⟨c1, kX, hc1, hk, hord, -, -, hn6⟩ := Cond.instantiable_spec (a (.instantiable cls 6) (by simp [Bundle.messageArmAtoms]))
  cases Option.some.inj (hc1.symm.trans hfound)
  have hinit := Cond.initialized_spec hfound hk (a (.initialized cls) (by simp [Bundle.messageArmAtoms]))
  have hctor : kX.findMethod "<init>" "(Ljava/lang/String;)V" = some P1.m.idx := findMethod_of_methodNamed hP1m hk
  have hsel0 : selectMethod e.platform s.vm P1.m.cls T.fill0 = .method T.fill0 := by
    obtain ⟨c2, r2, m2, q1, q2, q3, q4, -⟩ := Cond.selects_spec (a (.selects cls Bundle.tFill0 Bundle.tFill0) (by simp [Bundle.messageArmAtoms]))
    cases Option.some.inj (q1.symm.trans hfound)
    cases Option.some.inj (q2.symm.trans (State.methodFound?_of_named Y.fill0 (by decide)))
    cases Option.some.inj (q3.symm.trans Y.fill0)
    rw [Launch.admits_selectMethod X.admits]; exact q4
  have hselF : selectMethod e.platform s.vm P1.m.cls T.fill = .method T.fill := by
    obtain ⟨c2, r2, m2, q1, q2, q3, q4, -⟩ := Cond.selects_spec (a (.selects cls Bundle.tFill Bundle.tFill) (by simp [Bundle.messageArmAtoms]))
    cases Option.some.inj (q1.symm.trans hfound)
    cases Option.some.inj (q2.symm.trans (State.methodFound?_of_named Y.fill (by decide)))
    cases Option.some.inj (q3.symm.trans Y.fill)
    rw [Launch.admits_selectMethod X.admits]; exact q4
  obtain ⟨cellS0, hcS0, hiss⟩ := Y.statics
  obtain ⟨u0, hu0⟩ := Cond.staticRefV Y.unassigned L.unassignedStatic L.statics hcS0 hiss (a (.isRef (.static Bundle.tN "UNASSIGNED_STACK" Bundle.steD)) (by simp [Bundle.messageArmAtoms]))
  obtain ⟨sen, hsen⟩ := Cond.staticRefV Y.sentinel L.sentinelStatic L.statics hcS0 hiss (a (.isRef (.static Bundle.tN "SUPPRESSED_SENTINEL" Bundle.listD)) (by simp [Bundle.messageArmAtoms]))
  obtain ⟨ci198, i198, fB, hk198, hg198, ha198, hsB, -, hnB, htB, hffB⟩ := Cond.ownField (t := .object "java/lang/Object") Y.found L.cls (by decide +kernel) (a (.fieldLink Bundle.tN 198 Bundle.tN "backtrace" "Ljava/lang/Object;") (by simp [Bundle.messageArmAtoms])) (a (.lays Bundle.tN Bundle.tN "backtrace" "Ljava/lang/Object;") (by simp [Bundle.messageArmAtoms])) e.platform hpl
  obtain ⟨cellS, hcS', heS, -, hkeep⟩ := X.same.2.2.2.2.2 T.aS cellS0 hcS0
  have hcellS : W.heap[T.aS]? = some cellS := hcS'
  have hout' : ∀ i, (⟨T.aS, i⟩ : Loc) ∉ locs := fun i hmem => by
    have := hlocs _ hmem cellS0 hcS0
    rw [hiss] at this; cases this
  have hknownS : cellS.vm ≠ .unknown := by
    rw [heS]; intro hu
    rw [show cellS0.vm = .unknown from hu] at hiss
    cases hiss
  have hvU : cellS.slots[T.fUnassigned.slot]? = some u0.v := by rw [hkeep _ (hout' _)]; exact hu0
  have hvSen : cellS.slots[T.fSentinel.slot]? = some sen.v := by rw [hkeep _ (hout' _)]; exact hsen
  obtain ⟨iM, hffM⟩ := Y.msg
  obtain ⟨tyC, dC, hdC, hdnC⟩ := Cond.laysAt hfound hk Y.cause (a (.lays cls Bundle.tN "cause" "Ljava/lang/Throwable;") (by simp [Bundle.messageArmAtoms]))
  obtain ⟨tyS, dS, hdS, hdnS⟩ := Cond.laysAt hfound hk Y.stack (a (.lays cls Bundle.tN "stackTrace" Bundle.steD) (by simp [Bundle.messageArmAtoms]))
  obtain ⟨tyP, dP, hdP, hdnP⟩ := Cond.laysAt hfound hk Y.supp (a (.lays cls Bundle.tN "suppressedExceptions" Bundle.listD) (by simp [Bundle.messageArmAtoms]))
  obtain ⟨tyM, dM, hdM, hdnM⟩ := Cond.laysAt hfound hk hffM (a (.lays cls Bundle.tN "detailMessage" "Ljava/lang/String;") (by simp [Bundle.messageArmAtoms]))
  obtain ⟨tyB, dB, hdB, hdnB⟩ := Cond.laysAt hfound hk hffB (a (.lays cls Bundle.tN "backtrace" "Ljava/lang/Object;") (by simp [Bundle.messageArmAtoms]))
  have bC := Cond.laysApart hdB hdC hdnB hdnC (by rw [hnB, Y.causeName]; decide)
  have bS := Cond.laysApart hdB hdS hdnB hdnS (by rw [hnB, Y.stackName]; decide)
  have bP := Cond.laysApart hdB hdP hdnB hdnP (by rw [hnB, Y.suppName]; decide)
  have hbk : ((preparedCellV T.toThrowableT (freshCell P1.m.cls kX) (W.heap.size + 2) u0 sen).withEntry W.cur).slots[fB.slot]? = some .null := by
    have := fresh_default (c := P1.m.cls) tyB
    rw [htB] at this
    simpa [preparedCellV, Cell.setSlot, Cell.withEntry, Array.getElem?_setIfInBounds, bC, bS, bP, bC.symm, bS.symm, bP.symm, defaultValue] using this
  have tkC := Takes.of_laid (v := .ref (W.heap.size + 2)) hk hord tyC (by rw [Y.causeType]; rfl)
  have tkS := Takes.of_laid (v := u0.v) hk hord tyS (by rw [Y.stackType]; exact fits_refV_array _ u0)
  have tkP := Takes.of_laid (v := sen.v) hk hord tyP (by rw [Y.suppType]; exact fits_refV_object _ sen)
  have tkM := Takes.of_laid (v := .ref (W.heap.size + 1)) hk hord tyM (by rw [Y.msgType]; rfl)
  have hskip : SkipFacts T e.platform s (fun u => u) u0 ((preparedCellV T.toThrowableT (freshCell P1.m.cls kX) (W.heap.size + 2) u0 sen).withEntry W.cur) := ⟨{ ci198 := ci198, i198 := i198, fBack := fB }, ⟨hk198, hg198, ha198, hsB⟩, hbk, fun _ _ => rfl⟩
  have h0 : At W g.method c below := by rw [hg]; exact X.here
  obtain ⟨hbeyond, hfreeW⟩ := X.vmMayThrow hsize (.throwNew cls (some text) none) (fun f hf => by cases hf) rfl hRlocals
  have hfr' : W.frames.length + Ps.length + 4 < (e.platform.stackLimits W.me).1 := by have := X.framesAbove hRframes; omega
  have hwd' : (stackUse (.java g :: W.frames.tail)).2 + 13 * Ps.length + 55 ≤ (e.platform.stackLimits W.me).2 := by have := X.stackAbove hsize (K := 13 * Ps.length + 55) (by omega); omega
  have hslots : W.slotsUsed + (stringBytes (stringToUtf16 text)).size + Zs.kS.instanceTypes.size + kX.instanceTypes.size ≤ e.platform.maxSlots := by
    have := X.slotsAbove hRslots
    rw [hn4, hn6]
    omega
  obtain ⟨vm', hW', st⟩ := Steps.vmThrowsMessageColdByV p (s₀ := s) (S := W) (g := g) h0 hexec T L Z LZ M LM X.warmed (t := W.cur) rfl Zs LZs P1 L1 Ps hL hlink1 hlink hsoe hoom hfound hk hinit hord hctor
    (Launch.admits_hotImplicitExceptions X.admits) hbeyond hfreeW htext hlimit hheap (X.cellsAbove hRcells) hslots (hfitv _) (hfitc _)
    (Nn := fun u => u) heapOnly_id (fun _ _ => rfl) (fun _ => rfl) (fun u x y => setCell_twice _ _ _ _) (fun _ => Nat.le_refl _) (cN := ((preparedCellV T.toThrowableT (freshCell P1.m.cls kX) (W.heap.size + 2) u0 sen).withEntry W.cur))
    hsel0 hcellS hknownS hvU tkS (fun _ hu => hu) (fun _ hu => hu) rfl rfl rfl (by simp [preparedCellV, Cell.setSlot, Cell.withEntry]) hskip (fun _ _ hA hW _ hroom _ hrest => L.nativeOff p htr hA hW hroom hrest) hselF hvSen tkC tkP tkM Y.objLocals rfl hfr' hwd'
  rw [plainBareV_eq T.toThrowableT (W.heap.size + 2) u0 sen (.ref (W.heap.size + 1)) W.cur rfl rfl] at st
  obtain ⟨-, -, w3, w4, -, -, -⟩ := withThrown_facts e.platform W Zs text P1.m.cls kX
  have X3 := ((X.pushed (bytesOf Zs.cB (stringToUtf16 text))).pushed (stringAt Zs.cS Zs.kS Zs.fv Zs.fc (stringToUtf16 text) W.heap.size)).pushed (freshCell P1.m.cls kX)
  rw [← withString_eq] at X3
  have X4 := X3.noted hW'
  have ha : (W.heap.size + 2) < ((withThrown W Zs text P1.m.cls kX).setVm vm').heap.size := by show _ < (withThrown W Zs text P1.m.cls kX).heap.size; rw [w3]; omega
  have hcell : ((withThrown W Zs text P1.m.cls kX).setVm vm').heap[(W.heap.size + 2)]? = some (freshCell P1.m.cls kX) := w4
  have X5 := ((((X4.stored hcell T.fCause.slot (.ref (W.heap.size + 2))).storedAgain ha T.fStack.slot u0.v).storedAgain ha T.fSupp.slot sen.v).storedAgain ha T.fStack.slot u0.v).storedAgain ha T.fMsg.slot (.ref (W.heap.size + 1))
  obtain ⟨g₁, hfrM⟩ := X5.frames_eq
  have hU : ((((withThrown W Zs text P1.m.cls kX).setVm vm').setCell (W.heap.size + 2) (plainBareV T.toThrowableT (freshCell P1.m.cls kX) (W.heap.size + 2) u0 sen (.ref (W.heap.size + 1)))).setTop g).pushFrame (.throwing (W.heap.size + 2)) = (((withThrown W Zs text P1.m.cls kX).setVm vm').setCell (W.heap.size + 2) (plainBareV T.toThrowableT (freshCell P1.m.cls kX) (W.heap.size + 2) u0 sen (.ref (W.heap.size + 1)))).setFrames (.throwing (W.heap.size + 2) :: .java g :: below) := by
    rw [State.pushFrame, State.frames_setTop _ hfrM, State.setTop_of_frames _ hfrM, State.setFrames_setFrames]
  have b1 : (bytesOf Zs.cB (stringToUtf16 text)).slots.size = (stringBytes (stringToUtf16 text)).size := by
    rw [(Cell.writeAll_facts _ _).2.2]; simp [bytes0]
  have b2 : (stringAt Zs.cS Zs.kS Zs.fv Zs.fc (stringToUtf16 text) W.heap.size).slots.size = 4 := by simp [string0, Cell.setSlot, hn4]
  have b3 : (freshCell P1.m.cls kX).slots.size = 6 := by simp [hn6]
  rw [b1, b2, b3] at X5
  have e9 : slots + (stringBytes (stringToUtf16 text)).size + 4 + 6 = slots + ((stringBytes (stringToUtf16 text)).size + 4 + 6) := by omega
  rw [e9] at X5
  simp only [List.append_assoc, List.cons_append, List.nil_append] at X5
  refine ⟨((withThrown W Zs text P1.m.cls kX).setVm vm').setCell (W.heap.size + 2) (plainBareV T.toThrowableT (freshCell P1.m.cls kX) (W.heap.size + 2) u0 sen (.ref (W.heap.size + 1))), W.heap.size + 2, _, fun target ht => st _ (by rw [X.tail, ← hU]; exact ht),
    X5.forget (fun y hy => ?_), heapAt_setCell_self _ ha, hfound, rfl⟩
  simp only [List.mem_cons, List.not_mem_nil, or_false] at hy
  have hge : s.heap.size ≤ W.heap.size := X.same.2.1
  rcases hy with rfl | rfl | rfl | rfl | rfl <;> exact Nat.le_trans hge (Nat.le_add_right _ 2)
set_option maxHeartbeats 1000000 in
/-- the machine throws NullPointerException, no traces kept: from its note over the frame g to 'throwing' over the same frame (follows the proof of Stand.vmThrowsNpe, Shelf42/KT2.lean; throwsNpeColdBareVAt, Shelf42/NT91.lean, called) -/
theorem vx_npeAt {p : Program} {l : Launch} {e : Env} {R : Room} {s : State} {m₀ : MethodId} {args : Array Value} {below : List Frame} {meth : Method} {c : Code} {W : State} {locs : List Loc} {cells slots : Nat}
    (X : Stand p l e R s m₀ args below meth c W locs cells slots) (hexec : p.tables.exec = Jvm.exec) (htr : e.platform.stackTraces = false) {n : Nat}
    (h : ∀ a ∈ Bundle.npeArmAtoms n, a.before args s = true)
    (hlocs : ∀ x ∈ locs, ∀ cell, s.heap[x.base]? = some cell → cell.vm.isStatics = false)
    {g : JFrame} (hg : g.method = m₀) (hsize : g.locals.size = c.maxLocals)
    (hRframes : 7 < R.frames) (hRlocals : 2 * g.monitorRoom + (g.stack.map fun v => v.category).sum + 10240 ≤ R.locals)
    (hRcells : cells + 1 ≤ R.cells) (hRslots : slots + n ≤ R.slots) (hlocks : meth.locks = false) :
    ∃ (S : State) (q : Addr) (ce : Cell), (∀ target, Steps p.tables e below ((S.setTop g).pushFrame (.throwing q)) target → Steps p.tables e below ((W.setTop g).pushFrame (.throwNew "java/lang/NullPointerException" none none)) target) ∧
      Stand p l e R s m₀ args below meth c S locs (cells + 1) (slots + n) ∧ S.heap[q]? = some ce ∧ s.vm.findClass "java/lang/NullPointerException" = some ce.cls ∧ ce.vm = .none := by
  have howns : e.platform.frameOwnsMonitors = true := by rw [X.admits.platform]
  have hfin : e.platform.finalization = false := by rw [X.admits.platform]
  have hpl : e.platform.magicAccessors = ({} : Platform).magicAccessors := by rw [X.admits.platform]
  have hpl2 : e.platform.arrayCloneIsPublic = true := by rw [X.admits.platform]
  have a' : ∀ x, x ∈ Bundle.npeArmAtoms n → x.holds args s none s [] = true := fun x hx => h x hx
  obtain ⟨T, Z, L, LZ, Y⟩ := ThrowableC.of_atoms (args := args) howns hfin hpl (fun x hx => h x (by simp [Bundle.npeArmAtoms, hx]))
  obtain ⟨N, LN, hcN, hnNF, hordN, hffS⟩ := NpeC.of_atoms (args := args) hpl hpl2 L Y (fun x hx => h x (by simp [Bundle.npeArmAtoms, hx]))
  obtain ⟨P1, L1, hP1m, hP1s⟩ := PassC.of_atoms (args := args) (s := s) hpl (X := Bundle.nN) (Y := Bundle.rN) (by decide) (by decide) LibCode.NullPointerException.Init0.at_0 LibCode.NullPointerException.Init0.at_1 LibCode.NullPointerException.Init0.at_4 (fun x hx => h x (by simp [Bundle.npeArmAtoms, hx]))
  obtain ⟨PR, LR, hPRm, hPRs⟩ := PassC.of_atoms (args := args) (s := s) hpl (X := Bundle.rN) (Y := Bundle.eN) (by decide) (by decide) LibCode.RuntimeException.Init0.at_0 LibCode.RuntimeException.Init0.at_1 LibCode.RuntimeException.Init0.at_4 (fun x hx => h x (by simp [Bundle.npeArmAtoms, hx]))
  obtain ⟨PE, LEx, hPEm, hPEs⟩ := PassC.of_atoms (args := args) (s := s) hpl (X := Bundle.eN) (Y := Bundle.tN) (by decide) (by decide) LibCode.Exception.Init0.at_0 LibCode.Exception.Init0.at_1 LibCode.Exception.Init0.at_4 (fun x hx => h x (by simp [Bundle.npeArmAtoms, hx]))
  have hfound : s.vm.findClass Bundle.nN = some P1.m.cls := findClass_of_methodNamed hP1m
  have ecls : N.cN = P1.m.cls := Option.some.inj (hcN.symm.trans hfound)
  have hk : s.vm.classes[P1.m.cls]? = some N.kN := by rw [← ecls]; exact LN.cls
  have hinit := Cond.initialized_spec hfound hk (a' (.initialized Bundle.nN) (by simp [Bundle.npeArmAtoms]))
  have hctor : N.kN.findMethod "<init>" "()V" = some P1.m.idx := findMethod_of_methodNamed hP1m hk
  obtain ⟨c1, k1, hc1, hk1, -, -, -, hn⟩ := Cond.instantiable_spec (a' (.instantiable Bundle.nN n) (by simp [Bundle.npeArmAtoms]))
  cases Option.some.inj (hc1.symm.trans hfound)
  cases Option.some.inj (hk1.symm.trans hk)
  have hfsz : (freshCell P1.m.cls N.kN).slots.size = n := by simp [hn]
  have hlink1 : P1.sup = PR.m := Option.some.inj (hP1s.symm.trans hPRm)
  have hlinkR : PR.sup = PE.m := Option.some.inj (hPRs.symm.trans hPEm)
  have hlinkE : PE.sup = Z.m T.toThrowableT := Option.some.inj (hPEs.symm.trans Y.init0)
  have hLs : ∀ P, P ∈ [PR, PE] → P.Links0 e.platform s := fun P hP => by
    simp only [List.mem_cons, List.not_mem_nil, or_false] at hP
    rcases hP with rfl | rfl
    · exact LR
    · exact LEx
  have hsel0 : selectMethod e.platform s.vm P1.m.cls T.fill0 = .method T.fill0 := by
    obtain ⟨c2, r2, m2, q1, q2, q3, q4, -⟩ := Cond.selects_spec (a' (.selects Bundle.nN Bundle.tFill0 Bundle.tFill0) (by simp [Bundle.npeArmAtoms]))
    cases Option.some.inj (q1.symm.trans hfound)
    cases Option.some.inj (q2.symm.trans (State.methodFound?_of_named Y.fill0 (by decide)))
    cases Option.some.inj (q3.symm.trans Y.fill0)
    rw [Launch.admits_selectMethod X.admits]; exact q4
  have hselF : selectMethod e.platform s.vm P1.m.cls T.fill = .method N.fill := by
    obtain ⟨c2, r2, m2, q1, q2, q3, q4, -⟩ := Cond.selects_spec (a' (.selects Bundle.nN Bundle.tFill Bundle.nFill) (by simp [Bundle.npeArmAtoms]))
    cases Option.some.inj (q1.symm.trans hfound)
    cases Option.some.inj (q2.symm.trans (State.methodFound?_of_named Y.fill (by decide)))
    cases Option.some.inj (q3.symm.trans hnNF)
    rw [Launch.admits_selectMethod X.admits]; exact q4
  obtain ⟨cellS0, hcS0, hiss⟩ := Y.statics
  obtain ⟨u0, hu0⟩ := Cond.staticRefV Y.unassigned L.unassignedStatic L.statics hcS0 hiss (a' (.isRef (.static Bundle.tN "UNASSIGNED_STACK" Bundle.steD)) (by simp [Bundle.npeArmAtoms]))
  obtain ⟨sen, hsen⟩ := Cond.staticRefV Y.sentinel L.sentinelStatic L.statics hcS0 hiss (a' (.isRef (.static Bundle.tN "SUPPRESSED_SENTINEL" Bundle.listD)) (by simp [Bundle.npeArmAtoms]))
  obtain ⟨ci198, i198, fB, hk198, hg198, ha198, hsB, -, hnB, htB, hffB⟩ := Cond.ownField (t := .object "java/lang/Object") Y.found L.cls (by decide +kernel) (a' (.fieldLink Bundle.tN 198 Bundle.tN "backtrace" Bundle.objD) (by simp [Bundle.npeArmAtoms])) (a' (.lays Bundle.tN Bundle.tN "backtrace" Bundle.objD) (by simp [Bundle.npeArmAtoms])) e.platform hpl
  obtain ⟨cellS, hcS', heS, -, hkeep⟩ := X.same.2.2.2.2.2 T.aS cellS0 hcS0
  have hcellS : W.heap[T.aS]? = some cellS := hcS'
  have hout' : ∀ i, (⟨T.aS, i⟩ : Loc) ∉ locs := fun i hmem => by
    have := hlocs _ hmem cellS0 hcS0
    rw [hiss] at this; cases this
  have hknownS : cellS.vm ≠ .unknown := by
    rw [heS]; intro hu
    rw [show cellS0.vm = .unknown from hu] at hiss
    cases hiss
  have hvU : cellS.slots[T.fUnassigned.slot]? = some u0.v := by rw [hkeep _ (hout' _)]; exact hu0
  have hvSen : cellS.slots[T.fSentinel.slot]? = some sen.v := by rw [hkeep _ (hout' _)]; exact hsen
  obtain ⟨tyC, dC, hdC, hdnC⟩ := Cond.laysAt hfound hk Y.cause (a' (.lays Bundle.nN Bundle.tN "cause" "Ljava/lang/Throwable;") (by simp [Bundle.npeArmAtoms]))
  obtain ⟨tyS, dS, hdS, hdnS⟩ := Cond.laysAt hfound hk Y.stack (a' (.lays Bundle.nN Bundle.tN "stackTrace" Bundle.steD) (by simp [Bundle.npeArmAtoms]))
  obtain ⟨tyP, dP, hdP, hdnP⟩ := Cond.laysAt hfound hk Y.supp (a' (.lays Bundle.nN Bundle.tN "suppressedExceptions" Bundle.listD) (by simp [Bundle.npeArmAtoms]))
  obtain ⟨tyX, dX, hdX, hdnX⟩ := Cond.laysAt hfound hk hffS (a' (.lays Bundle.nN Bundle.nN "extendedMessageState" "I") (by simp [Bundle.npeArmAtoms, Bundle.npeAtoms]))
  obtain ⟨hnX, htX⟩ := State.fieldFound?_type hffS (t := .int) (by decide +kernel)
  have xC := Cond.laysApart hdC hdX hdnC hdnX (by rw [hnX, Y.causeName]; decide)
  have xS := Cond.laysApart hdS hdX hdnS hdnX (by rw [hnX, Y.stackName]; decide)
  have xP := Cond.laysApart hdP hdX hdnP hdnX (by rw [hnX, Y.suppName]; decide)
  have hv0 : (freshCell P1.m.cls N.kN).slots[N.fState.slot]? = some (.int 0) := by
    have := fresh_default (c := P1.m.cls) tyX
    rw [htX] at this; exact this
  obtain ⟨tyB, dB, hdB, hdnB⟩ := Cond.laysAt hfound hk hffB (a' (.lays Bundle.nN Bundle.tN "backtrace" Bundle.objD) (by simp [Bundle.npeArmAtoms]))
  have bC := Cond.laysApart hdB hdC hdnB hdnC (by rw [hnB, Y.causeName]; decide)
  have bS := Cond.laysApart hdB hdS hdnB hdnS (by rw [hnB, Y.stackName]; decide)
  have bP := Cond.laysApart hdB hdP hdnB hdnP (by rw [hnB, Y.suppName]; decide)
  have bX := Cond.laysApart hdB hdX hdnB hdnX (by rw [hnB, hnX]; decide)
  have hbk : ((npeCell N.toNpeT (preparedCellV T.toThrowableT (freshCell P1.m.cls N.kN) W.heap.size u0 sen) W.cur).withEntry W.cur).slots[fB.slot]? = some .null := by
    have := fresh_default (c := P1.m.cls) tyB
    rw [htB] at this
    simpa [npeCell, preparedCellV, Cell.setSlot, Cell.withEntry, Array.getElem?_setIfInBounds, bC, bS, bP, bX, bC.symm, bS.symm, bP.symm, bX.symm, defaultValue] using this
  have tkC := Takes.of_laid (v := .ref W.heap.size) hk hordN tyC (by rw [Y.causeType]; rfl)
  have tkS := Takes.of_laid (v := u0.v) hk hordN tyS (by rw [Y.stackType]; exact fits_refV_array _ u0)
  have tkP := Takes.of_laid (v := sen.v) hk hordN tyP (by rw [Y.suppType]; exact fits_refV_object _ sen)
  have tkX := Takes.of_laid (v := .int 1) hk hordN tyX (by rw [htX]; rfl)
  have hskip : SkipFacts T e.platform s (fun u => u) u0 ((npeCell N.toNpeT (preparedCellV T.toThrowableT (freshCell P1.m.cls N.kN) W.heap.size u0 sen) W.cur).withEntry W.cur) := ⟨{ ci198 := ci198, i198 := i198, fBack := fB }, ⟨hk198, hg198, ha198, hsB⟩, hbk, fun _ _ => rfl⟩
  obtain ⟨vm', X3, st, -⟩ := X.throwsNpeColdBareVAt hexec hg hsize T L Z LZ N LN P1 L1 [PR, PE] hLs hlink1 ⟨hlinkR, hlinkE, trivial⟩ hfound hk hinit hordN hctor hsel0 hselF hcellS hknownS hvU hvSen
    hv0 xC xS xP tkC tkS tkP tkX Y.objLocals hskip (fun _ _ hA hW _ hroom _ hrest => L.nativeOff p htr hA hW hroom hrest) (by simpa using hRframes) hRlocals (by simp) hRcells (by rw [hn]; exact hRslots)
  have hlt : W.heap.size < ((W.pushCell (freshCell P1.m.cls N.kN)).setVm vm').heap.size := by
    show W.heap.size < (W.pushCell (freshCell P1.m.cls N.kN)).heap.size
    rw [State.heap_size_pushCell]; omega
  rw [hfsz] at X3
  obtain ⟨g₁, hfrM⟩ := X3.frames_eq
  have hU : ((((W.pushCell (freshCell P1.m.cls N.kN)).setVm vm').setCell W.heap.size (npeBareV T.toThrowableT N.toNpeT (freshCell P1.m.cls N.kN) W.heap.size u0 sen)).setTop g).pushFrame (.throwing W.heap.size) = (((W.pushCell (freshCell P1.m.cls N.kN)).setVm vm').setCell W.heap.size (npeBareV T.toThrowableT N.toNpeT (freshCell P1.m.cls N.kN) W.heap.size u0 sen)).setFrames (.throwing W.heap.size :: .java g :: below) := by
    rw [State.pushFrame, State.frames_setTop _ hfrM, State.setTop_of_frames _ hfrM, State.setFrames_setFrames]
  refine ⟨_, W.heap.size, _, fun target ht => st.trans (by rw [← hU]; exact ht), X3.forget (fun y hy => ?_), heapAt_setCell_self _ hlt, hfound, rfl⟩
  simp only [List.mem_cons, List.not_mem_nil, or_false] at hy
  have hge : s.heap.size ≤ W.heap.size := X.same.2.1
  rcases hy with rfl | rfl | rfl | rfl | rfl <;> exact hge
/-- the words of a machine's NullPointerException, but the four that speak of the heap -/
def vx_atN (n : Nat) : List Cond := (Bundle.npeArmAtoms n).filter vx_no
/-- the words of a machine's throw with a message, but the four that speak of the heap -/
def vx_atM (X : String) (names : List String) : List Cond := (Bundle.messageArmAtoms X names).filter vx_no
section
variable {p : Program} {l : Launch} {e : Env} {R : Room} {s : State} {m : MethodId} {args : Array Value} {below : List Frame} {meth : Method} {c : Code} {H : Heap} {locs : List Loc} {cells slots : Nat}
/-- a frame seen from a rebased start, seen from the first start again -/
theorem vx_back9 {T S : State} {R' : Room} {k n : Nat} (X : Stand p l e R s m args below meth c T locs cells slots) (Y : Stand p l e R' ((T.setVm s.vm).setFrames (.invoking m args :: below)) m args below meth c T [] 0 0) (Z : Stand p l e R' ((T.setVm s.vm).setFrames (.invoking m args :: below)) m args below meth c S [] k n) :
    Stand p l e R s m args below meth c S locs (cells + k) (slots + n) := by
  have hW0 : s.WarmedH ((T.setVm s.vm).setFrames (.invoking m args :: below)).vm := State.WarmedH.refl s
  refine { admits := X.admits, cas := X.cas, clock := X.clock, frames := X.frames, room := X.room, hears := X.hears, method := X.method, code := X.code, here := Z.here, tail := Z.tail, warmed := State.WarmedH.trans hW0 Z.warmed, limits := Z.limits.trans (Y.limits.symm.trans X.limits), bytes := Z.bytes.trans (Y.bytes.symm.trans X.bytes), same := ?_ }
  obtain ⟨e1, e2⟩ := Z.same
  rw [State.setFrames_setFrames] at e1
  have h2 : (T.setVm s.vm).sameButNew (S.setVm s.vm) [] k n := ⟨e1, e2⟩
  have h3 := X.same.trans h2
  rw [List.append_nil] at h3
  exact h3
/-- from the machine's note that E is thrown here with this text -/
def vx_Note (p : Program) (l : Launch) (e : Env) (R : Room) (s : State) (m : MethodId) (args : Array Value) (below : List Frame) (meth : Method) (c : Code) (H : Heap) (locs : List Loc) (cells slots : Nat) (Q : State → Prop) (g : JFrame) (E text : String) : Prop :=
  ∀ T : State, T.heap = H → Stand p l e R s m args below meth c T locs cells slots → ∃ t, Steps p.tables e below ((T.setTop g).pushFrame (.throwNew E (some text) none)) t ∧ Q t
theorem vx_vm {pc : Nat} {ls : Array Slot} {rest : List Value} {Q : State → Prop} (hexec : p.tables.exec = Jvm.exec) (hl : l.stackTraces = false) {cls text : String} {names : List String} {nb : Nat} {A : Nat → Prop}
    (hcls : Bundle.fit cls = true) (hnames : ∀ n ∈ names, Bundle.fit n = true) (hsoe : (cls == "java/lang/StackOverflowError") = false) (hoom : (cls == "java/lang/OutOfMemoryError") = false)
    (hat : ∀ w ∈ vx_atM cls names, w.before args s = true) (hgood : ∀ w ∈ vx_atM cls names, vx_ot w = true)
    (hU : vx_Zq Bundle.tN "UNASSIGNED_STACK" Bundle.steD A s s.heap) (hN : vx_Zq Bundle.tN "SUPPRESSED_SENTINEL" Bundle.listD A s s.heap) (hS : va_S A s.heap H locs) (hsize : ls.size = c.maxLocals)
    (htext : (text == notModelled) = false) (hnb : (stringBytes (stringToUtf16 text)).size ≤ nb) (hnb1 : nb ≤ 1000)
    (hRframes : names.length + 4 < R.frames) (hRlocals : (rest.map fun v => v.category).sum + 10240 ≤ R.locals) (hshort : 13 * names.length + 55 ≤ 10240) (hRcells : cells + 3 ≤ R.cells) (hRslots : slots + (nb + 10) ≤ R.slots) (hlocks : meth.locks = false)
    (k : ∀ (H1 : Heap) (q9 : Addr) (ce : Cell), H.size ≤ H1.size → (∀ q : Nat, q < H.size → H1[q]? = H[q]?) → va_S A s.heap H1 locs → H1[q9]? = some ce → ce.vm = .none → s.vm.findClass cls = some ce.cls → vx_W p l e R s m args below meth c H1 locs (cells + 3) (slots + (nb + 10)) Q (F0 m pc ls rest) q9) :
    vx_Note p l e R s m args below meth c H locs cells slots Q (F0 m pc ls rest) cls text := by
  intro T hT X
  have htr : e.platform.stackTraces = false := (show e.platform.stackTraces = l.stackTraces by rw [X.admits.platform]).trans hl
  have Y := vx_rebase X (R' := { frames := R.frames, locals := R.locals, cells := 3, slots := nb + 10 }) (Nat.le_refl _) (Nat.le_refl _) hRcells hRslots
  have hhp : ((T.setVm s.vm).setFrames (.invoking m args :: below)).heap = H := hT
  have hW0 : s.WarmedH ((T.setVm s.vm).setFrames (.invoking m args :: below)).vm := State.WarmedH.refl s
  have hat' : ∀ w ∈ vx_atM cls names, w.before args ((T.setVm s.vm).setFrames (.invoking m args :: below)) = true := fun w hw => vx_ot_at hW0 rfl (hgood w hw) (hat w hw)
  have hU' : vx_Zq Bundle.tN "UNASSIGNED_STACK" Bundle.steD A ((T.setVm s.vm).setFrames (.invoking m args :: below)) ((T.setVm s.vm).setFrames (.invoking m args :: below)).heap := by rw [hhp]; exact vx_Zq.moved hW0.alike (hU.kept hS.2.1)
  have hN' : vx_Zq Bundle.tN "SUPPRESSED_SENTINEL" Bundle.listD A ((T.setVm s.vm).setFrames (.invoking m args :: below)) ((T.setVm s.vm).setFrames (.invoking m args :: below)).heap := by rw [hhp]; exact vx_Zq.moved hW0.alike (hN.kept hS.2.1)
  obtain ⟨S, q, ce, st, Z, hce, hcl', hv⟩ := vx_vmAt Y hexec htr (cls := cls) (names := names) (text := text) hcls hnames hsoe hoom (vx_own hat' (vx_isRefq hU'.1) (vx_isRefq hN'.1) hU'.2.word hN'.2.word) (fun x hx => nomatch hx) htext
    (by rw [Launch.admits_arrayLengthLimit X.admits]; omega) (by rw [Launch.admits_maxHeapBytes X.admits]; simp only [componentBytes]; omega)
    (g := F0 m pc ls rest) rfl hsize hRframes (by show 2 * 0 + (rest.map fun v => v.category).sum + 10240 ≤ R.locals; omega) hshort (by show 0 + 3 ≤ 3; omega) (by show 0 + (_ + 4 + 6) ≤ nb + 10; omega) hlocks
  obtain ⟨f1, f2⟩ := vx_frame Z.same
  have f1' : H.size ≤ S.heap.size := by rw [← hT]; exact f1
  have f2' : ∀ q : Nat, q < H.size → S.heap[q]? = H[q]? := fun q hq => by
    rw [← hT]
    exact f2 q (by rw [← hT] at hq; exact hq) (fun z hz => nomatch hz)
  have X5 := vx_back9 X Y Z
  have X6 : Stand p l e R s m args below meth c S locs (cells + 3) (slots + (nb + 10)) := { X5 with same := X5.same.mono (by omega) (by omega) }
  obtain ⟨t, a1, b1⟩ := k S.heap q ce f1' f2' ⟨Nat.le_trans hS.1 f1', fun q h1 h2 => (f2' q (Nat.lt_of_lt_of_le h1 hS.1)).trans (hS.2.1 q h1 h2), hS.2.2⟩ hce hv hcl' S rfl X6
  exact ⟨t, st t a1, b1⟩
/-- from the machine's note that NullPointerException is thrown here -/
def vx_NoteN (p : Program) (l : Launch) (e : Env) (R : Room) (s : State) (m : MethodId) (args : Array Value) (below : List Frame) (meth : Method) (c : Code) (H : Heap) (locs : List Loc) (cells slots : Nat) (Q : State → Prop) (g : JFrame) : Prop :=
  ∀ T : State, T.heap = H → Stand p l e R s m args below meth c T locs cells slots → ∃ t, Steps p.tables e below ((T.setTop g).pushFrame (.throwNew "java/lang/NullPointerException" none none)) t ∧ Q t
theorem vx_npe {pc : Nat} {ls : Array Slot} {rest : List Value} {Q : State → Prop} (hexec : p.tables.exec = Jvm.exec) (hl : l.stackTraces = false) {nb : Nat} {A : Nat → Prop}
    (hat : ∀ w ∈ vx_atN nb, w.before args s = true) (hgood : ∀ w ∈ vx_atN nb, vx_ot w = true)
    (hU : vx_Zq Bundle.tN "UNASSIGNED_STACK" Bundle.steD A s s.heap) (hN : vx_Zq Bundle.tN "SUPPRESSED_SENTINEL" Bundle.listD A s s.heap) (hS : va_S A s.heap H locs) (hsize : ls.size = c.maxLocals)
    (hRframes : 7 < R.frames) (hRlocals : (rest.map fun v => v.category).sum + 10240 ≤ R.locals) (hRcells : cells + 1 ≤ R.cells) (hRslots : slots + nb ≤ R.slots) (hlocks : meth.locks = false)
    (k : ∀ (H1 : Heap) (q9 : Addr) (ce : Cell), H.size ≤ H1.size → (∀ q : Nat, q < H.size → H1[q]? = H[q]?) → va_S A s.heap H1 locs → H1[q9]? = some ce → ce.vm = .none → s.vm.findClass "java/lang/NullPointerException" = some ce.cls → vx_W p l e R s m args below meth c H1 locs (cells + 1) (slots + nb) Q (F0 m pc ls rest) q9) :
    vx_NoteN p l e R s m args below meth c H locs cells slots Q (F0 m pc ls rest) := by
  intro T hT X
  have htr : e.platform.stackTraces = false := (show e.platform.stackTraces = l.stackTraces by rw [X.admits.platform]).trans hl
  have Y := vx_rebase X (R' := { frames := R.frames, locals := R.locals, cells := 1, slots := nb }) (Nat.le_refl _) (Nat.le_refl _) hRcells hRslots
  have hhp : ((T.setVm s.vm).setFrames (.invoking m args :: below)).heap = H := hT
  have hW0 : s.WarmedH ((T.setVm s.vm).setFrames (.invoking m args :: below)).vm := State.WarmedH.refl s
  have hat' : ∀ w ∈ vx_atN nb, w.before args ((T.setVm s.vm).setFrames (.invoking m args :: below)) = true := fun w hw => vx_ot_at hW0 rfl (hgood w hw) (hat w hw)
  have hU' : vx_Zq Bundle.tN "UNASSIGNED_STACK" Bundle.steD A ((T.setVm s.vm).setFrames (.invoking m args :: below)) ((T.setVm s.vm).setFrames (.invoking m args :: below)).heap := by rw [hhp]; exact vx_Zq.moved hW0.alike (hU.kept hS.2.1)
  have hN' : vx_Zq Bundle.tN "SUPPRESSED_SENTINEL" Bundle.listD A ((T.setVm s.vm).setFrames (.invoking m args :: below)) ((T.setVm s.vm).setFrames (.invoking m args :: below)).heap := by rw [hhp]; exact vx_Zq.moved hW0.alike (hN.kept hS.2.1)
  obtain ⟨S, q, ce, st, Z, hce, hcl', hv⟩ := vx_npeAt Y hexec htr (n := nb) (vx_own hat' (vx_isRefq hU'.1) (vx_isRefq hN'.1) hU'.2.word hN'.2.word) (fun x hx => nomatch hx)
    (g := F0 m pc ls rest) rfl hsize hRframes (by show 2 * 0 + (rest.map fun v => v.category).sum + 10240 ≤ R.locals; omega) (by show 0 + 1 ≤ 1; omega) (by show 0 + nb ≤ nb; omega) hlocks
  obtain ⟨f1, f2⟩ := vx_frame Z.same
  have f1' : H.size ≤ S.heap.size := by rw [← hT]; exact f1
  have f2' : ∀ q : Nat, q < H.size → S.heap[q]? = H[q]? := fun q hq => by
    rw [← hT]
    exact f2 q (by rw [← hT] at hq; exact hq) (fun z hz => nomatch hz)
  have X5 := vx_back9 X Y Z
  have X6 : Stand p l e R s m args below meth c S locs (cells + 1) (slots + nb) := { X5 with same := X5.same.mono (by omega) (by omega) }
  obtain ⟨t, a1, b1⟩ := k S.heap q ce f1' f2' ⟨Nat.le_trans hS.1 f1', fun q h1 h2 => (f2' q (Nat.lt_of_lt_of_le h1 hS.1)).trans (hS.2.1 q h1 h2), hS.2.2⟩ hce hv hcl' S rfl X6
  exact ⟨t, st t a1, b1⟩
variable {Q : State → Prop} {cc : ByteArray} {pc : Nat} {ls : Array Slot} {rest : List Value}
theorem vx_idivZ (hexec : p.tables.exec = Jvm.exec) (hb : c.code = cc) {a b : Int32} (h0 : b = 0) (d : decode cc pc = .ok (.idiv, 1)) (k : vx_Note p l e R s m args below meth c H locs cells slots Q (F0 m pc ls rest) "java/lang/ArithmeticException" "/ by zero") :
    W p l e R s m args below meth c H locs cells slots Q (F0 m pc ls (.int b :: .int a :: rest)) := by
  intro T hT X
  obtain ⟨t, st, q⟩ := k T hT X
  exact ⟨t, X.idivZero hexec (g := F0 m pc ls (.int b :: .int a :: rest)) rfl (a := a) (rest := rest) (by rw [h0]) (by rw [hb]; exact d) t st, q⟩
theorem vx_iremZ (hexec : p.tables.exec = Jvm.exec) (hb : c.code = cc) {a b : Int32} (h0 : b = 0) (d : decode cc pc = .ok (.irem, 1)) (k : vx_Note p l e R s m args below meth c H locs cells slots Q (F0 m pc ls rest) "java/lang/ArithmeticException" "/ by zero") :
    W p l e R s m args below meth c H locs cells slots Q (F0 m pc ls (.int b :: .int a :: rest)) := by
  intro T hT X
  obtain ⟨t, st, q⟩ := k T hT X
  exact ⟨t, X.iremZero hexec (g := F0 m pc ls (.int b :: .int a :: rest)) rfl (a := a) (rest := rest) (by rw [h0]) (by rw [hb]; exact d) t st, q⟩
theorem vx_ldivZ (hexec : p.tables.exec = Jvm.exec) (hb : c.code = cc) {a b : Int64} (h0 : b = 0) (d : decode cc pc = .ok (.ldiv, 1)) (k : vx_Note p l e R s m args below meth c H locs cells slots Q (F0 m pc ls rest) "java/lang/ArithmeticException" "/ by zero") :
    W p l e R s m args below meth c H locs cells slots Q (F0 m pc ls (.long b :: .long a :: rest)) := by
  intro T hT X
  obtain ⟨t, st, q⟩ := k T hT X
  exact ⟨t, X.ldivZero hexec (g := F0 m pc ls (.long b :: .long a :: rest)) rfl (a := a) (rest := rest) (by rw [h0]) (by rw [hb]; exact d) t st, q⟩
theorem vx_lremZ (hexec : p.tables.exec = Jvm.exec) (hb : c.code = cc) {a b : Int64} (h0 : b = 0) (d : decode cc pc = .ok (.lrem, 1)) (k : vx_Note p l e R s m args below meth c H locs cells slots Q (F0 m pc ls rest) "java/lang/ArithmeticException" "/ by zero") :
    W p l e R s m args below meth c H locs cells slots Q (F0 m pc ls (.long b :: .long a :: rest)) := by
  intro T hT X
  obtain ⟨t, st, q⟩ := k T hT X
  exact ⟨t, X.lremZero hexec (g := F0 m pc ls (.long b :: .long a :: rest)) rfl (a := a) (rest := rest) (by rw [h0]) (by rw [hb]; exact d) t st, q⟩
theorem vx_ialdZ {D : va_G} {cl : List vw_C} {ws : va_W} {tys : List (ClassId × FieldType)} {a : Nat} (hexec : p.tables.exec = Jvm.exec) (hb : c.code = cc) (hK : va_K D cl tys s) (hP : va_P D cl ws H) (q0 t0 : Nat) {cA : ClassId} {n : Nat} {f : Nat → Int32} (ha : ws[q0]? = some (a, .inl (cA, n, .inl f))) (ht : tys[t0]? = some (cA, .int)) {i : Int32} (hout : ¬ vp_in i n) (hdg : decode cc pc = .ok (.iaload, 1))
    (k : ∀ tx : String, tx = (toString "Index " ++ toString i ++ toString " out of bounds for length " ++ toString n : String) → vx_Note p l e R s m args below meth c H locs cells slots Q (F0 m pc ls rest) "java/lang/ArrayIndexOutOfBoundsException" tx) : W p l e R s m args below meth c H locs cells slots Q (F0 m pc ls (.int i :: .ref a :: rest)) := by
  intro T hT X
  obtain ⟨t, st, q⟩ := k _ rfl T hT X
  refine ⟨t, ?_, q⟩
  have h1 := X.ialoadOut hexec (by rw [hT]; exact hP q0 _ ha) ((hK.2 t0 _ ht).1 n (fun j => .int (f j))) (j := i) (by show (i < 0 ∨ (arrV _ _ _).slots.size ≤ _); rw [arrV_size]; exact Classical.byContradiction hout) (g := F0 m pc ls (.int i :: .ref a :: rest)) rfl (rest := rest) rfl (by rw [hb]; exact hdg) t
  simp only [arrV_size] at h1
  exact h1 st
theorem vx_iastZ {D : va_G} {cl : List vw_C} {ws : va_W} {tys : List (ClassId × FieldType)} {a : Nat} (hexec : p.tables.exec = Jvm.exec) (hb : c.code = cc) (hK : va_K D cl tys s) (hP : va_P D cl ws H) (q0 t0 : Nat) {cA : ClassId} {n : Nat} {f : Nat → Int32} (ha : ws[q0]? = some (a, .inl (cA, n, .inl f))) (ht : tys[t0]? = some (cA, .int)) {i : Int32} {x : Int32} (hout : ¬ vp_in i n) (hdg : decode cc pc = .ok (.iastore, 1))
    (k : ∀ tx : String, tx = (toString "Index " ++ toString i ++ toString " out of bounds for length " ++ toString n : String) → vx_Note p l e R s m args below meth c H locs cells slots Q (F0 m pc ls rest) "java/lang/ArrayIndexOutOfBoundsException" tx) : W p l e R s m args below meth c H locs cells slots Q (F0 m pc ls (.int x :: .int i :: .ref a :: rest)) := by
  intro T hT X
  obtain ⟨t, st, q⟩ := k _ rfl T hT X
  refine ⟨t, ?_, q⟩
  have h1 := X.iastoreOut hexec (by rw [hT]; exact hP q0 _ ha) ((hK.2 t0 _ ht).1 n (fun j => .int (f j))) (j := i) (by show (i < 0 ∨ (arrV _ _ _).slots.size ≤ _); rw [arrV_size]; exact Classical.byContradiction hout) (g := F0 m pc ls (.int x :: .int i :: .ref a :: rest)) rfl (rest := rest) rfl (by rw [hb]; exact hdg) t
  simp only [arrV_size] at h1
  exact h1 st
theorem vx_baldZ {D : va_G} {cl : List vw_C} {ws : va_W} {tys : List (ClassId × FieldType)} {a : Nat} (hexec : p.tables.exec = Jvm.exec) (hb : c.code = cc) (hK : va_K D cl tys s) (hP : va_P D cl ws H) (q0 t0 : Nat) {cA : ClassId} {n : Nat} {f : Nat → Int32} (ha : ws[q0]? = some (a, .inl (cA, n, .inl f))) (ht : tys[t0]? = some (cA, .byte)) {i : Int32} (hout : ¬ vp_in i n) (hdg : decode cc pc = .ok (.baload, 1))
    (k : ∀ tx : String, tx = (toString "Index " ++ toString i ++ toString " out of bounds for length " ++ toString n : String) → vx_Note p l e R s m args below meth c H locs cells slots Q (F0 m pc ls rest) "java/lang/ArrayIndexOutOfBoundsException" tx) : W p l e R s m args below meth c H locs cells slots Q (F0 m pc ls (.int i :: .ref a :: rest)) := by
  intro T hT X
  obtain ⟨t, st, q⟩ := k _ rfl T hT X
  refine ⟨t, ?_, q⟩
  have h1 := X.baloadOut hexec (by rw [hT]; exact hP q0 _ ha) ((hK.2 t0 _ ht).1 n (fun j => .int (f j))) (j := i) (by show (i < 0 ∨ (arrV _ _ _).slots.size ≤ _); rw [arrV_size]; exact Classical.byContradiction hout) (g := F0 m pc ls (.int i :: .ref a :: rest)) rfl (rest := rest) rfl (by rw [hb]; exact hdg) t
  simp only [arrV_size] at h1
  exact h1 st
theorem vx_bastZ {D : va_G} {cl : List vw_C} {ws : va_W} {tys : List (ClassId × FieldType)} {a : Nat} (hexec : p.tables.exec = Jvm.exec) (hb : c.code = cc) (hK : va_K D cl tys s) (hP : va_P D cl ws H) (q0 t0 : Nat) {cA : ClassId} {n : Nat} {f : Nat → Int32} (ha : ws[q0]? = some (a, .inl (cA, n, .inl f))) (ht : tys[t0]? = some (cA, .byte)) {i : Int32} {x : Int32} (hout : ¬ vp_in i n) (hdg : decode cc pc = .ok (.bastore, 1))
    (k : ∀ tx : String, tx = (toString "Index " ++ toString i ++ toString " out of bounds for length " ++ toString n : String) → vx_Note p l e R s m args below meth c H locs cells slots Q (F0 m pc ls rest) "java/lang/ArrayIndexOutOfBoundsException" tx) : W p l e R s m args below meth c H locs cells slots Q (F0 m pc ls (.int x :: .int i :: .ref a :: rest)) := by
  intro T hT X
  obtain ⟨t, st, q⟩ := k _ rfl T hT X
  refine ⟨t, ?_, q⟩
  have h1 := X.bastoreOut hexec (by rw [hT]; exact hP q0 _ ha) ((hK.2 t0 _ ht).1 n (fun j => .int (f j))) (j := i) (by show (i < 0 ∨ (arrV _ _ _).slots.size ≤ _); rw [arrV_size]; exact Classical.byContradiction hout) (g := F0 m pc ls (.int x :: .int i :: .ref a :: rest)) rfl (rest := rest) rfl (by rw [hb]; exact hdg) t
  simp only [arrV_size] at h1
  exact h1 st
theorem vx_zaldZ {D : va_G} {cl : List vw_C} {ws : va_W} {tys : List (ClassId × FieldType)} {a : Nat} (hexec : p.tables.exec = Jvm.exec) (hb : c.code = cc) (hK : va_K D cl tys s) (hP : va_P D cl ws H) (q0 t0 : Nat) {cA : ClassId} {n : Nat} {f : Nat → Int32} (ha : ws[q0]? = some (a, .inl (cA, n, .inl f))) (ht : tys[t0]? = some (cA, .boolean)) {i : Int32} (hout : ¬ vp_in i n) (hdg : decode cc pc = .ok (.baload, 1))
    (k : ∀ tx : String, tx = (toString "Index " ++ toString i ++ toString " out of bounds for length " ++ toString n : String) → vx_Note p l e R s m args below meth c H locs cells slots Q (F0 m pc ls rest) "java/lang/ArrayIndexOutOfBoundsException" tx) : W p l e R s m args below meth c H locs cells slots Q (F0 m pc ls (.int i :: .ref a :: rest)) := by
  intro T hT X
  obtain ⟨t, st, q⟩ := k _ rfl T hT X
  refine ⟨t, ?_, q⟩
  have h1 := X.baloadOut hexec (by rw [hT]; exact hP q0 _ ha) ((hK.2 t0 _ ht).1 n (fun j => .int (f j))) (j := i) (by show (i < 0 ∨ (arrV _ _ _).slots.size ≤ _); rw [arrV_size]; exact Classical.byContradiction hout) (g := F0 m pc ls (.int i :: .ref a :: rest)) rfl (rest := rest) rfl (by rw [hb]; exact hdg) t
  simp only [arrV_size] at h1
  exact h1 st
theorem vx_zastZ {D : va_G} {cl : List vw_C} {ws : va_W} {tys : List (ClassId × FieldType)} {a : Nat} (hexec : p.tables.exec = Jvm.exec) (hb : c.code = cc) (hK : va_K D cl tys s) (hP : va_P D cl ws H) (q0 t0 : Nat) {cA : ClassId} {n : Nat} {f : Nat → Int32} (ha : ws[q0]? = some (a, .inl (cA, n, .inl f))) (ht : tys[t0]? = some (cA, .boolean)) {i : Int32} {x : Int32} (hout : ¬ vp_in i n) (hdg : decode cc pc = .ok (.bastore, 1))
    (k : ∀ tx : String, tx = (toString "Index " ++ toString i ++ toString " out of bounds for length " ++ toString n : String) → vx_Note p l e R s m args below meth c H locs cells slots Q (F0 m pc ls rest) "java/lang/ArrayIndexOutOfBoundsException" tx) : W p l e R s m args below meth c H locs cells slots Q (F0 m pc ls (.int x :: .int i :: .ref a :: rest)) := by
  intro T hT X
  obtain ⟨t, st, q⟩ := k _ rfl T hT X
  refine ⟨t, ?_, q⟩
  have h1 := X.bastoreOut hexec (by rw [hT]; exact hP q0 _ ha) ((hK.2 t0 _ ht).1 n (fun j => .int (f j))) (j := i) (by show (i < 0 ∨ (arrV _ _ _).slots.size ≤ _); rw [arrV_size]; exact Classical.byContradiction hout) (g := F0 m pc ls (.int x :: .int i :: .ref a :: rest)) rfl (rest := rest) rfl (by rw [hb]; exact hdg) t
  simp only [arrV_size] at h1
  exact h1 st
theorem vx_caldZ {D : va_G} {cl : List vw_C} {ws : va_W} {tys : List (ClassId × FieldType)} {a : Nat} (hexec : p.tables.exec = Jvm.exec) (hb : c.code = cc) (hK : va_K D cl tys s) (hP : va_P D cl ws H) (q0 t0 : Nat) {cA : ClassId} {n : Nat} {f : Nat → Int32} (ha : ws[q0]? = some (a, .inl (cA, n, .inl f))) (ht : tys[t0]? = some (cA, .char)) {i : Int32} (hout : ¬ vp_in i n) (hdg : decode cc pc = .ok (.caload, 1))
    (k : ∀ tx : String, tx = (toString "Index " ++ toString i ++ toString " out of bounds for length " ++ toString n : String) → vx_Note p l e R s m args below meth c H locs cells slots Q (F0 m pc ls rest) "java/lang/ArrayIndexOutOfBoundsException" tx) : W p l e R s m args below meth c H locs cells slots Q (F0 m pc ls (.int i :: .ref a :: rest)) := by
  intro T hT X
  obtain ⟨t, st, q⟩ := k _ rfl T hT X
  refine ⟨t, ?_, q⟩
  have h1 := X.caloadOut hexec (by rw [hT]; exact hP q0 _ ha) ((hK.2 t0 _ ht).1 n (fun j => .int (f j))) (j := i) (by show (i < 0 ∨ (arrV _ _ _).slots.size ≤ _); rw [arrV_size]; exact Classical.byContradiction hout) (g := F0 m pc ls (.int i :: .ref a :: rest)) rfl (rest := rest) rfl (by rw [hb]; exact hdg) t
  simp only [arrV_size] at h1
  exact h1 st
theorem vx_castZ {D : va_G} {cl : List vw_C} {ws : va_W} {tys : List (ClassId × FieldType)} {a : Nat} (hexec : p.tables.exec = Jvm.exec) (hb : c.code = cc) (hK : va_K D cl tys s) (hP : va_P D cl ws H) (q0 t0 : Nat) {cA : ClassId} {n : Nat} {f : Nat → Int32} (ha : ws[q0]? = some (a, .inl (cA, n, .inl f))) (ht : tys[t0]? = some (cA, .char)) {i : Int32} {x : Int32} (hout : ¬ vp_in i n) (hdg : decode cc pc = .ok (.castore, 1))
    (k : ∀ tx : String, tx = (toString "Index " ++ toString i ++ toString " out of bounds for length " ++ toString n : String) → vx_Note p l e R s m args below meth c H locs cells slots Q (F0 m pc ls rest) "java/lang/ArrayIndexOutOfBoundsException" tx) : W p l e R s m args below meth c H locs cells slots Q (F0 m pc ls (.int x :: .int i :: .ref a :: rest)) := by
  intro T hT X
  obtain ⟨t, st, q⟩ := k _ rfl T hT X
  refine ⟨t, ?_, q⟩
  have h1 := X.castoreOut hexec (by rw [hT]; exact hP q0 _ ha) ((hK.2 t0 _ ht).1 n (fun j => .int (f j))) (j := i) (by show (i < 0 ∨ (arrV _ _ _).slots.size ≤ _); rw [arrV_size]; exact Classical.byContradiction hout) (g := F0 m pc ls (.int x :: .int i :: .ref a :: rest)) rfl (rest := rest) rfl (by rw [hb]; exact hdg) t
  simp only [arrV_size] at h1
  exact h1 st
theorem vx_saldZ {D : va_G} {cl : List vw_C} {ws : va_W} {tys : List (ClassId × FieldType)} {a : Nat} (hexec : p.tables.exec = Jvm.exec) (hb : c.code = cc) (hK : va_K D cl tys s) (hP : va_P D cl ws H) (q0 t0 : Nat) {cA : ClassId} {n : Nat} {f : Nat → Int32} (ha : ws[q0]? = some (a, .inl (cA, n, .inl f))) (ht : tys[t0]? = some (cA, .short)) {i : Int32} (hout : ¬ vp_in i n) (hdg : decode cc pc = .ok (.saload, 1))
    (k : ∀ tx : String, tx = (toString "Index " ++ toString i ++ toString " out of bounds for length " ++ toString n : String) → vx_Note p l e R s m args below meth c H locs cells slots Q (F0 m pc ls rest) "java/lang/ArrayIndexOutOfBoundsException" tx) : W p l e R s m args below meth c H locs cells slots Q (F0 m pc ls (.int i :: .ref a :: rest)) := by
  intro T hT X
  obtain ⟨t, st, q⟩ := k _ rfl T hT X
  refine ⟨t, ?_, q⟩
  have h1 := X.saloadOut hexec (by rw [hT]; exact hP q0 _ ha) ((hK.2 t0 _ ht).1 n (fun j => .int (f j))) (j := i) (by show (i < 0 ∨ (arrV _ _ _).slots.size ≤ _); rw [arrV_size]; exact Classical.byContradiction hout) (g := F0 m pc ls (.int i :: .ref a :: rest)) rfl (rest := rest) rfl (by rw [hb]; exact hdg) t
  simp only [arrV_size] at h1
  exact h1 st
theorem vx_sastZ {D : va_G} {cl : List vw_C} {ws : va_W} {tys : List (ClassId × FieldType)} {a : Nat} (hexec : p.tables.exec = Jvm.exec) (hb : c.code = cc) (hK : va_K D cl tys s) (hP : va_P D cl ws H) (q0 t0 : Nat) {cA : ClassId} {n : Nat} {f : Nat → Int32} (ha : ws[q0]? = some (a, .inl (cA, n, .inl f))) (ht : tys[t0]? = some (cA, .short)) {i : Int32} {x : Int32} (hout : ¬ vp_in i n) (hdg : decode cc pc = .ok (.sastore, 1))
    (k : ∀ tx : String, tx = (toString "Index " ++ toString i ++ toString " out of bounds for length " ++ toString n : String) → vx_Note p l e R s m args below meth c H locs cells slots Q (F0 m pc ls rest) "java/lang/ArrayIndexOutOfBoundsException" tx) : W p l e R s m args below meth c H locs cells slots Q (F0 m pc ls (.int x :: .int i :: .ref a :: rest)) := by
  intro T hT X
  obtain ⟨t, st, q⟩ := k _ rfl T hT X
  refine ⟨t, ?_, q⟩
  have h1 := X.sastoreOut hexec (by rw [hT]; exact hP q0 _ ha) ((hK.2 t0 _ ht).1 n (fun j => .int (f j))) (j := i) (by show (i < 0 ∨ (arrV _ _ _).slots.size ≤ _); rw [arrV_size]; exact Classical.byContradiction hout) (g := F0 m pc ls (.int x :: .int i :: .ref a :: rest)) rfl (rest := rest) rfl (by rw [hb]; exact hdg) t
  simp only [arrV_size] at h1
  exact h1 st
theorem vx_laldZ {D : va_G} {cl : List vw_C} {ws : va_W} {tys : List (ClassId × FieldType)} {a : Nat} (hexec : p.tables.exec = Jvm.exec) (hb : c.code = cc) (hK : va_K D cl tys s) (hP : va_P D cl ws H) (q0 t0 : Nat) {cA : ClassId} {n : Nat} {f : Nat → Int64} (ha : ws[q0]? = some (a, .inl (cA, n, .inr (.inl f)))) (ht : tys[t0]? = some (cA, .long)) {i : Int32} (hout : ¬ vp_in i n) (hdg : decode cc pc = .ok (.laload, 1))
    (k : ∀ tx : String, tx = (toString "Index " ++ toString i ++ toString " out of bounds for length " ++ toString n : String) → vx_Note p l e R s m args below meth c H locs cells slots Q (F0 m pc ls rest) "java/lang/ArrayIndexOutOfBoundsException" tx) : W p l e R s m args below meth c H locs cells slots Q (F0 m pc ls (.int i :: .ref a :: rest)) := by
  intro T hT X
  obtain ⟨t, st, q⟩ := k _ rfl T hT X
  refine ⟨t, ?_, q⟩
  have h1 := X.laloadOut hexec (by rw [hT]; exact hP q0 _ ha) ((hK.2 t0 _ ht).1 n (fun j => .long (f j))) (j := i) (by show (i < 0 ∨ (arrV _ _ _).slots.size ≤ _); rw [arrV_size]; exact Classical.byContradiction hout) (g := F0 m pc ls (.int i :: .ref a :: rest)) rfl (rest := rest) rfl (by rw [hb]; exact hdg) t
  simp only [arrV_size] at h1
  exact h1 st
theorem vx_lastZ {D : va_G} {cl : List vw_C} {ws : va_W} {tys : List (ClassId × FieldType)} {a : Nat} (hexec : p.tables.exec = Jvm.exec) (hb : c.code = cc) (hK : va_K D cl tys s) (hP : va_P D cl ws H) (q0 t0 : Nat) {cA : ClassId} {n : Nat} {f : Nat → Int64} (ha : ws[q0]? = some (a, .inl (cA, n, .inr (.inl f)))) (ht : tys[t0]? = some (cA, .long)) {i : Int32} {x : Int64} (hout : ¬ vp_in i n) (hdg : decode cc pc = .ok (.lastore, 1))
    (k : ∀ tx : String, tx = (toString "Index " ++ toString i ++ toString " out of bounds for length " ++ toString n : String) → vx_Note p l e R s m args below meth c H locs cells slots Q (F0 m pc ls rest) "java/lang/ArrayIndexOutOfBoundsException" tx) : W p l e R s m args below meth c H locs cells slots Q (F0 m pc ls (.long x :: .int i :: .ref a :: rest)) := by
  intro T hT X
  obtain ⟨t, st, q⟩ := k _ rfl T hT X
  refine ⟨t, ?_, q⟩
  have h1 := X.lastoreOut hexec (by rw [hT]; exact hP q0 _ ha) ((hK.2 t0 _ ht).1 n (fun j => .long (f j))) (j := i) (by show (i < 0 ∨ (arrV _ _ _).slots.size ≤ _); rw [arrV_size]; exact Classical.byContradiction hout) (g := F0 m pc ls (.long x :: .int i :: .ref a :: rest)) rfl (rest := rest) rfl (by rw [hb]; exact hdg) t
  simp only [arrV_size] at h1
  exact h1 st
theorem vx_faldZ {D : va_G} {cl : List vw_C} {ws : va_W} {tys : List (ClassId × FieldType)} {a : Nat} (hexec : p.tables.exec = Jvm.exec) (hb : c.code = cc) (hK : va_K D cl tys s) (hP : va_P D cl ws H) (q0 t0 : Nat) {cA : ClassId} {n : Nat} {f : Nat → UInt32} (ha : ws[q0]? = some (a, .inl (cA, n, .inr (.inr (.inl f))))) (ht : tys[t0]? = some (cA, .float)) {i : Int32} (hout : ¬ vp_in i n) (hdg : decode cc pc = .ok (.faload, 1))
    (k : ∀ tx : String, tx = (toString "Index " ++ toString i ++ toString " out of bounds for length " ++ toString n : String) → vx_Note p l e R s m args below meth c H locs cells slots Q (F0 m pc ls rest) "java/lang/ArrayIndexOutOfBoundsException" tx) : W p l e R s m args below meth c H locs cells slots Q (F0 m pc ls (.int i :: .ref a :: rest)) := by
  intro T hT X
  obtain ⟨t, st, q⟩ := k _ rfl T hT X
  refine ⟨t, ?_, q⟩
  have h1 := X.faloadOut hexec (by rw [hT]; exact hP q0 _ ha) ((hK.2 t0 _ ht).1 n (fun j => .float (f j))) (j := i) (by show (i < 0 ∨ (arrV _ _ _).slots.size ≤ _); rw [arrV_size]; exact Classical.byContradiction hout) (g := F0 m pc ls (.int i :: .ref a :: rest)) rfl (rest := rest) rfl (by rw [hb]; exact hdg) t
  simp only [arrV_size] at h1
  exact h1 st
theorem vx_fastZ {D : va_G} {cl : List vw_C} {ws : va_W} {tys : List (ClassId × FieldType)} {a : Nat} (hexec : p.tables.exec = Jvm.exec) (hb : c.code = cc) (hK : va_K D cl tys s) (hP : va_P D cl ws H) (q0 t0 : Nat) {cA : ClassId} {n : Nat} {f : Nat → UInt32} (ha : ws[q0]? = some (a, .inl (cA, n, .inr (.inr (.inl f))))) (ht : tys[t0]? = some (cA, .float)) {i : Int32} {x : UInt32} (hout : ¬ vp_in i n) (hdg : decode cc pc = .ok (.fastore, 1))
    (k : ∀ tx : String, tx = (toString "Index " ++ toString i ++ toString " out of bounds for length " ++ toString n : String) → vx_Note p l e R s m args below meth c H locs cells slots Q (F0 m pc ls rest) "java/lang/ArrayIndexOutOfBoundsException" tx) : W p l e R s m args below meth c H locs cells slots Q (F0 m pc ls (.float x :: .int i :: .ref a :: rest)) := by
  intro T hT X
  obtain ⟨t, st, q⟩ := k _ rfl T hT X
  refine ⟨t, ?_, q⟩
  have h1 := X.fastoreOut hexec (by rw [hT]; exact hP q0 _ ha) ((hK.2 t0 _ ht).1 n (fun j => .float (f j))) (j := i) (by show (i < 0 ∨ (arrV _ _ _).slots.size ≤ _); rw [arrV_size]; exact Classical.byContradiction hout) (g := F0 m pc ls (.float x :: .int i :: .ref a :: rest)) rfl (rest := rest) rfl (by rw [hb]; exact hdg) t
  simp only [arrV_size] at h1
  exact h1 st
theorem vx_daldZ {D : va_G} {cl : List vw_C} {ws : va_W} {tys : List (ClassId × FieldType)} {a : Nat} (hexec : p.tables.exec = Jvm.exec) (hb : c.code = cc) (hK : va_K D cl tys s) (hP : va_P D cl ws H) (q0 t0 : Nat) {cA : ClassId} {n : Nat} {f : Nat → UInt64} (ha : ws[q0]? = some (a, .inl (cA, n, .inr (.inr (.inr (.inl f)))))) (ht : tys[t0]? = some (cA, .double)) {i : Int32} (hout : ¬ vp_in i n) (hdg : decode cc pc = .ok (.daload, 1))
    (k : ∀ tx : String, tx = (toString "Index " ++ toString i ++ toString " out of bounds for length " ++ toString n : String) → vx_Note p l e R s m args below meth c H locs cells slots Q (F0 m pc ls rest) "java/lang/ArrayIndexOutOfBoundsException" tx) : W p l e R s m args below meth c H locs cells slots Q (F0 m pc ls (.int i :: .ref a :: rest)) := by
  intro T hT X
  obtain ⟨t, st, q⟩ := k _ rfl T hT X
  refine ⟨t, ?_, q⟩
  have h1 := X.daloadOut hexec (by rw [hT]; exact hP q0 _ ha) ((hK.2 t0 _ ht).1 n (fun j => .double (f j))) (j := i) (by show (i < 0 ∨ (arrV _ _ _).slots.size ≤ _); rw [arrV_size]; exact Classical.byContradiction hout) (g := F0 m pc ls (.int i :: .ref a :: rest)) rfl (rest := rest) rfl (by rw [hb]; exact hdg) t
  simp only [arrV_size] at h1
  exact h1 st
theorem vx_dastZ {D : va_G} {cl : List vw_C} {ws : va_W} {tys : List (ClassId × FieldType)} {a : Nat} (hexec : p.tables.exec = Jvm.exec) (hb : c.code = cc) (hK : va_K D cl tys s) (hP : va_P D cl ws H) (q0 t0 : Nat) {cA : ClassId} {n : Nat} {f : Nat → UInt64} (ha : ws[q0]? = some (a, .inl (cA, n, .inr (.inr (.inr (.inl f)))))) (ht : tys[t0]? = some (cA, .double)) {i : Int32} {x : UInt64} (hout : ¬ vp_in i n) (hdg : decode cc pc = .ok (.dastore, 1))
    (k : ∀ tx : String, tx = (toString "Index " ++ toString i ++ toString " out of bounds for length " ++ toString n : String) → vx_Note p l e R s m args below meth c H locs cells slots Q (F0 m pc ls rest) "java/lang/ArrayIndexOutOfBoundsException" tx) : W p l e R s m args below meth c H locs cells slots Q (F0 m pc ls (.double x :: .int i :: .ref a :: rest)) := by
  intro T hT X
  obtain ⟨t, st, q⟩ := k _ rfl T hT X
  refine ⟨t, ?_, q⟩
  have h1 := X.dastoreOut hexec (by rw [hT]; exact hP q0 _ ha) ((hK.2 t0 _ ht).1 n (fun j => .double (f j))) (j := i) (by show (i < 0 ∨ (arrV _ _ _).slots.size ≤ _); rw [arrV_size]; exact Classical.byContradiction hout) (g := F0 m pc ls (.double x :: .int i :: .ref a :: rest)) rfl (rest := rest) rfl (by rw [hb]; exact hdg) t
  simp only [arrV_size] at h1
  exact h1 st
theorem vx_arraylengthN (hexec : p.tables.exec = Jvm.exec) (hb : c.code = cc) (hdg : decode cc pc = .ok (.arraylength, 1)) (k : vx_NoteN p l e R s m args below meth c H locs cells slots Q (F0 m pc ls rest)) : W p l e R s m args below meth c H locs cells slots Q (F0 m pc ls (.null :: rest)) := by
  intro T hT X
  obtain ⟨t, st, q⟩ := k T hT X
  exact ⟨t, X.arraylengthNull hexec (g := F0 m pc ls (.null :: rest)) rfl (rest := rest) rfl (by rw [hb]; exact hdg) t st, q⟩
theorem vx_ialoadN (hexec : p.tables.exec = Jvm.exec) (hb : c.code = cc) {i : Int32} (hdg : decode cc pc = .ok (.iaload, 1)) (k : vx_NoteN p l e R s m args below meth c H locs cells slots Q (F0 m pc ls rest)) : W p l e R s m args below meth c H locs cells slots Q (F0 m pc ls (.int i :: .null :: rest)) := by
  intro T hT X
  obtain ⟨t, st, q⟩ := k T hT X
  exact ⟨t, X.ialoadNull hexec (g := F0 m pc ls (.int i :: .null :: rest)) rfl (rest := rest) rfl (by rw [hb]; exact hdg) t st, q⟩
theorem vx_laloadN (hexec : p.tables.exec = Jvm.exec) (hb : c.code = cc) {i : Int32} (hdg : decode cc pc = .ok (.laload, 1)) (k : vx_NoteN p l e R s m args below meth c H locs cells slots Q (F0 m pc ls rest)) : W p l e R s m args below meth c H locs cells slots Q (F0 m pc ls (.int i :: .null :: rest)) := by
  intro T hT X
  obtain ⟨t, st, q⟩ := k T hT X
  exact ⟨t, X.laloadNull hexec (g := F0 m pc ls (.int i :: .null :: rest)) rfl (rest := rest) rfl (by rw [hb]; exact hdg) t st, q⟩
theorem vx_faloadN (hexec : p.tables.exec = Jvm.exec) (hb : c.code = cc) {i : Int32} (hdg : decode cc pc = .ok (.faload, 1)) (k : vx_NoteN p l e R s m args below meth c H locs cells slots Q (F0 m pc ls rest)) : W p l e R s m args below meth c H locs cells slots Q (F0 m pc ls (.int i :: .null :: rest)) := by
  intro T hT X
  obtain ⟨t, st, q⟩ := k T hT X
  exact ⟨t, X.faloadNull hexec (g := F0 m pc ls (.int i :: .null :: rest)) rfl (rest := rest) rfl (by rw [hb]; exact hdg) t st, q⟩
theorem vx_daloadN (hexec : p.tables.exec = Jvm.exec) (hb : c.code = cc) {i : Int32} (hdg : decode cc pc = .ok (.daload, 1)) (k : vx_NoteN p l e R s m args below meth c H locs cells slots Q (F0 m pc ls rest)) : W p l e R s m args below meth c H locs cells slots Q (F0 m pc ls (.int i :: .null :: rest)) := by
  intro T hT X
  obtain ⟨t, st, q⟩ := k T hT X
  exact ⟨t, X.daloadNull hexec (g := F0 m pc ls (.int i :: .null :: rest)) rfl (rest := rest) rfl (by rw [hb]; exact hdg) t st, q⟩
theorem vx_aaloadN (hexec : p.tables.exec = Jvm.exec) (hb : c.code = cc) {i : Int32} (hdg : decode cc pc = .ok (.aaload, 1)) (k : vx_NoteN p l e R s m args below meth c H locs cells slots Q (F0 m pc ls rest)) : W p l e R s m args below meth c H locs cells slots Q (F0 m pc ls (.int i :: .null :: rest)) := by
  intro T hT X
  obtain ⟨t, st, q⟩ := k T hT X
  exact ⟨t, X.aaloadNull hexec (g := F0 m pc ls (.int i :: .null :: rest)) rfl (rest := rest) rfl (by rw [hb]; exact hdg) t st, q⟩
theorem vx_baloadN (hexec : p.tables.exec = Jvm.exec) (hb : c.code = cc) {i : Int32} (hdg : decode cc pc = .ok (.baload, 1)) (k : vx_NoteN p l e R s m args below meth c H locs cells slots Q (F0 m pc ls rest)) : W p l e R s m args below meth c H locs cells slots Q (F0 m pc ls (.int i :: .null :: rest)) := by
  intro T hT X
  obtain ⟨t, st, q⟩ := k T hT X
  exact ⟨t, X.baloadNull hexec (g := F0 m pc ls (.int i :: .null :: rest)) rfl (rest := rest) rfl (by rw [hb]; exact hdg) t st, q⟩
theorem vx_caloadN (hexec : p.tables.exec = Jvm.exec) (hb : c.code = cc) {i : Int32} (hdg : decode cc pc = .ok (.caload, 1)) (k : vx_NoteN p l e R s m args below meth c H locs cells slots Q (F0 m pc ls rest)) : W p l e R s m args below meth c H locs cells slots Q (F0 m pc ls (.int i :: .null :: rest)) := by
  intro T hT X
  obtain ⟨t, st, q⟩ := k T hT X
  exact ⟨t, X.caloadNull hexec (g := F0 m pc ls (.int i :: .null :: rest)) rfl (rest := rest) rfl (by rw [hb]; exact hdg) t st, q⟩
theorem vx_saloadN (hexec : p.tables.exec = Jvm.exec) (hb : c.code = cc) {i : Int32} (hdg : decode cc pc = .ok (.saload, 1)) (k : vx_NoteN p l e R s m args below meth c H locs cells slots Q (F0 m pc ls rest)) : W p l e R s m args below meth c H locs cells slots Q (F0 m pc ls (.int i :: .null :: rest)) := by
  intro T hT X
  obtain ⟨t, st, q⟩ := k T hT X
  exact ⟨t, X.saloadNull hexec (g := F0 m pc ls (.int i :: .null :: rest)) rfl (rest := rest) rfl (by rw [hb]; exact hdg) t st, q⟩
theorem vx_iastoreN (hexec : p.tables.exec = Jvm.exec) (hb : c.code = cc) {x : Int32} {i : Int32} (hdg : decode cc pc = .ok (.iastore, 1)) (k : vx_NoteN p l e R s m args below meth c H locs cells slots Q (F0 m pc ls rest)) : W p l e R s m args below meth c H locs cells slots Q (F0 m pc ls (.int x :: .int i :: .null :: rest)) := by
  intro T hT X
  obtain ⟨t, st, q⟩ := k T hT X
  exact ⟨t, X.iastoreNull hexec (g := F0 m pc ls (.int x :: .int i :: .null :: rest)) rfl (rest := rest) rfl (by rw [hb]; exact hdg) t st, q⟩
theorem vx_lastoreN (hexec : p.tables.exec = Jvm.exec) (hb : c.code = cc) {x : Int64} {i : Int32} (hdg : decode cc pc = .ok (.lastore, 1)) (k : vx_NoteN p l e R s m args below meth c H locs cells slots Q (F0 m pc ls rest)) : W p l e R s m args below meth c H locs cells slots Q (F0 m pc ls (.long x :: .int i :: .null :: rest)) := by
  intro T hT X
  obtain ⟨t, st, q⟩ := k T hT X
  exact ⟨t, X.lastoreNull hexec (g := F0 m pc ls (.long x :: .int i :: .null :: rest)) rfl (rest := rest) rfl (by rw [hb]; exact hdg) t st, q⟩
theorem vx_fastoreN (hexec : p.tables.exec = Jvm.exec) (hb : c.code = cc) {x : UInt32} {i : Int32} (hdg : decode cc pc = .ok (.fastore, 1)) (k : vx_NoteN p l e R s m args below meth c H locs cells slots Q (F0 m pc ls rest)) : W p l e R s m args below meth c H locs cells slots Q (F0 m pc ls (.float x :: .int i :: .null :: rest)) := by
  intro T hT X
  obtain ⟨t, st, q⟩ := k T hT X
  exact ⟨t, X.fastoreNull hexec (g := F0 m pc ls (.float x :: .int i :: .null :: rest)) rfl (rest := rest) rfl (by rw [hb]; exact hdg) t st, q⟩
theorem vx_dastoreN (hexec : p.tables.exec = Jvm.exec) (hb : c.code = cc) {x : UInt64} {i : Int32} (hdg : decode cc pc = .ok (.dastore, 1)) (k : vx_NoteN p l e R s m args below meth c H locs cells slots Q (F0 m pc ls rest)) : W p l e R s m args below meth c H locs cells slots Q (F0 m pc ls (.double x :: .int i :: .null :: rest)) := by
  intro T hT X
  obtain ⟨t, st, q⟩ := k T hT X
  exact ⟨t, X.dastoreNull hexec (g := F0 m pc ls (.double x :: .int i :: .null :: rest)) rfl (rest := rest) rfl (by rw [hb]; exact hdg) t st, q⟩
theorem vx_bastoreN (hexec : p.tables.exec = Jvm.exec) (hb : c.code = cc) {x : Int32} {i : Int32} (hdg : decode cc pc = .ok (.bastore, 1)) (k : vx_NoteN p l e R s m args below meth c H locs cells slots Q (F0 m pc ls rest)) : W p l e R s m args below meth c H locs cells slots Q (F0 m pc ls (.int x :: .int i :: .null :: rest)) := by
  intro T hT X
  obtain ⟨t, st, q⟩ := k T hT X
  exact ⟨t, X.bastoreNull hexec (g := F0 m pc ls (.int x :: .int i :: .null :: rest)) rfl (rest := rest) rfl (by rw [hb]; exact hdg) t st, q⟩
theorem vx_castoreN (hexec : p.tables.exec = Jvm.exec) (hb : c.code = cc) {x : Int32} {i : Int32} (hdg : decode cc pc = .ok (.castore, 1)) (k : vx_NoteN p l e R s m args below meth c H locs cells slots Q (F0 m pc ls rest)) : W p l e R s m args below meth c H locs cells slots Q (F0 m pc ls (.int x :: .int i :: .null :: rest)) := by
  intro T hT X
  obtain ⟨t, st, q⟩ := k T hT X
  exact ⟨t, X.castoreNull hexec (g := F0 m pc ls (.int x :: .int i :: .null :: rest)) rfl (rest := rest) rfl (by rw [hb]; exact hdg) t st, q⟩
theorem vx_sastoreN (hexec : p.tables.exec = Jvm.exec) (hb : c.code = cc) {x : Int32} {i : Int32} (hdg : decode cc pc = .ok (.sastore, 1)) (k : vx_NoteN p l e R s m args below meth c H locs cells slots Q (F0 m pc ls rest)) : W p l e R s m args below meth c H locs cells slots Q (F0 m pc ls (.int x :: .int i :: .null :: rest)) := by
  intro T hT X
  obtain ⟨t, st, q⟩ := k T hT X
  exact ⟨t, X.sastoreNull hexec (g := F0 m pc ls (.int x :: .int i :: .null :: rest)) rfl (rest := rest) rfl (by rw [hb]; exact hdg) t st, q⟩
theorem vx_invokeN {own C : String} {index maxL : Nat} {y : MethodName} {bytes : ByteArray} {ret : Option FieldType} (hexec : p.tables.exec = Jvm.exec) (hb : c.code = cc) (hown : s.vm.findClass own = some m.cls) (hlink : (Cond.methodLink own index y).before args s = true) (hinst : (Cond.instanceMethod y).before args s = true) (hcode : (Cond.code y bytes maxL ret).before args s = true) (hsel : (Cond.selects C y y).before args s = true)
    (hx : y.cls ≠ "java/lang/invoke/MethodHandle" ∧ y.cls ≠ "java/lang/invoke/VarHandle") {As : List Value} (hlen : (parseMethodDescriptor y.desc).map (fun d => d.parameters.length) = some As.length) (hdg : decode cc pc = .ok (.invokevirtual index, 3))
    (k : vx_NoteN p l e R s m args below meth c H locs cells slots Q (F0 m pc ls rest)) {st0 : List Value} (hst : st0 = As.reverse ++ .null :: rest) : W p l e R s m args below meth c H locs cells slots Q (F0 m pc ls st0) := by
  intro T hT X
  obtain ⟨r0, r, hn, hrm, hstR, hsigR⟩ := va_Decl.of hinst hcode
  obtain ⟨c2, r2, m2, q1, q2, q3, q4, kP, hkP, hkPi⟩ := Cond.selects_spec hsel
  cases hn.symm.trans q3
  have hl9 : As.length = r.sig.parameters.length := by
    rw [hsigR] at hlen
    exact (Option.some.inj hlen).symm
  obtain ⟨vm', X1, st1⟩ := X.invokevirtualNull hexec hown hlink hn hrm hstR hkP hkPi hx (g := F0 m pc ls st0) rfl (argsL := As) (rest := rest) hl9 hst (by rw [hb]; exact hdg)
  obtain ⟨t, st, q⟩ := k (T.setVm vm') hT X1
  exact ⟨t, st1 t st, q⟩
theorem vx_newarrayZ {atype : ArrayType} (hexec : p.tables.exec = Jvm.exec) (hb : c.code = cc) {n : Int32} (h0 : n < 0) (hdg : decode cc pc = .ok (.newarray atype, 2)) (k : ∀ tx : String, tx = toString n → vx_Note p l e R s m args below meth c H locs cells slots Q (F0 m pc ls rest) "java/lang/NegativeArraySizeException" tx) : W p l e R s m args below meth c H locs cells slots Q (F0 m pc ls (.int n :: rest)) := by
  intro T hT X
  obtain ⟨t, st, q⟩ := k _ rfl T hT X
  exact ⟨t, X.newarrayNegative hexec (g := F0 m pc ls (.int n :: rest)) rfl h0 (rest := rest) rfl (by rw [hb]; exact hdg) t st, q⟩
end
end VXM
/-! ===== END ===== -/
end
section
def RX0 : String := "Rosterproof$Changes"
def TX0 : u_T := fun k => match k with
  | 0 => ("Rosterproof$Changes", "cells", "[I", true)
  | 1 => ("Rosterproof$Changes", "values", "[I", true)
  | _ => ("Rosterproof$Changes", "size", "I", false)
def tyX0 : Nat → FieldType := fun k => match k with
  | 0 => .array .int
  | 1 => .array .int
  | _ => .int
abbrev wsX00 : List Cond := u_ws RX0 TX0 3
theorem nmX0 : ∀ a, a < 3 → ∀ b, b < 3 → a ≠ b → (TX0 a).2.1 ≠ (TX0 b).2.1 := by decide +kernel
theorem tyX0_ok : ∀ k, k < 3 → parseFieldDescriptor (TX0 k).2.2.1 = some (tyX0 k) := by decide +kernel
abbrev cX0_init : ByteArray := prog_2_method_1_code
def yX0_init : MethodName := ⟨RX0, "<init>", "()V"⟩
abbrev cX0_put : ByteArray := prog_2_method_2_code
def yX0_put : MethodName := ⟨RX0, "put", "(III)V"⟩
abbrev cX0_cellAt : ByteArray := prog_2_method_3_code
def yX0_cellAt : MethodName := ⟨RX0, "cellAt", "(I)I"⟩
abbrev cX0_valueAt : ByteArray := prog_2_method_4_code
def yX0_valueAt : MethodName := ⟨RX0, "valueAt", "(I)I"⟩
def RX1 : String := "Rosterproof$Checker"
def TX1 : u_T := fun k => match k with
  | 0 => ("Rosterproof$Checker", "shifts", "LRosterproof$Shifts;", true)
  | 1 => ("Rosterproof$Checker", "rules", "LRosterproof$Rules;", true)
  | _ => ("Rosterproof$Checker", "roster", "LRosterproof$Roster;", true)
def tyX1 : Nat → FieldType := fun k => match k with
  | 0 => .object "Rosterproof$Shifts"
  | 1 => .object "Rosterproof$Rules"
  | _ => .object "Rosterproof$Roster"
abbrev wsX10 : List Cond := u_ws RX1 TX1 3
theorem nmX1 : ∀ a, a < 3 → ∀ b, b < 3 → a ≠ b → (TX1 a).2.1 ≠ (TX1 b).2.1 := by decide +kernel
theorem tyX1_ok : ∀ k, k < 3 → parseFieldDescriptor (TX1 k).2.2.1 = some (tyX1 k) := by decide +kernel
abbrev cX1_init : ByteArray := prog_3_method_1_code
def yX1_init : MethodName := ⟨RX1, "<init>", "(LRosterproof$Shifts;LRosterproof$Rules;LRosterproof$Roster;)V"⟩
abbrev cX1_look : ByteArray := prog_3_method_2_code
def yX1_look : MethodName := ⟨RX1, "look", "(LRosterproof$Findings;)V"⟩
abbrev cX1_breachesOf : ByteArray := prog_3_method_3_code
def yX1_breachesOf : MethodName := ⟨RX1, "breachesOf", "(I)J"⟩
abbrev cX1_bitIf : ByteArray := prog_3_method_4_code
def yX1_bitIf : MethodName := ⟨RX1, "bitIf", "(ZII)J"⟩
abbrev cX1_shortagesOf : ByteArray := prog_3_method_5_code
def yX1_shortagesOf : MethodName := ⟨RX1, "shortagesOf", "(I)I"⟩
def RX2 : String := "Rosterproof$Findings"
def TX2 : u_T := fun k => match k with
  | 0 => ("Rosterproof$Findings", "rows", "[J", true)
  | _ => ("Rosterproof$Findings", "shortages", "I", false)
def tyX2 : Nat → FieldType := fun k => match k with
  | 0 => .array .long
  | _ => .int
abbrev wsX20 : List Cond := u_ws RX2 TX2 2
theorem nmX2 : ∀ a, a < 2 → ∀ b, b < 2 → a ≠ b → (TX2 a).2.1 ≠ (TX2 b).2.1 := by decide +kernel
theorem tyX2_ok : ∀ k, k < 2 → parseFieldDescriptor (TX2 k).2.2.1 = some (tyX2 k) := by decide +kernel
abbrev cX2_init : ByteArray := prog_4_method_1_code
def yX2_init : MethodName := ⟨RX2, "<init>", "()V"⟩
abbrev cX2_putRow : ByteArray := prog_4_method_2_code
def yX2_putRow : MethodName := ⟨RX2, "putRow", "(IJ)V"⟩
abbrev cX2_putShortages : ByteArray := prog_4_method_3_code
def yX2_putShortages : MethodName := ⟨RX2, "putShortages", "(II)V"⟩
abbrev cX2_daysOf : ByteArray := prog_4_method_4_code
def yX2_daysOf : MethodName := ⟨RX2, "daysOf", "(II)I"⟩
abbrev cX2_size : ByteArray := prog_4_method_5_code
def yX2_size : MethodName := ⟨RX2, "size", "()I"⟩
abbrev cX2_isClearBesides : ByteArray := prog_4_method_6_code
def yX2_isClearBesides : MethodName := ⟨RX2, "isClearBesides", "(II)Z"⟩
abbrev cX2_isPartOf : ByteArray := prog_4_method_7_code
def yX2_isPartOf : MethodName := ⟨RX2, "isPartOf", "(LRosterproof$Findings;)Z"⟩
abbrev cX2_breachAt : ByteArray := prog_4_method_8_code
def yX2_breachAt : MethodName := ⟨RX2, "breachAt", "(I)I"⟩
abbrev cX2_placeOfBit : ByteArray := prog_4_method_9_code
def yX2_placeOfBit : MethodName := ⟨RX2, "placeOfBit", "(II)I"⟩
abbrev cX2_mostBurdened : ByteArray := prog_4_method_10_code
def yX2_mostBurdened : MethodName := ⟨RX2, "mostBurdened", "()I"⟩
def RX3 : String := "Rosterproof$Measures"
def TX3 : u_T := fun k => match k with
  | 0 => ("Rosterproof$Measures", "shifts", "LRosterproof$Shifts;", true)
  | 1 => ("Rosterproof$Measures", "rules", "LRosterproof$Rules;", true)
  | _ => ("Rosterproof$Measures", "roster", "LRosterproof$Roster;", true)
def tyX3 : Nat → FieldType := fun k => match k with
  | 0 => .object "Rosterproof$Shifts"
  | 1 => .object "Rosterproof$Rules"
  | _ => .object "Rosterproof$Roster"
abbrev wsX30 : List Cond := u_ws RX3 TX3 3
theorem nmX3 : ∀ a, a < 3 → ∀ b, b < 3 → a ≠ b → (TX3 a).2.1 ≠ (TX3 b).2.1 := by decide +kernel
theorem tyX3_ok : ∀ k, k < 3 → parseFieldDescriptor (TX3 k).2.2.1 = some (tyX3 k) := by decide +kernel
abbrev cX3_init : ByteArray := prog_5_method_1_code
def yX3_init : MethodName := ⟨RX3, "<init>", "(LRosterproof$Shifts;LRosterproof$Rules;LRosterproof$Roster;)V"⟩
abbrev cX3_minutesAt : ByteArray := prog_5_method_2_code
def yX3_minutesAt : MethodName := ⟨RX3, "minutesAt", "(II)I"⟩
abbrev cX3_isNightAt : ByteArray := prog_5_method_3_code
def yX3_isNightAt : MethodName := ⟨RX3, "isNightAt", "(II)Z"⟩
abbrev cX3_dayWorkedBefore : ByteArray := prog_5_method_4_code
def yX3_dayWorkedBefore : MethodName := ⟨RX3, "dayWorkedBefore", "(II)I"⟩
abbrev cX3_restAt : ByteArray := prog_5_method_5_code
def yX3_restAt : MethodName := ⟨RX3, "restAt", "(II)I"⟩
abbrev cX3_nightsByCounting : ByteArray := prog_5_method_6_code
def yX3_nightsByCounting : MethodName := ⟨RX3, "nightsByCounting", "(I)I"⟩
abbrev cX3_nightsByTryingRows : ByteArray := prog_5_method_7_code
def yX3_nightsByTryingRows : MethodName := ⟨RX3, "nightsByTryingRows", "(I)I"⟩
abbrev cX3_isRowOfNights : ByteArray := prog_5_method_8_code
def yX3_isRowOfNights : MethodName := ⟨RX3, "isRowOfNights", "(III)Z"⟩
abbrev cX3_sumByMoving : ByteArray := prog_5_method_9_code
def yX3_sumByMoving : MethodName := ⟨RX3, "sumByMoving", "(I)I"⟩
abbrev cX3_sumByAddingAnew : ByteArray := prog_5_method_10_code
def yX3_sumByAddingAnew : MethodName := ⟨RX3, "sumByAddingAnew", "(I)I"⟩
def RX4 : String := "Rosterproof$Mender"
def TX4 : u_T := fun k => match k with
  | 0 => ("Rosterproof$Mender", "shifts", "LRosterproof$Shifts;", true)
  | 1 => ("Rosterproof$Mender", "rules", "LRosterproof$Rules;", true)
  | 2 => ("Rosterproof$Mender", "roster", "LRosterproof$Roster;", true)
  | 3 => ("Rosterproof$Mender", "measures", "LRosterproof$Measures;", true)
  | 4 => ("Rosterproof$Mender", "checker", "LRosterproof$Checker;", true)
  | 5 => ("Rosterproof$Mender", "left", "LRosterproof$Findings;", true)
  | _ => ("Rosterproof$Mender", "found", "LRosterproof$Changes;", true)
def tyX4 : Nat → FieldType := fun k => match k with
  | 0 => .object "Rosterproof$Shifts"
  | 1 => .object "Rosterproof$Rules"
  | 2 => .object "Rosterproof$Roster"
  | 3 => .object "Rosterproof$Measures"
  | 4 => .object "Rosterproof$Checker"
  | 5 => .object "Rosterproof$Findings"
  | _ => .object "Rosterproof$Changes"
abbrev wsX40 : List Cond := u_ws RX4 TX4 7
theorem nmX4 : ∀ a, a < 7 → ∀ b, b < 7 → a ≠ b → (TX4 a).2.1 ≠ (TX4 b).2.1 := by decide +kernel
theorem tyX4_ok : ∀ k, k < 7 → parseFieldDescriptor (TX4 k).2.2.1 = some (tyX4 k) := by decide +kernel
abbrev cX4_init : ByteArray := prog_6_method_1_code
def yX4_init : MethodName := ⟨RX4, "<init>", "(LRosterproof$Shifts;LRosterproof$Rules;LRosterproof$Roster;LRosterproof$Measures;LRosterproof$Checker;)V"⟩
abbrev cX4_seek : ByteArray := prog_6_method_2_code
def yX4_seek : MethodName := ⟨RX4, "seek", "(Z)I"⟩
abbrev cX4_findTwo : ByteArray := prog_6_method_3_code
def yX4_findTwo : MethodName := ⟨RX4, "findTwo", "(IZ)Z"⟩
abbrev cX4_change : ByteArray := prog_6_method_4_code
def yX4_change : MethodName := ⟨RX4, "change", "(II)V"⟩
abbrev cX4_findLast : ByteArray := prog_6_method_5_code
def yX4_findLast : MethodName := ⟨RX4, "findLast", "(II)Z"⟩
abbrev cX4_has : ByteArray := prog_6_method_6_code
def yX4_has : MethodName := ⟨RX4, "has", "(II)Z"⟩
abbrev cX4_cellsAfter : ByteArray := prog_6_method_7_code
def yX4_cellsAfter : MethodName := ⟨RX4, "cellsAfter", "(I)I"⟩
abbrev cX4_touching : ByteArray := prog_6_method_8_code
def yX4_touching : MethodName := ⟨RX4, "touching", "(I)I"⟩
abbrev cX4_cellsOf : ByteArray := prog_6_method_9_code
def yX4_cellsOf : MethodName := ⟨RX4, "cellsOf", "(III)I"⟩
abbrev cX4_cellsOfDay : ByteArray := prog_6_method_10_code
def yX4_cellsOfDay : MethodName := ⟨RX4, "cellsOfDay", "(I)I"⟩
def RX5 : String := "Rosterproof$Roster"
def TX5 : u_T := fun k => match k with
  | 0 => ("Rosterproof$Roster", "values", "[I", true)
  | 1 => ("Rosterproof$Roster", "aways", "[Z", true)
  | 2 => ("Rosterproof$Roster", "skills", "[Z", true)
  | 3 => ("Rosterproof$Roster", "staff", "[I", true)
  | _ => ("Rosterproof$Roster", "persons", "I", false)
def tyX5 : Nat → FieldType := fun k => match k with
  | 0 => .array .int
  | 1 => .array .boolean
  | 2 => .array .boolean
  | 3 => .array .int
  | _ => .int
abbrev wsX50 : List Cond := u_ws RX5 TX5 5
theorem nmX5 : ∀ a, a < 5 → ∀ b, b < 5 → a ≠ b → (TX5 a).2.1 ≠ (TX5 b).2.1 := by decide +kernel
theorem tyX5_ok : ∀ k, k < 5 → parseFieldDescriptor (TX5 k).2.2.1 = some (tyX5 k) := by decide +kernel
abbrev cX5_init : ByteArray := prog_7_method_1_code
def yX5_init : MethodName := ⟨RX5, "<init>", "()V"⟩
abbrev cX5_hasPerson : ByteArray := prog_7_method_2_code
def yX5_hasPerson : MethodName := ⟨RX5, "hasPerson", "(I)Z"⟩
abbrev cX5_shiftAt : ByteArray := prog_7_method_3_code
def yX5_shiftAt : MethodName := ⟨RX5, "shiftAt", "(II)I"⟩
abbrev cX5_valueAt : ByteArray := prog_7_method_4_code
def yX5_valueAt : MethodName := ⟨RX5, "valueAt", "(I)I"⟩
abbrev cX5_put : ByteArray := prog_7_method_5_code
def yX5_put : MethodName := ⟨RX5, "put", "(II)V"⟩
abbrev cX5_countStaff : ByteArray := prog_7_method_6_code
def yX5_countStaff : MethodName := ⟨RX5, "countStaff", "(III)V"⟩
abbrev cX5_staffAt : ByteArray := prog_7_method_7_code
def yX5_staffAt : MethodName := ⟨RX5, "staffAt", "(II)I"⟩
abbrev cX5_exchange : ByteArray := prog_7_method_8_code
def yX5_exchange : MethodName := ⟨RX5, "exchange", "(III)V"⟩
abbrev cX5_isAway : ByteArray := prog_7_method_9_code
def yX5_isAway : MethodName := ⟨RX5, "isAway", "(II)Z"⟩
abbrev cX5_putAway : ByteArray := prog_7_method_10_code
def yX5_putAway : MethodName := ⟨RX5, "putAway", "(IIZ)V"⟩
abbrev cX5_hasSkill : ByteArray := prog_7_method_11_code
def yX5_hasSkill : MethodName := ⟨RX5, "hasSkill", "(II)Z"⟩
abbrev cX5_putSkill : ByteArray := prog_7_method_12_code
def yX5_putSkill : MethodName := ⟨RX5, "putSkill", "(II)V"⟩
def RX6 : String := "Rosterproof$Rules"
def TX6 : u_T := fun k => match k with
  | 0 => ("Rosterproof$Rules", "demands", "[I", true)
  | 1 => ("Rosterproof$Rules", "rest", "I", false)
  | 2 => ("Rosterproof$Rules", "nights", "I", false)
  | 3 => ("Rosterproof$Rules", "run", "I", false)
  | 4 => ("Rosterproof$Rules", "span", "I", false)
  | _ => ("Rosterproof$Rules", "limit", "I", false)
def tyX6 : Nat → FieldType := fun k => match k with
  | 0 => .array .int
  | 1 => .int
  | 2 => .int
  | 3 => .int
  | 4 => .int
  | _ => .int
abbrev wsX60 : List Cond := u_ws RX6 TX6 6
theorem nmX6 : ∀ a, a < 6 → ∀ b, b < 6 → a ≠ b → (TX6 a).2.1 ≠ (TX6 b).2.1 := by decide +kernel
theorem tyX6_ok : ∀ k, k < 6 → parseFieldDescriptor (TX6 k).2.2.1 = some (tyX6 k) := by decide +kernel
abbrev cX6_init : ByteArray := prog_8_method_1_code
def yX6_init : MethodName := ⟨RX6, "<init>", "()V"⟩
abbrev cX6_demandAt : ByteArray := prog_8_method_2_code
def yX6_demandAt : MethodName := ⟨RX6, "demandAt", "(II)I"⟩
abbrev cX6_putDemand : ByteArray := prog_8_method_3_code
def yX6_putDemand : MethodName := ⟨RX6, "putDemand", "(III)V"⟩
def RX7 : String := "Rosterproof$Shifts"
def TX7 : u_T := fun k => match k with
  | 0 => ("Rosterproof$Shifts", "starts", "[I", true)
  | 1 => ("Rosterproof$Shifts", "lengths", "[I", true)
  | _ => ("Rosterproof$Shifts", "count", "I", false)
def tyX7 : Nat → FieldType := fun k => match k with
  | 0 => .array .int
  | 1 => .array .int
  | _ => .int
abbrev wsX70 : List Cond := u_ws RX7 TX7 3
theorem nmX7 : ∀ a, a < 3 → ∀ b, b < 3 → a ≠ b → (TX7 a).2.1 ≠ (TX7 b).2.1 := by decide +kernel
theorem tyX7_ok : ∀ k, k < 3 → parseFieldDescriptor (TX7 k).2.2.1 = some (tyX7 k) := by decide +kernel
abbrev cX7_init : ByteArray := prog_9_method_1_code
def yX7_init : MethodName := ⟨RX7, "<init>", "()V"⟩
abbrev cX7_has : ByteArray := prog_9_method_2_code
def yX7_has : MethodName := ⟨RX7, "has", "(I)Z"⟩
abbrev cX7_append : ByteArray := prog_9_method_3_code
def yX7_append : MethodName := ⟨RX7, "append", "(II)I"⟩
abbrev cX7_startOf : ByteArray := prog_9_method_4_code
def yX7_startOf : MethodName := ⟨RX7, "startOf", "(I)I"⟩
abbrev cX7_lengthOf : ByteArray := prog_9_method_5_code
def yX7_lengthOf : MethodName := ⟨RX7, "lengthOf", "(I)I"⟩
abbrev cX7_holdsNight : ByteArray := prog_9_method_6_code
def yX7_holdsNight : MethodName := ⟨RX7, "holdsNight", "(I)Z"⟩
def RX8 : String := "Rosterproof"
def TX8 : u_T := fun k => match k with
  | 0 => ("Rosterproof", "shifts", "LRosterproof$Shifts;", true)
  | 1 => ("Rosterproof", "rules", "LRosterproof$Rules;", true)
  | 2 => ("Rosterproof", "roster", "LRosterproof$Roster;", true)
  | 3 => ("Rosterproof", "measures", "LRosterproof$Measures;", true)
  | 4 => ("Rosterproof", "checker", "LRosterproof$Checker;", true)
  | 5 => ("Rosterproof", "current", "LRosterproof$Findings;", true)
  | 6 => ("Rosterproof", "exchanged", "LRosterproof$Findings;", true)
  | 7 => ("Rosterproof", "mender", "LRosterproof$Mender;", true)
  | _ => ("Rosterproof", "made", "LRosterproof$Changes;", true)
def tyX8 : Nat → FieldType := fun k => match k with
  | 0 => .object "Rosterproof$Shifts"
  | 1 => .object "Rosterproof$Rules"
  | 2 => .object "Rosterproof$Roster"
  | 3 => .object "Rosterproof$Measures"
  | 4 => .object "Rosterproof$Checker"
  | 5 => .object "Rosterproof$Findings"
  | 6 => .object "Rosterproof$Findings"
  | 7 => .object "Rosterproof$Mender"
  | _ => .object "Rosterproof$Changes"
abbrev wsX80 : List Cond := u_ws RX8 TX8 9
theorem nmX8 : ∀ a, a < 9 → ∀ b, b < 9 → a ≠ b → (TX8 a).2.1 ≠ (TX8 b).2.1 := by decide +kernel
theorem tyX8_ok : ∀ k, k < 9 → parseFieldDescriptor (TX8 k).2.2.1 = some (tyX8 k) := by decide +kernel
abbrev cX8_init : ByteArray := prog_1_method_1_code
def yX8_init : MethodName := ⟨RX8, "<init>", "()V"⟩
abbrev cX8_addPerson : ByteArray := prog_1_method_2_code
def yX8_addPerson : MethodName := ⟨RX8, "addPerson", "()I"⟩
abbrev cX8_addShift : ByteArray := prog_1_method_3_code
def yX8_addShift : MethodName := ⟨RX8, "addShift", "(II)I"⟩
abbrev cX8_isNight : ByteArray := prog_1_method_4_code
def yX8_isNight : MethodName := ⟨RX8, "isNight", "(I)Z"⟩
abbrev cX8_teach : ByteArray := prog_1_method_5_code
def yX8_teach : MethodName := ⟨RX8, "teach", "(II)Z"⟩
abbrev cX8_setRest : ByteArray := prog_1_method_6_code
def yX8_setRest : MethodName := ⟨RX8, "setRest", "(I)I"⟩
abbrev cX8_setNights : ByteArray := prog_1_method_7_code
def yX8_setNights : MethodName := ⟨RX8, "setNights", "(I)I"⟩
abbrev cX8_setRun : ByteArray := prog_1_method_8_code
def yX8_setRun : MethodName := ⟨RX8, "setRun", "(I)I"⟩
abbrev cX8_setHours : ByteArray := prog_1_method_9_code
def yX8_setHours : MethodName := ⟨RX8, "setHours", "(II)I"⟩
abbrev cX8_setDemand : ByteArray := prog_1_method_10_code
def yX8_setDemand : MethodName := ⟨RX8, "setDemand", "(III)I"⟩
abbrev cX8_assign : ByteArray := prog_1_method_11_code
def yX8_assign : MethodName := ⟨RX8, "assign", "(III)I"⟩
abbrev cX8_free : ByteArray := prog_1_method_12_code
def yX8_free : MethodName := ⟨RX8, "free", "(II)I"⟩
abbrev cX8_setAbsent : ByteArray := prog_1_method_13_code
def yX8_setAbsent : MethodName := ⟨RX8, "setAbsent", "(IIZ)Z"⟩
abbrev cX8_shiftOf : ByteArray := prog_1_method_14_code
def yX8_shiftOf : MethodName := ⟨RX8, "shiftOf", "(II)I"⟩
abbrev cX8_restBefore : ByteArray := prog_1_method_15_code
def yX8_restBefore : MethodName := ⟨RX8, "restBefore", "(II)I"⟩
abbrev cX8_longestNights : ByteArray := prog_1_method_16_code
def yX8_longestNights : MethodName := ⟨RX8, "longestNights", "(I)I"⟩
abbrev cX8_longestByRows : ByteArray := prog_1_method_17_code
def yX8_longestByRows : MethodName := ⟨RX8, "longestByRows", "(I)I"⟩
abbrev cX8_peak : ByteArray := prog_1_method_18_code
def yX8_peak : MethodName := ⟨RX8, "peak", "(I)I"⟩
abbrev cX8_peakByAdding : ByteArray := prog_1_method_19_code
def yX8_peakByAdding : MethodName := ⟨RX8, "peakByAdding", "(I)I"⟩
abbrev cX8_breaches : ByteArray := prog_1_method_20_code
def yX8_breaches : MethodName := ⟨RX8, "breaches", "()I"⟩
abbrev cX8_breachKind : ByteArray := prog_1_method_21_code
def yX8_breachKind : MethodName := ⟨RX8, "breachKind", "(I)C"⟩
abbrev cX8_breachPerson : ByteArray := prog_1_method_22_code
def yX8_breachPerson : MethodName := ⟨RX8, "breachPerson", "(I)I"⟩
abbrev cX8_breachDay : ByteArray := prog_1_method_23_code
def yX8_breachDay : MethodName := ⟨RX8, "breachDay", "(I)I"⟩
abbrev cX8_breachShift : ByteArray := prog_1_method_24_code
def yX8_breachShift : MethodName := ⟨RX8, "breachShift", "(I)I"⟩
abbrev cX8_mostBreaches : ByteArray := prog_1_method_25_code
def yX8_mostBreaches : MethodName := ⟨RX8, "mostBreaches", "()I"⟩
abbrev cX8_swap : ByteArray := prog_1_method_26_code
def yX8_swap : MethodName := ⟨RX8, "swap", "(III)I"⟩
abbrev cX8_partner : ByteArray := prog_1_method_27_code
def yX8_partner : MethodName := ⟨RX8, "partner", "(II)I"⟩
abbrev cX8_leastChanges : ByteArray := prog_1_method_28_code
def yX8_leastChanges : MethodName := ⟨RX8, "leastChanges", "()I"⟩
abbrev cX8_leastByTrial : ByteArray := prog_1_method_29_code
def yX8_leastByTrial : MethodName := ⟨RX8, "leastByTrial", "()I"⟩
abbrev cX8_mend : ByteArray := prog_1_method_30_code
def yX8_mend : MethodName := ⟨RX8, "mend", "()I"⟩
abbrev cX8_changedCell : ByteArray := prog_1_method_31_code
def yX8_changedCell : MethodName := ⟨RX8, "changedCell", "(I)I"⟩
abbrev cX8_changedValue : ByteArray := prog_1_method_32_code
def yX8_changedValue : MethodName := ⟨RX8, "changedValue", "(I)I"⟩
abbrev cX8_minutes : ByteArray := prog_1_method_33_code
def yX8_minutes : MethodName := ⟨RX8, "minutes", "()J"⟩
abbrev cX8_workShare : ByteArray := prog_1_method_34_code
def yX8_workShare : MethodName := ⟨RX8, "workShare", "(I)F"⟩
abbrev cX8_meanRest : ByteArray := prog_1_method_35_code
def yX8_meanRest : MethodName := ⟨RX8, "meanRest", "(I)D"⟩
abbrev cX8_isSound : ByteArray := prog_1_method_36_code
def yX8_isSound : MethodName := ⟨RX8, "isSound", "()Z"⟩
abbrev cX8_requirePerson : ByteArray := prog_1_method_37_code
def yX8_requirePerson : MethodName := ⟨RX8, "requirePerson", "(I)V"⟩
abbrev cX8_requireDay : ByteArray := prog_1_method_38_code
def yX8_requireDay : MethodName := ⟨RX8, "requireDay", "(I)V"⟩
abbrev cX8_requireShift : ByteArray := prog_1_method_39_code
def yX8_requireShift : MethodName := ⟨RX8, "requireShift", "(I)V"⟩
abbrev cX8_requireRange : ByteArray := prog_1_method_40_code
def yX8_requireRange : MethodName := ⟨RX8, "requireRange", "(III)V"⟩
abbrev cX8_requireChange : ByteArray := prog_1_method_41_code
def yX8_requireChange : MethodName := ⟨RX8, "requireChange", "(I)V"⟩
abbrev cX8_requireSize : ByteArray := prog_1_method_42_code
def yX8_requireSize : MethodName := ⟨RX8, "requireSize", "(I)I"⟩
abbrev cX8_requireBreach : ByteArray := prog_1_method_43_code
def yX8_requireBreach : MethodName := ⟨RX8, "requireBreach", "(I)I"⟩
abbrev cX8_sizeAfterExchange : ByteArray := prog_1_method_44_code
def yX8_sizeAfterExchange : MethodName := ⟨RX8, "sizeAfterExchange", "(III)I"⟩
abbrev cX8_cellOf : ByteArray := prog_1_method_45_code
def yX8_cellOf : MethodName := ⟨RX8, "cellOf", "(II)I"⟩
abbrev cX8_postOf : ByteArray := prog_1_method_46_code
def yX8_postOf : MethodName := ⟨RX8, "postOf", "(II)I"⟩
abbrev cX8_skillOf : ByteArray := prog_1_method_47_code
def yX8_skillOf : MethodName := ⟨RX8, "skillOf", "(II)I"⟩
abbrev cX8_breachOf : ByteArray := prog_1_method_48_code
def yX8_breachOf : MethodName := ⟨RX8, "breachOf", "(IIII)I"⟩
abbrev cX8_shiftIn : ByteArray := prog_1_method_49_code
def yX8_shiftIn : MethodName := ⟨RX8, "shiftIn", "(I)I"⟩
abbrev cX8_dayOf : ByteArray := prog_1_method_50_code
def yX8_dayOf : MethodName := ⟨RX8, "dayOf", "(I)I"⟩
abbrev cX8_personOf : ByteArray := prog_1_method_51_code
def yX8_personOf : MethodName := ⟨RX8, "personOf", "(I)I"⟩
abbrev cX8_kindOf : ByteArray := prog_1_method_52_code
def yX8_kindOf : MethodName := ⟨RX8, "kindOf", "(I)I"⟩
def RX9 : String := "RosterproofModel"
def TX9 : u_T := fun k => match k with
  | 0 => ("RosterproofModel", "thrown", "I", false)
  | 1 => ("RosterproofModel", "persons", "I", false)
  | 2 => ("RosterproofModel", "shifts", "I", false)
  | 3 => ("RosterproofModel", "start", "[I", true)
  | 4 => ("RosterproofModel", "length", "[I", true)
  | 5 => ("RosterproofModel", "cell", "[I", true)
  | 6 => ("RosterproofModel", "absent", "[Z", true)
  | 7 => ("RosterproofModel", "skill", "[Z", true)
  | 8 => ("RosterproofModel", "demand", "[I", true)
  | 9 => ("RosterproofModel", "rest", "I", false)
  | 10 => ("RosterproofModel", "nights", "I", false)
  | 11 => ("RosterproofModel", "run", "I", false)
  | 12 => ("RosterproofModel", "span", "I", false)
  | 13 => ("RosterproofModel", "limit", "I", false)
  | 14 => ("RosterproofModel", "many", "I", false)
  | 15 => ("RosterproofModel", "kind", "[C", true)
  | 16 => ("RosterproofModel", "who", "[I", true)
  | 17 => ("RosterproofModel", "when", "[I", true)
  | 18 => ("RosterproofModel", "which", "[I", true)
  | 19 => ("RosterproofModel", "wasBreach", "[Z", true)
  | 20 => ("RosterproofModel", "setCell", "[I", true)
  | 21 => ("RosterproofModel", "setValue", "[I", true)
  | 22 => ("RosterproofModel", "mended", "I", false)
  | 23 => ("RosterproofModel", "madeCell", "[I", true)
  | _ => ("RosterproofModel", "madeValue", "[I", true)
def tyX9 : Nat → FieldType := fun k => match k with
  | 0 => .int
  | 1 => .int
  | 2 => .int
  | 3 => .array .int
  | 4 => .array .int
  | 5 => .array .int
  | 6 => .array .boolean
  | 7 => .array .boolean
  | 8 => .array .int
  | 9 => .int
  | 10 => .int
  | 11 => .int
  | 12 => .int
  | 13 => .int
  | 14 => .int
  | 15 => .array .char
  | 16 => .array .int
  | 17 => .array .int
  | 18 => .array .int
  | 19 => .array .boolean
  | 20 => .array .int
  | 21 => .array .int
  | 22 => .int
  | 23 => .array .int
  | _ => .array .int
abbrev wsX90 : List Cond := u_ws RX9 TX9 25
theorem nmX9 : ∀ a, a < 25 → ∀ b, b < 25 → a ≠ b → (TX9 a).2.1 ≠ (TX9 b).2.1 := by decide +kernel
theorem tyX9_ok : ∀ k, k < 25 → parseFieldDescriptor (TX9 k).2.2.1 = some (tyX9 k) := by decide +kernel
abbrev cX9_init : ByteArray := prog_11_method_1_code
def yX9_init : MethodName := ⟨RX9, "<init>", "()V"⟩
abbrev cX9_thrown : ByteArray := prog_11_method_2_code
def yX9_thrown : MethodName := ⟨RX9, "thrown", "()I"⟩
abbrev cX9_in : ByteArray := prog_11_method_3_code
def yX9_in : MethodName := ⟨RX9, "in", "(III)Z"⟩
abbrev cX9_goesOn : ByteArray := prog_11_method_4_code
def yX9_goesOn : MethodName := ⟨RX9, "goesOn", "(I)Z"⟩
abbrev cX9_isPerson : ByteArray := prog_11_method_5_code
def yX9_isPerson : MethodName := ⟨RX9, "isPerson", "(I)Z"⟩
abbrev cX9_isDay : ByteArray := prog_11_method_6_code
def yX9_isDay : MethodName := ⟨RX9, "isDay", "(I)Z"⟩
abbrev cX9_isShift : ByteArray := prog_11_method_7_code
def yX9_isShift : MethodName := ⟨RX9, "isShift", "(I)Z"⟩
abbrev cX9_at : ByteArray := prog_11_method_8_code
def yX9_at : MethodName := ⟨RX9, "at", "(II)I"⟩
abbrev cX9_isNightShift : ByteArray := prog_11_method_9_code
def yX9_isNightShift : MethodName := ⟨RX9, "isNightShift", "(I)Z"⟩
abbrev cX9_lastBefore : ByteArray := prog_11_method_10_code
def yX9_lastBefore : MethodName := ⟨RX9, "lastBefore", "(II)I"⟩
abbrev cX9_minutesBefore : ByteArray := prog_11_method_11_code
def yX9_minutesBefore : MethodName := ⟨RX9, "minutesBefore", "(II)I"⟩
abbrev cX9_isRestShort : ByteArray := prog_11_method_12_code
def yX9_isRestShort : MethodName := ⟨RX9, "isRestShort", "(II)Z"⟩
abbrev cX9_isRow : ByteArray := prog_11_method_13_code
def yX9_isRow : MethodName := ⟨RX9, "isRow", "(IIIZ)Z"⟩
abbrev cX9_sumFrom : ByteArray := prog_11_method_14_code
def yX9_sumFrom : MethodName := ⟨RX9, "sumFrom", "(III)I"⟩
abbrev cX9_onShift : ByteArray := prog_11_method_15_code
def yX9_onShift : MethodName := ⟨RX9, "onShift", "(II)I"⟩
abbrev cX9_isBreach : ByteArray := prog_11_method_16_code
def yX9_isBreach : MethodName := ⟨RX9, "isBreach", "(III)Z"⟩
abbrev cX9_letter : ByteArray := prog_11_method_17_code
def yX9_letter : MethodName := ⟨RX9, "letter", "(I)C"⟩
abbrev cX9_tells : ByteArray := prog_11_method_18_code
def yX9_tells : MethodName := ⟨RX9, "tells", "(CIII)V"⟩
abbrev cX9_tellsAll : ByteArray := prog_11_method_19_code
def yX9_tellsAll : MethodName := ⟨RX9, "tellsAll", "()V"⟩
abbrev cX9_isLawful : ByteArray := prog_11_method_20_code
def yX9_isLawful : MethodName := ⟨RX9, "isLawful", "()Z"⟩
abbrev cX9_placeOf : ByteArray := prog_11_method_21_code
def yX9_placeOf : MethodName := ⟨RX9, "placeOf", "(I)I"⟩
abbrev cX9_addPerson : ByteArray := prog_11_method_22_code
def yX9_addPerson : MethodName := ⟨RX9, "addPerson", "()I"⟩
abbrev cX9_addShift : ByteArray := prog_11_method_23_code
def yX9_addShift : MethodName := ⟨RX9, "addShift", "(II)I"⟩
abbrev cX9_isNight : ByteArray := prog_11_method_24_code
def yX9_isNight : MethodName := ⟨RX9, "isNight", "(I)Z"⟩
abbrev cX9_teach : ByteArray := prog_11_method_25_code
def yX9_teach : MethodName := ⟨RX9, "teach", "(II)Z"⟩
abbrev cX9_setRest : ByteArray := prog_11_method_26_code
def yX9_setRest : MethodName := ⟨RX9, "setRest", "(I)I"⟩
abbrev cX9_setNights : ByteArray := prog_11_method_27_code
def yX9_setNights : MethodName := ⟨RX9, "setNights", "(I)I"⟩
abbrev cX9_setRun : ByteArray := prog_11_method_28_code
def yX9_setRun : MethodName := ⟨RX9, "setRun", "(I)I"⟩
abbrev cX9_setHours : ByteArray := prog_11_method_29_code
def yX9_setHours : MethodName := ⟨RX9, "setHours", "(II)I"⟩
abbrev cX9_setDemand : ByteArray := prog_11_method_30_code
def yX9_setDemand : MethodName := ⟨RX9, "setDemand", "(III)I"⟩
abbrev cX9_assign : ByteArray := prog_11_method_31_code
def yX9_assign : MethodName := ⟨RX9, "assign", "(III)I"⟩
abbrev cX9_free : ByteArray := prog_11_method_32_code
def yX9_free : MethodName := ⟨RX9, "free", "(II)I"⟩
abbrev cX9_setAbsent : ByteArray := prog_11_method_33_code
def yX9_setAbsent : MethodName := ⟨RX9, "setAbsent", "(IIZ)Z"⟩
abbrev cX9_shiftOf : ByteArray := prog_11_method_34_code
def yX9_shiftOf : MethodName := ⟨RX9, "shiftOf", "(II)I"⟩
abbrev cX9_restBefore : ByteArray := prog_11_method_35_code
def yX9_restBefore : MethodName := ⟨RX9, "restBefore", "(II)I"⟩
abbrev cX9_rowOf : ByteArray := prog_11_method_36_code
def yX9_rowOf : MethodName := ⟨RX9, "rowOf", "(I)I"⟩
abbrev cX9_longestNights : ByteArray := prog_11_method_37_code
def yX9_longestNights : MethodName := ⟨RX9, "longestNights", "(I)I"⟩
abbrev cX9_longestByRows : ByteArray := prog_11_method_38_code
def yX9_longestByRows : MethodName := ⟨RX9, "longestByRows", "(I)I"⟩
abbrev cX9_peak : ByteArray := prog_11_method_39_code
def yX9_peak : MethodName := ⟨RX9, "peak", "(I)I"⟩
abbrev cX9_peakByAdding : ByteArray := prog_11_method_40_code
def yX9_peakByAdding : MethodName := ⟨RX9, "peakByAdding", "(I)I"⟩
abbrev cX9_breaches : ByteArray := prog_11_method_41_code
def yX9_breaches : MethodName := ⟨RX9, "breaches", "()I"⟩
abbrev cX9_tells_ : ByteArray := prog_11_method_42_code
def yX9_tells_ : MethodName := ⟨RX9, "tells", "(I)Z"⟩
abbrev cX9_breachKind : ByteArray := prog_11_method_43_code
def yX9_breachKind : MethodName := ⟨RX9, "breachKind", "(I)C"⟩
abbrev cX9_breachPerson : ByteArray := prog_11_method_44_code
def yX9_breachPerson : MethodName := ⟨RX9, "breachPerson", "(I)I"⟩
abbrev cX9_breachDay : ByteArray := prog_11_method_45_code
def yX9_breachDay : MethodName := ⟨RX9, "breachDay", "(I)I"⟩
abbrev cX9_breachShift : ByteArray := prog_11_method_46_code
def yX9_breachShift : MethodName := ⟨RX9, "breachShift", "(I)I"⟩
abbrev cX9_breachesOf : ByteArray := prog_11_method_47_code
def yX9_breachesOf : MethodName := ⟨RX9, "breachesOf", "(I)I"⟩
abbrev cX9_mostBreaches : ByteArray := prog_11_method_48_code
def yX9_mostBreaches : MethodName := ⟨RX9, "mostBreaches", "()I"⟩
abbrev cX9_exchanges : ByteArray := prog_11_method_49_code
def yX9_exchanges : MethodName := ⟨RX9, "exchanges", "(III)V"⟩
abbrev cX9_isFair : ByteArray := prog_11_method_50_code
def yX9_isFair : MethodName := ⟨RX9, "isFair", "(III)Z"⟩
abbrev cX9_swap : ByteArray := prog_11_method_51_code
def yX9_swap : MethodName := ⟨RX9, "swap", "(III)I"⟩
abbrev cX9_partnerOf : ByteArray := prog_11_method_52_code
def yX9_partnerOf : MethodName := ⟨RX9, "partnerOf", "(II)I"⟩
abbrev cX9_partner : ByteArray := prog_11_method_53_code
def yX9_partner : MethodName := ⟨RX9, "partner", "(II)I"⟩
abbrev cX9_mends : ByteArray := prog_11_method_54_code
def yX9_mends : MethodName := ⟨RX9, "mends", "(III)Z"⟩
abbrev cX9_leastSize : ByteArray := prog_11_method_55_code
def yX9_leastSize : MethodName := ⟨RX9, "leastSize", "()I"⟩
abbrev cX9_leastChanges : ByteArray := prog_11_method_56_code
def yX9_leastChanges : MethodName := ⟨RX9, "leastChanges", "()I"⟩
abbrev cX9_leastByTrial : ByteArray := prog_11_method_57_code
def yX9_leastByTrial : MethodName := ⟨RX9, "leastByTrial", "()I"⟩
abbrev cX9_mend : ByteArray := prog_11_method_58_code
def yX9_mend : MethodName := ⟨RX9, "mend", "()I"⟩
abbrev cX9_changedCell : ByteArray := prog_11_method_59_code
def yX9_changedCell : MethodName := ⟨RX9, "changedCell", "(I)I"⟩
abbrev cX9_changedValue : ByteArray := prog_11_method_60_code
def yX9_changedValue : MethodName := ⟨RX9, "changedValue", "(I)I"⟩
abbrev cX9_minutes : ByteArray := prog_11_method_61_code
def yX9_minutes : MethodName := ⟨RX9, "minutes", "()J"⟩
abbrev cX9_workShare : ByteArray := prog_11_method_62_code
def yX9_workShare : MethodName := ⟨RX9, "workShare", "(I)F"⟩
abbrev cX9_meanRest : ByteArray := prog_11_method_63_code
def yX9_meanRest : MethodName := ⟨RX9, "meanRest", "(I)D"⟩
abbrev cX9_isSound : ByteArray := prog_11_method_64_code
def yX9_isSound : MethodName := ⟨RX9, "isSound", "()Z"⟩
def RJx145de : String := "java/io/Serializable"
def TJx145de : u_T := fun k => match k with
  | _ => ("", "", "", false)
def tyJx145de : Nat → FieldType := fun k => match k with
  | _ => .int
abbrev wsJx145de0 : List Cond := u_ws RJx145de TJx145de 0
theorem nmJx145de : ∀ a, a < 0 → ∀ b, b < 0 → a ≠ b → (TJx145de a).2.1 ≠ (TJx145de b).2.1 := by decide +kernel
theorem tyJx145de_ok : ∀ k, k < 0 → parseFieldDescriptor (TJx145de k).2.2.1 = some (tyJx145de k) := by decide +kernel
def RJx00060 : String := "java/lang/ArrayIndexOutOfBoundsException"
def TJx00060 : u_T := fun k => match k with
  | 0 => ("java/lang/Throwable", "backtrace", "Ljava/lang/Object;", false)
  | 1 => ("java/lang/Throwable", "detailMessage", "Ljava/lang/String;", false)
  | 2 => ("java/lang/Throwable", "cause", "Ljava/lang/Throwable;", false)
  | 3 => ("java/lang/Throwable", "stackTrace", "[Ljava/lang/StackTraceElement;", false)
  | 4 => ("java/lang/Throwable", "depth", "I", false)
  | _ => ("java/lang/Throwable", "suppressedExceptions", "Ljava/util/List;", false)
def tyJx00060 : Nat → FieldType := fun k => match k with
  | 0 => .object "java/lang/Object"
  | 1 => .object "java/lang/String"
  | 2 => .object "java/lang/Throwable"
  | 3 => .array (.object "java/lang/StackTraceElement")
  | 4 => .int
  | _ => .object "java/util/List"
abbrev wsJx000600 : List Cond := u_ws RJx00060 TJx00060 6
theorem nmJx00060 : ∀ a, a < 6 → ∀ b, b < 6 → a ≠ b → (TJx00060 a).2.1 ≠ (TJx00060 b).2.1 := by decide +kernel
theorem tyJx00060_ok : ∀ k, k < 6 → parseFieldDescriptor (TJx00060 k).2.2.1 = some (tyJx00060 k) := by decide +kernel
abbrev cJx00060_init_a7421 : ByteArray := prog_14_method_2_code
def yJx00060_init_a7421 : MethodName := ⟨RJx00060, "<init>", "(Ljava/lang/String;)V"⟩
def RJx9f9b0 : String := "java/lang/CharSequence"
def TJx9f9b0 : u_T := fun k => match k with
  | _ => ("", "", "", false)
def tyJx9f9b0 : Nat → FieldType := fun k => match k with
  | _ => .int
abbrev wsJx9f9b00 : List Cond := u_ws RJx9f9b0 TJx9f9b0 0
theorem nmJx9f9b0 : ∀ a, a < 0 → ∀ b, b < 0 → a ≠ b → (TJx9f9b0 a).2.1 ≠ (TJx9f9b0 b).2.1 := by decide +kernel
theorem tyJx9f9b0_ok : ∀ k, k < 0 → parseFieldDescriptor (TJx9f9b0 k).2.2.1 = some (tyJx9f9b0 k) := by decide +kernel
def RJxb160c : String := "java/lang/Comparable"
def TJxb160c : u_T := fun k => match k with
  | _ => ("", "", "", false)
def tyJxb160c : Nat → FieldType := fun k => match k with
  | _ => .int
abbrev wsJxb160c0 : List Cond := u_ws RJxb160c TJxb160c 0
theorem nmJxb160c : ∀ a, a < 0 → ∀ b, b < 0 → a ≠ b → (TJxb160c a).2.1 ≠ (TJxb160c b).2.1 := by decide +kernel
theorem tyJxb160c_ok : ∀ k, k < 0 → parseFieldDescriptor (TJxb160c k).2.2.1 = some (tyJxb160c k) := by decide +kernel
def RJ6 : String := "java/lang/Integer"
def TJ6 : u_T := fun k => match k with
  | _ => ("", "", "", false)
def tyJ6 : Nat → FieldType := fun k => match k with
  | _ => .int
abbrev wsJ60 : List Cond := u_ws RJ6 TJ6 0
theorem nmJ6 : ∀ a, a < 0 → ∀ b, b < 0 → a ≠ b → (TJ6 a).2.1 ≠ (TJ6 b).2.1 := by decide +kernel
theorem tyJ6_ok : ∀ k, k < 0 → parseFieldDescriptor (TJ6 k).2.2.1 = some (tyJ6 k) := by decide +kernel
abbrev cJ6_bitCount_0f7a4 : ByteArray := prog_21_method_49_code
def yJ6_bitCount_0f7a4 : MethodName := ⟨RJ6, "bitCount", "(I)I"⟩
def RJ13 : String := "java/lang/Long"
def TJ13 : u_T := fun k => match k with
  | _ => ("", "", "", false)
def tyJ13 : Nat → FieldType := fun k => match k with
  | _ => .int
abbrev wsJ130 : List Cond := u_ws RJ13 TJ13 0
theorem nmJ13 : ∀ a, a < 0 → ∀ b, b < 0 → a ≠ b → (TJ13 a).2.1 ≠ (TJ13 b).2.1 := by decide +kernel
theorem tyJ13_ok : ∀ k, k < 0 → parseFieldDescriptor (TJ13 k).2.2.1 = some (tyJ13 k) := by decide +kernel
abbrev cJ13_bitCount_95d88 : ByteArray := prog_22_method_50_code
def yJ13_bitCount_95d88 : MethodName := ⟨RJ13, "bitCount", "(J)I"⟩
def RJ9 : String := "java/lang/Math"
def TJ9 : u_T := fun k => match k with
  | _ => ("", "", "", false)
def tyJ9 : Nat → FieldType := fun k => match k with
  | _ => .int
abbrev wsJ90 : List Cond := u_ws RJ9 TJ9 0
theorem nmJ9 : ∀ a, a < 0 → ∀ b, b < 0 → a ≠ b → (TJ9 a).2.1 ≠ (TJ9 b).2.1 := by decide +kernel
theorem tyJ9_ok : ∀ k, k < 0 → parseFieldDescriptor (TJ9 k).2.2.1 = some (tyJ9 k) := by decide +kernel
abbrev cJ9_max_7cf53 : ByteArray := prog_23_method_65_code
def yJ9_max_7cf53 : MethodName := ⟨RJ9, "max", "(II)I"⟩
def RJ0 : String := "java/lang/String"
def TJ0 : u_T := fun k => match k with
  | 0 => ("java/lang/String", "value", "[B", true)
  | _ => ("java/lang/String", "coder", "B", true)
def tyJ0 : Nat → FieldType := fun k => match k with
  | 0 => .array .byte
  | _ => .byte
abbrev wsJ00 : List Cond := u_ws RJ0 TJ0 2
theorem nmJ0 : ∀ a, a < 2 → ∀ b, b < 2 → a ≠ b → (TJ0 a).2.1 ≠ (TJ0 b).2.1 := by decide +kernel
theorem tyJ0_ok : ∀ k, k < 2 → parseFieldDescriptor (TJ0 k).2.2.1 = some (tyJ0 k) := by decide +kernel
abbrev cJ0_length_8abf5 : ByteArray := prog_25_method_54_code
def yJ0_length_8abf5 : MethodName := ⟨RJ0, "length", "()I"⟩
abbrev cJ0_charAt_5068e : ByteArray := prog_25_method_56_code
def yJ0_charAt_5068e : MethodName := ⟨RJ0, "charAt", "(I)C"⟩
abbrev cJ0_coder_7d493 : ByteArray := prog_25_method_152_code
def yJ0_coder_7d493 : MethodName := ⟨RJ0, "coder", "()B"⟩
abbrev cJ0_isLatin1_aae02 : ByteArray := prog_25_method_154_code
def yJ0_isLatin1_aae02 : MethodName := ⟨RJ0, "isLatin1", "()Z"⟩
abbrev cJ0_checkIndex_df160 : ByteArray := prog_25_method_155_code
def yJ0_checkIndex_df160 : MethodName := ⟨RJ0, "checkIndex", "(II)V"⟩
def RJ1 : String := "java/lang/StringLatin1"
def TJ1 : u_T := fun k => match k with
  | _ => ("", "", "", false)
def tyJ1 : Nat → FieldType := fun k => match k with
  | _ => .int
abbrev wsJ10 : List Cond := u_ws RJ1 TJ1 0
theorem nmJ1 : ∀ a, a < 0 → ∀ b, b < 0 → a ≠ b → (TJ1 a).2.1 ≠ (TJ1 b).2.1 := by decide +kernel
theorem tyJ1_ok : ∀ k, k < 0 → parseFieldDescriptor (TJ1 k).2.2.1 = some (tyJ1 k) := by decide +kernel
abbrev cJ1_charAt_3b067 : ByteArray := prog_26_method_2_code
def yJ1_charAt_3b067 : MethodName := ⟨RJ1, "charAt", "([BI)C"⟩
def RJ2 : String := "java/lang/StringUTF16"
def TJ2 : u_T := fun k => match k with
  | _ => ("", "", "", false)
def tyJ2 : Nat → FieldType := fun k => match k with
  | _ => .int
abbrev wsJ20 : List Cond := u_ws RJ2 TJ2 0
theorem nmJ2 : ∀ a, a < 0 → ∀ b, b < 0 → a ≠ b → (TJ2 a).2.1 ≠ (TJ2 b).2.1 := by decide +kernel
theorem tyJ2_ok : ∀ k, k < 0 → parseFieldDescriptor (TJ2 k).2.2.1 = some (tyJ2 k) := by decide +kernel
abbrev cJ2_getChar_3b067 : ByteArray := prog_27_method_5_code
def yJ2_getChar_3b067 : MethodName := ⟨RJ2, "getChar", "([BI)C"⟩
abbrev cJ2_length_9d52b : ByteArray := prog_27_method_6_code
def yJ2_length_9d52b : MethodName := ⟨RJ2, "length", "([B)I"⟩
abbrev cJ2_charAt_3b067 : ByteArray := prog_27_method_83_code
def yJ2_charAt_3b067 : MethodName := ⟨RJ2, "charAt", "([BI)C"⟩
abbrev cJ2_checkIndex_2214a : ByteArray := prog_27_method_91_code
def yJ2_checkIndex_2214a : MethodName := ⟨RJ2, "checkIndex", "(I[B)V"⟩
def RJxfd54e : String := "java/lang/constant/Constable"
def TJxfd54e : u_T := fun k => match k with
  | _ => ("", "", "", false)
def tyJxfd54e : Nat → FieldType := fun k => match k with
  | _ => .int
abbrev wsJxfd54e0 : List Cond := u_ws RJxfd54e TJxfd54e 0
theorem nmJxfd54e : ∀ a, a < 0 → ∀ b, b < 0 → a ≠ b → (TJxfd54e a).2.1 ≠ (TJxfd54e b).2.1 := by decide +kernel
theorem tyJxfd54e_ok : ∀ k, k < 0 → parseFieldDescriptor (TJxfd54e k).2.2.1 = some (tyJxfd54e k) := by decide +kernel
def RJx3cf43 : String := "java/lang/constant/ConstantDesc"
def TJx3cf43 : u_T := fun k => match k with
  | _ => ("", "", "", false)
def tyJx3cf43 : Nat → FieldType := fun k => match k with
  | _ => .int
abbrev wsJx3cf430 : List Cond := u_ws RJx3cf43 TJx3cf43 0
theorem nmJx3cf43 : ∀ a, a < 0 → ∀ b, b < 0 → a ≠ b → (TJx3cf43 a).2.1 ≠ (TJx3cf43 b).2.1 := by decide +kernel
theorem tyJx3cf43_ok : ∀ k, k < 0 → parseFieldDescriptor (TJx3cf43 k).2.2.1 = some (tyJx3cf43 k) := by decide +kernel
def RJ3 : String := "jdk/internal/util/Preconditions"
def TJ3 : u_T := fun k => match k with
  | _ => ("", "", "", false)
def tyJ3 : Nat → FieldType := fun k => match k with
  | _ => .int
abbrev wsJ30 : List Cond := u_ws RJ3 TJ3 0
theorem nmJ3 : ∀ a, a < 0 → ∀ b, b < 0 → a ≠ b → (TJ3 a).2.1 ≠ (TJ3 b).2.1 := by decide +kernel
theorem tyJ3_ok : ∀ k, k < 0 → parseFieldDescriptor (TJ3 k).2.2.1 = some (tyJ3 k) := by decide +kernel
abbrev cJ3_checkIndex_8e157 : ByteArray := prog_33_method_11_code
def yJ3_checkIndex_8e157 : MethodName := ⟨RJ3, "checkIndex", "(IILjava/util/function/BiFunction;)I"⟩
def RL : String := "RosterproofLaw"
abbrev cL_addPerson : ByteArray := method_3_code
def yL_addPerson : MethodName := ⟨RL, "addPerson", "(LRosterproof;[J)I"⟩
abbrev cL_addShift : ByteArray := method_4_code
def yL_addShift : MethodName := ⟨RL, "addShift", "(LRosterproof;II[J)I"⟩
abbrev cL_isNight : ByteArray := method_5_code
def yL_isNight : MethodName := ⟨RL, "isNight", "(LRosterproof;I[J)I"⟩
abbrev cL_teach : ByteArray := method_6_code
def yL_teach : MethodName := ⟨RL, "teach", "(LRosterproof;II[J)I"⟩
abbrev cL_setRest : ByteArray := method_7_code
def yL_setRest : MethodName := ⟨RL, "setRest", "(LRosterproof;I[J)I"⟩
abbrev cL_setNights : ByteArray := method_8_code
def yL_setNights : MethodName := ⟨RL, "setNights", "(LRosterproof;I[J)I"⟩
abbrev cL_setRun : ByteArray := method_9_code
def yL_setRun : MethodName := ⟨RL, "setRun", "(LRosterproof;I[J)I"⟩
abbrev cL_setHours : ByteArray := method_10_code
def yL_setHours : MethodName := ⟨RL, "setHours", "(LRosterproof;II[J)I"⟩
abbrev cL_setDemand : ByteArray := method_11_code
def yL_setDemand : MethodName := ⟨RL, "setDemand", "(LRosterproof;III[J)I"⟩
abbrev cL_assign : ByteArray := method_12_code
def yL_assign : MethodName := ⟨RL, "assign", "(LRosterproof;III[J)I"⟩
abbrev cL_free : ByteArray := method_13_code
def yL_free : MethodName := ⟨RL, "free", "(LRosterproof;II[J)I"⟩
abbrev cL_setAbsent : ByteArray := method_14_code
def yL_setAbsent : MethodName := ⟨RL, "setAbsent", "(LRosterproof;IIZ[J)I"⟩
abbrev cL_shiftOf : ByteArray := method_15_code
def yL_shiftOf : MethodName := ⟨RL, "shiftOf", "(LRosterproof;II[J)I"⟩
abbrev cL_restBefore : ByteArray := method_16_code
def yL_restBefore : MethodName := ⟨RL, "restBefore", "(LRosterproof;II[J)I"⟩
abbrev cL_longestNights : ByteArray := method_17_code
def yL_longestNights : MethodName := ⟨RL, "longestNights", "(LRosterproof;I[J)I"⟩
abbrev cL_longestByRows : ByteArray := method_18_code
def yL_longestByRows : MethodName := ⟨RL, "longestByRows", "(LRosterproof;I[J)I"⟩
abbrev cL_peak : ByteArray := method_19_code
def yL_peak : MethodName := ⟨RL, "peak", "(LRosterproof;I[J)I"⟩
abbrev cL_peakByAdding : ByteArray := method_20_code
def yL_peakByAdding : MethodName := ⟨RL, "peakByAdding", "(LRosterproof;I[J)I"⟩
abbrev cL_breachKind : ByteArray := method_21_code
def yL_breachKind : MethodName := ⟨RL, "breachKind", "(LRosterproof;I[J)I"⟩
abbrev cL_breachPerson : ByteArray := method_22_code
def yL_breachPerson : MethodName := ⟨RL, "breachPerson", "(LRosterproof;I[J)I"⟩
abbrev cL_breachDay : ByteArray := method_23_code
def yL_breachDay : MethodName := ⟨RL, "breachDay", "(LRosterproof;I[J)I"⟩
abbrev cL_breachShift : ByteArray := method_24_code
def yL_breachShift : MethodName := ⟨RL, "breachShift", "(LRosterproof;I[J)I"⟩
abbrev cL_mostBreaches : ByteArray := method_25_code
def yL_mostBreaches : MethodName := ⟨RL, "mostBreaches", "(LRosterproof;[J)I"⟩
abbrev cL_swap : ByteArray := method_26_code
def yL_swap : MethodName := ⟨RL, "swap", "(LRosterproof;III[J)I"⟩
abbrev cL_partner : ByteArray := method_27_code
def yL_partner : MethodName := ⟨RL, "partner", "(LRosterproof;II[J)I"⟩
abbrev cL_leastChanges : ByteArray := method_28_code
def yL_leastChanges : MethodName := ⟨RL, "leastChanges", "(LRosterproof;[J)I"⟩
abbrev cL_leastByTrial : ByteArray := method_29_code
def yL_leastByTrial : MethodName := ⟨RL, "leastByTrial", "(LRosterproof;[J)I"⟩
abbrev cL_mend : ByteArray := method_30_code
def yL_mend : MethodName := ⟨RL, "mend", "(LRosterproof;[J)I"⟩
abbrev cL_changedCell : ByteArray := method_31_code
def yL_changedCell : MethodName := ⟨RL, "changedCell", "(LRosterproof;I[J)I"⟩
abbrev cL_changedValue : ByteArray := method_32_code
def yL_changedValue : MethodName := ⟨RL, "changedValue", "(LRosterproof;I[J)I"⟩
abbrev cL_workShare : ByteArray := method_33_code
def yL_workShare : MethodName := ⟨RL, "workShare", "(LRosterproof;I[D)I"⟩
abbrev cL_meanRest : ByteArray := method_34_code
def yL_meanRest : MethodName := ⟨RL, "meanRest", "(LRosterproof;I[D)I"⟩
abbrev cL_law : ByteArray := code
def yL_law : MethodName := ⟨RL, "law", "([I)Z"⟩
abbrev vwCl : List vw_C := [(RJ0, TJ0, 2), (RJx00060, TJx00060, 6), (RX0, TX0, 3), (RX1, TX1, 3), (RX2, TX2, 2), (RX3, TX3, 3), (RX4, TX4, 7), (RX5, TX5, 5), (RX6, TX6, 6), (RX7, TX7, 3), (RX8, TX8, 9), (RX9, TX9, 25)]
end
section
theorem dX0_init_0 : decode cX0_init 0 = .ok (.aload_n 0, 1) := by decide +kernel
theorem dX0_init_1 : decode cX0_init 1 = .ok (.invokespecial 3, 3) := by decide +kernel
theorem dX0_init_4 : decode cX0_init 4 = .ok (.aload_n 0, 1) := by decide +kernel
theorem dX0_init_5 : decode cX0_init 5 = .ok (.iconst 2, 1) := by decide +kernel
theorem dX0_init_6 : decode cX0_init 6 = .ok (.newarray .int, 2) := by decide +kernel
theorem dX0_init_8 : decode cX0_init 8 = .ok (.putfield 9, 3) := by decide +kernel
theorem dX0_init_11 : decode cX0_init 11 = .ok (.aload_n 0, 1) := by decide +kernel
theorem dX0_init_12 : decode cX0_init 12 = .ok (.iconst 2, 1) := by decide +kernel
theorem dX0_init_13 : decode cX0_init 13 = .ok (.newarray .int, 2) := by decide +kernel
theorem dX0_init_15 : decode cX0_init 15 = .ok (.putfield 15, 3) := by decide +kernel
theorem dX0_init_18 : decode cX0_init 18 = .ok (.aload_n 0, 1) := by decide +kernel
theorem dX0_init_19 : decode cX0_init 19 = .ok (.iconst 0, 1) := by decide +kernel
theorem dX0_init_20 : decode cX0_init 20 = .ok (.putfield 18, 3) := by decide +kernel
theorem dX0_init_23 : decode cX0_init 23 = .ok (.return_, 1) := by decide +kernel
theorem dX0_put_0 : decode cX0_put 0 = .ok (.iload_n 1, 1) := by decide +kernel
theorem dX0_put_1 : decode cX0_put 1 = .ok (.ifCond .lt 22, 3) := by decide +kernel
theorem dX0_put_4 : decode cX0_put 4 = .ok (.iload_n 1, 1) := by decide +kernel
theorem dX0_put_5 : decode cX0_put 5 = .ok (.iconst 2, 1) := by decide +kernel
theorem dX0_put_6 : decode cX0_put 6 = .ok (.if_icmp .ge 17, 3) := by decide +kernel
theorem dX0_put_9 : decode cX0_put 9 = .ok (.aload_n 0, 1) := by decide +kernel
theorem dX0_put_10 : decode cX0_put 10 = .ok (.getfield 9, 3) := by decide +kernel
theorem dX0_put_13 : decode cX0_put 13 = .ok (.iload_n 1, 1) := by decide +kernel
theorem dX0_put_14 : decode cX0_put 14 = .ok (.iload_n 2, 1) := by decide +kernel
theorem dX0_put_15 : decode cX0_put 15 = .ok (.iastore, 1) := by decide +kernel
theorem dX0_put_16 : decode cX0_put 16 = .ok (.aload_n 0, 1) := by decide +kernel
theorem dX0_put_17 : decode cX0_put 17 = .ok (.getfield 15, 3) := by decide +kernel
theorem dX0_put_20 : decode cX0_put 20 = .ok (.iload_n 1, 1) := by decide +kernel
theorem dX0_put_21 : decode cX0_put 21 = .ok (.iload_n 3, 1) := by decide +kernel
theorem dX0_put_22 : decode cX0_put 22 = .ok (.iastore, 1) := by decide +kernel
theorem dX0_put_23 : decode cX0_put 23 = .ok (.return_, 1) := by decide +kernel
theorem dX0_cellAt_0 : decode cX0_cellAt 0 = .ok (.iload_n 1, 1) := by decide +kernel
theorem dX0_cellAt_1 : decode cX0_cellAt 1 = .ok (.ifCond .lt 17, 3) := by decide +kernel
theorem dX0_cellAt_4 : decode cX0_cellAt 4 = .ok (.iload_n 1, 1) := by decide +kernel
theorem dX0_cellAt_5 : decode cX0_cellAt 5 = .ok (.iconst 2, 1) := by decide +kernel
theorem dX0_cellAt_6 : decode cX0_cellAt 6 = .ok (.if_icmp .ge 12, 3) := by decide +kernel
theorem dX0_cellAt_9 : decode cX0_cellAt 9 = .ok (.aload_n 0, 1) := by decide +kernel
theorem dX0_cellAt_10 : decode cX0_cellAt 10 = .ok (.getfield 9, 3) := by decide +kernel
theorem dX0_cellAt_13 : decode cX0_cellAt 13 = .ok (.iload_n 1, 1) := by decide +kernel
theorem dX0_cellAt_14 : decode cX0_cellAt 14 = .ok (.iaload, 1) := by decide +kernel
theorem dX0_cellAt_15 : decode cX0_cellAt 15 = .ok (.goto 4, 3) := by decide +kernel
theorem dX0_cellAt_18 : decode cX0_cellAt 18 = .ok (.iconst (-1), 1) := by decide +kernel
theorem dX0_cellAt_19 : decode cX0_cellAt 19 = .ok (.ireturn, 1) := by decide +kernel
theorem dX0_valueAt_0 : decode cX0_valueAt 0 = .ok (.iload_n 1, 1) := by decide +kernel
theorem dX0_valueAt_1 : decode cX0_valueAt 1 = .ok (.ifCond .lt 17, 3) := by decide +kernel
theorem dX0_valueAt_4 : decode cX0_valueAt 4 = .ok (.iload_n 1, 1) := by decide +kernel
theorem dX0_valueAt_5 : decode cX0_valueAt 5 = .ok (.iconst 2, 1) := by decide +kernel
theorem dX0_valueAt_6 : decode cX0_valueAt 6 = .ok (.if_icmp .ge 12, 3) := by decide +kernel
theorem dX0_valueAt_9 : decode cX0_valueAt 9 = .ok (.aload_n 0, 1) := by decide +kernel
theorem dX0_valueAt_10 : decode cX0_valueAt 10 = .ok (.getfield 15, 3) := by decide +kernel
theorem dX0_valueAt_13 : decode cX0_valueAt 13 = .ok (.iload_n 1, 1) := by decide +kernel
theorem dX0_valueAt_14 : decode cX0_valueAt 14 = .ok (.iaload, 1) := by decide +kernel
theorem dX0_valueAt_15 : decode cX0_valueAt 15 = .ok (.goto 4, 3) := by decide +kernel
theorem dX0_valueAt_18 : decode cX0_valueAt 18 = .ok (.iconst 0, 1) := by decide +kernel
theorem dX0_valueAt_19 : decode cX0_valueAt 19 = .ok (.ireturn, 1) := by decide +kernel
theorem dX1_init_0 : decode cX1_init 0 = .ok (.aload_n 0, 1) := by decide +kernel
theorem dX1_init_1 : decode cX1_init 1 = .ok (.invokespecial 3, 3) := by decide +kernel
theorem dX1_init_4 : decode cX1_init 4 = .ok (.aload_n 0, 1) := by decide +kernel
theorem dX1_init_5 : decode cX1_init 5 = .ok (.aload_n 1, 1) := by decide +kernel
theorem dX1_init_6 : decode cX1_init 6 = .ok (.putfield 9, 3) := by decide +kernel
theorem dX1_init_9 : decode cX1_init 9 = .ok (.aload_n 0, 1) := by decide +kernel
theorem dX1_init_10 : decode cX1_init 10 = .ok (.aload_n 2, 1) := by decide +kernel
theorem dX1_init_11 : decode cX1_init 11 = .ok (.putfield 15, 3) := by decide +kernel
theorem dX1_init_14 : decode cX1_init 14 = .ok (.aload_n 0, 1) := by decide +kernel
theorem dX1_init_15 : decode cX1_init 15 = .ok (.aload_n 3, 1) := by decide +kernel
theorem dX1_init_16 : decode cX1_init 16 = .ok (.putfield 19, 3) := by decide +kernel
theorem dX1_init_19 : decode cX1_init 19 = .ok (.return_, 1) := by decide +kernel
theorem dX1_look_0 : decode cX1_look 0 = .ok (.iconst 0, 1) := by decide +kernel
theorem dX1_look_1 : decode cX1_look 1 = .ok (.istore_n 2, 1) := by decide +kernel
theorem dX1_look_2 : decode cX1_look 2 = .ok (.iload_n 2, 1) := by decide +kernel
theorem dX1_look_3 : decode cX1_look 3 = .ok (.iconst 4, 1) := by decide +kernel
theorem dX1_look_4 : decode cX1_look 4 = .ok (.if_icmp .ge 19, 3) := by decide +kernel
theorem dX1_look_7 : decode cX1_look 7 = .ok (.aload_n 1, 1) := by decide +kernel
theorem dX1_look_8 : decode cX1_look 8 = .ok (.iload_n 2, 1) := by decide +kernel
theorem dX1_look_9 : decode cX1_look 9 = .ok (.aload_n 0, 1) := by decide +kernel
theorem dX1_look_10 : decode cX1_look 10 = .ok (.iload_n 2, 1) := by decide +kernel
theorem dX1_look_11 : decode cX1_look 11 = .ok (.invokevirtual 23, 3) := by decide +kernel
theorem dX1_look_14 : decode cX1_look 14 = .ok (.invokevirtual 27, 3) := by decide +kernel
theorem dX1_look_17 : decode cX1_look 17 = .ok (.iinc 2 1, 3) := by decide +kernel
theorem dX1_look_20 : decode cX1_look 20 = .ok (.goto (-18), 3) := by decide +kernel
theorem dX1_look_23 : decode cX1_look 23 = .ok (.iconst 0, 1) := by decide +kernel
theorem dX1_look_24 : decode cX1_look 24 = .ok (.istore_n 2, 1) := by decide +kernel
theorem dX1_look_25 : decode cX1_look 25 = .ok (.iload_n 2, 1) := by decide +kernel
theorem dX1_look_26 : decode cX1_look 26 = .ok (.bipush 8, 2) := by decide +kernel
theorem dX1_look_28 : decode cX1_look 28 = .ok (.if_icmp .ge 19, 3) := by decide +kernel
theorem dX1_look_31 : decode cX1_look 31 = .ok (.aload_n 1, 1) := by decide +kernel
theorem dX1_look_32 : decode cX1_look 32 = .ok (.iload_n 2, 1) := by decide +kernel
theorem dX1_look_33 : decode cX1_look 33 = .ok (.aload_n 0, 1) := by decide +kernel
theorem dX1_look_34 : decode cX1_look 34 = .ok (.iload_n 2, 1) := by decide +kernel
theorem dX1_look_35 : decode cX1_look 35 = .ok (.invokevirtual 33, 3) := by decide +kernel
theorem dX1_look_38 : decode cX1_look 38 = .ok (.invokevirtual 37, 3) := by decide +kernel
theorem dX1_look_41 : decode cX1_look 41 = .ok (.iinc 2 1, 3) := by decide +kernel
theorem dX1_look_44 : decode cX1_look 44 = .ok (.goto (-19), 3) := by decide +kernel
theorem dX1_look_47 : decode cX1_look 47 = .ok (.return_, 1) := by decide +kernel
theorem dX1_breachesOf_0 : decode cX1_breachesOf 0 = .ok (.lconst 0, 1) := by decide +kernel
theorem dX1_breachesOf_1 : decode cX1_breachesOf 1 = .ok (.lstore_n 2, 1) := by decide +kernel
theorem dX1_breachesOf_2 : decode cX1_breachesOf 2 = .ok (.iconst 0, 1) := by decide +kernel
theorem dX1_breachesOf_3 : decode cX1_breachesOf 3 = .ok (.istore 4, 2) := by decide +kernel
theorem dX1_breachesOf_5 : decode cX1_breachesOf 5 = .ok (.iconst 0, 1) := by decide +kernel
theorem dX1_breachesOf_6 : decode cX1_breachesOf 6 = .ok (.istore 5, 2) := by decide +kernel
theorem dX1_breachesOf_8 : decode cX1_breachesOf 8 = .ok (.iconst 0, 1) := by decide +kernel
theorem dX1_breachesOf_9 : decode cX1_breachesOf 9 = .ok (.istore 6, 2) := by decide +kernel
theorem dX1_breachesOf_11 : decode cX1_breachesOf 11 = .ok (.sipush (-2000), 3) := by decide +kernel
theorem dX1_breachesOf_14 : decode cX1_breachesOf 14 = .ok (.istore 7, 2) := by decide +kernel
theorem dX1_breachesOf_16 : decode cX1_breachesOf 16 = .ok (.iconst 0, 1) := by decide +kernel
theorem dX1_breachesOf_17 : decode cX1_breachesOf 17 = .ok (.istore 8, 2) := by decide +kernel
theorem dX1_breachesOf_19 : decode cX1_breachesOf 19 = .ok (.iload 8, 2) := by decide +kernel
theorem dX1_breachesOf_21 : decode cX1_breachesOf 21 = .ok (.bipush 8, 2) := by decide +kernel
theorem dX1_breachesOf_23 : decode cX1_breachesOf 23 = .ok (.if_icmp .ge 295, 3) := by decide +kernel
theorem dX1_breachesOf_26 : decode cX1_breachesOf 26 = .ok (.aload_n 0, 1) := by decide +kernel
theorem dX1_breachesOf_27 : decode cX1_breachesOf 27 = .ok (.getfield 19, 3) := by decide +kernel
theorem dX1_breachesOf_30 : decode cX1_breachesOf 30 = .ok (.iload_n 1, 1) := by decide +kernel
theorem dX1_breachesOf_31 : decode cX1_breachesOf 31 = .ok (.iload 8, 2) := by decide +kernel
theorem dX1_breachesOf_33 : decode cX1_breachesOf 33 = .ok (.invokevirtual 41, 3) := by decide +kernel
theorem dX1_breachesOf_36 : decode cX1_breachesOf 36 = .ok (.istore 9, 2) := by decide +kernel
theorem dX1_breachesOf_38 : decode cX1_breachesOf 38 = .ok (.iload 8, 2) := by decide +kernel
theorem dX1_breachesOf_40 : decode cX1_breachesOf 40 = .ok (.aload_n 0, 1) := by decide +kernel
theorem dX1_breachesOf_41 : decode cX1_breachesOf 41 = .ok (.getfield 15, 3) := by decide +kernel
theorem dX1_breachesOf_44 : decode cX1_breachesOf 44 = .ok (.getfield 47, 3) := by decide +kernel
theorem dX1_breachesOf_47 : decode cX1_breachesOf 47 = .ok (.isub, 1) := by decide +kernel
theorem dX1_breachesOf_48 : decode cX1_breachesOf 48 = .ok (.iconst 1, 1) := by decide +kernel
theorem dX1_breachesOf_49 : decode cX1_breachesOf 49 = .ok (.iadd, 1) := by decide +kernel
theorem dX1_breachesOf_50 : decode cX1_breachesOf 50 = .ok (.istore 10, 2) := by decide +kernel
theorem dX1_breachesOf_52 : decode cX1_breachesOf 52 = .ok (.iload 9, 2) := by decide +kernel
theorem dX1_breachesOf_54 : decode cX1_breachesOf 54 = .ok (.iconst (-1), 1) := by decide +kernel
theorem dX1_breachesOf_55 : decode cX1_breachesOf 55 = .ok (.if_icmp .ne 7, 3) := by decide +kernel
theorem dX1_breachesOf_58 : decode cX1_breachesOf 58 = .ok (.iconst 0, 1) := by decide +kernel
theorem dX1_breachesOf_59 : decode cX1_breachesOf 59 = .ok (.goto 7, 3) := by decide +kernel
theorem dX1_breachesOf_62 : decode cX1_breachesOf 62 = .ok (.iload 4, 2) := by decide +kernel
theorem dX1_breachesOf_64 : decode cX1_breachesOf 64 = .ok (.iconst 1, 1) := by decide +kernel
theorem dX1_breachesOf_65 : decode cX1_breachesOf 65 = .ok (.iadd, 1) := by decide +kernel
theorem dX1_breachesOf_66 : decode cX1_breachesOf 66 = .ok (.istore 4, 2) := by decide +kernel
theorem dX1_breachesOf_68 : decode cX1_breachesOf 68 = .ok (.aload_n 0, 1) := by decide +kernel
theorem dX1_breachesOf_69 : decode cX1_breachesOf 69 = .ok (.getfield 9, 3) := by decide +kernel
theorem dX1_breachesOf_72 : decode cX1_breachesOf 72 = .ok (.iload 9, 2) := by decide +kernel
theorem dX1_breachesOf_74 : decode cX1_breachesOf 74 = .ok (.invokevirtual 53, 3) := by decide +kernel
theorem dX1_breachesOf_77 : decode cX1_breachesOf 77 = .ok (.ifCond .eq 10, 3) := by decide +kernel
theorem dX1_breachesOf_80 : decode cX1_breachesOf 80 = .ok (.iload 5, 2) := by decide +kernel
theorem dX1_breachesOf_82 : decode cX1_breachesOf 82 = .ok (.iconst 1, 1) := by decide +kernel
theorem dX1_breachesOf_83 : decode cX1_breachesOf 83 = .ok (.iadd, 1) := by decide +kernel
theorem dX1_breachesOf_84 : decode cX1_breachesOf 84 = .ok (.goto 4, 3) := by decide +kernel
theorem dX1_breachesOf_87 : decode cX1_breachesOf 87 = .ok (.iconst 0, 1) := by decide +kernel
theorem dX1_breachesOf_88 : decode cX1_breachesOf 88 = .ok (.istore 5, 2) := by decide +kernel
theorem dX1_breachesOf_90 : decode cX1_breachesOf 90 = .ok (.iload 6, 2) := by decide +kernel
theorem dX1_breachesOf_92 : decode cX1_breachesOf 92 = .ok (.aload_n 0, 1) := by decide +kernel
theorem dX1_breachesOf_93 : decode cX1_breachesOf 93 = .ok (.getfield 9, 3) := by decide +kernel
theorem dX1_breachesOf_96 : decode cX1_breachesOf 96 = .ok (.iload 9, 2) := by decide +kernel
theorem dX1_breachesOf_98 : decode cX1_breachesOf 98 = .ok (.invokevirtual 59, 3) := by decide +kernel
theorem dX1_breachesOf_101 : decode cX1_breachesOf 101 = .ok (.aload_n 0, 1) := by decide +kernel
theorem dX1_breachesOf_102 : decode cX1_breachesOf 102 = .ok (.getfield 9, 3) := by decide +kernel
theorem dX1_breachesOf_105 : decode cX1_breachesOf 105 = .ok (.aload_n 0, 1) := by decide +kernel
theorem dX1_breachesOf_106 : decode cX1_breachesOf 106 = .ok (.getfield 19, 3) := by decide +kernel
theorem dX1_breachesOf_109 : decode cX1_breachesOf 109 = .ok (.iload_n 1, 1) := by decide +kernel
theorem dX1_breachesOf_110 : decode cX1_breachesOf 110 = .ok (.iload 10, 2) := by decide +kernel
theorem dX1_breachesOf_112 : decode cX1_breachesOf 112 = .ok (.iconst 1, 1) := by decide +kernel
theorem dX1_breachesOf_113 : decode cX1_breachesOf 113 = .ok (.isub, 1) := by decide +kernel
theorem dX1_breachesOf_114 : decode cX1_breachesOf 114 = .ok (.invokevirtual 41, 3) := by decide +kernel
theorem dX1_breachesOf_117 : decode cX1_breachesOf 117 = .ok (.invokevirtual 59, 3) := by decide +kernel
theorem dX1_breachesOf_120 : decode cX1_breachesOf 120 = .ok (.isub, 1) := by decide +kernel
theorem dX1_breachesOf_121 : decode cX1_breachesOf 121 = .ok (.iadd, 1) := by decide +kernel
theorem dX1_breachesOf_122 : decode cX1_breachesOf 122 = .ok (.istore 6, 2) := by decide +kernel
theorem dX1_breachesOf_124 : decode cX1_breachesOf 124 = .ok (.lload_n 2, 1) := by decide +kernel
theorem dX1_breachesOf_125 : decode cX1_breachesOf 125 = .ok (.iload 5, 2) := by decide +kernel
theorem dX1_breachesOf_127 : decode cX1_breachesOf 127 = .ok (.aload_n 0, 1) := by decide +kernel
theorem dX1_breachesOf_128 : decode cX1_breachesOf 128 = .ok (.getfield 15, 3) := by decide +kernel
theorem dX1_breachesOf_131 : decode cX1_breachesOf 131 = .ok (.getfield 62, 3) := by decide +kernel
theorem dX1_breachesOf_134 : decode cX1_breachesOf 134 = .ok (.if_icmp .le 7, 3) := by decide +kernel
theorem dX1_breachesOf_137 : decode cX1_breachesOf 137 = .ok (.iconst 1, 1) := by decide +kernel
theorem dX1_breachesOf_138 : decode cX1_breachesOf 138 = .ok (.goto 4, 3) := by decide +kernel
theorem dX1_breachesOf_141 : decode cX1_breachesOf 141 = .ok (.iconst 0, 1) := by decide +kernel
theorem dX1_breachesOf_142 : decode cX1_breachesOf 142 = .ok (.iconst 3, 1) := by decide +kernel
theorem dX1_breachesOf_143 : decode cX1_breachesOf 143 = .ok (.iload 8, 2) := by decide +kernel
theorem dX1_breachesOf_145 : decode cX1_breachesOf 145 = .ok (.invokestatic 65, 3) := by decide +kernel
theorem dX1_breachesOf_148 : decode cX1_breachesOf 148 = .ok (.iload 4, 2) := by decide +kernel
theorem dX1_breachesOf_150 : decode cX1_breachesOf 150 = .ok (.aload_n 0, 1) := by decide +kernel
theorem dX1_breachesOf_151 : decode cX1_breachesOf 151 = .ok (.getfield 15, 3) := by decide +kernel
theorem dX1_breachesOf_154 : decode cX1_breachesOf 154 = .ok (.getfield 69, 3) := by decide +kernel
theorem dX1_breachesOf_157 : decode cX1_breachesOf 157 = .ok (.if_icmp .le 7, 3) := by decide +kernel
theorem dX1_breachesOf_160 : decode cX1_breachesOf 160 = .ok (.iconst 1, 1) := by decide +kernel
theorem dX1_breachesOf_161 : decode cX1_breachesOf 161 = .ok (.goto 4, 3) := by decide +kernel
theorem dX1_breachesOf_164 : decode cX1_breachesOf 164 = .ok (.iconst 0, 1) := by decide +kernel
theorem dX1_breachesOf_165 : decode cX1_breachesOf 165 = .ok (.iconst 4, 1) := by decide +kernel
theorem dX1_breachesOf_166 : decode cX1_breachesOf 166 = .ok (.iload 8, 2) := by decide +kernel
theorem dX1_breachesOf_168 : decode cX1_breachesOf 168 = .ok (.invokestatic 65, 3) := by decide +kernel
theorem dX1_breachesOf_171 : decode cX1_breachesOf 171 = .ok (.lor, 1) := by decide +kernel
theorem dX1_breachesOf_172 : decode cX1_breachesOf 172 = .ok (.iload 10, 2) := by decide +kernel
theorem dX1_breachesOf_174 : decode cX1_breachesOf 174 = .ok (.ifCond .lt 19, 3) := by decide +kernel
theorem dX1_breachesOf_177 : decode cX1_breachesOf 177 = .ok (.iload 6, 2) := by decide +kernel
theorem dX1_breachesOf_179 : decode cX1_breachesOf 179 = .ok (.aload_n 0, 1) := by decide +kernel
theorem dX1_breachesOf_180 : decode cX1_breachesOf 180 = .ok (.getfield 15, 3) := by decide +kernel
theorem dX1_breachesOf_183 : decode cX1_breachesOf 183 = .ok (.getfield 72, 3) := by decide +kernel
theorem dX1_breachesOf_186 : decode cX1_breachesOf 186 = .ok (.if_icmp .le 7, 3) := by decide +kernel
theorem dX1_breachesOf_189 : decode cX1_breachesOf 189 = .ok (.iconst 1, 1) := by decide +kernel
theorem dX1_breachesOf_190 : decode cX1_breachesOf 190 = .ok (.goto 4, 3) := by decide +kernel
theorem dX1_breachesOf_193 : decode cX1_breachesOf 193 = .ok (.iconst 0, 1) := by decide +kernel
theorem dX1_breachesOf_194 : decode cX1_breachesOf 194 = .ok (.iconst 5, 1) := by decide +kernel
theorem dX1_breachesOf_195 : decode cX1_breachesOf 195 = .ok (.iload 10, 2) := by decide +kernel
theorem dX1_breachesOf_197 : decode cX1_breachesOf 197 = .ok (.invokestatic 65, 3) := by decide +kernel
theorem dX1_breachesOf_200 : decode cX1_breachesOf 200 = .ok (.lor, 1) := by decide +kernel
theorem dX1_breachesOf_201 : decode cX1_breachesOf 201 = .ok (.lor, 1) := by decide +kernel
theorem dX1_breachesOf_202 : decode cX1_breachesOf 202 = .ok (.lstore_n 2, 1) := by decide +kernel
theorem dX1_breachesOf_203 : decode cX1_breachesOf 203 = .ok (.iload 9, 2) := by decide +kernel
theorem dX1_breachesOf_205 : decode cX1_breachesOf 205 = .ok (.iconst (-1), 1) := by decide +kernel
theorem dX1_breachesOf_206 : decode cX1_breachesOf 206 = .ok (.if_icmp .eq 106, 3) := by decide +kernel
theorem dX1_breachesOf_209 : decode cX1_breachesOf 209 = .ok (.iload 8, 2) := by decide +kernel
theorem dX1_breachesOf_211 : decode cX1_breachesOf 211 = .ok (.sipush 1440, 3) := by decide +kernel
theorem dX1_breachesOf_214 : decode cX1_breachesOf 214 = .ok (.imul, 1) := by decide +kernel
theorem dX1_breachesOf_215 : decode cX1_breachesOf 215 = .ok (.aload_n 0, 1) := by decide +kernel
theorem dX1_breachesOf_216 : decode cX1_breachesOf 216 = .ok (.getfield 9, 3) := by decide +kernel
theorem dX1_breachesOf_219 : decode cX1_breachesOf 219 = .ok (.iload 9, 2) := by decide +kernel
theorem dX1_breachesOf_221 : decode cX1_breachesOf 221 = .ok (.invokevirtual 75, 3) := by decide +kernel
theorem dX1_breachesOf_224 : decode cX1_breachesOf 224 = .ok (.iadd, 1) := by decide +kernel
theorem dX1_breachesOf_225 : decode cX1_breachesOf 225 = .ok (.istore 11, 2) := by decide +kernel
theorem dX1_breachesOf_227 : decode cX1_breachesOf 227 = .ok (.lload_n 2, 1) := by decide +kernel
theorem dX1_breachesOf_228 : decode cX1_breachesOf 228 = .ok (.aload_n 0, 1) := by decide +kernel
theorem dX1_breachesOf_229 : decode cX1_breachesOf 229 = .ok (.getfield 19, 3) := by decide +kernel
theorem dX1_breachesOf_232 : decode cX1_breachesOf 232 = .ok (.iload_n 1, 1) := by decide +kernel
theorem dX1_breachesOf_233 : decode cX1_breachesOf 233 = .ok (.iload 8, 2) := by decide +kernel
theorem dX1_breachesOf_235 : decode cX1_breachesOf 235 = .ok (.invokevirtual 78, 3) := by decide +kernel
theorem dX1_breachesOf_238 : decode cX1_breachesOf 238 = .ok (.iconst 0, 1) := by decide +kernel
theorem dX1_breachesOf_239 : decode cX1_breachesOf 239 = .ok (.iload 8, 2) := by decide +kernel
theorem dX1_breachesOf_241 : decode cX1_breachesOf 241 = .ok (.invokestatic 65, 3) := by decide +kernel
theorem dX1_breachesOf_244 : decode cX1_breachesOf 244 = .ok (.aload_n 0, 1) := by decide +kernel
theorem dX1_breachesOf_245 : decode cX1_breachesOf 245 = .ok (.getfield 19, 3) := by decide +kernel
theorem dX1_breachesOf_248 : decode cX1_breachesOf 248 = .ok (.iload_n 1, 1) := by decide +kernel
theorem dX1_breachesOf_249 : decode cX1_breachesOf 249 = .ok (.iload 9, 2) := by decide +kernel
theorem dX1_breachesOf_251 : decode cX1_breachesOf 251 = .ok (.invokevirtual 82, 3) := by decide +kernel
theorem dX1_breachesOf_254 : decode cX1_breachesOf 254 = .ok (.ifCond .ne 7, 3) := by decide +kernel
theorem dX1_breachesOf_257 : decode cX1_breachesOf 257 = .ok (.iconst 1, 1) := by decide +kernel
theorem dX1_breachesOf_258 : decode cX1_breachesOf 258 = .ok (.goto 4, 3) := by decide +kernel
theorem dX1_breachesOf_261 : decode cX1_breachesOf 261 = .ok (.iconst 0, 1) := by decide +kernel
theorem dX1_breachesOf_262 : decode cX1_breachesOf 262 = .ok (.iconst 1, 1) := by decide +kernel
theorem dX1_breachesOf_263 : decode cX1_breachesOf 263 = .ok (.iload 8, 2) := by decide +kernel
theorem dX1_breachesOf_265 : decode cX1_breachesOf 265 = .ok (.invokestatic 65, 3) := by decide +kernel
theorem dX1_breachesOf_268 : decode cX1_breachesOf 268 = .ok (.lor, 1) := by decide +kernel
theorem dX1_breachesOf_269 : decode cX1_breachesOf 269 = .ok (.iload 11, 2) := by decide +kernel
theorem dX1_breachesOf_271 : decode cX1_breachesOf 271 = .ok (.iload 7, 2) := by decide +kernel
theorem dX1_breachesOf_273 : decode cX1_breachesOf 273 = .ok (.isub, 1) := by decide +kernel
theorem dX1_breachesOf_274 : decode cX1_breachesOf 274 = .ok (.aload_n 0, 1) := by decide +kernel
theorem dX1_breachesOf_275 : decode cX1_breachesOf 275 = .ok (.getfield 15, 3) := by decide +kernel
theorem dX1_breachesOf_278 : decode cX1_breachesOf 278 = .ok (.getfield 85, 3) := by decide +kernel
theorem dX1_breachesOf_281 : decode cX1_breachesOf 281 = .ok (.if_icmp .ge 7, 3) := by decide +kernel
theorem dX1_breachesOf_284 : decode cX1_breachesOf 284 = .ok (.iconst 1, 1) := by decide +kernel
theorem dX1_breachesOf_285 : decode cX1_breachesOf 285 = .ok (.goto 4, 3) := by decide +kernel
theorem dX1_breachesOf_288 : decode cX1_breachesOf 288 = .ok (.iconst 0, 1) := by decide +kernel
theorem dX1_breachesOf_289 : decode cX1_breachesOf 289 = .ok (.iconst 2, 1) := by decide +kernel
theorem dX1_breachesOf_290 : decode cX1_breachesOf 290 = .ok (.iload 8, 2) := by decide +kernel
theorem dX1_breachesOf_292 : decode cX1_breachesOf 292 = .ok (.invokestatic 65, 3) := by decide +kernel
theorem dX1_breachesOf_295 : decode cX1_breachesOf 295 = .ok (.lor, 1) := by decide +kernel
theorem dX1_breachesOf_296 : decode cX1_breachesOf 296 = .ok (.lor, 1) := by decide +kernel
theorem dX1_breachesOf_297 : decode cX1_breachesOf 297 = .ok (.lstore_n 2, 1) := by decide +kernel
theorem dX1_breachesOf_298 : decode cX1_breachesOf 298 = .ok (.iload 11, 2) := by decide +kernel
theorem dX1_breachesOf_300 : decode cX1_breachesOf 300 = .ok (.aload_n 0, 1) := by decide +kernel
theorem dX1_breachesOf_301 : decode cX1_breachesOf 301 = .ok (.getfield 9, 3) := by decide +kernel
theorem dX1_breachesOf_304 : decode cX1_breachesOf 304 = .ok (.iload 9, 2) := by decide +kernel
theorem dX1_breachesOf_306 : decode cX1_breachesOf 306 = .ok (.invokevirtual 59, 3) := by decide +kernel
theorem dX1_breachesOf_309 : decode cX1_breachesOf 309 = .ok (.iadd, 1) := by decide +kernel
theorem dX1_breachesOf_310 : decode cX1_breachesOf 310 = .ok (.istore 7, 2) := by decide +kernel
theorem dX1_breachesOf_312 : decode cX1_breachesOf 312 = .ok (.iinc 8 1, 3) := by decide +kernel
theorem dX1_breachesOf_315 : decode cX1_breachesOf 315 = .ok (.goto (-296), 3) := by decide +kernel
theorem dX1_breachesOf_318 : decode cX1_breachesOf 318 = .ok (.lload_n 2, 1) := by decide +kernel
theorem dX1_breachesOf_319 : decode cX1_breachesOf 319 = .ok (.lreturn, 1) := by decide +kernel
theorem dX1_bitIf_0 : decode cX1_bitIf 0 = .ok (.iload_n 0, 1) := by decide +kernel
theorem dX1_bitIf_1 : decode cX1_bitIf 1 = .ok (.ifCond .eq 14, 3) := by decide +kernel
theorem dX1_bitIf_4 : decode cX1_bitIf 4 = .ok (.lconst 1, 1) := by decide +kernel
theorem dX1_bitIf_5 : decode cX1_bitIf 5 = .ok (.iload_n 1, 1) := by decide +kernel
theorem dX1_bitIf_6 : decode cX1_bitIf 6 = .ok (.bipush 8, 2) := by decide +kernel
theorem dX1_bitIf_8 : decode cX1_bitIf 8 = .ok (.imul, 1) := by decide +kernel
theorem dX1_bitIf_9 : decode cX1_bitIf 9 = .ok (.iload_n 2, 1) := by decide +kernel
theorem dX1_bitIf_10 : decode cX1_bitIf 10 = .ok (.iadd, 1) := by decide +kernel
theorem dX1_bitIf_11 : decode cX1_bitIf 11 = .ok (.lshl, 1) := by decide +kernel
theorem dX1_bitIf_12 : decode cX1_bitIf 12 = .ok (.goto 4, 3) := by decide +kernel
theorem dX1_bitIf_15 : decode cX1_bitIf 15 = .ok (.lconst 0, 1) := by decide +kernel
theorem dX1_bitIf_16 : decode cX1_bitIf 16 = .ok (.lreturn, 1) := by decide +kernel
theorem dX1_shortagesOf_0 : decode cX1_shortagesOf 0 = .ok (.iconst 0, 1) := by decide +kernel
theorem dX1_shortagesOf_1 : decode cX1_shortagesOf 1 = .ok (.istore_n 2, 1) := by decide +kernel
theorem dX1_shortagesOf_2 : decode cX1_shortagesOf 2 = .ok (.iconst 0, 1) := by decide +kernel
theorem dX1_shortagesOf_3 : decode cX1_shortagesOf 3 = .ok (.istore_n 3, 1) := by decide +kernel
theorem dX1_shortagesOf_4 : decode cX1_shortagesOf 4 = .ok (.iload_n 3, 1) := by decide +kernel
theorem dX1_shortagesOf_5 : decode cX1_shortagesOf 5 = .ok (.iconst 3, 1) := by decide +kernel
theorem dX1_shortagesOf_6 : decode cX1_shortagesOf 6 = .ok (.if_icmp .ge 36, 3) := by decide +kernel
theorem dX1_shortagesOf_9 : decode cX1_shortagesOf 9 = .ok (.aload_n 0, 1) := by decide +kernel
theorem dX1_shortagesOf_10 : decode cX1_shortagesOf 10 = .ok (.getfield 19, 3) := by decide +kernel
theorem dX1_shortagesOf_13 : decode cX1_shortagesOf 13 = .ok (.iload_n 1, 1) := by decide +kernel
theorem dX1_shortagesOf_14 : decode cX1_shortagesOf 14 = .ok (.iload_n 3, 1) := by decide +kernel
theorem dX1_shortagesOf_15 : decode cX1_shortagesOf 15 = .ok (.invokevirtual 88, 3) := by decide +kernel
theorem dX1_shortagesOf_18 : decode cX1_shortagesOf 18 = .ok (.aload_n 0, 1) := by decide +kernel
theorem dX1_shortagesOf_19 : decode cX1_shortagesOf 19 = .ok (.getfield 15, 3) := by decide +kernel
theorem dX1_shortagesOf_22 : decode cX1_shortagesOf 22 = .ok (.iload_n 1, 1) := by decide +kernel
theorem dX1_shortagesOf_23 : decode cX1_shortagesOf 23 = .ok (.iload_n 3, 1) := by decide +kernel
theorem dX1_shortagesOf_24 : decode cX1_shortagesOf 24 = .ok (.invokevirtual 91, 3) := by decide +kernel
theorem dX1_shortagesOf_27 : decode cX1_shortagesOf 27 = .ok (.if_icmp .ge 9, 3) := by decide +kernel
theorem dX1_shortagesOf_30 : decode cX1_shortagesOf 30 = .ok (.iload_n 2, 1) := by decide +kernel
theorem dX1_shortagesOf_31 : decode cX1_shortagesOf 31 = .ok (.iconst 1, 1) := by decide +kernel
theorem dX1_shortagesOf_32 : decode cX1_shortagesOf 32 = .ok (.iload_n 3, 1) := by decide +kernel
theorem dX1_shortagesOf_33 : decode cX1_shortagesOf 33 = .ok (.ishl, 1) := by decide +kernel
theorem dX1_shortagesOf_34 : decode cX1_shortagesOf 34 = .ok (.ior, 1) := by decide +kernel
theorem dX1_shortagesOf_35 : decode cX1_shortagesOf 35 = .ok (.istore_n 2, 1) := by decide +kernel
theorem dX1_shortagesOf_36 : decode cX1_shortagesOf 36 = .ok (.iinc 3 1, 3) := by decide +kernel
theorem dX1_shortagesOf_39 : decode cX1_shortagesOf 39 = .ok (.goto (-35), 3) := by decide +kernel
theorem dX1_shortagesOf_42 : decode cX1_shortagesOf 42 = .ok (.iload_n 2, 1) := by decide +kernel
theorem dX1_shortagesOf_43 : decode cX1_shortagesOf 43 = .ok (.ireturn, 1) := by decide +kernel
theorem dX2_init_0 : decode cX2_init 0 = .ok (.aload_n 0, 1) := by decide +kernel
theorem dX2_init_1 : decode cX2_init 1 = .ok (.invokespecial 3, 3) := by decide +kernel
theorem dX2_init_4 : decode cX2_init 4 = .ok (.aload_n 0, 1) := by decide +kernel
theorem dX2_init_5 : decode cX2_init 5 = .ok (.iconst 4, 1) := by decide +kernel
theorem dX2_init_6 : decode cX2_init 6 = .ok (.newarray .long, 2) := by decide +kernel
theorem dX2_init_8 : decode cX2_init 8 = .ok (.putfield 9, 3) := by decide +kernel
theorem dX2_init_11 : decode cX2_init 11 = .ok (.aload_n 0, 1) := by decide +kernel
theorem dX2_init_12 : decode cX2_init 12 = .ok (.iconst 0, 1) := by decide +kernel
theorem dX2_init_13 : decode cX2_init 13 = .ok (.putfield 15, 3) := by decide +kernel
theorem dX2_init_16 : decode cX2_init 16 = .ok (.return_, 1) := by decide +kernel
theorem dX2_putRow_0 : decode cX2_putRow 0 = .ok (.iload_n 1, 1) := by decide +kernel
theorem dX2_putRow_1 : decode cX2_putRow 1 = .ok (.ifCond .lt 15, 3) := by decide +kernel
theorem dX2_putRow_4 : decode cX2_putRow 4 = .ok (.iload_n 1, 1) := by decide +kernel
theorem dX2_putRow_5 : decode cX2_putRow 5 = .ok (.iconst 4, 1) := by decide +kernel
theorem dX2_putRow_6 : decode cX2_putRow 6 = .ok (.if_icmp .ge 10, 3) := by decide +kernel
theorem dX2_putRow_9 : decode cX2_putRow 9 = .ok (.aload_n 0, 1) := by decide +kernel
theorem dX2_putRow_10 : decode cX2_putRow 10 = .ok (.getfield 9, 3) := by decide +kernel
theorem dX2_putRow_13 : decode cX2_putRow 13 = .ok (.iload_n 1, 1) := by decide +kernel
theorem dX2_putRow_14 : decode cX2_putRow 14 = .ok (.lload_n 2, 1) := by decide +kernel
theorem dX2_putRow_15 : decode cX2_putRow 15 = .ok (.lastore, 1) := by decide +kernel
theorem dX2_putRow_16 : decode cX2_putRow 16 = .ok (.return_, 1) := by decide +kernel
theorem dX2_putShortages_0 : decode cX2_putShortages 0 = .ok (.aload_n 0, 1) := by decide +kernel
theorem dX2_putShortages_1 : decode cX2_putShortages 1 = .ok (.aload_n 0, 1) := by decide +kernel
theorem dX2_putShortages_2 : decode cX2_putShortages 2 = .ok (.getfield 15, 3) := by decide +kernel
theorem dX2_putShortages_5 : decode cX2_putShortages 5 = .ok (.bipush 7, 2) := by decide +kernel
theorem dX2_putShortages_7 : decode cX2_putShortages 7 = .ok (.iload_n 1, 1) := by decide +kernel
theorem dX2_putShortages_8 : decode cX2_putShortages 8 = .ok (.iconst 0, 1) := by decide +kernel
theorem dX2_putShortages_9 : decode cX2_putShortages 9 = .ok (.invokestatic 19, 3) := by decide +kernel
theorem dX2_putShortages_12 : decode cX2_putShortages 12 = .ok (.ishl, 1) := by decide +kernel
theorem dX2_putShortages_13 : decode cX2_putShortages 13 = .ok (.iconst (-1), 1) := by decide +kernel
theorem dX2_putShortages_14 : decode cX2_putShortages 14 = .ok (.ixor, 1) := by decide +kernel
theorem dX2_putShortages_15 : decode cX2_putShortages 15 = .ok (.iand, 1) := by decide +kernel
theorem dX2_putShortages_16 : decode cX2_putShortages 16 = .ok (.iload_n 2, 1) := by decide +kernel
theorem dX2_putShortages_17 : decode cX2_putShortages 17 = .ok (.iload_n 1, 1) := by decide +kernel
theorem dX2_putShortages_18 : decode cX2_putShortages 18 = .ok (.iconst 0, 1) := by decide +kernel
theorem dX2_putShortages_19 : decode cX2_putShortages 19 = .ok (.invokestatic 19, 3) := by decide +kernel
theorem dX2_putShortages_22 : decode cX2_putShortages 22 = .ok (.ishl, 1) := by decide +kernel
theorem dX2_putShortages_23 : decode cX2_putShortages 23 = .ok (.ior, 1) := by decide +kernel
theorem dX2_putShortages_24 : decode cX2_putShortages 24 = .ok (.putfield 15, 3) := by decide +kernel
theorem dX2_putShortages_27 : decode cX2_putShortages 27 = .ok (.return_, 1) := by decide +kernel
theorem dX2_daysOf_0 : decode cX2_daysOf 0 = .ok (.iload_n 2, 1) := by decide +kernel
theorem dX2_daysOf_1 : decode cX2_daysOf 1 = .ok (.ifCond .lt 27, 3) := by decide +kernel
theorem dX2_daysOf_4 : decode cX2_daysOf 4 = .ok (.iload_n 2, 1) := by decide +kernel
theorem dX2_daysOf_5 : decode cX2_daysOf 5 = .ok (.iconst 4, 1) := by decide +kernel
theorem dX2_daysOf_6 : decode cX2_daysOf 6 = .ok (.if_icmp .ge 22, 3) := by decide +kernel
theorem dX2_daysOf_9 : decode cX2_daysOf 9 = .ok (.aload_n 0, 1) := by decide +kernel
theorem dX2_daysOf_10 : decode cX2_daysOf 10 = .ok (.getfield 9, 3) := by decide +kernel
theorem dX2_daysOf_13 : decode cX2_daysOf 13 = .ok (.iload_n 2, 1) := by decide +kernel
theorem dX2_daysOf_14 : decode cX2_daysOf 14 = .ok (.laload, 1) := by decide +kernel
theorem dX2_daysOf_15 : decode cX2_daysOf 15 = .ok (.iload_n 1, 1) := by decide +kernel
theorem dX2_daysOf_16 : decode cX2_daysOf 16 = .ok (.bipush 8, 2) := by decide +kernel
theorem dX2_daysOf_18 : decode cX2_daysOf 18 = .ok (.imul, 1) := by decide +kernel
theorem dX2_daysOf_19 : decode cX2_daysOf 19 = .ok (.lushr, 1) := by decide +kernel
theorem dX2_daysOf_20 : decode cX2_daysOf 20 = .ok (.l2i, 1) := by decide +kernel
theorem dX2_daysOf_21 : decode cX2_daysOf 21 = .ok (.sipush 255, 3) := by decide +kernel
theorem dX2_daysOf_24 : decode cX2_daysOf 24 = .ok (.iand, 1) := by decide +kernel
theorem dX2_daysOf_25 : decode cX2_daysOf 25 = .ok (.goto 4, 3) := by decide +kernel
theorem dX2_daysOf_28 : decode cX2_daysOf 28 = .ok (.iconst 0, 1) := by decide +kernel
theorem dX2_daysOf_29 : decode cX2_daysOf 29 = .ok (.ireturn, 1) := by decide +kernel
theorem dX2_size_0 : decode cX2_size 0 = .ok (.aload_n 0, 1) := by decide +kernel
theorem dX2_size_1 : decode cX2_size 1 = .ok (.getfield 15, 3) := by decide +kernel
theorem dX2_size_4 : decode cX2_size 4 = .ok (.invokestatic 23, 3) := by decide +kernel
theorem dX2_size_7 : decode cX2_size 7 = .ok (.istore_n 1, 1) := by decide +kernel
theorem dX2_size_8 : decode cX2_size 8 = .ok (.iconst 0, 1) := by decide +kernel
theorem dX2_size_9 : decode cX2_size 9 = .ok (.istore_n 2, 1) := by decide +kernel
theorem dX2_size_10 : decode cX2_size 10 = .ok (.iload_n 2, 1) := by decide +kernel
theorem dX2_size_11 : decode cX2_size 11 = .ok (.iconst 4, 1) := by decide +kernel
theorem dX2_size_12 : decode cX2_size 12 = .ok (.if_icmp .ge 21, 3) := by decide +kernel
theorem dX2_size_15 : decode cX2_size 15 = .ok (.iload_n 1, 1) := by decide +kernel
theorem dX2_size_16 : decode cX2_size 16 = .ok (.aload_n 0, 1) := by decide +kernel
theorem dX2_size_17 : decode cX2_size 17 = .ok (.getfield 9, 3) := by decide +kernel
theorem dX2_size_20 : decode cX2_size 20 = .ok (.iload_n 2, 1) := by decide +kernel
theorem dX2_size_21 : decode cX2_size 21 = .ok (.laload, 1) := by decide +kernel
theorem dX2_size_22 : decode cX2_size 22 = .ok (.invokestatic 29, 3) := by decide +kernel
theorem dX2_size_25 : decode cX2_size 25 = .ok (.iadd, 1) := by decide +kernel
theorem dX2_size_26 : decode cX2_size 26 = .ok (.istore_n 1, 1) := by decide +kernel
theorem dX2_size_27 : decode cX2_size 27 = .ok (.iinc 2 1, 3) := by decide +kernel
theorem dX2_size_30 : decode cX2_size 30 = .ok (.goto (-20), 3) := by decide +kernel
theorem dX2_size_33 : decode cX2_size 33 = .ok (.iload_n 1, 1) := by decide +kernel
theorem dX2_size_34 : decode cX2_size 34 = .ok (.ireturn, 1) := by decide +kernel
theorem dX2_isClearBesides_0 : decode cX2_isClearBesides 0 = .ok (.iconst 0, 1) := by decide +kernel
theorem dX2_isClearBesides_1 : decode cX2_isClearBesides 1 = .ok (.istore_n 3, 1) := by decide +kernel
theorem dX2_isClearBesides_2 : decode cX2_isClearBesides 2 = .ok (.iload_n 3, 1) := by decide +kernel
theorem dX2_isClearBesides_3 : decode cX2_isClearBesides 3 = .ok (.iconst 4, 1) := by decide +kernel
theorem dX2_isClearBesides_4 : decode cX2_isClearBesides 4 = .ok (.if_icmp .ge 27, 3) := by decide +kernel
theorem dX2_isClearBesides_7 : decode cX2_isClearBesides 7 = .ok (.iload_n 3, 1) := by decide +kernel
theorem dX2_isClearBesides_8 : decode cX2_isClearBesides 8 = .ok (.iload_n 1, 1) := by decide +kernel
theorem dX2_isClearBesides_9 : decode cX2_isClearBesides 9 = .ok (.if_icmp .eq 16, 3) := by decide +kernel
theorem dX2_isClearBesides_12 : decode cX2_isClearBesides 12 = .ok (.aload_n 0, 1) := by decide +kernel
theorem dX2_isClearBesides_13 : decode cX2_isClearBesides 13 = .ok (.getfield 9, 3) := by decide +kernel
theorem dX2_isClearBesides_16 : decode cX2_isClearBesides 16 = .ok (.iload_n 3, 1) := by decide +kernel
theorem dX2_isClearBesides_17 : decode cX2_isClearBesides 17 = .ok (.laload, 1) := by decide +kernel
theorem dX2_isClearBesides_18 : decode cX2_isClearBesides 18 = .ok (.lconst 0, 1) := by decide +kernel
theorem dX2_isClearBesides_19 : decode cX2_isClearBesides 19 = .ok (.lcmp, 1) := by decide +kernel
theorem dX2_isClearBesides_20 : decode cX2_isClearBesides 20 = .ok (.ifCond .eq 5, 3) := by decide +kernel
theorem dX2_isClearBesides_23 : decode cX2_isClearBesides 23 = .ok (.iconst 0, 1) := by decide +kernel
theorem dX2_isClearBesides_24 : decode cX2_isClearBesides 24 = .ok (.ireturn, 1) := by decide +kernel
theorem dX2_isClearBesides_25 : decode cX2_isClearBesides 25 = .ok (.iinc 3 1, 3) := by decide +kernel
theorem dX2_isClearBesides_28 : decode cX2_isClearBesides 28 = .ok (.goto (-26), 3) := by decide +kernel
theorem dX2_isClearBesides_31 : decode cX2_isClearBesides 31 = .ok (.aload_n 0, 1) := by decide +kernel
theorem dX2_isClearBesides_32 : decode cX2_isClearBesides 32 = .ok (.getfield 15, 3) := by decide +kernel
theorem dX2_isClearBesides_35 : decode cX2_isClearBesides 35 = .ok (.bipush 7, 2) := by decide +kernel
theorem dX2_isClearBesides_37 : decode cX2_isClearBesides 37 = .ok (.iload_n 2, 1) := by decide +kernel
theorem dX2_isClearBesides_38 : decode cX2_isClearBesides 38 = .ok (.iconst 0, 1) := by decide +kernel
theorem dX2_isClearBesides_39 : decode cX2_isClearBesides 39 = .ok (.invokestatic 19, 3) := by decide +kernel
theorem dX2_isClearBesides_42 : decode cX2_isClearBesides 42 = .ok (.ishl, 1) := by decide +kernel
theorem dX2_isClearBesides_43 : decode cX2_isClearBesides 43 = .ok (.iconst (-1), 1) := by decide +kernel
theorem dX2_isClearBesides_44 : decode cX2_isClearBesides 44 = .ok (.ixor, 1) := by decide +kernel
theorem dX2_isClearBesides_45 : decode cX2_isClearBesides 45 = .ok (.iand, 1) := by decide +kernel
theorem dX2_isClearBesides_46 : decode cX2_isClearBesides 46 = .ok (.ifCond .ne 7, 3) := by decide +kernel
theorem dX2_isClearBesides_49 : decode cX2_isClearBesides 49 = .ok (.iconst 1, 1) := by decide +kernel
theorem dX2_isClearBesides_50 : decode cX2_isClearBesides 50 = .ok (.goto 4, 3) := by decide +kernel
theorem dX2_isClearBesides_53 : decode cX2_isClearBesides 53 = .ok (.iconst 0, 1) := by decide +kernel
theorem dX2_isClearBesides_54 : decode cX2_isClearBesides 54 = .ok (.ireturn, 1) := by decide +kernel
theorem dX2_isPartOf_0 : decode cX2_isPartOf 0 = .ok (.iconst 0, 1) := by decide +kernel
theorem dX2_isPartOf_1 : decode cX2_isPartOf 1 = .ok (.istore_n 2, 1) := by decide +kernel
theorem dX2_isPartOf_2 : decode cX2_isPartOf 2 = .ok (.iload_n 2, 1) := by decide +kernel
theorem dX2_isPartOf_3 : decode cX2_isPartOf 3 = .ok (.iconst 4, 1) := by decide +kernel
theorem dX2_isPartOf_4 : decode cX2_isPartOf 4 = .ok (.if_icmp .ge 33, 3) := by decide +kernel
theorem dX2_isPartOf_7 : decode cX2_isPartOf 7 = .ok (.aload_n 0, 1) := by decide +kernel
theorem dX2_isPartOf_8 : decode cX2_isPartOf 8 = .ok (.getfield 9, 3) := by decide +kernel
theorem dX2_isPartOf_11 : decode cX2_isPartOf 11 = .ok (.iload_n 2, 1) := by decide +kernel
theorem dX2_isPartOf_12 : decode cX2_isPartOf 12 = .ok (.laload, 1) := by decide +kernel
theorem dX2_isPartOf_13 : decode cX2_isPartOf 13 = .ok (.aload_n 1, 1) := by decide +kernel
theorem dX2_isPartOf_14 : decode cX2_isPartOf 14 = .ok (.getfield 9, 3) := by decide +kernel
theorem dX2_isPartOf_17 : decode cX2_isPartOf 17 = .ok (.iload_n 2, 1) := by decide +kernel
theorem dX2_isPartOf_18 : decode cX2_isPartOf 18 = .ok (.laload, 1) := by decide +kernel
theorem dX2_isPartOf_19 : decode cX2_isPartOf 19 = .ok (.ldc2_w 34, 3) := by decide +kernel
theorem dX2_isPartOf_22 : decode cX2_isPartOf 22 = .ok (.lxor, 1) := by decide +kernel
theorem dX2_isPartOf_23 : decode cX2_isPartOf 23 = .ok (.land, 1) := by decide +kernel
theorem dX2_isPartOf_24 : decode cX2_isPartOf 24 = .ok (.lconst 0, 1) := by decide +kernel
theorem dX2_isPartOf_25 : decode cX2_isPartOf 25 = .ok (.lcmp, 1) := by decide +kernel
theorem dX2_isPartOf_26 : decode cX2_isPartOf 26 = .ok (.ifCond .eq 5, 3) := by decide +kernel
theorem dX2_isPartOf_29 : decode cX2_isPartOf 29 = .ok (.iconst 0, 1) := by decide +kernel
theorem dX2_isPartOf_30 : decode cX2_isPartOf 30 = .ok (.ireturn, 1) := by decide +kernel
theorem dX2_isPartOf_31 : decode cX2_isPartOf 31 = .ok (.iinc 2 1, 3) := by decide +kernel
theorem dX2_isPartOf_34 : decode cX2_isPartOf 34 = .ok (.goto (-32), 3) := by decide +kernel
theorem dX2_isPartOf_37 : decode cX2_isPartOf 37 = .ok (.aload_n 0, 1) := by decide +kernel
theorem dX2_isPartOf_38 : decode cX2_isPartOf 38 = .ok (.getfield 15, 3) := by decide +kernel
theorem dX2_isPartOf_41 : decode cX2_isPartOf 41 = .ok (.aload_n 1, 1) := by decide +kernel
theorem dX2_isPartOf_42 : decode cX2_isPartOf 42 = .ok (.getfield 15, 3) := by decide +kernel
theorem dX2_isPartOf_45 : decode cX2_isPartOf 45 = .ok (.iconst (-1), 1) := by decide +kernel
theorem dX2_isPartOf_46 : decode cX2_isPartOf 46 = .ok (.ixor, 1) := by decide +kernel
theorem dX2_isPartOf_47 : decode cX2_isPartOf 47 = .ok (.iand, 1) := by decide +kernel
theorem dX2_isPartOf_48 : decode cX2_isPartOf 48 = .ok (.ifCond .ne 7, 3) := by decide +kernel
theorem dX2_isPartOf_51 : decode cX2_isPartOf 51 = .ok (.iconst 1, 1) := by decide +kernel
theorem dX2_isPartOf_52 : decode cX2_isPartOf 52 = .ok (.goto 4, 3) := by decide +kernel
theorem dX2_isPartOf_55 : decode cX2_isPartOf 55 = .ok (.iconst 0, 1) := by decide +kernel
theorem dX2_isPartOf_56 : decode cX2_isPartOf 56 = .ok (.ireturn, 1) := by decide +kernel
theorem dX2_breachAt_0 : decode cX2_breachAt 0 = .ok (.iload_n 1, 1) := by decide +kernel
theorem dX2_breachAt_1 : decode cX2_breachAt 1 = .ok (.ifCond .ge 5, 3) := by decide +kernel
theorem dX2_breachAt_4 : decode cX2_breachAt 4 = .ok (.iconst (-1), 1) := by decide +kernel
theorem dX2_breachAt_5 : decode cX2_breachAt 5 = .ok (.ireturn, 1) := by decide +kernel
theorem dX2_breachAt_6 : decode cX2_breachAt 6 = .ok (.iload_n 1, 1) := by decide +kernel
theorem dX2_breachAt_7 : decode cX2_breachAt 7 = .ok (.istore_n 2, 1) := by decide +kernel
theorem dX2_breachAt_8 : decode cX2_breachAt 8 = .ok (.iconst 0, 1) := by decide +kernel
theorem dX2_breachAt_9 : decode cX2_breachAt 9 = .ok (.istore_n 3, 1) := by decide +kernel
theorem dX2_breachAt_10 : decode cX2_breachAt 10 = .ok (.iload_n 3, 1) := by decide +kernel
theorem dX2_breachAt_11 : decode cX2_breachAt 11 = .ok (.bipush 6, 2) := by decide +kernel
theorem dX2_breachAt_13 : decode cX2_breachAt 13 = .ok (.if_icmp .ge 64, 3) := by decide +kernel
theorem dX2_breachAt_16 : decode cX2_breachAt 16 = .ok (.iconst 0, 1) := by decide +kernel
theorem dX2_breachAt_17 : decode cX2_breachAt 17 = .ok (.istore 4, 2) := by decide +kernel
theorem dX2_breachAt_19 : decode cX2_breachAt 19 = .ok (.iload 4, 2) := by decide +kernel
theorem dX2_breachAt_21 : decode cX2_breachAt 21 = .ok (.iconst 4, 1) := by decide +kernel
theorem dX2_breachAt_22 : decode cX2_breachAt 22 = .ok (.if_icmp .ge 49, 3) := by decide +kernel
theorem dX2_breachAt_25 : decode cX2_breachAt 25 = .ok (.aload_n 0, 1) := by decide +kernel
theorem dX2_breachAt_26 : decode cX2_breachAt 26 = .ok (.iload_n 3, 1) := by decide +kernel
theorem dX2_breachAt_27 : decode cX2_breachAt 27 = .ok (.iload 4, 2) := by decide +kernel
theorem dX2_breachAt_29 : decode cX2_breachAt 29 = .ok (.invokevirtual 36, 3) := by decide +kernel
theorem dX2_breachAt_32 : decode cX2_breachAt 32 = .ok (.istore 5, 2) := by decide +kernel
theorem dX2_breachAt_34 : decode cX2_breachAt 34 = .ok (.iload_n 2, 1) := by decide +kernel
theorem dX2_breachAt_35 : decode cX2_breachAt 35 = .ok (.iload 5, 2) := by decide +kernel
theorem dX2_breachAt_37 : decode cX2_breachAt 37 = .ok (.invokestatic 23, 3) := by decide +kernel
theorem dX2_breachAt_40 : decode cX2_breachAt 40 = .ok (.if_icmp .ge 17, 3) := by decide +kernel
theorem dX2_breachAt_43 : decode cX2_breachAt 43 = .ok (.iload_n 3, 1) := by decide +kernel
theorem dX2_breachAt_44 : decode cX2_breachAt 44 = .ok (.iload 4, 2) := by decide +kernel
theorem dX2_breachAt_46 : decode cX2_breachAt 46 = .ok (.iload 5, 2) := by decide +kernel
theorem dX2_breachAt_48 : decode cX2_breachAt 48 = .ok (.iload_n 2, 1) := by decide +kernel
theorem dX2_breachAt_49 : decode cX2_breachAt 49 = .ok (.invokestatic 39, 3) := by decide +kernel
theorem dX2_breachAt_52 : decode cX2_breachAt 52 = .ok (.iconst (-1), 1) := by decide +kernel
theorem dX2_breachAt_53 : decode cX2_breachAt 53 = .ok (.invokestatic 42, 3) := by decide +kernel
theorem dX2_breachAt_56 : decode cX2_breachAt 56 = .ok (.ireturn, 1) := by decide +kernel
theorem dX2_breachAt_57 : decode cX2_breachAt 57 = .ok (.iload_n 2, 1) := by decide +kernel
theorem dX2_breachAt_58 : decode cX2_breachAt 58 = .ok (.iload 5, 2) := by decide +kernel
theorem dX2_breachAt_60 : decode cX2_breachAt 60 = .ok (.invokestatic 23, 3) := by decide +kernel
theorem dX2_breachAt_63 : decode cX2_breachAt 63 = .ok (.isub, 1) := by decide +kernel
theorem dX2_breachAt_64 : decode cX2_breachAt 64 = .ok (.istore_n 2, 1) := by decide +kernel
theorem dX2_breachAt_65 : decode cX2_breachAt 65 = .ok (.iinc 4 1, 3) := by decide +kernel
theorem dX2_breachAt_68 : decode cX2_breachAt 68 = .ok (.goto (-49), 3) := by decide +kernel
theorem dX2_breachAt_71 : decode cX2_breachAt 71 = .ok (.iinc 3 1, 3) := by decide +kernel
theorem dX2_breachAt_74 : decode cX2_breachAt 74 = .ok (.goto (-64), 3) := by decide +kernel
theorem dX2_breachAt_77 : decode cX2_breachAt 77 = .ok (.aload_n 0, 1) := by decide +kernel
theorem dX2_breachAt_78 : decode cX2_breachAt 78 = .ok (.getfield 15, 3) := by decide +kernel
theorem dX2_breachAt_81 : decode cX2_breachAt 81 = .ok (.iload_n 2, 1) := by decide +kernel
theorem dX2_breachAt_82 : decode cX2_breachAt 82 = .ok (.invokestatic 39, 3) := by decide +kernel
theorem dX2_breachAt_85 : decode cX2_breachAt 85 = .ok (.istore_n 3, 1) := by decide +kernel
theorem dX2_breachAt_86 : decode cX2_breachAt 86 = .ok (.iload_n 3, 1) := by decide +kernel
theorem dX2_breachAt_87 : decode cX2_breachAt 87 = .ok (.iconst (-1), 1) := by decide +kernel
theorem dX2_breachAt_88 : decode cX2_breachAt 88 = .ok (.if_icmp .ne 7, 3) := by decide +kernel
theorem dX2_breachAt_91 : decode cX2_breachAt 91 = .ok (.iconst (-1), 1) := by decide +kernel
theorem dX2_breachAt_92 : decode cX2_breachAt 92 = .ok (.goto 15, 3) := by decide +kernel
theorem dX2_breachAt_95 : decode cX2_breachAt 95 = .ok (.bipush 6, 2) := by decide +kernel
theorem dX2_breachAt_97 : decode cX2_breachAt 97 = .ok (.iconst (-1), 1) := by decide +kernel
theorem dX2_breachAt_98 : decode cX2_breachAt 98 = .ok (.iload_n 3, 1) := by decide +kernel
theorem dX2_breachAt_99 : decode cX2_breachAt 99 = .ok (.iconst 3, 1) := by decide +kernel
theorem dX2_breachAt_100 : decode cX2_breachAt 100 = .ok (.idiv, 1) := by decide +kernel
theorem dX2_breachAt_101 : decode cX2_breachAt 101 = .ok (.iload_n 3, 1) := by decide +kernel
theorem dX2_breachAt_102 : decode cX2_breachAt 102 = .ok (.iconst 3, 1) := by decide +kernel
theorem dX2_breachAt_103 : decode cX2_breachAt 103 = .ok (.irem, 1) := by decide +kernel
theorem dX2_breachAt_104 : decode cX2_breachAt 104 = .ok (.invokestatic 42, 3) := by decide +kernel
theorem dX2_breachAt_107 : decode cX2_breachAt 107 = .ok (.ireturn, 1) := by decide +kernel
theorem dX2_placeOfBit_0 : decode cX2_placeOfBit 0 = .ok (.iload_n 1, 1) := by decide +kernel
theorem dX2_placeOfBit_1 : decode cX2_placeOfBit 1 = .ok (.istore_n 2, 1) := by decide +kernel
theorem dX2_placeOfBit_2 : decode cX2_placeOfBit 2 = .ok (.iconst 0, 1) := by decide +kernel
theorem dX2_placeOfBit_3 : decode cX2_placeOfBit 3 = .ok (.istore_n 3, 1) := by decide +kernel
theorem dX2_placeOfBit_4 : decode cX2_placeOfBit 4 = .ok (.iload_n 3, 1) := by decide +kernel
theorem dX2_placeOfBit_5 : decode cX2_placeOfBit 5 = .ok (.bipush 24, 2) := by decide +kernel
theorem dX2_placeOfBit_7 : decode cX2_placeOfBit 7 = .ok (.if_icmp .ge 27, 3) := by decide +kernel
theorem dX2_placeOfBit_10 : decode cX2_placeOfBit 10 = .ok (.iload_n 0, 1) := by decide +kernel
theorem dX2_placeOfBit_11 : decode cX2_placeOfBit 11 = .ok (.iload_n 3, 1) := by decide +kernel
theorem dX2_placeOfBit_12 : decode cX2_placeOfBit 12 = .ok (.iushr, 1) := by decide +kernel
theorem dX2_placeOfBit_13 : decode cX2_placeOfBit 13 = .ok (.iconst 1, 1) := by decide +kernel
theorem dX2_placeOfBit_14 : decode cX2_placeOfBit 14 = .ok (.iand, 1) := by decide +kernel
theorem dX2_placeOfBit_15 : decode cX2_placeOfBit 15 = .ok (.iconst 1, 1) := by decide +kernel
theorem dX2_placeOfBit_16 : decode cX2_placeOfBit 16 = .ok (.if_icmp .ne 12, 3) := by decide +kernel
theorem dX2_placeOfBit_19 : decode cX2_placeOfBit 19 = .ok (.iload_n 2, 1) := by decide +kernel
theorem dX2_placeOfBit_20 : decode cX2_placeOfBit 20 = .ok (.ifCond .ne 5, 3) := by decide +kernel
theorem dX2_placeOfBit_23 : decode cX2_placeOfBit 23 = .ok (.iload_n 3, 1) := by decide +kernel
theorem dX2_placeOfBit_24 : decode cX2_placeOfBit 24 = .ok (.ireturn, 1) := by decide +kernel
theorem dX2_placeOfBit_25 : decode cX2_placeOfBit 25 = .ok (.iinc 2 (-1), 3) := by decide +kernel
theorem dX2_placeOfBit_28 : decode cX2_placeOfBit 28 = .ok (.iinc 3 1, 3) := by decide +kernel
theorem dX2_placeOfBit_31 : decode cX2_placeOfBit 31 = .ok (.goto (-27), 3) := by decide +kernel
theorem dX2_placeOfBit_34 : decode cX2_placeOfBit 34 = .ok (.iconst (-1), 1) := by decide +kernel
theorem dX2_placeOfBit_35 : decode cX2_placeOfBit 35 = .ok (.ireturn, 1) := by decide +kernel
theorem dX2_mostBurdened_0 : decode cX2_mostBurdened 0 = .ok (.iconst 0, 1) := by decide +kernel
theorem dX2_mostBurdened_1 : decode cX2_mostBurdened 1 = .ok (.istore_n 1, 1) := by decide +kernel
theorem dX2_mostBurdened_2 : decode cX2_mostBurdened 2 = .ok (.iconst (-1), 1) := by decide +kernel
theorem dX2_mostBurdened_3 : decode cX2_mostBurdened 3 = .ok (.istore_n 2, 1) := by decide +kernel
theorem dX2_mostBurdened_4 : decode cX2_mostBurdened 4 = .ok (.iconst 0, 1) := by decide +kernel
theorem dX2_mostBurdened_5 : decode cX2_mostBurdened 5 = .ok (.istore_n 3, 1) := by decide +kernel
theorem dX2_mostBurdened_6 : decode cX2_mostBurdened 6 = .ok (.iload_n 3, 1) := by decide +kernel
theorem dX2_mostBurdened_7 : decode cX2_mostBurdened 7 = .ok (.bipush 6, 2) := by decide +kernel
theorem dX2_mostBurdened_9 : decode cX2_mostBurdened 9 = .ok (.if_icmp .ge 62, 3) := by decide +kernel
theorem dX2_mostBurdened_12 : decode cX2_mostBurdened 12 = .ok (.iconst 0, 1) := by decide +kernel
theorem dX2_mostBurdened_13 : decode cX2_mostBurdened 13 = .ok (.istore 4, 2) := by decide +kernel
theorem dX2_mostBurdened_15 : decode cX2_mostBurdened 15 = .ok (.iload 4, 2) := by decide +kernel
theorem dX2_mostBurdened_17 : decode cX2_mostBurdened 17 = .ok (.iconst 4, 1) := by decide +kernel
theorem dX2_mostBurdened_18 : decode cX2_mostBurdened 18 = .ok (.if_icmp .ge 47, 3) := by decide +kernel
theorem dX2_mostBurdened_21 : decode cX2_mostBurdened 21 = .ok (.aload_n 0, 1) := by decide +kernel
theorem dX2_mostBurdened_22 : decode cX2_mostBurdened 22 = .ok (.iload_n 3, 1) := by decide +kernel
theorem dX2_mostBurdened_23 : decode cX2_mostBurdened 23 = .ok (.iload 4, 2) := by decide +kernel
theorem dX2_mostBurdened_25 : decode cX2_mostBurdened 25 = .ok (.invokevirtual 36, 3) := by decide +kernel
theorem dX2_mostBurdened_28 : decode cX2_mostBurdened 28 = .ok (.ifCond .eq 31, 3) := by decide +kernel
theorem dX2_mostBurdened_31 : decode cX2_mostBurdened 31 = .ok (.aload_n 0, 1) := by decide +kernel
theorem dX2_mostBurdened_32 : decode cX2_mostBurdened 32 = .ok (.getfield 9, 3) := by decide +kernel
theorem dX2_mostBurdened_35 : decode cX2_mostBurdened 35 = .ok (.iload 4, 2) := by decide +kernel
theorem dX2_mostBurdened_37 : decode cX2_mostBurdened 37 = .ok (.laload, 1) := by decide +kernel
theorem dX2_mostBurdened_38 : decode cX2_mostBurdened 38 = .ok (.invokestatic 29, 3) := by decide +kernel
theorem dX2_mostBurdened_41 : decode cX2_mostBurdened 41 = .ok (.iload_n 1, 1) := by decide +kernel
theorem dX2_mostBurdened_42 : decode cX2_mostBurdened 42 = .ok (.if_icmp .le 17, 3) := by decide +kernel
theorem dX2_mostBurdened_45 : decode cX2_mostBurdened 45 = .ok (.aload_n 0, 1) := by decide +kernel
theorem dX2_mostBurdened_46 : decode cX2_mostBurdened 46 = .ok (.getfield 9, 3) := by decide +kernel
theorem dX2_mostBurdened_49 : decode cX2_mostBurdened 49 = .ok (.iload 4, 2) := by decide +kernel
theorem dX2_mostBurdened_51 : decode cX2_mostBurdened 51 = .ok (.laload, 1) := by decide +kernel
theorem dX2_mostBurdened_52 : decode cX2_mostBurdened 52 = .ok (.invokestatic 29, 3) := by decide +kernel
theorem dX2_mostBurdened_55 : decode cX2_mostBurdened 55 = .ok (.istore_n 1, 1) := by decide +kernel
theorem dX2_mostBurdened_56 : decode cX2_mostBurdened 56 = .ok (.iload 4, 2) := by decide +kernel
theorem dX2_mostBurdened_58 : decode cX2_mostBurdened 58 = .ok (.istore_n 2, 1) := by decide +kernel
theorem dX2_mostBurdened_59 : decode cX2_mostBurdened 59 = .ok (.iinc 4 1, 3) := by decide +kernel
theorem dX2_mostBurdened_62 : decode cX2_mostBurdened 62 = .ok (.goto (-47), 3) := by decide +kernel
theorem dX2_mostBurdened_65 : decode cX2_mostBurdened 65 = .ok (.iinc 3 1, 3) := by decide +kernel
theorem dX2_mostBurdened_68 : decode cX2_mostBurdened 68 = .ok (.goto (-62), 3) := by decide +kernel
theorem dX2_mostBurdened_71 : decode cX2_mostBurdened 71 = .ok (.iload_n 2, 1) := by decide +kernel
theorem dX2_mostBurdened_72 : decode cX2_mostBurdened 72 = .ok (.ireturn, 1) := by decide +kernel
theorem dX3_init_0 : decode cX3_init 0 = .ok (.aload_n 0, 1) := by decide +kernel
theorem dX3_init_1 : decode cX3_init 1 = .ok (.invokespecial 3, 3) := by decide +kernel
theorem dX3_init_4 : decode cX3_init 4 = .ok (.aload_n 0, 1) := by decide +kernel
theorem dX3_init_5 : decode cX3_init 5 = .ok (.aload_n 1, 1) := by decide +kernel
theorem dX3_init_6 : decode cX3_init 6 = .ok (.putfield 9, 3) := by decide +kernel
theorem dX3_init_9 : decode cX3_init 9 = .ok (.aload_n 0, 1) := by decide +kernel
theorem dX3_init_10 : decode cX3_init 10 = .ok (.aload_n 2, 1) := by decide +kernel
theorem dX3_init_11 : decode cX3_init 11 = .ok (.putfield 15, 3) := by decide +kernel
theorem dX3_init_14 : decode cX3_init 14 = .ok (.aload_n 0, 1) := by decide +kernel
theorem dX3_init_15 : decode cX3_init 15 = .ok (.aload_n 3, 1) := by decide +kernel
theorem dX3_init_16 : decode cX3_init 16 = .ok (.putfield 19, 3) := by decide +kernel
theorem dX3_init_19 : decode cX3_init 19 = .ok (.return_, 1) := by decide +kernel
theorem dX3_minutesAt_0 : decode cX3_minutesAt 0 = .ok (.aload_n 0, 1) := by decide +kernel
theorem dX3_minutesAt_1 : decode cX3_minutesAt 1 = .ok (.getfield 9, 3) := by decide +kernel
theorem dX3_minutesAt_4 : decode cX3_minutesAt 4 = .ok (.aload_n 0, 1) := by decide +kernel
theorem dX3_minutesAt_5 : decode cX3_minutesAt 5 = .ok (.getfield 19, 3) := by decide +kernel
theorem dX3_minutesAt_8 : decode cX3_minutesAt 8 = .ok (.iload_n 1, 1) := by decide +kernel
theorem dX3_minutesAt_9 : decode cX3_minutesAt 9 = .ok (.iload_n 2, 1) := by decide +kernel
theorem dX3_minutesAt_10 : decode cX3_minutesAt 10 = .ok (.invokevirtual 23, 3) := by decide +kernel
theorem dX3_minutesAt_13 : decode cX3_minutesAt 13 = .ok (.invokevirtual 29, 3) := by decide +kernel
theorem dX3_minutesAt_16 : decode cX3_minutesAt 16 = .ok (.ireturn, 1) := by decide +kernel
theorem dX3_isNightAt_0 : decode cX3_isNightAt 0 = .ok (.aload_n 0, 1) := by decide +kernel
theorem dX3_isNightAt_1 : decode cX3_isNightAt 1 = .ok (.getfield 9, 3) := by decide +kernel
theorem dX3_isNightAt_4 : decode cX3_isNightAt 4 = .ok (.aload_n 0, 1) := by decide +kernel
theorem dX3_isNightAt_5 : decode cX3_isNightAt 5 = .ok (.getfield 19, 3) := by decide +kernel
theorem dX3_isNightAt_8 : decode cX3_isNightAt 8 = .ok (.iload_n 1, 1) := by decide +kernel
theorem dX3_isNightAt_9 : decode cX3_isNightAt 9 = .ok (.iload_n 2, 1) := by decide +kernel
theorem dX3_isNightAt_10 : decode cX3_isNightAt 10 = .ok (.invokevirtual 23, 3) := by decide +kernel
theorem dX3_isNightAt_13 : decode cX3_isNightAt 13 = .ok (.invokevirtual 35, 3) := by decide +kernel
theorem dX3_isNightAt_16 : decode cX3_isNightAt 16 = .ok (.ireturn, 1) := by decide +kernel
theorem dX3_dayWorkedBefore_0 : decode cX3_dayWorkedBefore 0 = .ok (.iload_n 2, 1) := by decide +kernel
theorem dX3_dayWorkedBefore_1 : decode cX3_dayWorkedBefore 1 = .ok (.iconst 1, 1) := by decide +kernel
theorem dX3_dayWorkedBefore_2 : decode cX3_dayWorkedBefore 2 = .ok (.isub, 1) := by decide +kernel
theorem dX3_dayWorkedBefore_3 : decode cX3_dayWorkedBefore 3 = .ok (.istore_n 3, 1) := by decide +kernel
theorem dX3_dayWorkedBefore_4 : decode cX3_dayWorkedBefore 4 = .ok (.iload_n 3, 1) := by decide +kernel
theorem dX3_dayWorkedBefore_5 : decode cX3_dayWorkedBefore 5 = .ok (.ifCond .lt 24, 3) := by decide +kernel
theorem dX3_dayWorkedBefore_8 : decode cX3_dayWorkedBefore 8 = .ok (.aload_n 0, 1) := by decide +kernel
theorem dX3_dayWorkedBefore_9 : decode cX3_dayWorkedBefore 9 = .ok (.getfield 19, 3) := by decide +kernel
theorem dX3_dayWorkedBefore_12 : decode cX3_dayWorkedBefore 12 = .ok (.iload_n 1, 1) := by decide +kernel
theorem dX3_dayWorkedBefore_13 : decode cX3_dayWorkedBefore 13 = .ok (.iload_n 3, 1) := by decide +kernel
theorem dX3_dayWorkedBefore_14 : decode cX3_dayWorkedBefore 14 = .ok (.invokevirtual 23, 3) := by decide +kernel
theorem dX3_dayWorkedBefore_17 : decode cX3_dayWorkedBefore 17 = .ok (.iconst (-1), 1) := by decide +kernel
theorem dX3_dayWorkedBefore_18 : decode cX3_dayWorkedBefore 18 = .ok (.if_icmp .eq 5, 3) := by decide +kernel
theorem dX3_dayWorkedBefore_21 : decode cX3_dayWorkedBefore 21 = .ok (.iload_n 3, 1) := by decide +kernel
theorem dX3_dayWorkedBefore_22 : decode cX3_dayWorkedBefore 22 = .ok (.ireturn, 1) := by decide +kernel
theorem dX3_dayWorkedBefore_23 : decode cX3_dayWorkedBefore 23 = .ok (.iinc 3 (-1), 3) := by decide +kernel
theorem dX3_dayWorkedBefore_26 : decode cX3_dayWorkedBefore 26 = .ok (.goto (-22), 3) := by decide +kernel
theorem dX3_dayWorkedBefore_29 : decode cX3_dayWorkedBefore 29 = .ok (.iconst (-1), 1) := by decide +kernel
theorem dX3_dayWorkedBefore_30 : decode cX3_dayWorkedBefore 30 = .ok (.ireturn, 1) := by decide +kernel
theorem dX3_restAt_0 : decode cX3_restAt 0 = .ok (.aload_n 0, 1) := by decide +kernel
theorem dX3_restAt_1 : decode cX3_restAt 1 = .ok (.getfield 19, 3) := by decide +kernel
theorem dX3_restAt_4 : decode cX3_restAt 4 = .ok (.iload_n 1, 1) := by decide +kernel
theorem dX3_restAt_5 : decode cX3_restAt 5 = .ok (.iload_n 2, 1) := by decide +kernel
theorem dX3_restAt_6 : decode cX3_restAt 6 = .ok (.invokevirtual 23, 3) := by decide +kernel
theorem dX3_restAt_9 : decode cX3_restAt 9 = .ok (.istore_n 3, 1) := by decide +kernel
theorem dX3_restAt_10 : decode cX3_restAt 10 = .ok (.aload_n 0, 1) := by decide +kernel
theorem dX3_restAt_11 : decode cX3_restAt 11 = .ok (.iload_n 1, 1) := by decide +kernel
theorem dX3_restAt_12 : decode cX3_restAt 12 = .ok (.iload_n 2, 1) := by decide +kernel
theorem dX3_restAt_13 : decode cX3_restAt 13 = .ok (.invokevirtual 39, 3) := by decide +kernel
theorem dX3_restAt_16 : decode cX3_restAt 16 = .ok (.istore 4, 2) := by decide +kernel
theorem dX3_restAt_18 : decode cX3_restAt 18 = .ok (.iload_n 3, 1) := by decide +kernel
theorem dX3_restAt_19 : decode cX3_restAt 19 = .ok (.iconst (-1), 1) := by decide +kernel
theorem dX3_restAt_20 : decode cX3_restAt 20 = .ok (.if_icmp .eq 9, 3) := by decide +kernel
theorem dX3_restAt_23 : decode cX3_restAt 23 = .ok (.iload 4, 2) := by decide +kernel
theorem dX3_restAt_25 : decode cX3_restAt 25 = .ok (.iconst (-1), 1) := by decide +kernel
theorem dX3_restAt_26 : decode cX3_restAt 26 = .ok (.if_icmp .ne 7, 3) := by decide +kernel
theorem dX3_restAt_29 : decode cX3_restAt 29 = .ok (.sipush (-1440), 3) := by decide +kernel
theorem dX3_restAt_32 : decode cX3_restAt 32 = .ok (.ireturn, 1) := by decide +kernel
theorem dX3_restAt_33 : decode cX3_restAt 33 = .ok (.aload_n 0, 1) := by decide +kernel
theorem dX3_restAt_34 : decode cX3_restAt 34 = .ok (.getfield 19, 3) := by decide +kernel
theorem dX3_restAt_37 : decode cX3_restAt 37 = .ok (.iload_n 1, 1) := by decide +kernel
theorem dX3_restAt_38 : decode cX3_restAt 38 = .ok (.iload 4, 2) := by decide +kernel
theorem dX3_restAt_40 : decode cX3_restAt 40 = .ok (.invokevirtual 23, 3) := by decide +kernel
theorem dX3_restAt_43 : decode cX3_restAt 43 = .ok (.istore 5, 2) := by decide +kernel
theorem dX3_restAt_45 : decode cX3_restAt 45 = .ok (.iload 4, 2) := by decide +kernel
theorem dX3_restAt_47 : decode cX3_restAt 47 = .ok (.sipush 1440, 3) := by decide +kernel
theorem dX3_restAt_50 : decode cX3_restAt 50 = .ok (.imul, 1) := by decide +kernel
theorem dX3_restAt_51 : decode cX3_restAt 51 = .ok (.aload_n 0, 1) := by decide +kernel
theorem dX3_restAt_52 : decode cX3_restAt 52 = .ok (.getfield 9, 3) := by decide +kernel
theorem dX3_restAt_55 : decode cX3_restAt 55 = .ok (.iload 5, 2) := by decide +kernel
theorem dX3_restAt_57 : decode cX3_restAt 57 = .ok (.invokevirtual 42, 3) := by decide +kernel
theorem dX3_restAt_60 : decode cX3_restAt 60 = .ok (.iadd, 1) := by decide +kernel
theorem dX3_restAt_61 : decode cX3_restAt 61 = .ok (.aload_n 0, 1) := by decide +kernel
theorem dX3_restAt_62 : decode cX3_restAt 62 = .ok (.getfield 9, 3) := by decide +kernel
theorem dX3_restAt_65 : decode cX3_restAt 65 = .ok (.iload 5, 2) := by decide +kernel
theorem dX3_restAt_67 : decode cX3_restAt 67 = .ok (.invokevirtual 29, 3) := by decide +kernel
theorem dX3_restAt_70 : decode cX3_restAt 70 = .ok (.iadd, 1) := by decide +kernel
theorem dX3_restAt_71 : decode cX3_restAt 71 = .ok (.istore 6, 2) := by decide +kernel
theorem dX3_restAt_73 : decode cX3_restAt 73 = .ok (.iload_n 2, 1) := by decide +kernel
theorem dX3_restAt_74 : decode cX3_restAt 74 = .ok (.sipush 1440, 3) := by decide +kernel
theorem dX3_restAt_77 : decode cX3_restAt 77 = .ok (.imul, 1) := by decide +kernel
theorem dX3_restAt_78 : decode cX3_restAt 78 = .ok (.aload_n 0, 1) := by decide +kernel
theorem dX3_restAt_79 : decode cX3_restAt 79 = .ok (.getfield 9, 3) := by decide +kernel
theorem dX3_restAt_82 : decode cX3_restAt 82 = .ok (.iload_n 3, 1) := by decide +kernel
theorem dX3_restAt_83 : decode cX3_restAt 83 = .ok (.invokevirtual 42, 3) := by decide +kernel
theorem dX3_restAt_86 : decode cX3_restAt 86 = .ok (.iadd, 1) := by decide +kernel
theorem dX3_restAt_87 : decode cX3_restAt 87 = .ok (.iload 6, 2) := by decide +kernel
theorem dX3_restAt_89 : decode cX3_restAt 89 = .ok (.isub, 1) := by decide +kernel
theorem dX3_restAt_90 : decode cX3_restAt 90 = .ok (.ireturn, 1) := by decide +kernel
theorem dX3_nightsByCounting_0 : decode cX3_nightsByCounting 0 = .ok (.iconst 0, 1) := by decide +kernel
theorem dX3_nightsByCounting_1 : decode cX3_nightsByCounting 1 = .ok (.istore_n 2, 1) := by decide +kernel
theorem dX3_nightsByCounting_2 : decode cX3_nightsByCounting 2 = .ok (.iconst 0, 1) := by decide +kernel
theorem dX3_nightsByCounting_3 : decode cX3_nightsByCounting 3 = .ok (.istore_n 3, 1) := by decide +kernel
theorem dX3_nightsByCounting_4 : decode cX3_nightsByCounting 4 = .ok (.iconst 0, 1) := by decide +kernel
theorem dX3_nightsByCounting_5 : decode cX3_nightsByCounting 5 = .ok (.istore 4, 2) := by decide +kernel
theorem dX3_nightsByCounting_7 : decode cX3_nightsByCounting 7 = .ok (.iload 4, 2) := by decide +kernel
theorem dX3_nightsByCounting_9 : decode cX3_nightsByCounting 9 = .ok (.bipush 8, 2) := by decide +kernel
theorem dX3_nightsByCounting_11 : decode cX3_nightsByCounting 11 = .ok (.if_icmp .ge 33, 3) := by decide +kernel
theorem dX3_nightsByCounting_14 : decode cX3_nightsByCounting 14 = .ok (.aload_n 0, 1) := by decide +kernel
theorem dX3_nightsByCounting_15 : decode cX3_nightsByCounting 15 = .ok (.iload_n 1, 1) := by decide +kernel
theorem dX3_nightsByCounting_16 : decode cX3_nightsByCounting 16 = .ok (.iload 4, 2) := by decide +kernel
theorem dX3_nightsByCounting_18 : decode cX3_nightsByCounting 18 = .ok (.invokevirtual 45, 3) := by decide +kernel
theorem dX3_nightsByCounting_21 : decode cX3_nightsByCounting 21 = .ok (.ifCond .eq 9, 3) := by decide +kernel
theorem dX3_nightsByCounting_24 : decode cX3_nightsByCounting 24 = .ok (.iload_n 3, 1) := by decide +kernel
theorem dX3_nightsByCounting_25 : decode cX3_nightsByCounting 25 = .ok (.iconst 1, 1) := by decide +kernel
theorem dX3_nightsByCounting_26 : decode cX3_nightsByCounting 26 = .ok (.iadd, 1) := by decide +kernel
theorem dX3_nightsByCounting_27 : decode cX3_nightsByCounting 27 = .ok (.goto 4, 3) := by decide +kernel
theorem dX3_nightsByCounting_30 : decode cX3_nightsByCounting 30 = .ok (.iconst 0, 1) := by decide +kernel
theorem dX3_nightsByCounting_31 : decode cX3_nightsByCounting 31 = .ok (.istore_n 3, 1) := by decide +kernel
theorem dX3_nightsByCounting_32 : decode cX3_nightsByCounting 32 = .ok (.iload_n 2, 1) := by decide +kernel
theorem dX3_nightsByCounting_33 : decode cX3_nightsByCounting 33 = .ok (.iload_n 3, 1) := by decide +kernel
theorem dX3_nightsByCounting_34 : decode cX3_nightsByCounting 34 = .ok (.invokestatic 49, 3) := by decide +kernel
theorem dX3_nightsByCounting_37 : decode cX3_nightsByCounting 37 = .ok (.istore_n 2, 1) := by decide +kernel
theorem dX3_nightsByCounting_38 : decode cX3_nightsByCounting 38 = .ok (.iinc 4 1, 3) := by decide +kernel
theorem dX3_nightsByCounting_41 : decode cX3_nightsByCounting 41 = .ok (.goto (-34), 3) := by decide +kernel
theorem dX3_nightsByCounting_44 : decode cX3_nightsByCounting 44 = .ok (.iload_n 2, 1) := by decide +kernel
theorem dX3_nightsByCounting_45 : decode cX3_nightsByCounting 45 = .ok (.ireturn, 1) := by decide +kernel
theorem dX3_nightsByTryingRows_0 : decode cX3_nightsByTryingRows 0 = .ok (.iconst 0, 1) := by decide +kernel
theorem dX3_nightsByTryingRows_1 : decode cX3_nightsByTryingRows 1 = .ok (.istore_n 2, 1) := by decide +kernel
theorem dX3_nightsByTryingRows_2 : decode cX3_nightsByTryingRows 2 = .ok (.iconst 0, 1) := by decide +kernel
theorem dX3_nightsByTryingRows_3 : decode cX3_nightsByTryingRows 3 = .ok (.istore_n 3, 1) := by decide +kernel
theorem dX3_nightsByTryingRows_4 : decode cX3_nightsByTryingRows 4 = .ok (.iload_n 3, 1) := by decide +kernel
theorem dX3_nightsByTryingRows_5 : decode cX3_nightsByTryingRows 5 = .ok (.bipush 8, 2) := by decide +kernel
theorem dX3_nightsByTryingRows_7 : decode cX3_nightsByTryingRows 7 = .ok (.if_icmp .ge 47, 3) := by decide +kernel
theorem dX3_nightsByTryingRows_10 : decode cX3_nightsByTryingRows 10 = .ok (.iload_n 3, 1) := by decide +kernel
theorem dX3_nightsByTryingRows_11 : decode cX3_nightsByTryingRows 11 = .ok (.istore 4, 2) := by decide +kernel
theorem dX3_nightsByTryingRows_13 : decode cX3_nightsByTryingRows 13 = .ok (.iload 4, 2) := by decide +kernel
theorem dX3_nightsByTryingRows_15 : decode cX3_nightsByTryingRows 15 = .ok (.bipush 8, 2) := by decide +kernel
theorem dX3_nightsByTryingRows_17 : decode cX3_nightsByTryingRows 17 = .ok (.if_icmp .ge 31, 3) := by decide +kernel
theorem dX3_nightsByTryingRows_20 : decode cX3_nightsByTryingRows 20 = .ok (.aload_n 0, 1) := by decide +kernel
theorem dX3_nightsByTryingRows_21 : decode cX3_nightsByTryingRows 21 = .ok (.iload_n 1, 1) := by decide +kernel
theorem dX3_nightsByTryingRows_22 : decode cX3_nightsByTryingRows 22 = .ok (.iload_n 3, 1) := by decide +kernel
theorem dX3_nightsByTryingRows_23 : decode cX3_nightsByTryingRows 23 = .ok (.iload 4, 2) := by decide +kernel
theorem dX3_nightsByTryingRows_25 : decode cX3_nightsByTryingRows 25 = .ok (.invokevirtual 54, 3) := by decide +kernel
theorem dX3_nightsByTryingRows_28 : decode cX3_nightsByTryingRows 28 = .ok (.ifCond .eq 14, 3) := by decide +kernel
theorem dX3_nightsByTryingRows_31 : decode cX3_nightsByTryingRows 31 = .ok (.iload_n 2, 1) := by decide +kernel
theorem dX3_nightsByTryingRows_32 : decode cX3_nightsByTryingRows 32 = .ok (.iload 4, 2) := by decide +kernel
theorem dX3_nightsByTryingRows_34 : decode cX3_nightsByTryingRows 34 = .ok (.iload_n 3, 1) := by decide +kernel
theorem dX3_nightsByTryingRows_35 : decode cX3_nightsByTryingRows 35 = .ok (.isub, 1) := by decide +kernel
theorem dX3_nightsByTryingRows_36 : decode cX3_nightsByTryingRows 36 = .ok (.iconst 1, 1) := by decide +kernel
theorem dX3_nightsByTryingRows_37 : decode cX3_nightsByTryingRows 37 = .ok (.iadd, 1) := by decide +kernel
theorem dX3_nightsByTryingRows_38 : decode cX3_nightsByTryingRows 38 = .ok (.invokestatic 49, 3) := by decide +kernel
theorem dX3_nightsByTryingRows_41 : decode cX3_nightsByTryingRows 41 = .ok (.istore_n 2, 1) := by decide +kernel
theorem dX3_nightsByTryingRows_42 : decode cX3_nightsByTryingRows 42 = .ok (.iinc 4 1, 3) := by decide +kernel
theorem dX3_nightsByTryingRows_45 : decode cX3_nightsByTryingRows 45 = .ok (.goto (-32), 3) := by decide +kernel
theorem dX3_nightsByTryingRows_48 : decode cX3_nightsByTryingRows 48 = .ok (.iinc 3 1, 3) := by decide +kernel
theorem dX3_nightsByTryingRows_51 : decode cX3_nightsByTryingRows 51 = .ok (.goto (-47), 3) := by decide +kernel
theorem dX3_nightsByTryingRows_54 : decode cX3_nightsByTryingRows 54 = .ok (.iload_n 2, 1) := by decide +kernel
theorem dX3_nightsByTryingRows_55 : decode cX3_nightsByTryingRows 55 = .ok (.ireturn, 1) := by decide +kernel
theorem dX3_isRowOfNights_0 : decode cX3_isRowOfNights 0 = .ok (.iload_n 2, 1) := by decide +kernel
theorem dX3_isRowOfNights_1 : decode cX3_isRowOfNights 1 = .ok (.istore 4, 2) := by decide +kernel
theorem dX3_isRowOfNights_3 : decode cX3_isRowOfNights 3 = .ok (.iload 4, 2) := by decide +kernel
theorem dX3_isRowOfNights_5 : decode cX3_isRowOfNights 5 = .ok (.iload_n 3, 1) := by decide +kernel
theorem dX3_isRowOfNights_6 : decode cX3_isRowOfNights 6 = .ok (.if_icmp .gt 21, 3) := by decide +kernel
theorem dX3_isRowOfNights_9 : decode cX3_isRowOfNights 9 = .ok (.aload_n 0, 1) := by decide +kernel
theorem dX3_isRowOfNights_10 : decode cX3_isRowOfNights 10 = .ok (.iload_n 1, 1) := by decide +kernel
theorem dX3_isRowOfNights_11 : decode cX3_isRowOfNights 11 = .ok (.iload 4, 2) := by decide +kernel
theorem dX3_isRowOfNights_13 : decode cX3_isRowOfNights 13 = .ok (.invokevirtual 45, 3) := by decide +kernel
theorem dX3_isRowOfNights_16 : decode cX3_isRowOfNights 16 = .ok (.ifCond .ne 5, 3) := by decide +kernel
theorem dX3_isRowOfNights_19 : decode cX3_isRowOfNights 19 = .ok (.iconst 0, 1) := by decide +kernel
theorem dX3_isRowOfNights_20 : decode cX3_isRowOfNights 20 = .ok (.ireturn, 1) := by decide +kernel
theorem dX3_isRowOfNights_21 : decode cX3_isRowOfNights 21 = .ok (.iinc 4 1, 3) := by decide +kernel
theorem dX3_isRowOfNights_24 : decode cX3_isRowOfNights 24 = .ok (.goto (-21), 3) := by decide +kernel
theorem dX3_isRowOfNights_27 : decode cX3_isRowOfNights 27 = .ok (.iconst 1, 1) := by decide +kernel
theorem dX3_isRowOfNights_28 : decode cX3_isRowOfNights 28 = .ok (.ireturn, 1) := by decide +kernel
theorem dX3_sumByMoving_0 : decode cX3_sumByMoving 0 = .ok (.iconst 0, 1) := by decide +kernel
theorem dX3_sumByMoving_1 : decode cX3_sumByMoving 1 = .ok (.istore_n 2, 1) := by decide +kernel
theorem dX3_sumByMoving_2 : decode cX3_sumByMoving 2 = .ok (.iconst 0, 1) := by decide +kernel
theorem dX3_sumByMoving_3 : decode cX3_sumByMoving 3 = .ok (.istore_n 3, 1) := by decide +kernel
theorem dX3_sumByMoving_4 : decode cX3_sumByMoving 4 = .ok (.iconst 0, 1) := by decide +kernel
theorem dX3_sumByMoving_5 : decode cX3_sumByMoving 5 = .ok (.istore 4, 2) := by decide +kernel
theorem dX3_sumByMoving_7 : decode cX3_sumByMoving 7 = .ok (.iload 4, 2) := by decide +kernel
theorem dX3_sumByMoving_9 : decode cX3_sumByMoving 9 = .ok (.bipush 8, 2) := by decide +kernel
theorem dX3_sumByMoving_11 : decode cX3_sumByMoving 11 = .ok (.if_icmp .ge 55, 3) := by decide +kernel
theorem dX3_sumByMoving_14 : decode cX3_sumByMoving 14 = .ok (.iload_n 3, 1) := by decide +kernel
theorem dX3_sumByMoving_15 : decode cX3_sumByMoving 15 = .ok (.aload_n 0, 1) := by decide +kernel
theorem dX3_sumByMoving_16 : decode cX3_sumByMoving 16 = .ok (.iload_n 1, 1) := by decide +kernel
theorem dX3_sumByMoving_17 : decode cX3_sumByMoving 17 = .ok (.iload 4, 2) := by decide +kernel
theorem dX3_sumByMoving_19 : decode cX3_sumByMoving 19 = .ok (.invokevirtual 58, 3) := by decide +kernel
theorem dX3_sumByMoving_22 : decode cX3_sumByMoving 22 = .ok (.aload_n 0, 1) := by decide +kernel
theorem dX3_sumByMoving_23 : decode cX3_sumByMoving 23 = .ok (.iload_n 1, 1) := by decide +kernel
theorem dX3_sumByMoving_24 : decode cX3_sumByMoving 24 = .ok (.iload 4, 2) := by decide +kernel
theorem dX3_sumByMoving_26 : decode cX3_sumByMoving 26 = .ok (.aload_n 0, 1) := by decide +kernel
theorem dX3_sumByMoving_27 : decode cX3_sumByMoving 27 = .ok (.getfield 15, 3) := by decide +kernel
theorem dX3_sumByMoving_30 : decode cX3_sumByMoving 30 = .ok (.getfield 61, 3) := by decide +kernel
theorem dX3_sumByMoving_33 : decode cX3_sumByMoving 33 = .ok (.isub, 1) := by decide +kernel
theorem dX3_sumByMoving_34 : decode cX3_sumByMoving 34 = .ok (.invokevirtual 58, 3) := by decide +kernel
theorem dX3_sumByMoving_37 : decode cX3_sumByMoving 37 = .ok (.isub, 1) := by decide +kernel
theorem dX3_sumByMoving_38 : decode cX3_sumByMoving 38 = .ok (.iadd, 1) := by decide +kernel
theorem dX3_sumByMoving_39 : decode cX3_sumByMoving 39 = .ok (.istore_n 3, 1) := by decide +kernel
theorem dX3_sumByMoving_40 : decode cX3_sumByMoving 40 = .ok (.iload 4, 2) := by decide +kernel
theorem dX3_sumByMoving_42 : decode cX3_sumByMoving 42 = .ok (.aload_n 0, 1) := by decide +kernel
theorem dX3_sumByMoving_43 : decode cX3_sumByMoving 43 = .ok (.getfield 15, 3) := by decide +kernel
theorem dX3_sumByMoving_46 : decode cX3_sumByMoving 46 = .ok (.getfield 61, 3) := by decide +kernel
theorem dX3_sumByMoving_49 : decode cX3_sumByMoving 49 = .ok (.iconst 1, 1) := by decide +kernel
theorem dX3_sumByMoving_50 : decode cX3_sumByMoving 50 = .ok (.isub, 1) := by decide +kernel
theorem dX3_sumByMoving_51 : decode cX3_sumByMoving 51 = .ok (.if_icmp .lt 9, 3) := by decide +kernel
theorem dX3_sumByMoving_54 : decode cX3_sumByMoving 54 = .ok (.iload_n 2, 1) := by decide +kernel
theorem dX3_sumByMoving_55 : decode cX3_sumByMoving 55 = .ok (.iload_n 3, 1) := by decide +kernel
theorem dX3_sumByMoving_56 : decode cX3_sumByMoving 56 = .ok (.invokestatic 49, 3) := by decide +kernel
theorem dX3_sumByMoving_59 : decode cX3_sumByMoving 59 = .ok (.istore_n 2, 1) := by decide +kernel
theorem dX3_sumByMoving_60 : decode cX3_sumByMoving 60 = .ok (.iinc 4 1, 3) := by decide +kernel
theorem dX3_sumByMoving_63 : decode cX3_sumByMoving 63 = .ok (.goto (-56), 3) := by decide +kernel
theorem dX3_sumByMoving_66 : decode cX3_sumByMoving 66 = .ok (.iload_n 2, 1) := by decide +kernel
theorem dX3_sumByMoving_67 : decode cX3_sumByMoving 67 = .ok (.ireturn, 1) := by decide +kernel
theorem dX3_sumByAddingAnew_0 : decode cX3_sumByAddingAnew 0 = .ok (.iconst 0, 1) := by decide +kernel
theorem dX3_sumByAddingAnew_1 : decode cX3_sumByAddingAnew 1 = .ok (.istore_n 2, 1) := by decide +kernel
theorem dX3_sumByAddingAnew_2 : decode cX3_sumByAddingAnew 2 = .ok (.iconst 0, 1) := by decide +kernel
theorem dX3_sumByAddingAnew_3 : decode cX3_sumByAddingAnew 3 = .ok (.istore_n 3, 1) := by decide +kernel
theorem dX3_sumByAddingAnew_4 : decode cX3_sumByAddingAnew 4 = .ok (.iload_n 3, 1) := by decide +kernel
theorem dX3_sumByAddingAnew_5 : decode cX3_sumByAddingAnew 5 = .ok (.aload_n 0, 1) := by decide +kernel
theorem dX3_sumByAddingAnew_6 : decode cX3_sumByAddingAnew 6 = .ok (.getfield 15, 3) := by decide +kernel
theorem dX3_sumByAddingAnew_9 : decode cX3_sumByAddingAnew 9 = .ok (.getfield 61, 3) := by decide +kernel
theorem dX3_sumByAddingAnew_12 : decode cX3_sumByAddingAnew 12 = .ok (.iadd, 1) := by decide +kernel
theorem dX3_sumByAddingAnew_13 : decode cX3_sumByAddingAnew 13 = .ok (.bipush 8, 2) := by decide +kernel
theorem dX3_sumByAddingAnew_15 : decode cX3_sumByAddingAnew 15 = .ok (.if_icmp .gt 54, 3) := by decide +kernel
theorem dX3_sumByAddingAnew_18 : decode cX3_sumByAddingAnew 18 = .ok (.iconst 0, 1) := by decide +kernel
theorem dX3_sumByAddingAnew_19 : decode cX3_sumByAddingAnew 19 = .ok (.istore 4, 2) := by decide +kernel
theorem dX3_sumByAddingAnew_21 : decode cX3_sumByAddingAnew 21 = .ok (.iload_n 3, 1) := by decide +kernel
theorem dX3_sumByAddingAnew_22 : decode cX3_sumByAddingAnew 22 = .ok (.istore 5, 2) := by decide +kernel
theorem dX3_sumByAddingAnew_24 : decode cX3_sumByAddingAnew 24 = .ok (.iload 5, 2) := by decide +kernel
theorem dX3_sumByAddingAnew_26 : decode cX3_sumByAddingAnew 26 = .ok (.iload_n 3, 1) := by decide +kernel
theorem dX3_sumByAddingAnew_27 : decode cX3_sumByAddingAnew 27 = .ok (.aload_n 0, 1) := by decide +kernel
theorem dX3_sumByAddingAnew_28 : decode cX3_sumByAddingAnew 28 = .ok (.getfield 15, 3) := by decide +kernel
theorem dX3_sumByAddingAnew_31 : decode cX3_sumByAddingAnew 31 = .ok (.getfield 61, 3) := by decide +kernel
theorem dX3_sumByAddingAnew_34 : decode cX3_sumByAddingAnew 34 = .ok (.iadd, 1) := by decide +kernel
theorem dX3_sumByAddingAnew_35 : decode cX3_sumByAddingAnew 35 = .ok (.if_icmp .ge 21, 3) := by decide +kernel
theorem dX3_sumByAddingAnew_38 : decode cX3_sumByAddingAnew 38 = .ok (.iload 4, 2) := by decide +kernel
theorem dX3_sumByAddingAnew_40 : decode cX3_sumByAddingAnew 40 = .ok (.aload_n 0, 1) := by decide +kernel
theorem dX3_sumByAddingAnew_41 : decode cX3_sumByAddingAnew 41 = .ok (.iload_n 1, 1) := by decide +kernel
theorem dX3_sumByAddingAnew_42 : decode cX3_sumByAddingAnew 42 = .ok (.iload 5, 2) := by decide +kernel
theorem dX3_sumByAddingAnew_44 : decode cX3_sumByAddingAnew 44 = .ok (.invokevirtual 58, 3) := by decide +kernel
theorem dX3_sumByAddingAnew_47 : decode cX3_sumByAddingAnew 47 = .ok (.iadd, 1) := by decide +kernel
theorem dX3_sumByAddingAnew_48 : decode cX3_sumByAddingAnew 48 = .ok (.istore 4, 2) := by decide +kernel
theorem dX3_sumByAddingAnew_50 : decode cX3_sumByAddingAnew 50 = .ok (.iinc 5 1, 3) := by decide +kernel
theorem dX3_sumByAddingAnew_53 : decode cX3_sumByAddingAnew 53 = .ok (.goto (-29), 3) := by decide +kernel
theorem dX3_sumByAddingAnew_56 : decode cX3_sumByAddingAnew 56 = .ok (.iload_n 2, 1) := by decide +kernel
theorem dX3_sumByAddingAnew_57 : decode cX3_sumByAddingAnew 57 = .ok (.iload 4, 2) := by decide +kernel
theorem dX3_sumByAddingAnew_59 : decode cX3_sumByAddingAnew 59 = .ok (.invokestatic 49, 3) := by decide +kernel
theorem dX3_sumByAddingAnew_62 : decode cX3_sumByAddingAnew 62 = .ok (.istore_n 2, 1) := by decide +kernel
theorem dX3_sumByAddingAnew_63 : decode cX3_sumByAddingAnew 63 = .ok (.iinc 3 1, 3) := by decide +kernel
theorem dX3_sumByAddingAnew_66 : decode cX3_sumByAddingAnew 66 = .ok (.goto (-62), 3) := by decide +kernel
theorem dX3_sumByAddingAnew_69 : decode cX3_sumByAddingAnew 69 = .ok (.iload_n 2, 1) := by decide +kernel
theorem dX3_sumByAddingAnew_70 : decode cX3_sumByAddingAnew 70 = .ok (.ireturn, 1) := by decide +kernel
theorem dX4_init_0 : decode cX4_init 0 = .ok (.aload_n 0, 1) := by decide +kernel
theorem dX4_init_1 : decode cX4_init 1 = .ok (.invokespecial 3, 3) := by decide +kernel
theorem dX4_init_4 : decode cX4_init 4 = .ok (.aload_n 0, 1) := by decide +kernel
theorem dX4_init_5 : decode cX4_init 5 = .ok (.new 9, 3) := by decide +kernel
theorem dX4_init_8 : decode cX4_init 8 = .ok (.dup, 1) := by decide +kernel
theorem dX4_init_9 : decode cX4_init 9 = .ok (.invokespecial 11, 3) := by decide +kernel
theorem dX4_init_12 : decode cX4_init 12 = .ok (.putfield 12, 3) := by decide +kernel
theorem dX4_init_15 : decode cX4_init 15 = .ok (.aload_n 0, 1) := by decide +kernel
theorem dX4_init_16 : decode cX4_init 16 = .ok (.new 18, 3) := by decide +kernel
theorem dX4_init_19 : decode cX4_init 19 = .ok (.dup, 1) := by decide +kernel
theorem dX4_init_20 : decode cX4_init 20 = .ok (.invokespecial 20, 3) := by decide +kernel
theorem dX4_init_23 : decode cX4_init 23 = .ok (.putfield 21, 3) := by decide +kernel
theorem dX4_init_26 : decode cX4_init 26 = .ok (.aload_n 0, 1) := by decide +kernel
theorem dX4_init_27 : decode cX4_init 27 = .ok (.aload_n 1, 1) := by decide +kernel
theorem dX4_init_28 : decode cX4_init 28 = .ok (.putfield 25, 3) := by decide +kernel
theorem dX4_init_31 : decode cX4_init 31 = .ok (.aload_n 0, 1) := by decide +kernel
theorem dX4_init_32 : decode cX4_init 32 = .ok (.aload_n 2, 1) := by decide +kernel
theorem dX4_init_33 : decode cX4_init 33 = .ok (.putfield 29, 3) := by decide +kernel
theorem dX4_init_36 : decode cX4_init 36 = .ok (.aload_n 0, 1) := by decide +kernel
theorem dX4_init_37 : decode cX4_init 37 = .ok (.aload_n 3, 1) := by decide +kernel
theorem dX4_init_38 : decode cX4_init 38 = .ok (.putfield 33, 3) := by decide +kernel
theorem dX4_init_41 : decode cX4_init 41 = .ok (.aload_n 0, 1) := by decide +kernel
theorem dX4_init_42 : decode cX4_init 42 = .ok (.aload 4, 2) := by decide +kernel
theorem dX4_init_44 : decode cX4_init 44 = .ok (.putfield 37, 3) := by decide +kernel
theorem dX4_init_47 : decode cX4_init 47 = .ok (.aload_n 0, 1) := by decide +kernel
theorem dX4_init_48 : decode cX4_init 48 = .ok (.aload 5, 2) := by decide +kernel
theorem dX4_init_50 : decode cX4_init 50 = .ok (.putfield 41, 3) := by decide +kernel
theorem dX4_init_53 : decode cX4_init 53 = .ok (.return_, 1) := by decide +kernel
theorem dX4_seek_0 : decode cX4_seek 0 = .ok (.aload_n 0, 1) := by decide +kernel
theorem dX4_seek_1 : decode cX4_seek 1 = .ok (.getfield 41, 3) := by decide +kernel
theorem dX4_seek_4 : decode cX4_seek 4 = .ok (.aload_n 0, 1) := by decide +kernel
theorem dX4_seek_5 : decode cX4_seek 5 = .ok (.getfield 12, 3) := by decide +kernel
theorem dX4_seek_8 : decode cX4_seek 8 = .ok (.invokevirtual 45, 3) := by decide +kernel
theorem dX4_seek_11 : decode cX4_seek 11 = .ok (.aload_n 0, 1) := by decide +kernel
theorem dX4_seek_12 : decode cX4_seek 12 = .ok (.getfield 12, 3) := by decide +kernel
theorem dX4_seek_15 : decode cX4_seek 15 = .ok (.invokevirtual 51, 3) := by decide +kernel
theorem dX4_seek_18 : decode cX4_seek 18 = .ok (.ifCond .ne 5, 3) := by decide +kernel
theorem dX4_seek_21 : decode cX4_seek 21 = .ok (.iconst 0, 1) := by decide +kernel
theorem dX4_seek_22 : decode cX4_seek 22 = .ok (.ireturn, 1) := by decide +kernel
theorem dX4_seek_23 : decode cX4_seek 23 = .ok (.iload_n 1, 1) := by decide +kernel
theorem dX4_seek_24 : decode cX4_seek 24 = .ok (.ifCond .eq 18, 3) := by decide +kernel
theorem dX4_seek_27 : decode cX4_seek 27 = .ok (.aload_n 0, 1) := by decide +kernel
theorem dX4_seek_28 : decode cX4_seek 28 = .ok (.aload_n 0, 1) := by decide +kernel
theorem dX4_seek_29 : decode cX4_seek 29 = .ok (.getfield 12, 3) := by decide +kernel
theorem dX4_seek_32 : decode cX4_seek 32 = .ok (.iconst 0, 1) := by decide +kernel
theorem dX4_seek_33 : decode cX4_seek 33 = .ok (.invokevirtual 55, 3) := by decide +kernel
theorem dX4_seek_36 : decode cX4_seek 36 = .ok (.invokevirtual 59, 3) := by decide +kernel
theorem dX4_seek_39 : decode cX4_seek 39 = .ok (.goto 4, 3) := by decide +kernel
theorem dX4_seek_42 : decode cX4_seek 42 = .ok (.iconst (-1), 1) := by decide +kernel
theorem dX4_seek_43 : decode cX4_seek 43 = .ok (.istore_n 2, 1) := by decide +kernel
theorem dX4_seek_44 : decode cX4_seek 44 = .ok (.aload_n 0, 1) := by decide +kernel
theorem dX4_seek_45 : decode cX4_seek 45 = .ok (.iload_n 2, 1) := by decide +kernel
theorem dX4_seek_46 : decode cX4_seek 46 = .ok (.iconst 0, 1) := by decide +kernel
theorem dX4_seek_47 : decode cX4_seek 47 = .ok (.invokevirtual 62, 3) := by decide +kernel
theorem dX4_seek_50 : decode cX4_seek 50 = .ok (.ifCond .eq 5, 3) := by decide +kernel
theorem dX4_seek_53 : decode cX4_seek 53 = .ok (.iconst 1, 1) := by decide +kernel
theorem dX4_seek_54 : decode cX4_seek 54 = .ok (.ireturn, 1) := by decide +kernel
theorem dX4_seek_55 : decode cX4_seek 55 = .ok (.aload_n 0, 1) := by decide +kernel
theorem dX4_seek_56 : decode cX4_seek 56 = .ok (.iload_n 2, 1) := by decide +kernel
theorem dX4_seek_57 : decode cX4_seek 57 = .ok (.iload_n 1, 1) := by decide +kernel
theorem dX4_seek_58 : decode cX4_seek 58 = .ok (.invokevirtual 66, 3) := by decide +kernel
theorem dX4_seek_61 : decode cX4_seek 61 = .ok (.ifCond .eq 7, 3) := by decide +kernel
theorem dX4_seek_64 : decode cX4_seek 64 = .ok (.iconst 2, 1) := by decide +kernel
theorem dX4_seek_65 : decode cX4_seek 65 = .ok (.goto 4, 3) := by decide +kernel
theorem dX4_seek_68 : decode cX4_seek 68 = .ok (.iconst (-1), 1) := by decide +kernel
theorem dX4_seek_69 : decode cX4_seek 69 = .ok (.ireturn, 1) := by decide +kernel
theorem dX4_findTwo_0 : decode cX4_findTwo 0 = .ok (.iconst 0, 1) := by decide +kernel
theorem dX4_findTwo_1 : decode cX4_findTwo 1 = .ok (.istore_n 3, 1) := by decide +kernel
theorem dX4_findTwo_2 : decode cX4_findTwo 2 = .ok (.iload_n 3, 1) := by decide +kernel
theorem dX4_findTwo_3 : decode cX4_findTwo 3 = .ok (.aload_n 0, 1) := by decide +kernel
theorem dX4_findTwo_4 : decode cX4_findTwo 4 = .ok (.getfield 33, 3) := by decide +kernel
theorem dX4_findTwo_7 : decode cX4_findTwo 7 = .ok (.getfield 70, 3) := by decide +kernel
theorem dX4_findTwo_10 : decode cX4_findTwo 10 = .ok (.bipush 8, 2) := by decide +kernel
theorem dX4_findTwo_12 : decode cX4_findTwo 12 = .ok (.imul, 1) := by decide +kernel
theorem dX4_findTwo_13 : decode cX4_findTwo 13 = .ok (.if_icmp .ge 138, 3) := by decide +kernel
theorem dX4_findTwo_16 : decode cX4_findTwo 16 = .ok (.aload_n 0, 1) := by decide +kernel
theorem dX4_findTwo_17 : decode cX4_findTwo 17 = .ok (.getfield 33, 3) := by decide +kernel
theorem dX4_findTwo_20 : decode cX4_findTwo 20 = .ok (.iload_n 3, 1) := by decide +kernel
theorem dX4_findTwo_21 : decode cX4_findTwo 21 = .ok (.invokevirtual 76, 3) := by decide +kernel
theorem dX4_findTwo_24 : decode cX4_findTwo 24 = .ok (.istore 4, 2) := by decide +kernel
theorem dX4_findTwo_26 : decode cX4_findTwo 26 = .ok (.iload_n 1, 1) := by decide +kernel
theorem dX4_findTwo_27 : decode cX4_findTwo 27 = .ok (.iload_n 3, 1) := by decide +kernel
theorem dX4_findTwo_28 : decode cX4_findTwo 28 = .ok (.invokestatic 79, 3) := by decide +kernel
theorem dX4_findTwo_31 : decode cX4_findTwo 31 = .ok (.ifCond .eq 13, 3) := by decide +kernel
theorem dX4_findTwo_34 : decode cX4_findTwo 34 = .ok (.aload_n 0, 1) := by decide +kernel
theorem dX4_findTwo_35 : decode cX4_findTwo 35 = .ok (.getfield 25, 3) := by decide +kernel
theorem dX4_findTwo_38 : decode cX4_findTwo 38 = .ok (.getfield 82, 3) := by decide +kernel
theorem dX4_findTwo_41 : decode cX4_findTwo 41 = .ok (.goto 4, 3) := by decide +kernel
theorem dX4_findTwo_44 : decode cX4_findTwo 44 = .ok (.iconst (-1), 1) := by decide +kernel
theorem dX4_findTwo_45 : decode cX4_findTwo 45 = .ok (.istore 5, 2) := by decide +kernel
theorem dX4_findTwo_47 : decode cX4_findTwo 47 = .ok (.iconst 0, 1) := by decide +kernel
theorem dX4_findTwo_48 : decode cX4_findTwo 48 = .ok (.istore 6, 2) := by decide +kernel
theorem dX4_findTwo_50 : decode cX4_findTwo 50 = .ok (.iload 6, 2) := by decide +kernel
theorem dX4_findTwo_52 : decode cX4_findTwo 52 = .ok (.iload 5, 2) := by decide +kernel
theorem dX4_findTwo_54 : decode cX4_findTwo 54 = .ok (.if_icmp .gt 91, 3) := by decide +kernel
theorem dX4_findTwo_57 : decode cX4_findTwo 57 = .ok (.iload 6, 2) := by decide +kernel
theorem dX4_findTwo_59 : decode cX4_findTwo 59 = .ok (.iload 4, 2) := by decide +kernel
theorem dX4_findTwo_61 : decode cX4_findTwo 61 = .ok (.if_icmp .ne 6, 3) := by decide +kernel
theorem dX4_findTwo_64 : decode cX4_findTwo 64 = .ok (.goto 75, 3) := by decide +kernel
theorem dX4_findTwo_67 : decode cX4_findTwo 67 = .ok (.aload_n 0, 1) := by decide +kernel
theorem dX4_findTwo_68 : decode cX4_findTwo 68 = .ok (.iload_n 3, 1) := by decide +kernel
theorem dX4_findTwo_69 : decode cX4_findTwo 69 = .ok (.iload 6, 2) := by decide +kernel
theorem dX4_findTwo_71 : decode cX4_findTwo 71 = .ok (.invokevirtual 87, 3) := by decide +kernel
theorem dX4_findTwo_74 : decode cX4_findTwo 74 = .ok (.iload_n 2, 1) := by decide +kernel
theorem dX4_findTwo_75 : decode cX4_findTwo 75 = .ok (.ifCond .eq 24, 3) := by decide +kernel
theorem dX4_findTwo_78 : decode cX4_findTwo 78 = .ok (.aload_n 0, 1) := by decide +kernel
theorem dX4_findTwo_79 : decode cX4_findTwo 79 = .ok (.aload_n 0, 1) := by decide +kernel
theorem dX4_findTwo_80 : decode cX4_findTwo 80 = .ok (.getfield 12, 3) := by decide +kernel
theorem dX4_findTwo_83 : decode cX4_findTwo 83 = .ok (.iconst 0, 1) := by decide +kernel
theorem dX4_findTwo_84 : decode cX4_findTwo 84 = .ok (.invokevirtual 55, 3) := by decide +kernel
theorem dX4_findTwo_87 : decode cX4_findTwo 87 = .ok (.invokevirtual 59, 3) := by decide +kernel
theorem dX4_findTwo_90 : decode cX4_findTwo 90 = .ok (.iconst 1, 1) := by decide +kernel
theorem dX4_findTwo_91 : decode cX4_findTwo 91 = .ok (.iload_n 3, 1) := by decide +kernel
theorem dX4_findTwo_92 : decode cX4_findTwo 92 = .ok (.ishl, 1) := by decide +kernel
theorem dX4_findTwo_93 : decode cX4_findTwo 93 = .ok (.iconst (-1), 1) := by decide +kernel
theorem dX4_findTwo_94 : decode cX4_findTwo 94 = .ok (.ixor, 1) := by decide +kernel
theorem dX4_findTwo_95 : decode cX4_findTwo 95 = .ok (.iand, 1) := by decide +kernel
theorem dX4_findTwo_96 : decode cX4_findTwo 96 = .ok (.goto 7, 3) := by decide +kernel
theorem dX4_findTwo_99 : decode cX4_findTwo 99 = .ok (.iload_n 3, 1) := by decide +kernel
theorem dX4_findTwo_100 : decode cX4_findTwo 100 = .ok (.invokestatic 91, 3) := by decide +kernel
theorem dX4_findTwo_103 : decode cX4_findTwo 103 = .ok (.istore 7, 2) := by decide +kernel
theorem dX4_findTwo_105 : decode cX4_findTwo 105 = .ok (.aload_n 0, 1) := by decide +kernel
theorem dX4_findTwo_106 : decode cX4_findTwo 106 = .ok (.iload 7, 2) := by decide +kernel
theorem dX4_findTwo_108 : decode cX4_findTwo 108 = .ok (.iconst 1, 1) := by decide +kernel
theorem dX4_findTwo_109 : decode cX4_findTwo 109 = .ok (.invokevirtual 62, 3) := by decide +kernel
theorem dX4_findTwo_112 : decode cX4_findTwo 112 = .ok (.istore 8, 2) := by decide +kernel
theorem dX4_findTwo_114 : decode cX4_findTwo 114 = .ok (.aload_n 0, 1) := by decide +kernel
theorem dX4_findTwo_115 : decode cX4_findTwo 115 = .ok (.iload_n 3, 1) := by decide +kernel
theorem dX4_findTwo_116 : decode cX4_findTwo 116 = .ok (.iload 4, 2) := by decide +kernel
theorem dX4_findTwo_118 : decode cX4_findTwo 118 = .ok (.invokevirtual 87, 3) := by decide +kernel
theorem dX4_findTwo_121 : decode cX4_findTwo 121 = .ok (.iload 8, 2) := by decide +kernel
theorem dX4_findTwo_123 : decode cX4_findTwo 123 = .ok (.ifCond .eq 16, 3) := by decide +kernel
theorem dX4_findTwo_126 : decode cX4_findTwo 126 = .ok (.aload_n 0, 1) := by decide +kernel
theorem dX4_findTwo_127 : decode cX4_findTwo 127 = .ok (.getfield 21, 3) := by decide +kernel
theorem dX4_findTwo_130 : decode cX4_findTwo 130 = .ok (.iconst 0, 1) := by decide +kernel
theorem dX4_findTwo_131 : decode cX4_findTwo 131 = .ok (.iload_n 3, 1) := by decide +kernel
theorem dX4_findTwo_132 : decode cX4_findTwo 132 = .ok (.iload 6, 2) := by decide +kernel
theorem dX4_findTwo_134 : decode cX4_findTwo 134 = .ok (.invokevirtual 94, 3) := by decide +kernel
theorem dX4_findTwo_137 : decode cX4_findTwo 137 = .ok (.iconst 1, 1) := by decide +kernel
theorem dX4_findTwo_138 : decode cX4_findTwo 138 = .ok (.ireturn, 1) := by decide +kernel
theorem dX4_findTwo_139 : decode cX4_findTwo 139 = .ok (.iinc 6 1, 3) := by decide +kernel
theorem dX4_findTwo_142 : decode cX4_findTwo 142 = .ok (.goto (-92), 3) := by decide +kernel
theorem dX4_findTwo_145 : decode cX4_findTwo 145 = .ok (.iinc 3 1, 3) := by decide +kernel
theorem dX4_findTwo_148 : decode cX4_findTwo 148 = .ok (.goto (-146), 3) := by decide +kernel
theorem dX4_findTwo_151 : decode cX4_findTwo 151 = .ok (.iconst 0, 1) := by decide +kernel
theorem dX4_findTwo_152 : decode cX4_findTwo 152 = .ok (.ireturn, 1) := by decide +kernel
theorem dX4_change_0 : decode cX4_change 0 = .ok (.aload_n 0, 1) := by decide +kernel
theorem dX4_change_1 : decode cX4_change 1 = .ok (.getfield 33, 3) := by decide +kernel
theorem dX4_change_4 : decode cX4_change 4 = .ok (.iload_n 1, 1) := by decide +kernel
theorem dX4_change_5 : decode cX4_change 5 = .ok (.iload_n 2, 1) := by decide +kernel
theorem dX4_change_6 : decode cX4_change 6 = .ok (.invokevirtual 98, 3) := by decide +kernel
theorem dX4_change_9 : decode cX4_change 9 = .ok (.aload_n 0, 1) := by decide +kernel
theorem dX4_change_10 : decode cX4_change 10 = .ok (.getfield 12, 3) := by decide +kernel
theorem dX4_change_13 : decode cX4_change 13 = .ok (.iload_n 1, 1) := by decide +kernel
theorem dX4_change_14 : decode cX4_change 14 = .ok (.bipush 8, 2) := by decide +kernel
theorem dX4_change_16 : decode cX4_change 16 = .ok (.idiv, 1) := by decide +kernel
theorem dX4_change_17 : decode cX4_change 17 = .ok (.aload_n 0, 1) := by decide +kernel
theorem dX4_change_18 : decode cX4_change 18 = .ok (.getfield 41, 3) := by decide +kernel
theorem dX4_change_21 : decode cX4_change 21 = .ok (.iload_n 1, 1) := by decide +kernel
theorem dX4_change_22 : decode cX4_change 22 = .ok (.bipush 8, 2) := by decide +kernel
theorem dX4_change_24 : decode cX4_change 24 = .ok (.idiv, 1) := by decide +kernel
theorem dX4_change_25 : decode cX4_change 25 = .ok (.invokevirtual 100, 3) := by decide +kernel
theorem dX4_change_28 : decode cX4_change 28 = .ok (.invokevirtual 104, 3) := by decide +kernel
theorem dX4_change_31 : decode cX4_change 31 = .ok (.aload_n 0, 1) := by decide +kernel
theorem dX4_change_32 : decode cX4_change 32 = .ok (.getfield 12, 3) := by decide +kernel
theorem dX4_change_35 : decode cX4_change 35 = .ok (.iload_n 1, 1) := by decide +kernel
theorem dX4_change_36 : decode cX4_change 36 = .ok (.bipush 8, 2) := by decide +kernel
theorem dX4_change_38 : decode cX4_change 38 = .ok (.irem, 1) := by decide +kernel
theorem dX4_change_39 : decode cX4_change 39 = .ok (.aload_n 0, 1) := by decide +kernel
theorem dX4_change_40 : decode cX4_change 40 = .ok (.getfield 41, 3) := by decide +kernel
theorem dX4_change_43 : decode cX4_change 43 = .ok (.iload_n 1, 1) := by decide +kernel
theorem dX4_change_44 : decode cX4_change 44 = .ok (.bipush 8, 2) := by decide +kernel
theorem dX4_change_46 : decode cX4_change 46 = .ok (.irem, 1) := by decide +kernel
theorem dX4_change_47 : decode cX4_change 47 = .ok (.invokevirtual 108, 3) := by decide +kernel
theorem dX4_change_50 : decode cX4_change 50 = .ok (.invokevirtual 111, 3) := by decide +kernel
theorem dX4_change_53 : decode cX4_change 53 = .ok (.return_, 1) := by decide +kernel
theorem dX4_findLast_0 : decode cX4_findLast 0 = .ok (.iconst 0, 1) := by decide +kernel
theorem dX4_findLast_1 : decode cX4_findLast 1 = .ok (.istore_n 3, 1) := by decide +kernel
theorem dX4_findLast_2 : decode cX4_findLast 2 = .ok (.iload_n 3, 1) := by decide +kernel
theorem dX4_findLast_3 : decode cX4_findLast 3 = .ok (.aload_n 0, 1) := by decide +kernel
theorem dX4_findLast_4 : decode cX4_findLast 4 = .ok (.getfield 33, 3) := by decide +kernel
theorem dX4_findLast_7 : decode cX4_findLast 7 = .ok (.getfield 70, 3) := by decide +kernel
theorem dX4_findLast_10 : decode cX4_findLast 10 = .ok (.bipush 8, 2) := by decide +kernel
theorem dX4_findLast_12 : decode cX4_findLast 12 = .ok (.imul, 1) := by decide +kernel
theorem dX4_findLast_13 : decode cX4_findLast 13 = .ok (.if_icmp .ge 171, 3) := by decide +kernel
theorem dX4_findLast_16 : decode cX4_findLast 16 = .ok (.iload_n 1, 1) := by decide +kernel
theorem dX4_findLast_17 : decode cX4_findLast 17 = .ok (.iload_n 3, 1) := by decide +kernel
theorem dX4_findLast_18 : decode cX4_findLast 18 = .ok (.invokestatic 79, 3) := by decide +kernel
theorem dX4_findLast_21 : decode cX4_findLast 21 = .ok (.ifCond .eq 25, 3) := by decide +kernel
theorem dX4_findLast_24 : decode cX4_findLast 24 = .ok (.aload_n 0, 1) := by decide +kernel
theorem dX4_findLast_25 : decode cX4_findLast 25 = .ok (.getfield 12, 3) := by decide +kernel
theorem dX4_findLast_28 : decode cX4_findLast 28 = .ok (.iload_n 3, 1) := by decide +kernel
theorem dX4_findLast_29 : decode cX4_findLast 29 = .ok (.bipush 8, 2) := by decide +kernel
theorem dX4_findLast_31 : decode cX4_findLast 31 = .ok (.idiv, 1) := by decide +kernel
theorem dX4_findLast_32 : decode cX4_findLast 32 = .ok (.iload_n 3, 1) := by decide +kernel
theorem dX4_findLast_33 : decode cX4_findLast 33 = .ok (.bipush 8, 2) := by decide +kernel
theorem dX4_findLast_35 : decode cX4_findLast 35 = .ok (.irem, 1) := by decide +kernel
theorem dX4_findLast_36 : decode cX4_findLast 36 = .ok (.invokevirtual 114, 3) := by decide +kernel
theorem dX4_findLast_39 : decode cX4_findLast 39 = .ok (.ifCond .eq 7, 3) := by decide +kernel
theorem dX4_findLast_42 : decode cX4_findLast 42 = .ok (.iconst 1, 1) := by decide +kernel
theorem dX4_findLast_43 : decode cX4_findLast 43 = .ok (.goto 4, 3) := by decide +kernel
theorem dX4_findLast_46 : decode cX4_findLast 46 = .ok (.iconst 0, 1) := by decide +kernel
theorem dX4_findLast_47 : decode cX4_findLast 47 = .ok (.istore 4, 2) := by decide +kernel
theorem dX4_findLast_49 : decode cX4_findLast 49 = .ok (.aload_n 0, 1) := by decide +kernel
theorem dX4_findLast_50 : decode cX4_findLast 50 = .ok (.getfield 33, 3) := by decide +kernel
theorem dX4_findLast_53 : decode cX4_findLast 53 = .ok (.iload_n 3, 1) := by decide +kernel
theorem dX4_findLast_54 : decode cX4_findLast 54 = .ok (.invokevirtual 76, 3) := by decide +kernel
theorem dX4_findLast_57 : decode cX4_findLast 57 = .ok (.istore 5, 2) := by decide +kernel
theorem dX4_findLast_59 : decode cX4_findLast 59 = .ok (.iload 4, 2) := by decide +kernel
theorem dX4_findLast_61 : decode cX4_findLast 61 = .ok (.ifCond .eq 13, 3) := by decide +kernel
theorem dX4_findLast_64 : decode cX4_findLast 64 = .ok (.aload_n 0, 1) := by decide +kernel
theorem dX4_findLast_65 : decode cX4_findLast 65 = .ok (.getfield 25, 3) := by decide +kernel
theorem dX4_findLast_68 : decode cX4_findLast 68 = .ok (.getfield 82, 3) := by decide +kernel
theorem dX4_findLast_71 : decode cX4_findLast 71 = .ok (.goto 4, 3) := by decide +kernel
theorem dX4_findLast_74 : decode cX4_findLast 74 = .ok (.iconst (-1), 1) := by decide +kernel
theorem dX4_findLast_75 : decode cX4_findLast 75 = .ok (.istore 6, 2) := by decide +kernel
theorem dX4_findLast_77 : decode cX4_findLast 77 = .ok (.iconst 0, 1) := by decide +kernel
theorem dX4_findLast_78 : decode cX4_findLast 78 = .ok (.istore 7, 2) := by decide +kernel
theorem dX4_findLast_80 : decode cX4_findLast 80 = .ok (.iload 7, 2) := by decide +kernel
theorem dX4_findLast_82 : decode cX4_findLast 82 = .ok (.iload 6, 2) := by decide +kernel
theorem dX4_findLast_84 : decode cX4_findLast 84 = .ok (.if_icmp .gt 94, 3) := by decide +kernel
theorem dX4_findLast_87 : decode cX4_findLast 87 = .ok (.iload 7, 2) := by decide +kernel
theorem dX4_findLast_89 : decode cX4_findLast 89 = .ok (.iload 5, 2) := by decide +kernel
theorem dX4_findLast_91 : decode cX4_findLast 91 = .ok (.if_icmp .ne 6, 3) := by decide +kernel
theorem dX4_findLast_94 : decode cX4_findLast 94 = .ok (.goto 78, 3) := by decide +kernel
theorem dX4_findLast_97 : decode cX4_findLast 97 = .ok (.aload_n 0, 1) := by decide +kernel
theorem dX4_findLast_98 : decode cX4_findLast 98 = .ok (.getfield 33, 3) := by decide +kernel
theorem dX4_findLast_101 : decode cX4_findLast 101 = .ok (.iload_n 3, 1) := by decide +kernel
theorem dX4_findLast_102 : decode cX4_findLast 102 = .ok (.iload 7, 2) := by decide +kernel
theorem dX4_findLast_104 : decode cX4_findLast 104 = .ok (.invokevirtual 98, 3) := by decide +kernel
theorem dX4_findLast_107 : decode cX4_findLast 107 = .ok (.aload_n 0, 1) := by decide +kernel
theorem dX4_findLast_108 : decode cX4_findLast 108 = .ok (.getfield 41, 3) := by decide +kernel
theorem dX4_findLast_111 : decode cX4_findLast 111 = .ok (.iload_n 3, 1) := by decide +kernel
theorem dX4_findLast_112 : decode cX4_findLast 112 = .ok (.bipush 8, 2) := by decide +kernel
theorem dX4_findLast_114 : decode cX4_findLast 114 = .ok (.irem, 1) := by decide +kernel
theorem dX4_findLast_115 : decode cX4_findLast 115 = .ok (.invokevirtual 108, 3) := by decide +kernel
theorem dX4_findLast_118 : decode cX4_findLast 118 = .ok (.ifCond .ne 23, 3) := by decide +kernel
theorem dX4_findLast_121 : decode cX4_findLast 121 = .ok (.aload_n 0, 1) := by decide +kernel
theorem dX4_findLast_122 : decode cX4_findLast 122 = .ok (.getfield 41, 3) := by decide +kernel
theorem dX4_findLast_125 : decode cX4_findLast 125 = .ok (.iload_n 3, 1) := by decide +kernel
theorem dX4_findLast_126 : decode cX4_findLast 126 = .ok (.bipush 8, 2) := by decide +kernel
theorem dX4_findLast_128 : decode cX4_findLast 128 = .ok (.idiv, 1) := by decide +kernel
theorem dX4_findLast_129 : decode cX4_findLast 129 = .ok (.invokevirtual 100, 3) := by decide +kernel
theorem dX4_findLast_132 : decode cX4_findLast 132 = .ok (.lconst 0, 1) := by decide +kernel
theorem dX4_findLast_133 : decode cX4_findLast 133 = .ok (.lcmp, 1) := by decide +kernel
theorem dX4_findLast_134 : decode cX4_findLast 134 = .ok (.ifCond .ne 7, 3) := by decide +kernel
theorem dX4_findLast_137 : decode cX4_findLast 137 = .ok (.iconst 1, 1) := by decide +kernel
theorem dX4_findLast_138 : decode cX4_findLast 138 = .ok (.goto 4, 3) := by decide +kernel
theorem dX4_findLast_141 : decode cX4_findLast 141 = .ok (.iconst 0, 1) := by decide +kernel
theorem dX4_findLast_142 : decode cX4_findLast 142 = .ok (.istore 8, 2) := by decide +kernel
theorem dX4_findLast_144 : decode cX4_findLast 144 = .ok (.aload_n 0, 1) := by decide +kernel
theorem dX4_findLast_145 : decode cX4_findLast 145 = .ok (.getfield 33, 3) := by decide +kernel
theorem dX4_findLast_148 : decode cX4_findLast 148 = .ok (.iload_n 3, 1) := by decide +kernel
theorem dX4_findLast_149 : decode cX4_findLast 149 = .ok (.iload 5, 2) := by decide +kernel
theorem dX4_findLast_151 : decode cX4_findLast 151 = .ok (.invokevirtual 98, 3) := by decide +kernel
theorem dX4_findLast_154 : decode cX4_findLast 154 = .ok (.iload 8, 2) := by decide +kernel
theorem dX4_findLast_156 : decode cX4_findLast 156 = .ok (.ifCond .eq 16, 3) := by decide +kernel
theorem dX4_findLast_159 : decode cX4_findLast 159 = .ok (.aload_n 0, 1) := by decide +kernel
theorem dX4_findLast_160 : decode cX4_findLast 160 = .ok (.getfield 21, 3) := by decide +kernel
theorem dX4_findLast_163 : decode cX4_findLast 163 = .ok (.iload_n 2, 1) := by decide +kernel
theorem dX4_findLast_164 : decode cX4_findLast 164 = .ok (.iload_n 3, 1) := by decide +kernel
theorem dX4_findLast_165 : decode cX4_findLast 165 = .ok (.iload 7, 2) := by decide +kernel
theorem dX4_findLast_167 : decode cX4_findLast 167 = .ok (.invokevirtual 94, 3) := by decide +kernel
theorem dX4_findLast_170 : decode cX4_findLast 170 = .ok (.iconst 1, 1) := by decide +kernel
theorem dX4_findLast_171 : decode cX4_findLast 171 = .ok (.ireturn, 1) := by decide +kernel
theorem dX4_findLast_172 : decode cX4_findLast 172 = .ok (.iinc 7 1, 3) := by decide +kernel
theorem dX4_findLast_175 : decode cX4_findLast 175 = .ok (.goto (-95), 3) := by decide +kernel
theorem dX4_findLast_178 : decode cX4_findLast 178 = .ok (.iinc 3 1, 3) := by decide +kernel
theorem dX4_findLast_181 : decode cX4_findLast 181 = .ok (.goto (-179), 3) := by decide +kernel
theorem dX4_findLast_184 : decode cX4_findLast 184 = .ok (.iconst 0, 1) := by decide +kernel
theorem dX4_findLast_185 : decode cX4_findLast 185 = .ok (.ireturn, 1) := by decide +kernel
theorem dX4_has_0 : decode cX4_has 0 = .ok (.iload_n 0, 1) := by decide +kernel
theorem dX4_has_1 : decode cX4_has 1 = .ok (.iload_n 1, 1) := by decide +kernel
theorem dX4_has_2 : decode cX4_has 2 = .ok (.iushr, 1) := by decide +kernel
theorem dX4_has_3 : decode cX4_has 3 = .ok (.iconst 1, 1) := by decide +kernel
theorem dX4_has_4 : decode cX4_has 4 = .ok (.iand, 1) := by decide +kernel
theorem dX4_has_5 : decode cX4_has 5 = .ok (.iconst 1, 1) := by decide +kernel
theorem dX4_has_6 : decode cX4_has 6 = .ok (.if_icmp .ne 7, 3) := by decide +kernel
theorem dX4_has_9 : decode cX4_has 9 = .ok (.iconst 1, 1) := by decide +kernel
theorem dX4_has_10 : decode cX4_has 10 = .ok (.goto 4, 3) := by decide +kernel
theorem dX4_has_13 : decode cX4_has 13 = .ok (.iconst 0, 1) := by decide +kernel
theorem dX4_has_14 : decode cX4_has 14 = .ok (.ireturn, 1) := by decide +kernel
theorem dX4_cellsAfter_0 : decode cX4_cellsAfter 0 = .ok (.iconst (-1), 1) := by decide +kernel
theorem dX4_cellsAfter_1 : decode cX4_cellsAfter 1 = .ok (.iload_n 0, 1) := by decide +kernel
theorem dX4_cellsAfter_2 : decode cX4_cellsAfter 2 = .ok (.ishl, 1) := by decide +kernel
theorem dX4_cellsAfter_3 : decode cX4_cellsAfter 3 = .ok (.iconst 1, 1) := by decide +kernel
theorem dX4_cellsAfter_4 : decode cX4_cellsAfter 4 = .ok (.ishl, 1) := by decide +kernel
theorem dX4_cellsAfter_5 : decode cX4_cellsAfter 5 = .ok (.ireturn, 1) := by decide +kernel
theorem dX4_touching_0 : decode cX4_touching 0 = .ok (.iload_n 1, 1) := by decide +kernel
theorem dX4_touching_1 : decode cX4_touching 1 = .ok (.invokestatic 117, 3) := by decide +kernel
theorem dX4_touching_4 : decode cX4_touching 4 = .ok (.istore_n 2, 1) := by decide +kernel
theorem dX4_touching_5 : decode cX4_touching 5 = .ok (.iload_n 1, 1) := by decide +kernel
theorem dX4_touching_6 : decode cX4_touching 6 = .ok (.invokestatic 120, 3) := by decide +kernel
theorem dX4_touching_9 : decode cX4_touching 9 = .ok (.istore_n 3, 1) := by decide +kernel
theorem dX4_touching_10 : decode cX4_touching 10 = .ok (.iload_n 1, 1) := by decide +kernel
theorem dX4_touching_11 : decode cX4_touching 11 = .ok (.invokestatic 123, 3) := by decide +kernel
theorem dX4_touching_14 : decode cX4_touching 14 = .ok (.tableswitch 101 2 6 #[34, 49, 64, 79, 96], 34) := by decide +kernel
theorem dX4_touching_48 : decode cX4_touching 48 = .ok (.iload_n 3, 1) := by decide +kernel
theorem dX4_touching_49 : decode cX4_touching 49 = .ok (.aload_n 0, 1) := by decide +kernel
theorem dX4_touching_50 : decode cX4_touching 50 = .ok (.getfield 37, 3) := by decide +kernel
theorem dX4_touching_53 : decode cX4_touching 53 = .ok (.iload_n 3, 1) := by decide +kernel
theorem dX4_touching_54 : decode cX4_touching 54 = .ok (.iload_n 2, 1) := by decide +kernel
theorem dX4_touching_55 : decode cX4_touching 55 = .ok (.invokevirtual 126, 3) := by decide +kernel
theorem dX4_touching_58 : decode cX4_touching 58 = .ok (.iload_n 2, 1) := by decide +kernel
theorem dX4_touching_59 : decode cX4_touching 59 = .ok (.invokestatic 132, 3) := by decide +kernel
theorem dX4_touching_62 : decode cX4_touching 62 = .ok (.ireturn, 1) := by decide +kernel
theorem dX4_touching_63 : decode cX4_touching 63 = .ok (.iload_n 3, 1) := by decide +kernel
theorem dX4_touching_64 : decode cX4_touching 64 = .ok (.iload_n 2, 1) := by decide +kernel
theorem dX4_touching_65 : decode cX4_touching 65 = .ok (.aload_n 0, 1) := by decide +kernel
theorem dX4_touching_66 : decode cX4_touching 66 = .ok (.getfield 29, 3) := by decide +kernel
theorem dX4_touching_69 : decode cX4_touching 69 = .ok (.getfield 136, 3) := by decide +kernel
theorem dX4_touching_72 : decode cX4_touching 72 = .ok (.isub, 1) := by decide +kernel
theorem dX4_touching_73 : decode cX4_touching 73 = .ok (.iload_n 2, 1) := by decide +kernel
theorem dX4_touching_74 : decode cX4_touching 74 = .ok (.invokestatic 132, 3) := by decide +kernel
theorem dX4_touching_77 : decode cX4_touching 77 = .ok (.ireturn, 1) := by decide +kernel
theorem dX4_touching_78 : decode cX4_touching 78 = .ok (.iload_n 3, 1) := by decide +kernel
theorem dX4_touching_79 : decode cX4_touching 79 = .ok (.iload_n 2, 1) := by decide +kernel
theorem dX4_touching_80 : decode cX4_touching 80 = .ok (.aload_n 0, 1) := by decide +kernel
theorem dX4_touching_81 : decode cX4_touching 81 = .ok (.getfield 29, 3) := by decide +kernel
theorem dX4_touching_84 : decode cX4_touching 84 = .ok (.getfield 141, 3) := by decide +kernel
theorem dX4_touching_87 : decode cX4_touching 87 = .ok (.isub, 1) := by decide +kernel
theorem dX4_touching_88 : decode cX4_touching 88 = .ok (.iload_n 2, 1) := by decide +kernel
theorem dX4_touching_89 : decode cX4_touching 89 = .ok (.invokestatic 132, 3) := by decide +kernel
theorem dX4_touching_92 : decode cX4_touching 92 = .ok (.ireturn, 1) := by decide +kernel
theorem dX4_touching_93 : decode cX4_touching 93 = .ok (.iload_n 3, 1) := by decide +kernel
theorem dX4_touching_94 : decode cX4_touching 94 = .ok (.iload_n 2, 1) := by decide +kernel
theorem dX4_touching_95 : decode cX4_touching 95 = .ok (.iload_n 2, 1) := by decide +kernel
theorem dX4_touching_96 : decode cX4_touching 96 = .ok (.aload_n 0, 1) := by decide +kernel
theorem dX4_touching_97 : decode cX4_touching 97 = .ok (.getfield 29, 3) := by decide +kernel
theorem dX4_touching_100 : decode cX4_touching 100 = .ok (.getfield 144, 3) := by decide +kernel
theorem dX4_touching_103 : decode cX4_touching 103 = .ok (.iadd, 1) := by decide +kernel
theorem dX4_touching_104 : decode cX4_touching 104 = .ok (.iconst 1, 1) := by decide +kernel
theorem dX4_touching_105 : decode cX4_touching 105 = .ok (.isub, 1) := by decide +kernel
theorem dX4_touching_106 : decode cX4_touching 106 = .ok (.invokestatic 132, 3) := by decide +kernel
theorem dX4_touching_109 : decode cX4_touching 109 = .ok (.ireturn, 1) := by decide +kernel
theorem dX4_touching_110 : decode cX4_touching 110 = .ok (.iload_n 2, 1) := by decide +kernel
theorem dX4_touching_111 : decode cX4_touching 111 = .ok (.invokestatic 147, 3) := by decide +kernel
theorem dX4_touching_114 : decode cX4_touching 114 = .ok (.ireturn, 1) := by decide +kernel
theorem dX4_touching_115 : decode cX4_touching 115 = .ok (.iload_n 3, 1) := by decide +kernel
theorem dX4_touching_116 : decode cX4_touching 116 = .ok (.iload_n 2, 1) := by decide +kernel
theorem dX4_touching_117 : decode cX4_touching 117 = .ok (.iload_n 2, 1) := by decide +kernel
theorem dX4_touching_118 : decode cX4_touching 118 = .ok (.invokestatic 132, 3) := by decide +kernel
theorem dX4_touching_121 : decode cX4_touching 121 = .ok (.ireturn, 1) := by decide +kernel
theorem dX4_cellsOf_0 : decode cX4_cellsOf 0 = .ok (.iconst 0, 1) := by decide +kernel
theorem dX4_cellsOf_1 : decode cX4_cellsOf 1 = .ok (.istore_n 3, 1) := by decide +kernel
theorem dX4_cellsOf_2 : decode cX4_cellsOf 2 = .ok (.iload_n 1, 1) := by decide +kernel
theorem dX4_cellsOf_3 : decode cX4_cellsOf 3 = .ok (.iconst 0, 1) := by decide +kernel
theorem dX4_cellsOf_4 : decode cX4_cellsOf 4 = .ok (.invokestatic 150, 3) := by decide +kernel
theorem dX4_cellsOf_7 : decode cX4_cellsOf 7 = .ok (.istore 4, 2) := by decide +kernel
theorem dX4_cellsOf_9 : decode cX4_cellsOf 9 = .ok (.iload 4, 2) := by decide +kernel
theorem dX4_cellsOf_11 : decode cX4_cellsOf 11 = .ok (.iload_n 2, 1) := by decide +kernel
theorem dX4_cellsOf_12 : decode cX4_cellsOf 12 = .ok (.if_icmp .gt 27, 3) := by decide +kernel
theorem dX4_cellsOf_15 : decode cX4_cellsOf 15 = .ok (.iload 4, 2) := by decide +kernel
theorem dX4_cellsOf_17 : decode cX4_cellsOf 17 = .ok (.bipush 8, 2) := by decide +kernel
theorem dX4_cellsOf_19 : decode cX4_cellsOf 19 = .ok (.if_icmp .ge 20, 3) := by decide +kernel
theorem dX4_cellsOf_22 : decode cX4_cellsOf 22 = .ok (.iload_n 3, 1) := by decide +kernel
theorem dX4_cellsOf_23 : decode cX4_cellsOf 23 = .ok (.iconst 1, 1) := by decide +kernel
theorem dX4_cellsOf_24 : decode cX4_cellsOf 24 = .ok (.iload_n 0, 1) := by decide +kernel
theorem dX4_cellsOf_25 : decode cX4_cellsOf 25 = .ok (.iload 4, 2) := by decide +kernel
theorem dX4_cellsOf_27 : decode cX4_cellsOf 27 = .ok (.invokestatic 155, 3) := by decide +kernel
theorem dX4_cellsOf_30 : decode cX4_cellsOf 30 = .ok (.ishl, 1) := by decide +kernel
theorem dX4_cellsOf_31 : decode cX4_cellsOf 31 = .ok (.ior, 1) := by decide +kernel
theorem dX4_cellsOf_32 : decode cX4_cellsOf 32 = .ok (.istore_n 3, 1) := by decide +kernel
theorem dX4_cellsOf_33 : decode cX4_cellsOf 33 = .ok (.iinc 4 1, 3) := by decide +kernel
theorem dX4_cellsOf_36 : decode cX4_cellsOf 36 = .ok (.goto (-27), 3) := by decide +kernel
theorem dX4_cellsOf_39 : decode cX4_cellsOf 39 = .ok (.iload_n 3, 1) := by decide +kernel
theorem dX4_cellsOf_40 : decode cX4_cellsOf 40 = .ok (.ireturn, 1) := by decide +kernel
theorem dX4_cellsOfDay_0 : decode cX4_cellsOfDay 0 = .ok (.iconst 0, 1) := by decide +kernel
theorem dX4_cellsOfDay_1 : decode cX4_cellsOfDay 1 = .ok (.istore_n 1, 1) := by decide +kernel
theorem dX4_cellsOfDay_2 : decode cX4_cellsOfDay 2 = .ok (.iconst 0, 1) := by decide +kernel
theorem dX4_cellsOfDay_3 : decode cX4_cellsOfDay 3 = .ok (.istore_n 2, 1) := by decide +kernel
theorem dX4_cellsOfDay_4 : decode cX4_cellsOfDay 4 = .ok (.iload_n 2, 1) := by decide +kernel
theorem dX4_cellsOfDay_5 : decode cX4_cellsOfDay 5 = .ok (.iconst 4, 1) := by decide +kernel
theorem dX4_cellsOfDay_6 : decode cX4_cellsOfDay 6 = .ok (.if_icmp .ge 19, 3) := by decide +kernel
theorem dX4_cellsOfDay_9 : decode cX4_cellsOfDay 9 = .ok (.iload_n 1, 1) := by decide +kernel
theorem dX4_cellsOfDay_10 : decode cX4_cellsOfDay 10 = .ok (.iconst 1, 1) := by decide +kernel
theorem dX4_cellsOfDay_11 : decode cX4_cellsOfDay 11 = .ok (.iload_n 2, 1) := by decide +kernel
theorem dX4_cellsOfDay_12 : decode cX4_cellsOfDay 12 = .ok (.iload_n 0, 1) := by decide +kernel
theorem dX4_cellsOfDay_13 : decode cX4_cellsOfDay 13 = .ok (.invokestatic 155, 3) := by decide +kernel
theorem dX4_cellsOfDay_16 : decode cX4_cellsOfDay 16 = .ok (.ishl, 1) := by decide +kernel
theorem dX4_cellsOfDay_17 : decode cX4_cellsOfDay 17 = .ok (.ior, 1) := by decide +kernel
theorem dX4_cellsOfDay_18 : decode cX4_cellsOfDay 18 = .ok (.istore_n 1, 1) := by decide +kernel
theorem dX4_cellsOfDay_19 : decode cX4_cellsOfDay 19 = .ok (.iinc 2 1, 3) := by decide +kernel
theorem dX4_cellsOfDay_22 : decode cX4_cellsOfDay 22 = .ok (.goto (-18), 3) := by decide +kernel
theorem dX4_cellsOfDay_25 : decode cX4_cellsOfDay 25 = .ok (.iload_n 1, 1) := by decide +kernel
theorem dX4_cellsOfDay_26 : decode cX4_cellsOfDay 26 = .ok (.ireturn, 1) := by decide +kernel
theorem dX5_init_0 : decode cX5_init 0 = .ok (.aload_n 0, 1) := by decide +kernel
theorem dX5_init_1 : decode cX5_init 1 = .ok (.invokespecial 3, 3) := by decide +kernel
theorem dX5_init_4 : decode cX5_init 4 = .ok (.aload_n 0, 1) := by decide +kernel
theorem dX5_init_5 : decode cX5_init 5 = .ok (.bipush 32, 2) := by decide +kernel
theorem dX5_init_7 : decode cX5_init 7 = .ok (.newarray .int, 2) := by decide +kernel
theorem dX5_init_9 : decode cX5_init 9 = .ok (.putfield 9, 3) := by decide +kernel
theorem dX5_init_12 : decode cX5_init 12 = .ok (.aload_n 0, 1) := by decide +kernel
theorem dX5_init_13 : decode cX5_init 13 = .ok (.bipush 32, 2) := by decide +kernel
theorem dX5_init_15 : decode cX5_init 15 = .ok (.newarray .boolean, 2) := by decide +kernel
theorem dX5_init_17 : decode cX5_init 17 = .ok (.putfield 15, 3) := by decide +kernel
theorem dX5_init_20 : decode cX5_init 20 = .ok (.aload_n 0, 1) := by decide +kernel
theorem dX5_init_21 : decode cX5_init 21 = .ok (.bipush 12, 2) := by decide +kernel
theorem dX5_init_23 : decode cX5_init 23 = .ok (.newarray .boolean, 2) := by decide +kernel
theorem dX5_init_25 : decode cX5_init 25 = .ok (.putfield 19, 3) := by decide +kernel
theorem dX5_init_28 : decode cX5_init 28 = .ok (.aload_n 0, 1) := by decide +kernel
theorem dX5_init_29 : decode cX5_init 29 = .ok (.bipush 24, 2) := by decide +kernel
theorem dX5_init_31 : decode cX5_init 31 = .ok (.newarray .int, 2) := by decide +kernel
theorem dX5_init_33 : decode cX5_init 33 = .ok (.putfield 22, 3) := by decide +kernel
theorem dX5_init_36 : decode cX5_init 36 = .ok (.aload_n 0, 1) := by decide +kernel
theorem dX5_init_37 : decode cX5_init 37 = .ok (.iconst 0, 1) := by decide +kernel
theorem dX5_init_38 : decode cX5_init 38 = .ok (.putfield 25, 3) := by decide +kernel
theorem dX5_init_41 : decode cX5_init 41 = .ok (.return_, 1) := by decide +kernel
theorem dX5_hasPerson_0 : decode cX5_hasPerson 0 = .ok (.iload_n 1, 1) := by decide +kernel
theorem dX5_hasPerson_1 : decode cX5_hasPerson 1 = .ok (.ifCond .lt 20, 3) := by decide +kernel
theorem dX5_hasPerson_4 : decode cX5_hasPerson 4 = .ok (.iload_n 1, 1) := by decide +kernel
theorem dX5_hasPerson_5 : decode cX5_hasPerson 5 = .ok (.aload_n 0, 1) := by decide +kernel
theorem dX5_hasPerson_6 : decode cX5_hasPerson 6 = .ok (.getfield 25, 3) := by decide +kernel
theorem dX5_hasPerson_9 : decode cX5_hasPerson 9 = .ok (.if_icmp .ge 12, 3) := by decide +kernel
theorem dX5_hasPerson_12 : decode cX5_hasPerson 12 = .ok (.iload_n 1, 1) := by decide +kernel
theorem dX5_hasPerson_13 : decode cX5_hasPerson 13 = .ok (.iconst 4, 1) := by decide +kernel
theorem dX5_hasPerson_14 : decode cX5_hasPerson 14 = .ok (.if_icmp .ge 7, 3) := by decide +kernel
theorem dX5_hasPerson_17 : decode cX5_hasPerson 17 = .ok (.iconst 1, 1) := by decide +kernel
theorem dX5_hasPerson_18 : decode cX5_hasPerson 18 = .ok (.goto 4, 3) := by decide +kernel
theorem dX5_hasPerson_21 : decode cX5_hasPerson 21 = .ok (.iconst 0, 1) := by decide +kernel
theorem dX5_hasPerson_22 : decode cX5_hasPerson 22 = .ok (.ireturn, 1) := by decide +kernel
theorem dX5_shiftAt_0 : decode cX5_shiftAt 0 = .ok (.iload_n 1, 1) := by decide +kernel
theorem dX5_shiftAt_1 : decode cX5_shiftAt 1 = .ok (.iload_n 2, 1) := by decide +kernel
theorem dX5_shiftAt_2 : decode cX5_shiftAt 2 = .ok (.invokestatic 29, 3) := by decide +kernel
theorem dX5_shiftAt_5 : decode cX5_shiftAt 5 = .ok (.istore_n 3, 1) := by decide +kernel
theorem dX5_shiftAt_6 : decode cX5_shiftAt 6 = .ok (.iload_n 3, 1) := by decide +kernel
theorem dX5_shiftAt_7 : decode cX5_shiftAt 7 = .ok (.ifCond .lt 20, 3) := by decide +kernel
theorem dX5_shiftAt_10 : decode cX5_shiftAt 10 = .ok (.iload_n 3, 1) := by decide +kernel
theorem dX5_shiftAt_11 : decode cX5_shiftAt 11 = .ok (.bipush 32, 2) := by decide +kernel
theorem dX5_shiftAt_13 : decode cX5_shiftAt 13 = .ok (.if_icmp .ge 14, 3) := by decide +kernel
theorem dX5_shiftAt_16 : decode cX5_shiftAt 16 = .ok (.aload_n 0, 1) := by decide +kernel
theorem dX5_shiftAt_17 : decode cX5_shiftAt 17 = .ok (.getfield 9, 3) := by decide +kernel
theorem dX5_shiftAt_20 : decode cX5_shiftAt 20 = .ok (.iload_n 3, 1) := by decide +kernel
theorem dX5_shiftAt_21 : decode cX5_shiftAt 21 = .ok (.iaload, 1) := by decide +kernel
theorem dX5_shiftAt_22 : decode cX5_shiftAt 22 = .ok (.iconst 1, 1) := by decide +kernel
theorem dX5_shiftAt_23 : decode cX5_shiftAt 23 = .ok (.isub, 1) := by decide +kernel
theorem dX5_shiftAt_24 : decode cX5_shiftAt 24 = .ok (.goto 4, 3) := by decide +kernel
theorem dX5_shiftAt_27 : decode cX5_shiftAt 27 = .ok (.iconst (-1), 1) := by decide +kernel
theorem dX5_shiftAt_28 : decode cX5_shiftAt 28 = .ok (.ireturn, 1) := by decide +kernel
theorem dX5_valueAt_0 : decode cX5_valueAt 0 = .ok (.iload_n 1, 1) := by decide +kernel
theorem dX5_valueAt_1 : decode cX5_valueAt 1 = .ok (.ifCond .lt 18, 3) := by decide +kernel
theorem dX5_valueAt_4 : decode cX5_valueAt 4 = .ok (.iload_n 1, 1) := by decide +kernel
theorem dX5_valueAt_5 : decode cX5_valueAt 5 = .ok (.bipush 32, 2) := by decide +kernel
theorem dX5_valueAt_7 : decode cX5_valueAt 7 = .ok (.if_icmp .ge 12, 3) := by decide +kernel
theorem dX5_valueAt_10 : decode cX5_valueAt 10 = .ok (.aload_n 0, 1) := by decide +kernel
theorem dX5_valueAt_11 : decode cX5_valueAt 11 = .ok (.getfield 9, 3) := by decide +kernel
theorem dX5_valueAt_14 : decode cX5_valueAt 14 = .ok (.iload_n 1, 1) := by decide +kernel
theorem dX5_valueAt_15 : decode cX5_valueAt 15 = .ok (.iaload, 1) := by decide +kernel
theorem dX5_valueAt_16 : decode cX5_valueAt 16 = .ok (.goto 4, 3) := by decide +kernel
theorem dX5_valueAt_19 : decode cX5_valueAt 19 = .ok (.iconst 0, 1) := by decide +kernel
theorem dX5_valueAt_20 : decode cX5_valueAt 20 = .ok (.ireturn, 1) := by decide +kernel
theorem dX5_put_0 : decode cX5_put 0 = .ok (.iload_n 1, 1) := by decide +kernel
theorem dX5_put_1 : decode cX5_put 1 = .ok (.ifCond .lt 18, 3) := by decide +kernel
theorem dX5_put_4 : decode cX5_put 4 = .ok (.iload_n 1, 1) := by decide +kernel
theorem dX5_put_5 : decode cX5_put 5 = .ok (.bipush 32, 2) := by decide +kernel
theorem dX5_put_7 : decode cX5_put 7 = .ok (.if_icmp .ge 12, 3) := by decide +kernel
theorem dX5_put_10 : decode cX5_put 10 = .ok (.iload_n 2, 1) := by decide +kernel
theorem dX5_put_11 : decode cX5_put 11 = .ok (.ifCond .lt 8, 3) := by decide +kernel
theorem dX5_put_14 : decode cX5_put 14 = .ok (.iload_n 2, 1) := by decide +kernel
theorem dX5_put_15 : decode cX5_put 15 = .ok (.iconst 3, 1) := by decide +kernel
theorem dX5_put_16 : decode cX5_put 16 = .ok (.if_icmp .le 4, 3) := by decide +kernel
theorem dX5_put_19 : decode cX5_put 19 = .ok (.return_, 1) := by decide +kernel
theorem dX5_put_20 : decode cX5_put 20 = .ok (.aload_n 0, 1) := by decide +kernel
theorem dX5_put_21 : decode cX5_put 21 = .ok (.iload_n 1, 1) := by decide +kernel
theorem dX5_put_22 : decode cX5_put 22 = .ok (.bipush 8, 2) := by decide +kernel
theorem dX5_put_24 : decode cX5_put 24 = .ok (.irem, 1) := by decide +kernel
theorem dX5_put_25 : decode cX5_put 25 = .ok (.aload_n 0, 1) := by decide +kernel
theorem dX5_put_26 : decode cX5_put 26 = .ok (.getfield 9, 3) := by decide +kernel
theorem dX5_put_29 : decode cX5_put 29 = .ok (.iload_n 1, 1) := by decide +kernel
theorem dX5_put_30 : decode cX5_put 30 = .ok (.iaload, 1) := by decide +kernel
theorem dX5_put_31 : decode cX5_put 31 = .ok (.iconst 1, 1) := by decide +kernel
theorem dX5_put_32 : decode cX5_put 32 = .ok (.isub, 1) := by decide +kernel
theorem dX5_put_33 : decode cX5_put 33 = .ok (.iconst (-1), 1) := by decide +kernel
theorem dX5_put_34 : decode cX5_put 34 = .ok (.invokevirtual 33, 3) := by decide +kernel
theorem dX5_put_37 : decode cX5_put 37 = .ok (.aload_n 0, 1) := by decide +kernel
theorem dX5_put_38 : decode cX5_put 38 = .ok (.getfield 9, 3) := by decide +kernel
theorem dX5_put_41 : decode cX5_put 41 = .ok (.iload_n 1, 1) := by decide +kernel
theorem dX5_put_42 : decode cX5_put 42 = .ok (.iload_n 2, 1) := by decide +kernel
theorem dX5_put_43 : decode cX5_put 43 = .ok (.iastore, 1) := by decide +kernel
theorem dX5_put_44 : decode cX5_put 44 = .ok (.aload_n 0, 1) := by decide +kernel
theorem dX5_put_45 : decode cX5_put 45 = .ok (.iload_n 1, 1) := by decide +kernel
theorem dX5_put_46 : decode cX5_put 46 = .ok (.bipush 8, 2) := by decide +kernel
theorem dX5_put_48 : decode cX5_put 48 = .ok (.irem, 1) := by decide +kernel
theorem dX5_put_49 : decode cX5_put 49 = .ok (.iload_n 2, 1) := by decide +kernel
theorem dX5_put_50 : decode cX5_put 50 = .ok (.iconst 1, 1) := by decide +kernel
theorem dX5_put_51 : decode cX5_put 51 = .ok (.isub, 1) := by decide +kernel
theorem dX5_put_52 : decode cX5_put 52 = .ok (.iconst 1, 1) := by decide +kernel
theorem dX5_put_53 : decode cX5_put 53 = .ok (.invokevirtual 33, 3) := by decide +kernel
theorem dX5_put_56 : decode cX5_put 56 = .ok (.return_, 1) := by decide +kernel
theorem dX5_countStaff_0 : decode cX5_countStaff 0 = .ok (.iload_n 1, 1) := by decide +kernel
theorem dX5_countStaff_1 : decode cX5_countStaff 1 = .ok (.iload_n 2, 1) := by decide +kernel
theorem dX5_countStaff_2 : decode cX5_countStaff 2 = .ok (.invokestatic 37, 3) := by decide +kernel
theorem dX5_countStaff_5 : decode cX5_countStaff 5 = .ok (.istore 4, 2) := by decide +kernel
theorem dX5_countStaff_7 : decode cX5_countStaff 7 = .ok (.iload 4, 2) := by decide +kernel
theorem dX5_countStaff_9 : decode cX5_countStaff 9 = .ok (.ifCond .lt 21, 3) := by decide +kernel
theorem dX5_countStaff_12 : decode cX5_countStaff 12 = .ok (.iload 4, 2) := by decide +kernel
theorem dX5_countStaff_14 : decode cX5_countStaff 14 = .ok (.bipush 24, 2) := by decide +kernel
theorem dX5_countStaff_16 : decode cX5_countStaff 16 = .ok (.if_icmp .ge 14, 3) := by decide +kernel
theorem dX5_countStaff_19 : decode cX5_countStaff 19 = .ok (.aload_n 0, 1) := by decide +kernel
theorem dX5_countStaff_20 : decode cX5_countStaff 20 = .ok (.getfield 22, 3) := by decide +kernel
theorem dX5_countStaff_23 : decode cX5_countStaff 23 = .ok (.iload 4, 2) := by decide +kernel
theorem dX5_countStaff_25 : decode cX5_countStaff 25 = .ok (.dup2, 1) := by decide +kernel
theorem dX5_countStaff_26 : decode cX5_countStaff 26 = .ok (.iaload, 1) := by decide +kernel
theorem dX5_countStaff_27 : decode cX5_countStaff 27 = .ok (.iload_n 3, 1) := by decide +kernel
theorem dX5_countStaff_28 : decode cX5_countStaff 28 = .ok (.iadd, 1) := by decide +kernel
theorem dX5_countStaff_29 : decode cX5_countStaff 29 = .ok (.iastore, 1) := by decide +kernel
theorem dX5_countStaff_30 : decode cX5_countStaff 30 = .ok (.return_, 1) := by decide +kernel
theorem dX5_staffAt_0 : decode cX5_staffAt 0 = .ok (.iload_n 1, 1) := by decide +kernel
theorem dX5_staffAt_1 : decode cX5_staffAt 1 = .ok (.iload_n 2, 1) := by decide +kernel
theorem dX5_staffAt_2 : decode cX5_staffAt 2 = .ok (.invokestatic 37, 3) := by decide +kernel
theorem dX5_staffAt_5 : decode cX5_staffAt 5 = .ok (.istore_n 3, 1) := by decide +kernel
theorem dX5_staffAt_6 : decode cX5_staffAt 6 = .ok (.iload_n 3, 1) := by decide +kernel
theorem dX5_staffAt_7 : decode cX5_staffAt 7 = .ok (.ifCond .lt 18, 3) := by decide +kernel
theorem dX5_staffAt_10 : decode cX5_staffAt 10 = .ok (.iload_n 3, 1) := by decide +kernel
theorem dX5_staffAt_11 : decode cX5_staffAt 11 = .ok (.bipush 24, 2) := by decide +kernel
theorem dX5_staffAt_13 : decode cX5_staffAt 13 = .ok (.if_icmp .ge 12, 3) := by decide +kernel
theorem dX5_staffAt_16 : decode cX5_staffAt 16 = .ok (.aload_n 0, 1) := by decide +kernel
theorem dX5_staffAt_17 : decode cX5_staffAt 17 = .ok (.getfield 22, 3) := by decide +kernel
theorem dX5_staffAt_20 : decode cX5_staffAt 20 = .ok (.iload_n 3, 1) := by decide +kernel
theorem dX5_staffAt_21 : decode cX5_staffAt 21 = .ok (.iaload, 1) := by decide +kernel
theorem dX5_staffAt_22 : decode cX5_staffAt 22 = .ok (.goto 4, 3) := by decide +kernel
theorem dX5_staffAt_25 : decode cX5_staffAt 25 = .ok (.iconst 0, 1) := by decide +kernel
theorem dX5_staffAt_26 : decode cX5_staffAt 26 = .ok (.ireturn, 1) := by decide +kernel
theorem dX5_exchange_0 : decode cX5_exchange 0 = .ok (.aload_n 0, 1) := by decide +kernel
theorem dX5_exchange_1 : decode cX5_exchange 1 = .ok (.iload_n 1, 1) := by decide +kernel
theorem dX5_exchange_2 : decode cX5_exchange 2 = .ok (.iload_n 3, 1) := by decide +kernel
theorem dX5_exchange_3 : decode cX5_exchange 3 = .ok (.invokevirtual 40, 3) := by decide +kernel
theorem dX5_exchange_6 : decode cX5_exchange 6 = .ok (.iconst 1, 1) := by decide +kernel
theorem dX5_exchange_7 : decode cX5_exchange 7 = .ok (.iadd, 1) := by decide +kernel
theorem dX5_exchange_8 : decode cX5_exchange 8 = .ok (.istore 4, 2) := by decide +kernel
theorem dX5_exchange_10 : decode cX5_exchange 10 = .ok (.aload_n 0, 1) := by decide +kernel
theorem dX5_exchange_11 : decode cX5_exchange 11 = .ok (.iload_n 2, 1) := by decide +kernel
theorem dX5_exchange_12 : decode cX5_exchange 12 = .ok (.iload_n 3, 1) := by decide +kernel
theorem dX5_exchange_13 : decode cX5_exchange 13 = .ok (.invokevirtual 40, 3) := by decide +kernel
theorem dX5_exchange_16 : decode cX5_exchange 16 = .ok (.iconst 1, 1) := by decide +kernel
theorem dX5_exchange_17 : decode cX5_exchange 17 = .ok (.iadd, 1) := by decide +kernel
theorem dX5_exchange_18 : decode cX5_exchange 18 = .ok (.istore 5, 2) := by decide +kernel
theorem dX5_exchange_20 : decode cX5_exchange 20 = .ok (.aload_n 0, 1) := by decide +kernel
theorem dX5_exchange_21 : decode cX5_exchange 21 = .ok (.iload_n 1, 1) := by decide +kernel
theorem dX5_exchange_22 : decode cX5_exchange 22 = .ok (.iload_n 3, 1) := by decide +kernel
theorem dX5_exchange_23 : decode cX5_exchange 23 = .ok (.invokestatic 29, 3) := by decide +kernel
theorem dX5_exchange_26 : decode cX5_exchange 26 = .ok (.iload 5, 2) := by decide +kernel
theorem dX5_exchange_28 : decode cX5_exchange 28 = .ok (.invokevirtual 43, 3) := by decide +kernel
theorem dX5_exchange_31 : decode cX5_exchange 31 = .ok (.aload_n 0, 1) := by decide +kernel
theorem dX5_exchange_32 : decode cX5_exchange 32 = .ok (.iload_n 2, 1) := by decide +kernel
theorem dX5_exchange_33 : decode cX5_exchange 33 = .ok (.iload_n 3, 1) := by decide +kernel
theorem dX5_exchange_34 : decode cX5_exchange 34 = .ok (.invokestatic 29, 3) := by decide +kernel
theorem dX5_exchange_37 : decode cX5_exchange 37 = .ok (.iload 4, 2) := by decide +kernel
theorem dX5_exchange_39 : decode cX5_exchange 39 = .ok (.invokevirtual 43, 3) := by decide +kernel
theorem dX5_exchange_42 : decode cX5_exchange 42 = .ok (.return_, 1) := by decide +kernel
theorem dX5_isAway_0 : decode cX5_isAway 0 = .ok (.iload_n 1, 1) := by decide +kernel
theorem dX5_isAway_1 : decode cX5_isAway 1 = .ok (.iload_n 2, 1) := by decide +kernel
theorem dX5_isAway_2 : decode cX5_isAway 2 = .ok (.invokestatic 29, 3) := by decide +kernel
theorem dX5_isAway_5 : decode cX5_isAway 5 = .ok (.istore_n 3, 1) := by decide +kernel
theorem dX5_isAway_6 : decode cX5_isAway 6 = .ok (.iload_n 3, 1) := by decide +kernel
theorem dX5_isAway_7 : decode cX5_isAway 7 = .ok (.ifCond .lt 22, 3) := by decide +kernel
theorem dX5_isAway_10 : decode cX5_isAway 10 = .ok (.iload_n 3, 1) := by decide +kernel
theorem dX5_isAway_11 : decode cX5_isAway 11 = .ok (.bipush 32, 2) := by decide +kernel
theorem dX5_isAway_13 : decode cX5_isAway 13 = .ok (.if_icmp .ge 16, 3) := by decide +kernel
theorem dX5_isAway_16 : decode cX5_isAway 16 = .ok (.aload_n 0, 1) := by decide +kernel
theorem dX5_isAway_17 : decode cX5_isAway 17 = .ok (.getfield 15, 3) := by decide +kernel
theorem dX5_isAway_20 : decode cX5_isAway 20 = .ok (.iload_n 3, 1) := by decide +kernel
theorem dX5_isAway_21 : decode cX5_isAway 21 = .ok (.baload, 1) := by decide +kernel
theorem dX5_isAway_22 : decode cX5_isAway 22 = .ok (.ifCond .eq 7, 3) := by decide +kernel
theorem dX5_isAway_25 : decode cX5_isAway 25 = .ok (.iconst 1, 1) := by decide +kernel
theorem dX5_isAway_26 : decode cX5_isAway 26 = .ok (.goto 4, 3) := by decide +kernel
theorem dX5_isAway_29 : decode cX5_isAway 29 = .ok (.iconst 0, 1) := by decide +kernel
theorem dX5_isAway_30 : decode cX5_isAway 30 = .ok (.ireturn, 1) := by decide +kernel
theorem dX5_putAway_0 : decode cX5_putAway 0 = .ok (.iload_n 1, 1) := by decide +kernel
theorem dX5_putAway_1 : decode cX5_putAway 1 = .ok (.iload_n 2, 1) := by decide +kernel
theorem dX5_putAway_2 : decode cX5_putAway 2 = .ok (.invokestatic 29, 3) := by decide +kernel
theorem dX5_putAway_5 : decode cX5_putAway 5 = .ok (.istore 4, 2) := by decide +kernel
theorem dX5_putAway_7 : decode cX5_putAway 7 = .ok (.iload 4, 2) := by decide +kernel
theorem dX5_putAway_9 : decode cX5_putAway 9 = .ok (.ifCond .lt 18, 3) := by decide +kernel
theorem dX5_putAway_12 : decode cX5_putAway 12 = .ok (.iload 4, 2) := by decide +kernel
theorem dX5_putAway_14 : decode cX5_putAway 14 = .ok (.bipush 32, 2) := by decide +kernel
theorem dX5_putAway_16 : decode cX5_putAway 16 = .ok (.if_icmp .ge 11, 3) := by decide +kernel
theorem dX5_putAway_19 : decode cX5_putAway 19 = .ok (.aload_n 0, 1) := by decide +kernel
theorem dX5_putAway_20 : decode cX5_putAway 20 = .ok (.getfield 15, 3) := by decide +kernel
theorem dX5_putAway_23 : decode cX5_putAway 23 = .ok (.iload 4, 2) := by decide +kernel
theorem dX5_putAway_25 : decode cX5_putAway 25 = .ok (.iload_n 3, 1) := by decide +kernel
theorem dX5_putAway_26 : decode cX5_putAway 26 = .ok (.bastore, 1) := by decide +kernel
theorem dX5_putAway_27 : decode cX5_putAway 27 = .ok (.return_, 1) := by decide +kernel
theorem dX5_hasSkill_0 : decode cX5_hasSkill 0 = .ok (.iload_n 1, 1) := by decide +kernel
theorem dX5_hasSkill_1 : decode cX5_hasSkill 1 = .ok (.iload_n 2, 1) := by decide +kernel
theorem dX5_hasSkill_2 : decode cX5_hasSkill 2 = .ok (.invokestatic 47, 3) := by decide +kernel
theorem dX5_hasSkill_5 : decode cX5_hasSkill 5 = .ok (.istore_n 3, 1) := by decide +kernel
theorem dX5_hasSkill_6 : decode cX5_hasSkill 6 = .ok (.iload_n 3, 1) := by decide +kernel
theorem dX5_hasSkill_7 : decode cX5_hasSkill 7 = .ok (.ifCond .lt 25, 3) := by decide +kernel
theorem dX5_hasSkill_10 : decode cX5_hasSkill 10 = .ok (.iload_n 3, 1) := by decide +kernel
theorem dX5_hasSkill_11 : decode cX5_hasSkill 11 = .ok (.aload_n 0, 1) := by decide +kernel
theorem dX5_hasSkill_12 : decode cX5_hasSkill 12 = .ok (.getfield 19, 3) := by decide +kernel
theorem dX5_hasSkill_15 : decode cX5_hasSkill 15 = .ok (.arraylength, 1) := by decide +kernel
theorem dX5_hasSkill_16 : decode cX5_hasSkill 16 = .ok (.if_icmp .ge 16, 3) := by decide +kernel
theorem dX5_hasSkill_19 : decode cX5_hasSkill 19 = .ok (.aload_n 0, 1) := by decide +kernel
theorem dX5_hasSkill_20 : decode cX5_hasSkill 20 = .ok (.getfield 19, 3) := by decide +kernel
theorem dX5_hasSkill_23 : decode cX5_hasSkill 23 = .ok (.iload_n 3, 1) := by decide +kernel
theorem dX5_hasSkill_24 : decode cX5_hasSkill 24 = .ok (.baload, 1) := by decide +kernel
theorem dX5_hasSkill_25 : decode cX5_hasSkill 25 = .ok (.ifCond .eq 7, 3) := by decide +kernel
theorem dX5_hasSkill_28 : decode cX5_hasSkill 28 = .ok (.iconst 1, 1) := by decide +kernel
theorem dX5_hasSkill_29 : decode cX5_hasSkill 29 = .ok (.goto 4, 3) := by decide +kernel
theorem dX5_hasSkill_32 : decode cX5_hasSkill 32 = .ok (.iconst 0, 1) := by decide +kernel
theorem dX5_hasSkill_33 : decode cX5_hasSkill 33 = .ok (.ireturn, 1) := by decide +kernel
theorem dX5_putSkill_0 : decode cX5_putSkill 0 = .ok (.iload_n 1, 1) := by decide +kernel
theorem dX5_putSkill_1 : decode cX5_putSkill 1 = .ok (.iload_n 2, 1) := by decide +kernel
theorem dX5_putSkill_2 : decode cX5_putSkill 2 = .ok (.invokestatic 47, 3) := by decide +kernel
theorem dX5_putSkill_5 : decode cX5_putSkill 5 = .ok (.istore_n 3, 1) := by decide +kernel
theorem dX5_putSkill_6 : decode cX5_putSkill 6 = .ok (.iload_n 3, 1) := by decide +kernel
theorem dX5_putSkill_7 : decode cX5_putSkill 7 = .ok (.ifCond .lt 19, 3) := by decide +kernel
theorem dX5_putSkill_10 : decode cX5_putSkill 10 = .ok (.iload_n 3, 1) := by decide +kernel
theorem dX5_putSkill_11 : decode cX5_putSkill 11 = .ok (.aload_n 0, 1) := by decide +kernel
theorem dX5_putSkill_12 : decode cX5_putSkill 12 = .ok (.getfield 19, 3) := by decide +kernel
theorem dX5_putSkill_15 : decode cX5_putSkill 15 = .ok (.arraylength, 1) := by decide +kernel
theorem dX5_putSkill_16 : decode cX5_putSkill 16 = .ok (.if_icmp .ge 10, 3) := by decide +kernel
theorem dX5_putSkill_19 : decode cX5_putSkill 19 = .ok (.aload_n 0, 1) := by decide +kernel
theorem dX5_putSkill_20 : decode cX5_putSkill 20 = .ok (.getfield 19, 3) := by decide +kernel
theorem dX5_putSkill_23 : decode cX5_putSkill 23 = .ok (.iload_n 3, 1) := by decide +kernel
theorem dX5_putSkill_24 : decode cX5_putSkill 24 = .ok (.iconst 1, 1) := by decide +kernel
theorem dX5_putSkill_25 : decode cX5_putSkill 25 = .ok (.bastore, 1) := by decide +kernel
theorem dX5_putSkill_26 : decode cX5_putSkill 26 = .ok (.return_, 1) := by decide +kernel
theorem dX6_init_0 : decode cX6_init 0 = .ok (.aload_n 0, 1) := by decide +kernel
theorem dX6_init_1 : decode cX6_init 1 = .ok (.invokespecial 3, 3) := by decide +kernel
theorem dX6_init_4 : decode cX6_init 4 = .ok (.aload_n 0, 1) := by decide +kernel
theorem dX6_init_5 : decode cX6_init 5 = .ok (.bipush 24, 2) := by decide +kernel
theorem dX6_init_7 : decode cX6_init 7 = .ok (.newarray .int, 2) := by decide +kernel
theorem dX6_init_9 : decode cX6_init 9 = .ok (.putfield 9, 3) := by decide +kernel
theorem dX6_init_12 : decode cX6_init 12 = .ok (.aload_n 0, 1) := by decide +kernel
theorem dX6_init_13 : decode cX6_init 13 = .ok (.sipush 660, 3) := by decide +kernel
theorem dX6_init_16 : decode cX6_init 16 = .ok (.putfield 15, 3) := by decide +kernel
theorem dX6_init_19 : decode cX6_init 19 = .ok (.aload_n 0, 1) := by decide +kernel
theorem dX6_init_20 : decode cX6_init 20 = .ok (.iconst 3, 1) := by decide +kernel
theorem dX6_init_21 : decode cX6_init 21 = .ok (.putfield 19, 3) := by decide +kernel
theorem dX6_init_24 : decode cX6_init 24 = .ok (.aload_n 0, 1) := by decide +kernel
theorem dX6_init_25 : decode cX6_init 25 = .ok (.bipush 6, 2) := by decide +kernel
theorem dX6_init_27 : decode cX6_init 27 = .ok (.putfield 22, 3) := by decide +kernel
theorem dX6_init_30 : decode cX6_init 30 = .ok (.aload_n 0, 1) := by decide +kernel
theorem dX6_init_31 : decode cX6_init 31 = .ok (.bipush 7, 2) := by decide +kernel
theorem dX6_init_33 : decode cX6_init 33 = .ok (.putfield 25, 3) := by decide +kernel
theorem dX6_init_36 : decode cX6_init 36 = .ok (.aload_n 0, 1) := by decide +kernel
theorem dX6_init_37 : decode cX6_init 37 = .ok (.sipush 2880, 3) := by decide +kernel
theorem dX6_init_40 : decode cX6_init 40 = .ok (.putfield 28, 3) := by decide +kernel
theorem dX6_init_43 : decode cX6_init 43 = .ok (.return_, 1) := by decide +kernel
theorem dX6_demandAt_0 : decode cX6_demandAt 0 = .ok (.iload_n 1, 1) := by decide +kernel
theorem dX6_demandAt_1 : decode cX6_demandAt 1 = .ok (.iload_n 2, 1) := by decide +kernel
theorem dX6_demandAt_2 : decode cX6_demandAt 2 = .ok (.invokestatic 31, 3) := by decide +kernel
theorem dX6_demandAt_5 : decode cX6_demandAt 5 = .ok (.istore_n 3, 1) := by decide +kernel
theorem dX6_demandAt_6 : decode cX6_demandAt 6 = .ok (.iload_n 3, 1) := by decide +kernel
theorem dX6_demandAt_7 : decode cX6_demandAt 7 = .ok (.ifCond .lt 18, 3) := by decide +kernel
theorem dX6_demandAt_10 : decode cX6_demandAt 10 = .ok (.iload_n 3, 1) := by decide +kernel
theorem dX6_demandAt_11 : decode cX6_demandAt 11 = .ok (.bipush 24, 2) := by decide +kernel
theorem dX6_demandAt_13 : decode cX6_demandAt 13 = .ok (.if_icmp .ge 12, 3) := by decide +kernel
theorem dX6_demandAt_16 : decode cX6_demandAt 16 = .ok (.aload_n 0, 1) := by decide +kernel
theorem dX6_demandAt_17 : decode cX6_demandAt 17 = .ok (.getfield 9, 3) := by decide +kernel
theorem dX6_demandAt_20 : decode cX6_demandAt 20 = .ok (.iload_n 3, 1) := by decide +kernel
theorem dX6_demandAt_21 : decode cX6_demandAt 21 = .ok (.iaload, 1) := by decide +kernel
theorem dX6_demandAt_22 : decode cX6_demandAt 22 = .ok (.goto 4, 3) := by decide +kernel
theorem dX6_demandAt_25 : decode cX6_demandAt 25 = .ok (.iconst 0, 1) := by decide +kernel
theorem dX6_demandAt_26 : decode cX6_demandAt 26 = .ok (.ireturn, 1) := by decide +kernel
theorem dX6_putDemand_0 : decode cX6_putDemand 0 = .ok (.iload_n 1, 1) := by decide +kernel
theorem dX6_putDemand_1 : decode cX6_putDemand 1 = .ok (.iload_n 2, 1) := by decide +kernel
theorem dX6_putDemand_2 : decode cX6_putDemand 2 = .ok (.invokestatic 31, 3) := by decide +kernel
theorem dX6_putDemand_5 : decode cX6_putDemand 5 = .ok (.istore 4, 2) := by decide +kernel
theorem dX6_putDemand_7 : decode cX6_putDemand 7 = .ok (.iload 4, 2) := by decide +kernel
theorem dX6_putDemand_9 : decode cX6_putDemand 9 = .ok (.ifCond .lt 18, 3) := by decide +kernel
theorem dX6_putDemand_12 : decode cX6_putDemand 12 = .ok (.iload 4, 2) := by decide +kernel
theorem dX6_putDemand_14 : decode cX6_putDemand 14 = .ok (.bipush 24, 2) := by decide +kernel
theorem dX6_putDemand_16 : decode cX6_putDemand 16 = .ok (.if_icmp .ge 11, 3) := by decide +kernel
theorem dX6_putDemand_19 : decode cX6_putDemand 19 = .ok (.aload_n 0, 1) := by decide +kernel
theorem dX6_putDemand_20 : decode cX6_putDemand 20 = .ok (.getfield 9, 3) := by decide +kernel
theorem dX6_putDemand_23 : decode cX6_putDemand 23 = .ok (.iload 4, 2) := by decide +kernel
theorem dX6_putDemand_25 : decode cX6_putDemand 25 = .ok (.iload_n 3, 1) := by decide +kernel
theorem dX6_putDemand_26 : decode cX6_putDemand 26 = .ok (.iastore, 1) := by decide +kernel
theorem dX6_putDemand_27 : decode cX6_putDemand 27 = .ok (.return_, 1) := by decide +kernel
theorem dX7_init_0 : decode cX7_init 0 = .ok (.aload_n 0, 1) := by decide +kernel
theorem dX7_init_1 : decode cX7_init 1 = .ok (.invokespecial 3, 3) := by decide +kernel
theorem dX7_init_4 : decode cX7_init 4 = .ok (.aload_n 0, 1) := by decide +kernel
theorem dX7_init_5 : decode cX7_init 5 = .ok (.iconst 3, 1) := by decide +kernel
theorem dX7_init_6 : decode cX7_init 6 = .ok (.newarray .int, 2) := by decide +kernel
theorem dX7_init_8 : decode cX7_init 8 = .ok (.putfield 9, 3) := by decide +kernel
theorem dX7_init_11 : decode cX7_init 11 = .ok (.aload_n 0, 1) := by decide +kernel
theorem dX7_init_12 : decode cX7_init 12 = .ok (.iconst 3, 1) := by decide +kernel
theorem dX7_init_13 : decode cX7_init 13 = .ok (.newarray .int, 2) := by decide +kernel
theorem dX7_init_15 : decode cX7_init 15 = .ok (.putfield 15, 3) := by decide +kernel
theorem dX7_init_18 : decode cX7_init 18 = .ok (.aload_n 0, 1) := by decide +kernel
theorem dX7_init_19 : decode cX7_init 19 = .ok (.iconst 0, 1) := by decide +kernel
theorem dX7_init_20 : decode cX7_init 20 = .ok (.putfield 18, 3) := by decide +kernel
theorem dX7_init_23 : decode cX7_init 23 = .ok (.return_, 1) := by decide +kernel
theorem dX7_has_0 : decode cX7_has 0 = .ok (.iload_n 1, 1) := by decide +kernel
theorem dX7_has_1 : decode cX7_has 1 = .ok (.ifCond .lt 20, 3) := by decide +kernel
theorem dX7_has_4 : decode cX7_has 4 = .ok (.iload_n 1, 1) := by decide +kernel
theorem dX7_has_5 : decode cX7_has 5 = .ok (.aload_n 0, 1) := by decide +kernel
theorem dX7_has_6 : decode cX7_has 6 = .ok (.getfield 18, 3) := by decide +kernel
theorem dX7_has_9 : decode cX7_has 9 = .ok (.if_icmp .ge 12, 3) := by decide +kernel
theorem dX7_has_12 : decode cX7_has 12 = .ok (.iload_n 1, 1) := by decide +kernel
theorem dX7_has_13 : decode cX7_has 13 = .ok (.iconst 3, 1) := by decide +kernel
theorem dX7_has_14 : decode cX7_has 14 = .ok (.if_icmp .ge 7, 3) := by decide +kernel
theorem dX7_has_17 : decode cX7_has 17 = .ok (.iconst 1, 1) := by decide +kernel
theorem dX7_has_18 : decode cX7_has 18 = .ok (.goto 4, 3) := by decide +kernel
theorem dX7_has_21 : decode cX7_has 21 = .ok (.iconst 0, 1) := by decide +kernel
theorem dX7_has_22 : decode cX7_has 22 = .ok (.ireturn, 1) := by decide +kernel
theorem dX7_append_0 : decode cX7_append 0 = .ok (.aload_n 0, 1) := by decide +kernel
theorem dX7_append_1 : decode cX7_append 1 = .ok (.getfield 18, 3) := by decide +kernel
theorem dX7_append_4 : decode cX7_append 4 = .ok (.ifCond .lt 11, 3) := by decide +kernel
theorem dX7_append_7 : decode cX7_append 7 = .ok (.aload_n 0, 1) := by decide +kernel
theorem dX7_append_8 : decode cX7_append 8 = .ok (.getfield 18, 3) := by decide +kernel
theorem dX7_append_11 : decode cX7_append 11 = .ok (.iconst 3, 1) := by decide +kernel
theorem dX7_append_12 : decode cX7_append 12 = .ok (.if_icmp .lt 5, 3) := by decide +kernel
theorem dX7_append_15 : decode cX7_append 15 = .ok (.iconst (-1), 1) := by decide +kernel
theorem dX7_append_16 : decode cX7_append 16 = .ok (.ireturn, 1) := by decide +kernel
theorem dX7_append_17 : decode cX7_append 17 = .ok (.aload_n 0, 1) := by decide +kernel
theorem dX7_append_18 : decode cX7_append 18 = .ok (.getfield 9, 3) := by decide +kernel
theorem dX7_append_21 : decode cX7_append 21 = .ok (.aload_n 0, 1) := by decide +kernel
theorem dX7_append_22 : decode cX7_append 22 = .ok (.getfield 18, 3) := by decide +kernel
theorem dX7_append_25 : decode cX7_append 25 = .ok (.iload_n 1, 1) := by decide +kernel
theorem dX7_append_26 : decode cX7_append 26 = .ok (.iastore, 1) := by decide +kernel
theorem dX7_append_27 : decode cX7_append 27 = .ok (.aload_n 0, 1) := by decide +kernel
theorem dX7_append_28 : decode cX7_append 28 = .ok (.getfield 15, 3) := by decide +kernel
theorem dX7_append_31 : decode cX7_append 31 = .ok (.aload_n 0, 1) := by decide +kernel
theorem dX7_append_32 : decode cX7_append 32 = .ok (.getfield 18, 3) := by decide +kernel
theorem dX7_append_35 : decode cX7_append 35 = .ok (.iload_n 2, 1) := by decide +kernel
theorem dX7_append_36 : decode cX7_append 36 = .ok (.iastore, 1) := by decide +kernel
theorem dX7_append_37 : decode cX7_append 37 = .ok (.aload_n 0, 1) := by decide +kernel
theorem dX7_append_38 : decode cX7_append 38 = .ok (.dup, 1) := by decide +kernel
theorem dX7_append_39 : decode cX7_append 39 = .ok (.getfield 18, 3) := by decide +kernel
theorem dX7_append_42 : decode cX7_append 42 = .ok (.iconst 1, 1) := by decide +kernel
theorem dX7_append_43 : decode cX7_append 43 = .ok (.iadd, 1) := by decide +kernel
theorem dX7_append_44 : decode cX7_append 44 = .ok (.putfield 18, 3) := by decide +kernel
theorem dX7_append_47 : decode cX7_append 47 = .ok (.aload_n 0, 1) := by decide +kernel
theorem dX7_append_48 : decode cX7_append 48 = .ok (.getfield 18, 3) := by decide +kernel
theorem dX7_append_51 : decode cX7_append 51 = .ok (.iconst 1, 1) := by decide +kernel
theorem dX7_append_52 : decode cX7_append 52 = .ok (.isub, 1) := by decide +kernel
theorem dX7_append_53 : decode cX7_append 53 = .ok (.ireturn, 1) := by decide +kernel
theorem dX7_startOf_0 : decode cX7_startOf 0 = .ok (.iload_n 1, 1) := by decide +kernel
theorem dX7_startOf_1 : decode cX7_startOf 1 = .ok (.ifCond .lt 17, 3) := by decide +kernel
theorem dX7_startOf_4 : decode cX7_startOf 4 = .ok (.iload_n 1, 1) := by decide +kernel
theorem dX7_startOf_5 : decode cX7_startOf 5 = .ok (.iconst 3, 1) := by decide +kernel
theorem dX7_startOf_6 : decode cX7_startOf 6 = .ok (.if_icmp .ge 12, 3) := by decide +kernel
theorem dX7_startOf_9 : decode cX7_startOf 9 = .ok (.aload_n 0, 1) := by decide +kernel
theorem dX7_startOf_10 : decode cX7_startOf 10 = .ok (.getfield 9, 3) := by decide +kernel
theorem dX7_startOf_13 : decode cX7_startOf 13 = .ok (.iload_n 1, 1) := by decide +kernel
theorem dX7_startOf_14 : decode cX7_startOf 14 = .ok (.iaload, 1) := by decide +kernel
theorem dX7_startOf_15 : decode cX7_startOf 15 = .ok (.goto 4, 3) := by decide +kernel
theorem dX7_startOf_18 : decode cX7_startOf 18 = .ok (.iconst 0, 1) := by decide +kernel
theorem dX7_startOf_19 : decode cX7_startOf 19 = .ok (.ireturn, 1) := by decide +kernel
theorem dX7_lengthOf_0 : decode cX7_lengthOf 0 = .ok (.iload_n 1, 1) := by decide +kernel
theorem dX7_lengthOf_1 : decode cX7_lengthOf 1 = .ok (.ifCond .lt 17, 3) := by decide +kernel
theorem dX7_lengthOf_4 : decode cX7_lengthOf 4 = .ok (.iload_n 1, 1) := by decide +kernel
theorem dX7_lengthOf_5 : decode cX7_lengthOf 5 = .ok (.iconst 3, 1) := by decide +kernel
theorem dX7_lengthOf_6 : decode cX7_lengthOf 6 = .ok (.if_icmp .ge 12, 3) := by decide +kernel
theorem dX7_lengthOf_9 : decode cX7_lengthOf 9 = .ok (.aload_n 0, 1) := by decide +kernel
theorem dX7_lengthOf_10 : decode cX7_lengthOf 10 = .ok (.getfield 15, 3) := by decide +kernel
theorem dX7_lengthOf_13 : decode cX7_lengthOf 13 = .ok (.iload_n 1, 1) := by decide +kernel
theorem dX7_lengthOf_14 : decode cX7_lengthOf 14 = .ok (.iaload, 1) := by decide +kernel
theorem dX7_lengthOf_15 : decode cX7_lengthOf 15 = .ok (.goto 4, 3) := by decide +kernel
theorem dX7_lengthOf_18 : decode cX7_lengthOf 18 = .ok (.iconst 0, 1) := by decide +kernel
theorem dX7_lengthOf_19 : decode cX7_lengthOf 19 = .ok (.ireturn, 1) := by decide +kernel
theorem dX7_holdsNight_0 : decode cX7_holdsNight 0 = .ok (.iload_n 1, 1) := by decide +kernel
theorem dX7_holdsNight_1 : decode cX7_holdsNight 1 = .ok (.ifCond .lt 31, 3) := by decide +kernel
theorem dX7_holdsNight_4 : decode cX7_holdsNight 4 = .ok (.iload_n 1, 1) := by decide +kernel
theorem dX7_holdsNight_5 : decode cX7_holdsNight 5 = .ok (.iconst 3, 1) := by decide +kernel
theorem dX7_holdsNight_6 : decode cX7_holdsNight 6 = .ok (.if_icmp .ge 26, 3) := by decide +kernel
theorem dX7_holdsNight_9 : decode cX7_holdsNight 9 = .ok (.aload_n 0, 1) := by decide +kernel
theorem dX7_holdsNight_10 : decode cX7_holdsNight 10 = .ok (.getfield 9, 3) := by decide +kernel
theorem dX7_holdsNight_13 : decode cX7_holdsNight 13 = .ok (.iload_n 1, 1) := by decide +kernel
theorem dX7_holdsNight_14 : decode cX7_holdsNight 14 = .ok (.iaload, 1) := by decide +kernel
theorem dX7_holdsNight_15 : decode cX7_holdsNight 15 = .ok (.aload_n 0, 1) := by decide +kernel
theorem dX7_holdsNight_16 : decode cX7_holdsNight 16 = .ok (.getfield 15, 3) := by decide +kernel
theorem dX7_holdsNight_19 : decode cX7_holdsNight 19 = .ok (.iload_n 1, 1) := by decide +kernel
theorem dX7_holdsNight_20 : decode cX7_holdsNight 20 = .ok (.iaload, 1) := by decide +kernel
theorem dX7_holdsNight_21 : decode cX7_holdsNight 21 = .ok (.iadd, 1) := by decide +kernel
theorem dX7_holdsNight_22 : decode cX7_holdsNight 22 = .ok (.sipush 1620, 3) := by decide +kernel
theorem dX7_holdsNight_25 : decode cX7_holdsNight 25 = .ok (.if_icmp .le 7, 3) := by decide +kernel
theorem dX7_holdsNight_28 : decode cX7_holdsNight 28 = .ok (.iconst 1, 1) := by decide +kernel
theorem dX7_holdsNight_29 : decode cX7_holdsNight 29 = .ok (.goto 4, 3) := by decide +kernel
theorem dX7_holdsNight_32 : decode cX7_holdsNight 32 = .ok (.iconst 0, 1) := by decide +kernel
theorem dX7_holdsNight_33 : decode cX7_holdsNight 33 = .ok (.ireturn, 1) := by decide +kernel
theorem dX8_init_0 : decode cX8_init 0 = .ok (.aload_n 0, 1) := by decide +kernel
theorem dX8_init_1 : decode cX8_init 1 = .ok (.invokespecial 3, 3) := by decide +kernel
theorem dX8_init_4 : decode cX8_init 4 = .ok (.aload_n 0, 1) := by decide +kernel
theorem dX8_init_5 : decode cX8_init 5 = .ok (.new 9, 3) := by decide +kernel
theorem dX8_init_8 : decode cX8_init 8 = .ok (.dup, 1) := by decide +kernel
theorem dX8_init_9 : decode cX8_init 9 = .ok (.invokespecial 11, 3) := by decide +kernel
theorem dX8_init_12 : decode cX8_init 12 = .ok (.putfield 12, 3) := by decide +kernel
theorem dX8_init_15 : decode cX8_init 15 = .ok (.aload_n 0, 1) := by decide +kernel
theorem dX8_init_16 : decode cX8_init 16 = .ok (.new 16, 3) := by decide +kernel
theorem dX8_init_19 : decode cX8_init 19 = .ok (.dup, 1) := by decide +kernel
theorem dX8_init_20 : decode cX8_init 20 = .ok (.invokespecial 18, 3) := by decide +kernel
theorem dX8_init_23 : decode cX8_init 23 = .ok (.putfield 19, 3) := by decide +kernel
theorem dX8_init_26 : decode cX8_init 26 = .ok (.aload_n 0, 1) := by decide +kernel
theorem dX8_init_27 : decode cX8_init 27 = .ok (.new 23, 3) := by decide +kernel
theorem dX8_init_30 : decode cX8_init 30 = .ok (.dup, 1) := by decide +kernel
theorem dX8_init_31 : decode cX8_init 31 = .ok (.invokespecial 25, 3) := by decide +kernel
theorem dX8_init_34 : decode cX8_init 34 = .ok (.putfield 26, 3) := by decide +kernel
theorem dX8_init_37 : decode cX8_init 37 = .ok (.aload_n 0, 1) := by decide +kernel
theorem dX8_init_38 : decode cX8_init 38 = .ok (.new 30, 3) := by decide +kernel
theorem dX8_init_41 : decode cX8_init 41 = .ok (.dup, 1) := by decide +kernel
theorem dX8_init_42 : decode cX8_init 42 = .ok (.aload_n 0, 1) := by decide +kernel
theorem dX8_init_43 : decode cX8_init 43 = .ok (.getfield 12, 3) := by decide +kernel
theorem dX8_init_46 : decode cX8_init 46 = .ok (.aload_n 0, 1) := by decide +kernel
theorem dX8_init_47 : decode cX8_init 47 = .ok (.getfield 19, 3) := by decide +kernel
theorem dX8_init_50 : decode cX8_init 50 = .ok (.aload_n 0, 1) := by decide +kernel
theorem dX8_init_51 : decode cX8_init 51 = .ok (.getfield 26, 3) := by decide +kernel
theorem dX8_init_54 : decode cX8_init 54 = .ok (.invokespecial 32, 3) := by decide +kernel
theorem dX8_init_57 : decode cX8_init 57 = .ok (.putfield 35, 3) := by decide +kernel
theorem dX8_init_60 : decode cX8_init 60 = .ok (.aload_n 0, 1) := by decide +kernel
theorem dX8_init_61 : decode cX8_init 61 = .ok (.new 39, 3) := by decide +kernel
theorem dX8_init_64 : decode cX8_init 64 = .ok (.dup, 1) := by decide +kernel
theorem dX8_init_65 : decode cX8_init 65 = .ok (.aload_n 0, 1) := by decide +kernel
theorem dX8_init_66 : decode cX8_init 66 = .ok (.getfield 12, 3) := by decide +kernel
theorem dX8_init_69 : decode cX8_init 69 = .ok (.aload_n 0, 1) := by decide +kernel
theorem dX8_init_70 : decode cX8_init 70 = .ok (.getfield 19, 3) := by decide +kernel
theorem dX8_init_73 : decode cX8_init 73 = .ok (.aload_n 0, 1) := by decide +kernel
theorem dX8_init_74 : decode cX8_init 74 = .ok (.getfield 26, 3) := by decide +kernel
theorem dX8_init_77 : decode cX8_init 77 = .ok (.invokespecial 41, 3) := by decide +kernel
theorem dX8_init_80 : decode cX8_init 80 = .ok (.putfield 42, 3) := by decide +kernel
theorem dX8_init_83 : decode cX8_init 83 = .ok (.aload_n 0, 1) := by decide +kernel
theorem dX8_init_84 : decode cX8_init 84 = .ok (.new 46, 3) := by decide +kernel
theorem dX8_init_87 : decode cX8_init 87 = .ok (.dup, 1) := by decide +kernel
theorem dX8_init_88 : decode cX8_init 88 = .ok (.invokespecial 48, 3) := by decide +kernel
theorem dX8_init_91 : decode cX8_init 91 = .ok (.putfield 49, 3) := by decide +kernel
theorem dX8_init_94 : decode cX8_init 94 = .ok (.aload_n 0, 1) := by decide +kernel
theorem dX8_init_95 : decode cX8_init 95 = .ok (.new 46, 3) := by decide +kernel
theorem dX8_init_98 : decode cX8_init 98 = .ok (.dup, 1) := by decide +kernel
theorem dX8_init_99 : decode cX8_init 99 = .ok (.invokespecial 48, 3) := by decide +kernel
theorem dX8_init_102 : decode cX8_init 102 = .ok (.putfield 53, 3) := by decide +kernel
theorem dX8_init_105 : decode cX8_init 105 = .ok (.aload_n 0, 1) := by decide +kernel
theorem dX8_init_106 : decode cX8_init 106 = .ok (.new 56, 3) := by decide +kernel
theorem dX8_init_109 : decode cX8_init 109 = .ok (.dup, 1) := by decide +kernel
theorem dX8_init_110 : decode cX8_init 110 = .ok (.aload_n 0, 1) := by decide +kernel
theorem dX8_init_111 : decode cX8_init 111 = .ok (.getfield 12, 3) := by decide +kernel
theorem dX8_init_114 : decode cX8_init 114 = .ok (.aload_n 0, 1) := by decide +kernel
theorem dX8_init_115 : decode cX8_init 115 = .ok (.getfield 19, 3) := by decide +kernel
theorem dX8_init_118 : decode cX8_init 118 = .ok (.aload_n 0, 1) := by decide +kernel
theorem dX8_init_119 : decode cX8_init 119 = .ok (.getfield 26, 3) := by decide +kernel
theorem dX8_init_122 : decode cX8_init 122 = .ok (.aload_n 0, 1) := by decide +kernel
theorem dX8_init_123 : decode cX8_init 123 = .ok (.getfield 35, 3) := by decide +kernel
theorem dX8_init_126 : decode cX8_init 126 = .ok (.aload_n 0, 1) := by decide +kernel
theorem dX8_init_127 : decode cX8_init 127 = .ok (.getfield 42, 3) := by decide +kernel
theorem dX8_init_130 : decode cX8_init 130 = .ok (.invokespecial 58, 3) := by decide +kernel
theorem dX8_init_133 : decode cX8_init 133 = .ok (.putfield 61, 3) := by decide +kernel
theorem dX8_init_136 : decode cX8_init 136 = .ok (.aload_n 0, 1) := by decide +kernel
theorem dX8_init_137 : decode cX8_init 137 = .ok (.new 65, 3) := by decide +kernel
theorem dX8_init_140 : decode cX8_init 140 = .ok (.dup, 1) := by decide +kernel
theorem dX8_init_141 : decode cX8_init 141 = .ok (.invokespecial 67, 3) := by decide +kernel
theorem dX8_init_144 : decode cX8_init 144 = .ok (.putfield 68, 3) := by decide +kernel
theorem dX8_init_147 : decode cX8_init 147 = .ok (.return_, 1) := by decide +kernel
theorem dX8_addPerson_0 : decode cX8_addPerson 0 = .ok (.aload_n 0, 1) := by decide +kernel
theorem dX8_addPerson_1 : decode cX8_addPerson 1 = .ok (.getfield 26, 3) := by decide +kernel
theorem dX8_addPerson_4 : decode cX8_addPerson 4 = .ok (.getfield 72, 3) := by decide +kernel
theorem dX8_addPerson_7 : decode cX8_addPerson 7 = .ok (.iconst 4, 1) := by decide +kernel
theorem dX8_addPerson_8 : decode cX8_addPerson 8 = .ok (.if_icmp .lt 13, 3) := by decide +kernel
theorem dX8_addPerson_11 : decode cX8_addPerson 11 = .ok (.new 76, 3) := by decide +kernel
theorem dX8_addPerson_14 : decode cX8_addPerson 14 = .ok (.dup, 1) := by decide +kernel
theorem dX8_addPerson_15 : decode cX8_addPerson 15 = .ok (.ldc 78, 2) := by decide +kernel
theorem dX8_addPerson_17 : decode cX8_addPerson 17 = .ok (.invokespecial 80, 3) := by decide +kernel
theorem dX8_addPerson_20 : decode cX8_addPerson 20 = .ok (.athrow, 1) := by decide +kernel
theorem dX8_addPerson_21 : decode cX8_addPerson 21 = .ok (.aload_n 0, 1) := by decide +kernel
theorem dX8_addPerson_22 : decode cX8_addPerson 22 = .ok (.getfield 26, 3) := by decide +kernel
theorem dX8_addPerson_25 : decode cX8_addPerson 25 = .ok (.dup, 1) := by decide +kernel
theorem dX8_addPerson_26 : decode cX8_addPerson 26 = .ok (.getfield 72, 3) := by decide +kernel
theorem dX8_addPerson_29 : decode cX8_addPerson 29 = .ok (.iconst 1, 1) := by decide +kernel
theorem dX8_addPerson_30 : decode cX8_addPerson 30 = .ok (.iadd, 1) := by decide +kernel
theorem dX8_addPerson_31 : decode cX8_addPerson 31 = .ok (.putfield 72, 3) := by decide +kernel
theorem dX8_addPerson_34 : decode cX8_addPerson 34 = .ok (.aload_n 0, 1) := by decide +kernel
theorem dX8_addPerson_35 : decode cX8_addPerson 35 = .ok (.getfield 26, 3) := by decide +kernel
theorem dX8_addPerson_38 : decode cX8_addPerson 38 = .ok (.getfield 72, 3) := by decide +kernel
theorem dX8_addPerson_41 : decode cX8_addPerson 41 = .ok (.iconst 1, 1) := by decide +kernel
theorem dX8_addPerson_42 : decode cX8_addPerson 42 = .ok (.isub, 1) := by decide +kernel
theorem dX8_addPerson_43 : decode cX8_addPerson 43 = .ok (.ireturn, 1) := by decide +kernel
theorem dX8_addShift_0 : decode cX8_addShift 0 = .ok (.iload_n 1, 1) := by decide +kernel
theorem dX8_addShift_1 : decode cX8_addShift 1 = .ok (.iconst 0, 1) := by decide +kernel
theorem dX8_addShift_2 : decode cX8_addShift 2 = .ok (.sipush 1439, 3) := by decide +kernel
theorem dX8_addShift_5 : decode cX8_addShift 5 = .ok (.invokestatic 83, 3) := by decide +kernel
theorem dX8_addShift_8 : decode cX8_addShift 8 = .ok (.iload_n 2, 1) := by decide +kernel
theorem dX8_addShift_9 : decode cX8_addShift 9 = .ok (.iconst 1, 1) := by decide +kernel
theorem dX8_addShift_10 : decode cX8_addShift 10 = .ok (.sipush 720, 3) := by decide +kernel
theorem dX8_addShift_13 : decode cX8_addShift 13 = .ok (.invokestatic 83, 3) := by decide +kernel
theorem dX8_addShift_16 : decode cX8_addShift 16 = .ok (.aload_n 0, 1) := by decide +kernel
theorem dX8_addShift_17 : decode cX8_addShift 17 = .ok (.getfield 12, 3) := by decide +kernel
theorem dX8_addShift_20 : decode cX8_addShift 20 = .ok (.getfield 87, 3) := by decide +kernel
theorem dX8_addShift_23 : decode cX8_addShift 23 = .ok (.iconst 3, 1) := by decide +kernel
theorem dX8_addShift_24 : decode cX8_addShift 24 = .ok (.if_icmp .lt 13, 3) := by decide +kernel
theorem dX8_addShift_27 : decode cX8_addShift 27 = .ok (.new 76, 3) := by decide +kernel
theorem dX8_addShift_30 : decode cX8_addShift 30 = .ok (.dup, 1) := by decide +kernel
theorem dX8_addShift_31 : decode cX8_addShift 31 = .ok (.ldc 90, 2) := by decide +kernel
theorem dX8_addShift_33 : decode cX8_addShift 33 = .ok (.invokespecial 80, 3) := by decide +kernel
theorem dX8_addShift_36 : decode cX8_addShift 36 = .ok (.athrow, 1) := by decide +kernel
theorem dX8_addShift_37 : decode cX8_addShift 37 = .ok (.aload_n 0, 1) := by decide +kernel
theorem dX8_addShift_38 : decode cX8_addShift 38 = .ok (.getfield 12, 3) := by decide +kernel
theorem dX8_addShift_41 : decode cX8_addShift 41 = .ok (.iload_n 1, 1) := by decide +kernel
theorem dX8_addShift_42 : decode cX8_addShift 42 = .ok (.iload_n 2, 1) := by decide +kernel
theorem dX8_addShift_43 : decode cX8_addShift 43 = .ok (.invokevirtual 92, 3) := by decide +kernel
theorem dX8_addShift_46 : decode cX8_addShift 46 = .ok (.ireturn, 1) := by decide +kernel
theorem dX8_isNight_0 : decode cX8_isNight 0 = .ok (.aload_n 0, 1) := by decide +kernel
theorem dX8_isNight_1 : decode cX8_isNight 1 = .ok (.iload_n 1, 1) := by decide +kernel
theorem dX8_isNight_2 : decode cX8_isNight 2 = .ok (.invokevirtual 96, 3) := by decide +kernel
theorem dX8_isNight_5 : decode cX8_isNight 5 = .ok (.aload_n 0, 1) := by decide +kernel
theorem dX8_isNight_6 : decode cX8_isNight 6 = .ok (.getfield 12, 3) := by decide +kernel
theorem dX8_isNight_9 : decode cX8_isNight 9 = .ok (.iload_n 1, 1) := by decide +kernel
theorem dX8_isNight_10 : decode cX8_isNight 10 = .ok (.invokevirtual 100, 3) := by decide +kernel
theorem dX8_isNight_13 : decode cX8_isNight 13 = .ok (.ireturn, 1) := by decide +kernel
theorem dX8_teach_0 : decode cX8_teach 0 = .ok (.aload_n 0, 1) := by decide +kernel
theorem dX8_teach_1 : decode cX8_teach 1 = .ok (.iload_n 1, 1) := by decide +kernel
theorem dX8_teach_2 : decode cX8_teach 2 = .ok (.invokevirtual 104, 3) := by decide +kernel
theorem dX8_teach_5 : decode cX8_teach 5 = .ok (.aload_n 0, 1) := by decide +kernel
theorem dX8_teach_6 : decode cX8_teach 6 = .ok (.iload_n 2, 1) := by decide +kernel
theorem dX8_teach_7 : decode cX8_teach 7 = .ok (.invokevirtual 96, 3) := by decide +kernel
theorem dX8_teach_10 : decode cX8_teach 10 = .ok (.aload_n 0, 1) := by decide +kernel
theorem dX8_teach_11 : decode cX8_teach 11 = .ok (.getfield 26, 3) := by decide +kernel
theorem dX8_teach_14 : decode cX8_teach 14 = .ok (.iload_n 1, 1) := by decide +kernel
theorem dX8_teach_15 : decode cX8_teach 15 = .ok (.iload_n 2, 1) := by decide +kernel
theorem dX8_teach_16 : decode cX8_teach 16 = .ok (.invokevirtual 107, 3) := by decide +kernel
theorem dX8_teach_19 : decode cX8_teach 19 = .ok (.ifCond .ne 7, 3) := by decide +kernel
theorem dX8_teach_22 : decode cX8_teach 22 = .ok (.iconst 1, 1) := by decide +kernel
theorem dX8_teach_23 : decode cX8_teach 23 = .ok (.goto 4, 3) := by decide +kernel
theorem dX8_teach_26 : decode cX8_teach 26 = .ok (.iconst 0, 1) := by decide +kernel
theorem dX8_teach_27 : decode cX8_teach 27 = .ok (.istore_n 3, 1) := by decide +kernel
theorem dX8_teach_28 : decode cX8_teach 28 = .ok (.aload_n 0, 1) := by decide +kernel
theorem dX8_teach_29 : decode cX8_teach 29 = .ok (.getfield 26, 3) := by decide +kernel
theorem dX8_teach_32 : decode cX8_teach 32 = .ok (.iload_n 1, 1) := by decide +kernel
theorem dX8_teach_33 : decode cX8_teach 33 = .ok (.iload_n 2, 1) := by decide +kernel
theorem dX8_teach_34 : decode cX8_teach 34 = .ok (.invokevirtual 111, 3) := by decide +kernel
theorem dX8_teach_37 : decode cX8_teach 37 = .ok (.iload_n 3, 1) := by decide +kernel
theorem dX8_teach_38 : decode cX8_teach 38 = .ok (.ireturn, 1) := by decide +kernel
theorem dX8_setRest_0 : decode cX8_setRest 0 = .ok (.iload_n 1, 1) := by decide +kernel
theorem dX8_setRest_1 : decode cX8_setRest 1 = .ok (.iconst 0, 1) := by decide +kernel
theorem dX8_setRest_2 : decode cX8_setRest 2 = .ok (.sipush 2000, 3) := by decide +kernel
theorem dX8_setRest_5 : decode cX8_setRest 5 = .ok (.invokestatic 83, 3) := by decide +kernel
theorem dX8_setRest_8 : decode cX8_setRest 8 = .ok (.aload_n 0, 1) := by decide +kernel
theorem dX8_setRest_9 : decode cX8_setRest 9 = .ok (.getfield 19, 3) := by decide +kernel
theorem dX8_setRest_12 : decode cX8_setRest 12 = .ok (.getfield 115, 3) := by decide +kernel
theorem dX8_setRest_15 : decode cX8_setRest 15 = .ok (.istore_n 2, 1) := by decide +kernel
theorem dX8_setRest_16 : decode cX8_setRest 16 = .ok (.aload_n 0, 1) := by decide +kernel
theorem dX8_setRest_17 : decode cX8_setRest 17 = .ok (.getfield 19, 3) := by decide +kernel
theorem dX8_setRest_20 : decode cX8_setRest 20 = .ok (.iload_n 1, 1) := by decide +kernel
theorem dX8_setRest_21 : decode cX8_setRest 21 = .ok (.putfield 115, 3) := by decide +kernel
theorem dX8_setRest_24 : decode cX8_setRest 24 = .ok (.iload_n 2, 1) := by decide +kernel
theorem dX8_setRest_25 : decode cX8_setRest 25 = .ok (.ireturn, 1) := by decide +kernel
theorem dX8_setNights_0 : decode cX8_setNights 0 = .ok (.iload_n 1, 1) := by decide +kernel
theorem dX8_setNights_1 : decode cX8_setNights 1 = .ok (.iconst 1, 1) := by decide +kernel
theorem dX8_setNights_2 : decode cX8_setNights 2 = .ok (.bipush 8, 2) := by decide +kernel
theorem dX8_setNights_4 : decode cX8_setNights 4 = .ok (.invokestatic 83, 3) := by decide +kernel
theorem dX8_setNights_7 : decode cX8_setNights 7 = .ok (.aload_n 0, 1) := by decide +kernel
theorem dX8_setNights_8 : decode cX8_setNights 8 = .ok (.getfield 19, 3) := by decide +kernel
theorem dX8_setNights_11 : decode cX8_setNights 11 = .ok (.getfield 118, 3) := by decide +kernel
theorem dX8_setNights_14 : decode cX8_setNights 14 = .ok (.istore_n 2, 1) := by decide +kernel
theorem dX8_setNights_15 : decode cX8_setNights 15 = .ok (.aload_n 0, 1) := by decide +kernel
theorem dX8_setNights_16 : decode cX8_setNights 16 = .ok (.getfield 19, 3) := by decide +kernel
theorem dX8_setNights_19 : decode cX8_setNights 19 = .ok (.iload_n 1, 1) := by decide +kernel
theorem dX8_setNights_20 : decode cX8_setNights 20 = .ok (.putfield 118, 3) := by decide +kernel
theorem dX8_setNights_23 : decode cX8_setNights 23 = .ok (.iload_n 2, 1) := by decide +kernel
theorem dX8_setNights_24 : decode cX8_setNights 24 = .ok (.ireturn, 1) := by decide +kernel
theorem dX8_setRun_0 : decode cX8_setRun 0 = .ok (.iload_n 1, 1) := by decide +kernel
theorem dX8_setRun_1 : decode cX8_setRun 1 = .ok (.iconst 1, 1) := by decide +kernel
theorem dX8_setRun_2 : decode cX8_setRun 2 = .ok (.bipush 8, 2) := by decide +kernel
theorem dX8_setRun_4 : decode cX8_setRun 4 = .ok (.invokestatic 83, 3) := by decide +kernel
theorem dX8_setRun_7 : decode cX8_setRun 7 = .ok (.aload_n 0, 1) := by decide +kernel
theorem dX8_setRun_8 : decode cX8_setRun 8 = .ok (.getfield 19, 3) := by decide +kernel
theorem dX8_setRun_11 : decode cX8_setRun 11 = .ok (.getfield 121, 3) := by decide +kernel
theorem dX8_setRun_14 : decode cX8_setRun 14 = .ok (.istore_n 2, 1) := by decide +kernel
theorem dX8_setRun_15 : decode cX8_setRun 15 = .ok (.aload_n 0, 1) := by decide +kernel
theorem dX8_setRun_16 : decode cX8_setRun 16 = .ok (.getfield 19, 3) := by decide +kernel
theorem dX8_setRun_19 : decode cX8_setRun 19 = .ok (.iload_n 1, 1) := by decide +kernel
theorem dX8_setRun_20 : decode cX8_setRun 20 = .ok (.putfield 121, 3) := by decide +kernel
theorem dX8_setRun_23 : decode cX8_setRun 23 = .ok (.iload_n 2, 1) := by decide +kernel
theorem dX8_setRun_24 : decode cX8_setRun 24 = .ok (.ireturn, 1) := by decide +kernel
theorem dX8_setHours_0 : decode cX8_setHours 0 = .ok (.iload_n 1, 1) := by decide +kernel
theorem dX8_setHours_1 : decode cX8_setHours 1 = .ok (.iconst 1, 1) := by decide +kernel
theorem dX8_setHours_2 : decode cX8_setHours 2 = .ok (.bipush 8, 2) := by decide +kernel
theorem dX8_setHours_4 : decode cX8_setHours 4 = .ok (.invokestatic 83, 3) := by decide +kernel
theorem dX8_setHours_7 : decode cX8_setHours 7 = .ok (.iload_n 2, 1) := by decide +kernel
theorem dX8_setHours_8 : decode cX8_setHours 8 = .ok (.iconst 0, 1) := by decide +kernel
theorem dX8_setHours_9 : decode cX8_setHours 9 = .ok (.sipush 6000, 3) := by decide +kernel
theorem dX8_setHours_12 : decode cX8_setHours 12 = .ok (.invokestatic 83, 3) := by decide +kernel
theorem dX8_setHours_15 : decode cX8_setHours 15 = .ok (.aload_n 0, 1) := by decide +kernel
theorem dX8_setHours_16 : decode cX8_setHours 16 = .ok (.getfield 19, 3) := by decide +kernel
theorem dX8_setHours_19 : decode cX8_setHours 19 = .ok (.getfield 124, 3) := by decide +kernel
theorem dX8_setHours_22 : decode cX8_setHours 22 = .ok (.istore_n 3, 1) := by decide +kernel
theorem dX8_setHours_23 : decode cX8_setHours 23 = .ok (.aload_n 0, 1) := by decide +kernel
theorem dX8_setHours_24 : decode cX8_setHours 24 = .ok (.getfield 19, 3) := by decide +kernel
theorem dX8_setHours_27 : decode cX8_setHours 27 = .ok (.iload_n 1, 1) := by decide +kernel
theorem dX8_setHours_28 : decode cX8_setHours 28 = .ok (.putfield 127, 3) := by decide +kernel
theorem dX8_setHours_31 : decode cX8_setHours 31 = .ok (.aload_n 0, 1) := by decide +kernel
theorem dX8_setHours_32 : decode cX8_setHours 32 = .ok (.getfield 19, 3) := by decide +kernel
theorem dX8_setHours_35 : decode cX8_setHours 35 = .ok (.iload_n 2, 1) := by decide +kernel
theorem dX8_setHours_36 : decode cX8_setHours 36 = .ok (.putfield 124, 3) := by decide +kernel
theorem dX8_setHours_39 : decode cX8_setHours 39 = .ok (.iload_n 3, 1) := by decide +kernel
theorem dX8_setHours_40 : decode cX8_setHours 40 = .ok (.ireturn, 1) := by decide +kernel
theorem dX8_setDemand_0 : decode cX8_setDemand 0 = .ok (.iload_n 1, 1) := by decide +kernel
theorem dX8_setDemand_1 : decode cX8_setDemand 1 = .ok (.invokestatic 130, 3) := by decide +kernel
theorem dX8_setDemand_4 : decode cX8_setDemand 4 = .ok (.aload_n 0, 1) := by decide +kernel
theorem dX8_setDemand_5 : decode cX8_setDemand 5 = .ok (.iload_n 2, 1) := by decide +kernel
theorem dX8_setDemand_6 : decode cX8_setDemand 6 = .ok (.invokevirtual 96, 3) := by decide +kernel
theorem dX8_setDemand_9 : decode cX8_setDemand 9 = .ok (.iload_n 3, 1) := by decide +kernel
theorem dX8_setDemand_10 : decode cX8_setDemand 10 = .ok (.iconst 0, 1) := by decide +kernel
theorem dX8_setDemand_11 : decode cX8_setDemand 11 = .ok (.iconst 4, 1) := by decide +kernel
theorem dX8_setDemand_12 : decode cX8_setDemand 12 = .ok (.invokestatic 83, 3) := by decide +kernel
theorem dX8_setDemand_15 : decode cX8_setDemand 15 = .ok (.aload_n 0, 1) := by decide +kernel
theorem dX8_setDemand_16 : decode cX8_setDemand 16 = .ok (.getfield 19, 3) := by decide +kernel
theorem dX8_setDemand_19 : decode cX8_setDemand 19 = .ok (.iload_n 1, 1) := by decide +kernel
theorem dX8_setDemand_20 : decode cX8_setDemand 20 = .ok (.iload_n 2, 1) := by decide +kernel
theorem dX8_setDemand_21 : decode cX8_setDemand 21 = .ok (.invokevirtual 133, 3) := by decide +kernel
theorem dX8_setDemand_24 : decode cX8_setDemand 24 = .ok (.istore 4, 2) := by decide +kernel
theorem dX8_setDemand_26 : decode cX8_setDemand 26 = .ok (.aload_n 0, 1) := by decide +kernel
theorem dX8_setDemand_27 : decode cX8_setDemand 27 = .ok (.getfield 19, 3) := by decide +kernel
theorem dX8_setDemand_30 : decode cX8_setDemand 30 = .ok (.iload_n 1, 1) := by decide +kernel
theorem dX8_setDemand_31 : decode cX8_setDemand 31 = .ok (.iload_n 2, 1) := by decide +kernel
theorem dX8_setDemand_32 : decode cX8_setDemand 32 = .ok (.iload_n 3, 1) := by decide +kernel
theorem dX8_setDemand_33 : decode cX8_setDemand 33 = .ok (.invokevirtual 136, 3) := by decide +kernel
theorem dX8_setDemand_36 : decode cX8_setDemand 36 = .ok (.iload 4, 2) := by decide +kernel
theorem dX8_setDemand_38 : decode cX8_setDemand 38 = .ok (.ireturn, 1) := by decide +kernel
theorem dX8_assign_0 : decode cX8_assign 0 = .ok (.aload_n 0, 1) := by decide +kernel
theorem dX8_assign_1 : decode cX8_assign 1 = .ok (.iload_n 1, 1) := by decide +kernel
theorem dX8_assign_2 : decode cX8_assign 2 = .ok (.invokevirtual 104, 3) := by decide +kernel
theorem dX8_assign_5 : decode cX8_assign 5 = .ok (.iload_n 2, 1) := by decide +kernel
theorem dX8_assign_6 : decode cX8_assign 6 = .ok (.invokestatic 130, 3) := by decide +kernel
theorem dX8_assign_9 : decode cX8_assign 9 = .ok (.aload_n 0, 1) := by decide +kernel
theorem dX8_assign_10 : decode cX8_assign 10 = .ok (.iload_n 3, 1) := by decide +kernel
theorem dX8_assign_11 : decode cX8_assign 11 = .ok (.invokevirtual 96, 3) := by decide +kernel
theorem dX8_assign_14 : decode cX8_assign 14 = .ok (.aload_n 0, 1) := by decide +kernel
theorem dX8_assign_15 : decode cX8_assign 15 = .ok (.getfield 26, 3) := by decide +kernel
theorem dX8_assign_18 : decode cX8_assign 18 = .ok (.iload_n 1, 1) := by decide +kernel
theorem dX8_assign_19 : decode cX8_assign 19 = .ok (.iload_n 2, 1) := by decide +kernel
theorem dX8_assign_20 : decode cX8_assign 20 = .ok (.invokevirtual 139, 3) := by decide +kernel
theorem dX8_assign_23 : decode cX8_assign 23 = .ok (.istore 4, 2) := by decide +kernel
theorem dX8_assign_25 : decode cX8_assign 25 = .ok (.aload_n 0, 1) := by decide +kernel
theorem dX8_assign_26 : decode cX8_assign 26 = .ok (.getfield 26, 3) := by decide +kernel
theorem dX8_assign_29 : decode cX8_assign 29 = .ok (.iload_n 1, 1) := by decide +kernel
theorem dX8_assign_30 : decode cX8_assign 30 = .ok (.iload_n 2, 1) := by decide +kernel
theorem dX8_assign_31 : decode cX8_assign 31 = .ok (.invokestatic 142, 3) := by decide +kernel
theorem dX8_assign_34 : decode cX8_assign 34 = .ok (.iload_n 3, 1) := by decide +kernel
theorem dX8_assign_35 : decode cX8_assign 35 = .ok (.iconst 1, 1) := by decide +kernel
theorem dX8_assign_36 : decode cX8_assign 36 = .ok (.iadd, 1) := by decide +kernel
theorem dX8_assign_37 : decode cX8_assign 37 = .ok (.invokevirtual 145, 3) := by decide +kernel
theorem dX8_assign_40 : decode cX8_assign 40 = .ok (.iload 4, 2) := by decide +kernel
theorem dX8_assign_42 : decode cX8_assign 42 = .ok (.ireturn, 1) := by decide +kernel
theorem dX8_free_0 : decode cX8_free 0 = .ok (.aload_n 0, 1) := by decide +kernel
theorem dX8_free_1 : decode cX8_free 1 = .ok (.iload_n 1, 1) := by decide +kernel
theorem dX8_free_2 : decode cX8_free 2 = .ok (.invokevirtual 104, 3) := by decide +kernel
theorem dX8_free_5 : decode cX8_free 5 = .ok (.iload_n 2, 1) := by decide +kernel
theorem dX8_free_6 : decode cX8_free 6 = .ok (.invokestatic 130, 3) := by decide +kernel
theorem dX8_free_9 : decode cX8_free 9 = .ok (.aload_n 0, 1) := by decide +kernel
theorem dX8_free_10 : decode cX8_free 10 = .ok (.getfield 26, 3) := by decide +kernel
theorem dX8_free_13 : decode cX8_free 13 = .ok (.iload_n 1, 1) := by decide +kernel
theorem dX8_free_14 : decode cX8_free 14 = .ok (.iload_n 2, 1) := by decide +kernel
theorem dX8_free_15 : decode cX8_free 15 = .ok (.invokevirtual 139, 3) := by decide +kernel
theorem dX8_free_18 : decode cX8_free 18 = .ok (.istore_n 3, 1) := by decide +kernel
theorem dX8_free_19 : decode cX8_free 19 = .ok (.iload_n 3, 1) := by decide +kernel
theorem dX8_free_20 : decode cX8_free 20 = .ok (.iconst (-1), 1) := by decide +kernel
theorem dX8_free_21 : decode cX8_free 21 = .ok (.if_icmp .ne 13, 3) := by decide +kernel
theorem dX8_free_24 : decode cX8_free 24 = .ok (.new 76, 3) := by decide +kernel
theorem dX8_free_27 : decode cX8_free 27 = .ok (.dup, 1) := by decide +kernel
theorem dX8_free_28 : decode cX8_free 28 = .ok (.ldc 148, 2) := by decide +kernel
theorem dX8_free_30 : decode cX8_free 30 = .ok (.invokespecial 80, 3) := by decide +kernel
theorem dX8_free_33 : decode cX8_free 33 = .ok (.athrow, 1) := by decide +kernel
theorem dX8_free_34 : decode cX8_free 34 = .ok (.aload_n 0, 1) := by decide +kernel
theorem dX8_free_35 : decode cX8_free 35 = .ok (.getfield 26, 3) := by decide +kernel
theorem dX8_free_38 : decode cX8_free 38 = .ok (.iload_n 1, 1) := by decide +kernel
theorem dX8_free_39 : decode cX8_free 39 = .ok (.iload_n 2, 1) := by decide +kernel
theorem dX8_free_40 : decode cX8_free 40 = .ok (.invokestatic 142, 3) := by decide +kernel
theorem dX8_free_43 : decode cX8_free 43 = .ok (.iconst 0, 1) := by decide +kernel
theorem dX8_free_44 : decode cX8_free 44 = .ok (.invokevirtual 145, 3) := by decide +kernel
theorem dX8_free_47 : decode cX8_free 47 = .ok (.iload_n 3, 1) := by decide +kernel
theorem dX8_free_48 : decode cX8_free 48 = .ok (.ireturn, 1) := by decide +kernel
theorem dX8_setAbsent_0 : decode cX8_setAbsent 0 = .ok (.aload_n 0, 1) := by decide +kernel
theorem dX8_setAbsent_1 : decode cX8_setAbsent 1 = .ok (.iload_n 1, 1) := by decide +kernel
theorem dX8_setAbsent_2 : decode cX8_setAbsent 2 = .ok (.invokevirtual 104, 3) := by decide +kernel
theorem dX8_setAbsent_5 : decode cX8_setAbsent 5 = .ok (.iload_n 2, 1) := by decide +kernel
theorem dX8_setAbsent_6 : decode cX8_setAbsent 6 = .ok (.invokestatic 130, 3) := by decide +kernel
theorem dX8_setAbsent_9 : decode cX8_setAbsent 9 = .ok (.aload_n 0, 1) := by decide +kernel
theorem dX8_setAbsent_10 : decode cX8_setAbsent 10 = .ok (.getfield 26, 3) := by decide +kernel
theorem dX8_setAbsent_13 : decode cX8_setAbsent 13 = .ok (.iload_n 1, 1) := by decide +kernel
theorem dX8_setAbsent_14 : decode cX8_setAbsent 14 = .ok (.iload_n 2, 1) := by decide +kernel
theorem dX8_setAbsent_15 : decode cX8_setAbsent 15 = .ok (.invokevirtual 150, 3) := by decide +kernel
theorem dX8_setAbsent_18 : decode cX8_setAbsent 18 = .ok (.istore 4, 2) := by decide +kernel
theorem dX8_setAbsent_20 : decode cX8_setAbsent 20 = .ok (.aload_n 0, 1) := by decide +kernel
theorem dX8_setAbsent_21 : decode cX8_setAbsent 21 = .ok (.getfield 26, 3) := by decide +kernel
theorem dX8_setAbsent_24 : decode cX8_setAbsent 24 = .ok (.iload_n 1, 1) := by decide +kernel
theorem dX8_setAbsent_25 : decode cX8_setAbsent 25 = .ok (.iload_n 2, 1) := by decide +kernel
theorem dX8_setAbsent_26 : decode cX8_setAbsent 26 = .ok (.iload_n 3, 1) := by decide +kernel
theorem dX8_setAbsent_27 : decode cX8_setAbsent 27 = .ok (.invokevirtual 153, 3) := by decide +kernel
theorem dX8_setAbsent_30 : decode cX8_setAbsent 30 = .ok (.iload 4, 2) := by decide +kernel
theorem dX8_setAbsent_32 : decode cX8_setAbsent 32 = .ok (.ireturn, 1) := by decide +kernel
theorem dX8_shiftOf_0 : decode cX8_shiftOf 0 = .ok (.aload_n 0, 1) := by decide +kernel
theorem dX8_shiftOf_1 : decode cX8_shiftOf 1 = .ok (.iload_n 1, 1) := by decide +kernel
theorem dX8_shiftOf_2 : decode cX8_shiftOf 2 = .ok (.invokevirtual 104, 3) := by decide +kernel
theorem dX8_shiftOf_5 : decode cX8_shiftOf 5 = .ok (.iload_n 2, 1) := by decide +kernel
theorem dX8_shiftOf_6 : decode cX8_shiftOf 6 = .ok (.invokestatic 130, 3) := by decide +kernel
theorem dX8_shiftOf_9 : decode cX8_shiftOf 9 = .ok (.aload_n 0, 1) := by decide +kernel
theorem dX8_shiftOf_10 : decode cX8_shiftOf 10 = .ok (.getfield 26, 3) := by decide +kernel
theorem dX8_shiftOf_13 : decode cX8_shiftOf 13 = .ok (.iload_n 1, 1) := by decide +kernel
theorem dX8_shiftOf_14 : decode cX8_shiftOf 14 = .ok (.iload_n 2, 1) := by decide +kernel
theorem dX8_shiftOf_15 : decode cX8_shiftOf 15 = .ok (.invokevirtual 139, 3) := by decide +kernel
theorem dX8_shiftOf_18 : decode cX8_shiftOf 18 = .ok (.ireturn, 1) := by decide +kernel
theorem dX8_restBefore_0 : decode cX8_restBefore 0 = .ok (.aload_n 0, 1) := by decide +kernel
theorem dX8_restBefore_1 : decode cX8_restBefore 1 = .ok (.iload_n 1, 1) := by decide +kernel
theorem dX8_restBefore_2 : decode cX8_restBefore 2 = .ok (.invokevirtual 104, 3) := by decide +kernel
theorem dX8_restBefore_5 : decode cX8_restBefore 5 = .ok (.iload_n 2, 1) := by decide +kernel
theorem dX8_restBefore_6 : decode cX8_restBefore 6 = .ok (.invokestatic 130, 3) := by decide +kernel
theorem dX8_restBefore_9 : decode cX8_restBefore 9 = .ok (.aload_n 0, 1) := by decide +kernel
theorem dX8_restBefore_10 : decode cX8_restBefore 10 = .ok (.getfield 35, 3) := by decide +kernel
theorem dX8_restBefore_13 : decode cX8_restBefore 13 = .ok (.iload_n 1, 1) := by decide +kernel
theorem dX8_restBefore_14 : decode cX8_restBefore 14 = .ok (.iload_n 2, 1) := by decide +kernel
theorem dX8_restBefore_15 : decode cX8_restBefore 15 = .ok (.invokevirtual 157, 3) := by decide +kernel
theorem dX8_restBefore_18 : decode cX8_restBefore 18 = .ok (.istore_n 3, 1) := by decide +kernel
theorem dX8_restBefore_19 : decode cX8_restBefore 19 = .ok (.iload_n 3, 1) := by decide +kernel
theorem dX8_restBefore_20 : decode cX8_restBefore 20 = .ok (.sipush (-1440), 3) := by decide +kernel
theorem dX8_restBefore_23 : decode cX8_restBefore 23 = .ok (.if_icmp .ne 13, 3) := by decide +kernel
theorem dX8_restBefore_26 : decode cX8_restBefore 26 = .ok (.new 160, 3) := by decide +kernel
theorem dX8_restBefore_29 : decode cX8_restBefore 29 = .ok (.dup, 1) := by decide +kernel
theorem dX8_restBefore_30 : decode cX8_restBefore 30 = .ok (.ldc 162, 2) := by decide +kernel
theorem dX8_restBefore_32 : decode cX8_restBefore 32 = .ok (.invokespecial 164, 3) := by decide +kernel
theorem dX8_restBefore_35 : decode cX8_restBefore 35 = .ok (.athrow, 1) := by decide +kernel
theorem dX8_restBefore_36 : decode cX8_restBefore 36 = .ok (.iload_n 3, 1) := by decide +kernel
theorem dX8_restBefore_37 : decode cX8_restBefore 37 = .ok (.ireturn, 1) := by decide +kernel
theorem dX8_longestNights_0 : decode cX8_longestNights 0 = .ok (.aload_n 0, 1) := by decide +kernel
theorem dX8_longestNights_1 : decode cX8_longestNights 1 = .ok (.iload_n 1, 1) := by decide +kernel
theorem dX8_longestNights_2 : decode cX8_longestNights 2 = .ok (.invokevirtual 104, 3) := by decide +kernel
theorem dX8_longestNights_5 : decode cX8_longestNights 5 = .ok (.aload_n 0, 1) := by decide +kernel
theorem dX8_longestNights_6 : decode cX8_longestNights 6 = .ok (.getfield 35, 3) := by decide +kernel
theorem dX8_longestNights_9 : decode cX8_longestNights 9 = .ok (.iload_n 1, 1) := by decide +kernel
theorem dX8_longestNights_10 : decode cX8_longestNights 10 = .ok (.invokevirtual 165, 3) := by decide +kernel
theorem dX8_longestNights_13 : decode cX8_longestNights 13 = .ok (.ireturn, 1) := by decide +kernel
theorem dX8_longestByRows_0 : decode cX8_longestByRows 0 = .ok (.aload_n 0, 1) := by decide +kernel
theorem dX8_longestByRows_1 : decode cX8_longestByRows 1 = .ok (.iload_n 1, 1) := by decide +kernel
theorem dX8_longestByRows_2 : decode cX8_longestByRows 2 = .ok (.invokevirtual 104, 3) := by decide +kernel
theorem dX8_longestByRows_5 : decode cX8_longestByRows 5 = .ok (.aload_n 0, 1) := by decide +kernel
theorem dX8_longestByRows_6 : decode cX8_longestByRows 6 = .ok (.getfield 35, 3) := by decide +kernel
theorem dX8_longestByRows_9 : decode cX8_longestByRows 9 = .ok (.iload_n 1, 1) := by decide +kernel
theorem dX8_longestByRows_10 : decode cX8_longestByRows 10 = .ok (.invokevirtual 169, 3) := by decide +kernel
theorem dX8_longestByRows_13 : decode cX8_longestByRows 13 = .ok (.ireturn, 1) := by decide +kernel
theorem dX8_peak_0 : decode cX8_peak 0 = .ok (.aload_n 0, 1) := by decide +kernel
theorem dX8_peak_1 : decode cX8_peak 1 = .ok (.iload_n 1, 1) := by decide +kernel
theorem dX8_peak_2 : decode cX8_peak 2 = .ok (.invokevirtual 104, 3) := by decide +kernel
theorem dX8_peak_5 : decode cX8_peak 5 = .ok (.aload_n 0, 1) := by decide +kernel
theorem dX8_peak_6 : decode cX8_peak 6 = .ok (.getfield 35, 3) := by decide +kernel
theorem dX8_peak_9 : decode cX8_peak 9 = .ok (.iload_n 1, 1) := by decide +kernel
theorem dX8_peak_10 : decode cX8_peak 10 = .ok (.invokevirtual 172, 3) := by decide +kernel
theorem dX8_peak_13 : decode cX8_peak 13 = .ok (.ireturn, 1) := by decide +kernel
theorem dX8_peakByAdding_0 : decode cX8_peakByAdding 0 = .ok (.aload_n 0, 1) := by decide +kernel
theorem dX8_peakByAdding_1 : decode cX8_peakByAdding 1 = .ok (.iload_n 1, 1) := by decide +kernel
theorem dX8_peakByAdding_2 : decode cX8_peakByAdding 2 = .ok (.invokevirtual 104, 3) := by decide +kernel
theorem dX8_peakByAdding_5 : decode cX8_peakByAdding 5 = .ok (.aload_n 0, 1) := by decide +kernel
theorem dX8_peakByAdding_6 : decode cX8_peakByAdding 6 = .ok (.getfield 35, 3) := by decide +kernel
theorem dX8_peakByAdding_9 : decode cX8_peakByAdding 9 = .ok (.iload_n 1, 1) := by decide +kernel
theorem dX8_peakByAdding_10 : decode cX8_peakByAdding 10 = .ok (.invokevirtual 175, 3) := by decide +kernel
theorem dX8_peakByAdding_13 : decode cX8_peakByAdding 13 = .ok (.ireturn, 1) := by decide +kernel
theorem dX8_breaches_0 : decode cX8_breaches 0 = .ok (.aload_n 0, 1) := by decide +kernel
theorem dX8_breaches_1 : decode cX8_breaches 1 = .ok (.getfield 42, 3) := by decide +kernel
theorem dX8_breaches_4 : decode cX8_breaches 4 = .ok (.aload_n 0, 1) := by decide +kernel
theorem dX8_breaches_5 : decode cX8_breaches 5 = .ok (.getfield 49, 3) := by decide +kernel
theorem dX8_breaches_8 : decode cX8_breaches 8 = .ok (.invokevirtual 178, 3) := by decide +kernel
theorem dX8_breaches_11 : decode cX8_breaches 11 = .ok (.aload_n 0, 1) := by decide +kernel
theorem dX8_breaches_12 : decode cX8_breaches 12 = .ok (.getfield 49, 3) := by decide +kernel
theorem dX8_breaches_15 : decode cX8_breaches 15 = .ok (.invokevirtual 182, 3) := by decide +kernel
theorem dX8_breaches_18 : decode cX8_breaches 18 = .ok (.ireturn, 1) := by decide +kernel
theorem dX8_breachKind_0 : decode cX8_breachKind 0 = .ok (.aload_n 0, 1) := by decide +kernel
theorem dX8_breachKind_1 : decode cX8_breachKind 1 = .ok (.iload_n 1, 1) := by decide +kernel
theorem dX8_breachKind_2 : decode cX8_breachKind 2 = .ok (.invokevirtual 186, 3) := by decide +kernel
theorem dX8_breachKind_5 : decode cX8_breachKind 5 = .ok (.invokestatic 189, 3) := by decide +kernel
theorem dX8_breachKind_8 : decode cX8_breachKind 8 = .ok (.istore_n 2, 1) := by decide +kernel
theorem dX8_breachKind_9 : decode cX8_breachKind 9 = .ok (.iload_n 2, 1) := by decide +kernel
theorem dX8_breachKind_10 : decode cX8_breachKind 10 = .ok (.ifCond .lt 21, 3) := by decide +kernel
theorem dX8_breachKind_13 : decode cX8_breachKind 13 = .ok (.iload_n 2, 1) := by decide +kernel
theorem dX8_breachKind_14 : decode cX8_breachKind 14 = .ok (.ldc 192, 2) := by decide +kernel
theorem dX8_breachKind_16 : decode cX8_breachKind 16 = .ok (.invokevirtual 194, 3) := by decide +kernel
theorem dX8_breachKind_19 : decode cX8_breachKind 19 = .ok (.if_icmp .ge 12, 3) := by decide +kernel
theorem dX8_breachKind_22 : decode cX8_breachKind 22 = .ok (.ldc 192, 2) := by decide +kernel
theorem dX8_breachKind_24 : decode cX8_breachKind 24 = .ok (.iload_n 2, 1) := by decide +kernel
theorem dX8_breachKind_25 : decode cX8_breachKind 25 = .ok (.invokevirtual 199, 3) := by decide +kernel
theorem dX8_breachKind_28 : decode cX8_breachKind 28 = .ok (.goto 5, 3) := by decide +kernel
theorem dX8_breachKind_31 : decode cX8_breachKind 31 = .ok (.bipush 32, 2) := by decide +kernel
theorem dX8_breachKind_33 : decode cX8_breachKind 33 = .ok (.ireturn, 1) := by decide +kernel
theorem dX8_breachPerson_0 : decode cX8_breachPerson 0 = .ok (.aload_n 0, 1) := by decide +kernel
theorem dX8_breachPerson_1 : decode cX8_breachPerson 1 = .ok (.iload_n 1, 1) := by decide +kernel
theorem dX8_breachPerson_2 : decode cX8_breachPerson 2 = .ok (.invokevirtual 186, 3) := by decide +kernel
theorem dX8_breachPerson_5 : decode cX8_breachPerson 5 = .ok (.invokestatic 203, 3) := by decide +kernel
theorem dX8_breachPerson_8 : decode cX8_breachPerson 8 = .ok (.ireturn, 1) := by decide +kernel
theorem dX8_breachDay_0 : decode cX8_breachDay 0 = .ok (.aload_n 0, 1) := by decide +kernel
theorem dX8_breachDay_1 : decode cX8_breachDay 1 = .ok (.iload_n 1, 1) := by decide +kernel
theorem dX8_breachDay_2 : decode cX8_breachDay 2 = .ok (.invokevirtual 186, 3) := by decide +kernel
theorem dX8_breachDay_5 : decode cX8_breachDay 5 = .ok (.invokestatic 206, 3) := by decide +kernel
theorem dX8_breachDay_8 : decode cX8_breachDay 8 = .ok (.ireturn, 1) := by decide +kernel
theorem dX8_breachShift_0 : decode cX8_breachShift 0 = .ok (.aload_n 0, 1) := by decide +kernel
theorem dX8_breachShift_1 : decode cX8_breachShift 1 = .ok (.iload_n 1, 1) := by decide +kernel
theorem dX8_breachShift_2 : decode cX8_breachShift 2 = .ok (.invokevirtual 186, 3) := by decide +kernel
theorem dX8_breachShift_5 : decode cX8_breachShift 5 = .ok (.invokestatic 209, 3) := by decide +kernel
theorem dX8_breachShift_8 : decode cX8_breachShift 8 = .ok (.ireturn, 1) := by decide +kernel
theorem dX8_mostBreaches_0 : decode cX8_mostBreaches 0 = .ok (.aload_n 0, 1) := by decide +kernel
theorem dX8_mostBreaches_1 : decode cX8_mostBreaches 1 = .ok (.getfield 42, 3) := by decide +kernel
theorem dX8_mostBreaches_4 : decode cX8_mostBreaches 4 = .ok (.aload_n 0, 1) := by decide +kernel
theorem dX8_mostBreaches_5 : decode cX8_mostBreaches 5 = .ok (.getfield 49, 3) := by decide +kernel
theorem dX8_mostBreaches_8 : decode cX8_mostBreaches 8 = .ok (.invokevirtual 178, 3) := by decide +kernel
theorem dX8_mostBreaches_11 : decode cX8_mostBreaches 11 = .ok (.aload_n 0, 1) := by decide +kernel
theorem dX8_mostBreaches_12 : decode cX8_mostBreaches 12 = .ok (.getfield 49, 3) := by decide +kernel
theorem dX8_mostBreaches_15 : decode cX8_mostBreaches 15 = .ok (.invokevirtual 212, 3) := by decide +kernel
theorem dX8_mostBreaches_18 : decode cX8_mostBreaches 18 = .ok (.istore_n 1, 1) := by decide +kernel
theorem dX8_mostBreaches_19 : decode cX8_mostBreaches 19 = .ok (.iload_n 1, 1) := by decide +kernel
theorem dX8_mostBreaches_20 : decode cX8_mostBreaches 20 = .ok (.iconst (-1), 1) := by decide +kernel
theorem dX8_mostBreaches_21 : decode cX8_mostBreaches 21 = .ok (.if_icmp .ne 13, 3) := by decide +kernel
theorem dX8_mostBreaches_24 : decode cX8_mostBreaches 24 = .ok (.new 160, 3) := by decide +kernel
theorem dX8_mostBreaches_27 : decode cX8_mostBreaches 27 = .ok (.dup, 1) := by decide +kernel
theorem dX8_mostBreaches_28 : decode cX8_mostBreaches 28 = .ok (.ldc 215, 2) := by decide +kernel
theorem dX8_mostBreaches_30 : decode cX8_mostBreaches 30 = .ok (.invokespecial 164, 3) := by decide +kernel
theorem dX8_mostBreaches_33 : decode cX8_mostBreaches 33 = .ok (.athrow, 1) := by decide +kernel
theorem dX8_mostBreaches_34 : decode cX8_mostBreaches 34 = .ok (.iload_n 1, 1) := by decide +kernel
theorem dX8_mostBreaches_35 : decode cX8_mostBreaches 35 = .ok (.ireturn, 1) := by decide +kernel
theorem dX8_swap_0 : decode cX8_swap 0 = .ok (.aload_n 0, 1) := by decide +kernel
theorem dX8_swap_1 : decode cX8_swap 1 = .ok (.iload_n 1, 1) := by decide +kernel
theorem dX8_swap_2 : decode cX8_swap 2 = .ok (.invokevirtual 104, 3) := by decide +kernel
theorem dX8_swap_5 : decode cX8_swap 5 = .ok (.aload_n 0, 1) := by decide +kernel
theorem dX8_swap_6 : decode cX8_swap 6 = .ok (.iload_n 2, 1) := by decide +kernel
theorem dX8_swap_7 : decode cX8_swap 7 = .ok (.invokevirtual 104, 3) := by decide +kernel
theorem dX8_swap_10 : decode cX8_swap 10 = .ok (.iload_n 3, 1) := by decide +kernel
theorem dX8_swap_11 : decode cX8_swap 11 = .ok (.invokestatic 130, 3) := by decide +kernel
theorem dX8_swap_14 : decode cX8_swap 14 = .ok (.iload_n 1, 1) := by decide +kernel
theorem dX8_swap_15 : decode cX8_swap 15 = .ok (.iload_n 2, 1) := by decide +kernel
theorem dX8_swap_16 : decode cX8_swap 16 = .ok (.if_icmp .ne 13, 3) := by decide +kernel
theorem dX8_swap_19 : decode cX8_swap 19 = .ok (.new 217, 3) := by decide +kernel
theorem dX8_swap_22 : decode cX8_swap 22 = .ok (.dup, 1) := by decide +kernel
theorem dX8_swap_23 : decode cX8_swap 23 = .ok (.ldc 219, 2) := by decide +kernel
theorem dX8_swap_25 : decode cX8_swap 25 = .ok (.invokespecial 221, 3) := by decide +kernel
theorem dX8_swap_28 : decode cX8_swap 28 = .ok (.athrow, 1) := by decide +kernel
theorem dX8_swap_29 : decode cX8_swap 29 = .ok (.aload_n 0, 1) := by decide +kernel
theorem dX8_swap_30 : decode cX8_swap 30 = .ok (.getfield 42, 3) := by decide +kernel
theorem dX8_swap_33 : decode cX8_swap 33 = .ok (.aload_n 0, 1) := by decide +kernel
theorem dX8_swap_34 : decode cX8_swap 34 = .ok (.getfield 49, 3) := by decide +kernel
theorem dX8_swap_37 : decode cX8_swap 37 = .ok (.invokevirtual 178, 3) := by decide +kernel
theorem dX8_swap_40 : decode cX8_swap 40 = .ok (.aload_n 0, 1) := by decide +kernel
theorem dX8_swap_41 : decode cX8_swap 41 = .ok (.iload_n 1, 1) := by decide +kernel
theorem dX8_swap_42 : decode cX8_swap 42 = .ok (.iload_n 2, 1) := by decide +kernel
theorem dX8_swap_43 : decode cX8_swap 43 = .ok (.iload_n 3, 1) := by decide +kernel
theorem dX8_swap_44 : decode cX8_swap 44 = .ok (.invokevirtual 222, 3) := by decide +kernel
theorem dX8_swap_47 : decode cX8_swap 47 = .ok (.istore 4, 2) := by decide +kernel
theorem dX8_swap_49 : decode cX8_swap 49 = .ok (.iload 4, 2) := by decide +kernel
theorem dX8_swap_51 : decode cX8_swap 51 = .ok (.iconst (-1), 1) := by decide +kernel
theorem dX8_swap_52 : decode cX8_swap 52 = .ok (.if_icmp .ne 13, 3) := by decide +kernel
theorem dX8_swap_55 : decode cX8_swap 55 = .ok (.new 226, 3) := by decide +kernel
theorem dX8_swap_58 : decode cX8_swap 58 = .ok (.dup, 1) := by decide +kernel
theorem dX8_swap_59 : decode cX8_swap 59 = .ok (.ldc 228, 2) := by decide +kernel
theorem dX8_swap_61 : decode cX8_swap 61 = .ok (.invokespecial 230, 3) := by decide +kernel
theorem dX8_swap_64 : decode cX8_swap 64 = .ok (.athrow, 1) := by decide +kernel
theorem dX8_swap_65 : decode cX8_swap 65 = .ok (.aload_n 0, 1) := by decide +kernel
theorem dX8_swap_66 : decode cX8_swap 66 = .ok (.getfield 26, 3) := by decide +kernel
theorem dX8_swap_69 : decode cX8_swap 69 = .ok (.iload_n 1, 1) := by decide +kernel
theorem dX8_swap_70 : decode cX8_swap 70 = .ok (.iload_n 2, 1) := by decide +kernel
theorem dX8_swap_71 : decode cX8_swap 71 = .ok (.iload_n 3, 1) := by decide +kernel
theorem dX8_swap_72 : decode cX8_swap 72 = .ok (.invokevirtual 231, 3) := by decide +kernel
theorem dX8_swap_75 : decode cX8_swap 75 = .ok (.iload 4, 2) := by decide +kernel
theorem dX8_swap_77 : decode cX8_swap 77 = .ok (.ireturn, 1) := by decide +kernel
theorem dX8_partner_0 : decode cX8_partner 0 = .ok (.aload_n 0, 1) := by decide +kernel
theorem dX8_partner_1 : decode cX8_partner 1 = .ok (.iload_n 1, 1) := by decide +kernel
theorem dX8_partner_2 : decode cX8_partner 2 = .ok (.invokevirtual 104, 3) := by decide +kernel
theorem dX8_partner_5 : decode cX8_partner 5 = .ok (.iload_n 2, 1) := by decide +kernel
theorem dX8_partner_6 : decode cX8_partner 6 = .ok (.invokestatic 130, 3) := by decide +kernel
theorem dX8_partner_9 : decode cX8_partner 9 = .ok (.aload_n 0, 1) := by decide +kernel
theorem dX8_partner_10 : decode cX8_partner 10 = .ok (.getfield 42, 3) := by decide +kernel
theorem dX8_partner_13 : decode cX8_partner 13 = .ok (.aload_n 0, 1) := by decide +kernel
theorem dX8_partner_14 : decode cX8_partner 14 = .ok (.getfield 49, 3) := by decide +kernel
theorem dX8_partner_17 : decode cX8_partner 17 = .ok (.invokevirtual 178, 3) := by decide +kernel
theorem dX8_partner_20 : decode cX8_partner 20 = .ok (.aload_n 0, 1) := by decide +kernel
theorem dX8_partner_21 : decode cX8_partner 21 = .ok (.getfield 49, 3) := by decide +kernel
theorem dX8_partner_24 : decode cX8_partner 24 = .ok (.invokevirtual 182, 3) := by decide +kernel
theorem dX8_partner_27 : decode cX8_partner 27 = .ok (.istore_n 3, 1) := by decide +kernel
theorem dX8_partner_28 : decode cX8_partner 28 = .ok (.iconst 0, 1) := by decide +kernel
theorem dX8_partner_29 : decode cX8_partner 29 = .ok (.istore 4, 2) := by decide +kernel
theorem dX8_partner_31 : decode cX8_partner 31 = .ok (.iload 4, 2) := by decide +kernel
theorem dX8_partner_33 : decode cX8_partner 33 = .ok (.aload_n 0, 1) := by decide +kernel
theorem dX8_partner_34 : decode cX8_partner 34 = .ok (.getfield 26, 3) := by decide +kernel
theorem dX8_partner_37 : decode cX8_partner 37 = .ok (.getfield 72, 3) := by decide +kernel
theorem dX8_partner_40 : decode cX8_partner 40 = .ok (.if_icmp .ge 44, 3) := by decide +kernel
theorem dX8_partner_43 : decode cX8_partner 43 = .ok (.iload 4, 2) := by decide +kernel
theorem dX8_partner_45 : decode cX8_partner 45 = .ok (.iload_n 1, 1) := by decide +kernel
theorem dX8_partner_46 : decode cX8_partner 46 = .ok (.if_icmp .ne 7, 3) := by decide +kernel
theorem dX8_partner_49 : decode cX8_partner 49 = .ok (.iconst (-1), 1) := by decide +kernel
theorem dX8_partner_50 : decode cX8_partner 50 = .ok (.goto 11, 3) := by decide +kernel
theorem dX8_partner_53 : decode cX8_partner 53 = .ok (.aload_n 0, 1) := by decide +kernel
theorem dX8_partner_54 : decode cX8_partner 54 = .ok (.iload_n 1, 1) := by decide +kernel
theorem dX8_partner_55 : decode cX8_partner 55 = .ok (.iload 4, 2) := by decide +kernel
theorem dX8_partner_57 : decode cX8_partner 57 = .ok (.iload_n 2, 1) := by decide +kernel
theorem dX8_partner_58 : decode cX8_partner 58 = .ok (.invokevirtual 222, 3) := by decide +kernel
theorem dX8_partner_61 : decode cX8_partner 61 = .ok (.istore 5, 2) := by decide +kernel
theorem dX8_partner_63 : decode cX8_partner 63 = .ok (.iload 5, 2) := by decide +kernel
theorem dX8_partner_65 : decode cX8_partner 65 = .ok (.iconst (-1), 1) := by decide +kernel
theorem dX8_partner_66 : decode cX8_partner 66 = .ok (.if_icmp .eq 12, 3) := by decide +kernel
theorem dX8_partner_69 : decode cX8_partner 69 = .ok (.iload 5, 2) := by decide +kernel
theorem dX8_partner_71 : decode cX8_partner 71 = .ok (.iload_n 3, 1) := by decide +kernel
theorem dX8_partner_72 : decode cX8_partner 72 = .ok (.if_icmp .ge 6, 3) := by decide +kernel
theorem dX8_partner_75 : decode cX8_partner 75 = .ok (.iload 4, 2) := by decide +kernel
theorem dX8_partner_77 : decode cX8_partner 77 = .ok (.ireturn, 1) := by decide +kernel
theorem dX8_partner_78 : decode cX8_partner 78 = .ok (.iinc 4 1, 3) := by decide +kernel
theorem dX8_partner_81 : decode cX8_partner 81 = .ok (.goto (-50), 3) := by decide +kernel
theorem dX8_partner_84 : decode cX8_partner 84 = .ok (.new 160, 3) := by decide +kernel
theorem dX8_partner_87 : decode cX8_partner 87 = .ok (.dup, 1) := by decide +kernel
theorem dX8_partner_88 : decode cX8_partner 88 = .ok (.ldc 234, 2) := by decide +kernel
theorem dX8_partner_90 : decode cX8_partner 90 = .ok (.invokespecial 164, 3) := by decide +kernel
theorem dX8_partner_93 : decode cX8_partner 93 = .ok (.athrow, 1) := by decide +kernel
theorem dX8_leastChanges_0 : decode cX8_leastChanges 0 = .ok (.aload_n 0, 1) := by decide +kernel
theorem dX8_leastChanges_1 : decode cX8_leastChanges 1 = .ok (.getfield 61, 3) := by decide +kernel
theorem dX8_leastChanges_4 : decode cX8_leastChanges 4 = .ok (.iconst 1, 1) := by decide +kernel
theorem dX8_leastChanges_5 : decode cX8_leastChanges 5 = .ok (.invokevirtual 236, 3) := by decide +kernel
theorem dX8_leastChanges_8 : decode cX8_leastChanges 8 = .ok (.invokestatic 240, 3) := by decide +kernel
theorem dX8_leastChanges_11 : decode cX8_leastChanges 11 = .ok (.ireturn, 1) := by decide +kernel
theorem dX8_leastByTrial_0 : decode cX8_leastByTrial 0 = .ok (.aload_n 0, 1) := by decide +kernel
theorem dX8_leastByTrial_1 : decode cX8_leastByTrial 1 = .ok (.getfield 61, 3) := by decide +kernel
theorem dX8_leastByTrial_4 : decode cX8_leastByTrial 4 = .ok (.iconst 0, 1) := by decide +kernel
theorem dX8_leastByTrial_5 : decode cX8_leastByTrial 5 = .ok (.invokevirtual 236, 3) := by decide +kernel
theorem dX8_leastByTrial_8 : decode cX8_leastByTrial 8 = .ok (.invokestatic 240, 3) := by decide +kernel
theorem dX8_leastByTrial_11 : decode cX8_leastByTrial 11 = .ok (.ireturn, 1) := by decide +kernel
theorem dX8_mend_0 : decode cX8_mend 0 = .ok (.aload_n 0, 1) := by decide +kernel
theorem dX8_mend_1 : decode cX8_mend 1 = .ok (.getfield 61, 3) := by decide +kernel
theorem dX8_mend_4 : decode cX8_mend 4 = .ok (.iconst 0, 1) := by decide +kernel
theorem dX8_mend_5 : decode cX8_mend 5 = .ok (.invokevirtual 236, 3) := by decide +kernel
theorem dX8_mend_8 : decode cX8_mend 8 = .ok (.invokestatic 240, 3) := by decide +kernel
theorem dX8_mend_11 : decode cX8_mend 11 = .ok (.istore_n 1, 1) := by decide +kernel
theorem dX8_mend_12 : decode cX8_mend 12 = .ok (.aload_n 0, 1) := by decide +kernel
theorem dX8_mend_13 : decode cX8_mend 13 = .ok (.getfield 68, 3) := by decide +kernel
theorem dX8_mend_16 : decode cX8_mend 16 = .ok (.iload_n 1, 1) := by decide +kernel
theorem dX8_mend_17 : decode cX8_mend 17 = .ok (.putfield 243, 3) := by decide +kernel
theorem dX8_mend_20 : decode cX8_mend 20 = .ok (.iconst 0, 1) := by decide +kernel
theorem dX8_mend_21 : decode cX8_mend 21 = .ok (.istore_n 2, 1) := by decide +kernel
theorem dX8_mend_22 : decode cX8_mend 22 = .ok (.iload_n 2, 1) := by decide +kernel
theorem dX8_mend_23 : decode cX8_mend 23 = .ok (.iload_n 1, 1) := by decide +kernel
theorem dX8_mend_24 : decode cX8_mend 24 = .ok (.if_icmp .ge 62, 3) := by decide +kernel
theorem dX8_mend_27 : decode cX8_mend 27 = .ok (.aload_n 0, 1) := by decide +kernel
theorem dX8_mend_28 : decode cX8_mend 28 = .ok (.getfield 68, 3) := by decide +kernel
theorem dX8_mend_31 : decode cX8_mend 31 = .ok (.iload_n 2, 1) := by decide +kernel
theorem dX8_mend_32 : decode cX8_mend 32 = .ok (.aload_n 0, 1) := by decide +kernel
theorem dX8_mend_33 : decode cX8_mend 33 = .ok (.getfield 61, 3) := by decide +kernel
theorem dX8_mend_36 : decode cX8_mend 36 = .ok (.getfield 245, 3) := by decide +kernel
theorem dX8_mend_39 : decode cX8_mend 39 = .ok (.iload_n 2, 1) := by decide +kernel
theorem dX8_mend_40 : decode cX8_mend 40 = .ok (.invokevirtual 248, 3) := by decide +kernel
theorem dX8_mend_43 : decode cX8_mend 43 = .ok (.aload_n 0, 1) := by decide +kernel
theorem dX8_mend_44 : decode cX8_mend 44 = .ok (.getfield 61, 3) := by decide +kernel
theorem dX8_mend_47 : decode cX8_mend 47 = .ok (.getfield 245, 3) := by decide +kernel
theorem dX8_mend_50 : decode cX8_mend 50 = .ok (.iload_n 2, 1) := by decide +kernel
theorem dX8_mend_51 : decode cX8_mend 51 = .ok (.invokevirtual 251, 3) := by decide +kernel
theorem dX8_mend_54 : decode cX8_mend 54 = .ok (.invokevirtual 254, 3) := by decide +kernel
theorem dX8_mend_57 : decode cX8_mend 57 = .ok (.aload_n 0, 1) := by decide +kernel
theorem dX8_mend_58 : decode cX8_mend 58 = .ok (.getfield 26, 3) := by decide +kernel
theorem dX8_mend_61 : decode cX8_mend 61 = .ok (.aload_n 0, 1) := by decide +kernel
theorem dX8_mend_62 : decode cX8_mend 62 = .ok (.getfield 68, 3) := by decide +kernel
theorem dX8_mend_65 : decode cX8_mend 65 = .ok (.iload_n 2, 1) := by decide +kernel
theorem dX8_mend_66 : decode cX8_mend 66 = .ok (.invokevirtual 248, 3) := by decide +kernel
theorem dX8_mend_69 : decode cX8_mend 69 = .ok (.aload_n 0, 1) := by decide +kernel
theorem dX8_mend_70 : decode cX8_mend 70 = .ok (.getfield 68, 3) := by decide +kernel
theorem dX8_mend_73 : decode cX8_mend 73 = .ok (.iload_n 2, 1) := by decide +kernel
theorem dX8_mend_74 : decode cX8_mend 74 = .ok (.invokevirtual 251, 3) := by decide +kernel
theorem dX8_mend_77 : decode cX8_mend 77 = .ok (.invokevirtual 145, 3) := by decide +kernel
theorem dX8_mend_80 : decode cX8_mend 80 = .ok (.iinc 2 1, 3) := by decide +kernel
theorem dX8_mend_83 : decode cX8_mend 83 = .ok (.goto (-61), 3) := by decide +kernel
theorem dX8_mend_86 : decode cX8_mend 86 = .ok (.iload_n 1, 1) := by decide +kernel
theorem dX8_mend_87 : decode cX8_mend 87 = .ok (.ireturn, 1) := by decide +kernel
theorem dX8_changedCell_0 : decode cX8_changedCell 0 = .ok (.aload_n 0, 1) := by decide +kernel
theorem dX8_changedCell_1 : decode cX8_changedCell 1 = .ok (.iload_n 1, 1) := by decide +kernel
theorem dX8_changedCell_2 : decode cX8_changedCell 2 = .ok (.invokevirtual 256, 3) := by decide +kernel
theorem dX8_changedCell_5 : decode cX8_changedCell 5 = .ok (.aload_n 0, 1) := by decide +kernel
theorem dX8_changedCell_6 : decode cX8_changedCell 6 = .ok (.getfield 68, 3) := by decide +kernel
theorem dX8_changedCell_9 : decode cX8_changedCell 9 = .ok (.iload_n 1, 1) := by decide +kernel
theorem dX8_changedCell_10 : decode cX8_changedCell 10 = .ok (.invokevirtual 248, 3) := by decide +kernel
theorem dX8_changedCell_13 : decode cX8_changedCell 13 = .ok (.ireturn, 1) := by decide +kernel
theorem dX8_changedValue_0 : decode cX8_changedValue 0 = .ok (.aload_n 0, 1) := by decide +kernel
theorem dX8_changedValue_1 : decode cX8_changedValue 1 = .ok (.iload_n 1, 1) := by decide +kernel
theorem dX8_changedValue_2 : decode cX8_changedValue 2 = .ok (.invokevirtual 256, 3) := by decide +kernel
theorem dX8_changedValue_5 : decode cX8_changedValue 5 = .ok (.aload_n 0, 1) := by decide +kernel
theorem dX8_changedValue_6 : decode cX8_changedValue 6 = .ok (.getfield 68, 3) := by decide +kernel
theorem dX8_changedValue_9 : decode cX8_changedValue 9 = .ok (.iload_n 1, 1) := by decide +kernel
theorem dX8_changedValue_10 : decode cX8_changedValue 10 = .ok (.invokevirtual 251, 3) := by decide +kernel
theorem dX8_changedValue_13 : decode cX8_changedValue 13 = .ok (.ireturn, 1) := by decide +kernel
theorem dX8_minutes_0 : decode cX8_minutes 0 = .ok (.lconst 0, 1) := by decide +kernel
theorem dX8_minutes_1 : decode cX8_minutes 1 = .ok (.lstore_n 1, 1) := by decide +kernel
theorem dX8_minutes_2 : decode cX8_minutes 2 = .ok (.iconst 0, 1) := by decide +kernel
theorem dX8_minutes_3 : decode cX8_minutes 3 = .ok (.istore_n 3, 1) := by decide +kernel
theorem dX8_minutes_4 : decode cX8_minutes 4 = .ok (.iload_n 3, 1) := by decide +kernel
theorem dX8_minutes_5 : decode cX8_minutes 5 = .ok (.aload_n 0, 1) := by decide +kernel
theorem dX8_minutes_6 : decode cX8_minutes 6 = .ok (.getfield 26, 3) := by decide +kernel
theorem dX8_minutes_9 : decode cX8_minutes 9 = .ok (.getfield 72, 3) := by decide +kernel
theorem dX8_minutes_12 : decode cX8_minutes 12 = .ok (.if_icmp .ge 39, 3) := by decide +kernel
theorem dX8_minutes_15 : decode cX8_minutes 15 = .ok (.iconst 0, 1) := by decide +kernel
theorem dX8_minutes_16 : decode cX8_minutes 16 = .ok (.istore 4, 2) := by decide +kernel
theorem dX8_minutes_18 : decode cX8_minutes 18 = .ok (.iload 4, 2) := by decide +kernel
theorem dX8_minutes_20 : decode cX8_minutes 20 = .ok (.bipush 8, 2) := by decide +kernel
theorem dX8_minutes_22 : decode cX8_minutes 22 = .ok (.if_icmp .ge 23, 3) := by decide +kernel
theorem dX8_minutes_25 : decode cX8_minutes 25 = .ok (.lload_n 1, 1) := by decide +kernel
theorem dX8_minutes_26 : decode cX8_minutes 26 = .ok (.aload_n 0, 1) := by decide +kernel
theorem dX8_minutes_27 : decode cX8_minutes 27 = .ok (.getfield 35, 3) := by decide +kernel
theorem dX8_minutes_30 : decode cX8_minutes 30 = .ok (.iload_n 3, 1) := by decide +kernel
theorem dX8_minutes_31 : decode cX8_minutes 31 = .ok (.iload 4, 2) := by decide +kernel
theorem dX8_minutes_33 : decode cX8_minutes 33 = .ok (.invokevirtual 259, 3) := by decide +kernel
theorem dX8_minutes_36 : decode cX8_minutes 36 = .ok (.i2l, 1) := by decide +kernel
theorem dX8_minutes_37 : decode cX8_minutes 37 = .ok (.ladd, 1) := by decide +kernel
theorem dX8_minutes_38 : decode cX8_minutes 38 = .ok (.lstore_n 1, 1) := by decide +kernel
theorem dX8_minutes_39 : decode cX8_minutes 39 = .ok (.iinc 4 1, 3) := by decide +kernel
theorem dX8_minutes_42 : decode cX8_minutes 42 = .ok (.goto (-24), 3) := by decide +kernel
theorem dX8_minutes_45 : decode cX8_minutes 45 = .ok (.iinc 3 1, 3) := by decide +kernel
theorem dX8_minutes_48 : decode cX8_minutes 48 = .ok (.goto (-44), 3) := by decide +kernel
theorem dX8_minutes_51 : decode cX8_minutes 51 = .ok (.lload_n 1, 1) := by decide +kernel
theorem dX8_minutes_52 : decode cX8_minutes 52 = .ok (.lreturn, 1) := by decide +kernel
theorem dX8_workShare_0 : decode cX8_workShare 0 = .ok (.aload_n 0, 1) := by decide +kernel
theorem dX8_workShare_1 : decode cX8_workShare 1 = .ok (.iload_n 1, 1) := by decide +kernel
theorem dX8_workShare_2 : decode cX8_workShare 2 = .ok (.invokevirtual 104, 3) := by decide +kernel
theorem dX8_workShare_5 : decode cX8_workShare 5 = .ok (.iconst 0, 1) := by decide +kernel
theorem dX8_workShare_6 : decode cX8_workShare 6 = .ok (.istore_n 2, 1) := by decide +kernel
theorem dX8_workShare_7 : decode cX8_workShare 7 = .ok (.iconst 0, 1) := by decide +kernel
theorem dX8_workShare_8 : decode cX8_workShare 8 = .ok (.istore_n 3, 1) := by decide +kernel
theorem dX8_workShare_9 : decode cX8_workShare 9 = .ok (.iload_n 3, 1) := by decide +kernel
theorem dX8_workShare_10 : decode cX8_workShare 10 = .ok (.bipush 8, 2) := by decide +kernel
theorem dX8_workShare_12 : decode cX8_workShare 12 = .ok (.if_icmp .ge 25, 3) := by decide +kernel
theorem dX8_workShare_15 : decode cX8_workShare 15 = .ok (.aload_n 0, 1) := by decide +kernel
theorem dX8_workShare_16 : decode cX8_workShare 16 = .ok (.getfield 26, 3) := by decide +kernel
theorem dX8_workShare_19 : decode cX8_workShare 19 = .ok (.iload_n 1, 1) := by decide +kernel
theorem dX8_workShare_20 : decode cX8_workShare 20 = .ok (.iload_n 3, 1) := by decide +kernel
theorem dX8_workShare_21 : decode cX8_workShare 21 = .ok (.invokevirtual 139, 3) := by decide +kernel
theorem dX8_workShare_24 : decode cX8_workShare 24 = .ok (.iconst (-1), 1) := by decide +kernel
theorem dX8_workShare_25 : decode cX8_workShare 25 = .ok (.if_icmp .eq 6, 3) := by decide +kernel
theorem dX8_workShare_28 : decode cX8_workShare 28 = .ok (.iinc 2 1, 3) := by decide +kernel
theorem dX8_workShare_31 : decode cX8_workShare 31 = .ok (.iinc 3 1, 3) := by decide +kernel
theorem dX8_workShare_34 : decode cX8_workShare 34 = .ok (.goto (-25), 3) := by decide +kernel
theorem dX8_workShare_37 : decode cX8_workShare 37 = .ok (.iload_n 2, 1) := by decide +kernel
theorem dX8_workShare_38 : decode cX8_workShare 38 = .ok (.i2f, 1) := by decide +kernel
theorem dX8_workShare_39 : decode cX8_workShare 39 = .ok (.ldc_w 262, 3) := by decide +kernel
theorem dX8_workShare_42 : decode cX8_workShare 42 = .ok (.fdiv, 1) := by decide +kernel
theorem dX8_workShare_43 : decode cX8_workShare 43 = .ok (.freturn, 1) := by decide +kernel
theorem dX8_meanRest_0 : decode cX8_meanRest 0 = .ok (.aload_n 0, 1) := by decide +kernel
theorem dX8_meanRest_1 : decode cX8_meanRest 1 = .ok (.iload_n 1, 1) := by decide +kernel
theorem dX8_meanRest_2 : decode cX8_meanRest 2 = .ok (.invokevirtual 104, 3) := by decide +kernel
theorem dX8_meanRest_5 : decode cX8_meanRest 5 = .ok (.iconst 0, 1) := by decide +kernel
theorem dX8_meanRest_6 : decode cX8_meanRest 6 = .ok (.istore_n 2, 1) := by decide +kernel
theorem dX8_meanRest_7 : decode cX8_meanRest 7 = .ok (.iconst 0, 1) := by decide +kernel
theorem dX8_meanRest_8 : decode cX8_meanRest 8 = .ok (.istore_n 3, 1) := by decide +kernel
theorem dX8_meanRest_9 : decode cX8_meanRest 9 = .ok (.iconst 0, 1) := by decide +kernel
theorem dX8_meanRest_10 : decode cX8_meanRest 10 = .ok (.istore 4, 2) := by decide +kernel
theorem dX8_meanRest_12 : decode cX8_meanRest 12 = .ok (.iload 4, 2) := by decide +kernel
theorem dX8_meanRest_14 : decode cX8_meanRest 14 = .ok (.bipush 8, 2) := by decide +kernel
theorem dX8_meanRest_16 : decode cX8_meanRest 16 = .ok (.if_icmp .ge 37, 3) := by decide +kernel
theorem dX8_meanRest_19 : decode cX8_meanRest 19 = .ok (.aload_n 0, 1) := by decide +kernel
theorem dX8_meanRest_20 : decode cX8_meanRest 20 = .ok (.getfield 35, 3) := by decide +kernel
theorem dX8_meanRest_23 : decode cX8_meanRest 23 = .ok (.iload_n 1, 1) := by decide +kernel
theorem dX8_meanRest_24 : decode cX8_meanRest 24 = .ok (.iload 4, 2) := by decide +kernel
theorem dX8_meanRest_26 : decode cX8_meanRest 26 = .ok (.invokevirtual 157, 3) := by decide +kernel
theorem dX8_meanRest_29 : decode cX8_meanRest 29 = .ok (.istore 5, 2) := by decide +kernel
theorem dX8_meanRest_31 : decode cX8_meanRest 31 = .ok (.iload 5, 2) := by decide +kernel
theorem dX8_meanRest_33 : decode cX8_meanRest 33 = .ok (.sipush (-1440), 3) := by decide +kernel
theorem dX8_meanRest_36 : decode cX8_meanRest 36 = .ok (.if_icmp .eq 11, 3) := by decide +kernel
theorem dX8_meanRest_39 : decode cX8_meanRest 39 = .ok (.iload_n 2, 1) := by decide +kernel
theorem dX8_meanRest_40 : decode cX8_meanRest 40 = .ok (.iload 5, 2) := by decide +kernel
theorem dX8_meanRest_42 : decode cX8_meanRest 42 = .ok (.iadd, 1) := by decide +kernel
theorem dX8_meanRest_43 : decode cX8_meanRest 43 = .ok (.istore_n 2, 1) := by decide +kernel
theorem dX8_meanRest_44 : decode cX8_meanRest 44 = .ok (.iinc 3 1, 3) := by decide +kernel
theorem dX8_meanRest_47 : decode cX8_meanRest 47 = .ok (.iinc 4 1, 3) := by decide +kernel
theorem dX8_meanRest_50 : decode cX8_meanRest 50 = .ok (.goto (-38), 3) := by decide +kernel
theorem dX8_meanRest_53 : decode cX8_meanRest 53 = .ok (.iload_n 3, 1) := by decide +kernel
theorem dX8_meanRest_54 : decode cX8_meanRest 54 = .ok (.ifCond .ne 14, 3) := by decide +kernel
theorem dX8_meanRest_57 : decode cX8_meanRest 57 = .ok (.new 263, 3) := by decide +kernel
theorem dX8_meanRest_60 : decode cX8_meanRest 60 = .ok (.dup, 1) := by decide +kernel
theorem dX8_meanRest_61 : decode cX8_meanRest 61 = .ok (.ldc_w 265, 3) := by decide +kernel
theorem dX8_meanRest_64 : decode cX8_meanRest 64 = .ok (.invokespecial 267, 3) := by decide +kernel
theorem dX8_meanRest_67 : decode cX8_meanRest 67 = .ok (.athrow, 1) := by decide +kernel
theorem dX8_meanRest_68 : decode cX8_meanRest 68 = .ok (.iload_n 2, 1) := by decide +kernel
theorem dX8_meanRest_69 : decode cX8_meanRest 69 = .ok (.i2d, 1) := by decide +kernel
theorem dX8_meanRest_70 : decode cX8_meanRest 70 = .ok (.iload_n 3, 1) := by decide +kernel
theorem dX8_meanRest_71 : decode cX8_meanRest 71 = .ok (.i2d, 1) := by decide +kernel
theorem dX8_meanRest_72 : decode cX8_meanRest 72 = .ok (.ddiv, 1) := by decide +kernel
theorem dX8_meanRest_73 : decode cX8_meanRest 73 = .ok (.dreturn, 1) := by decide +kernel
theorem dX8_isSound_0 : decode cX8_isSound 0 = .ok (.iconst 0, 1) := by decide +kernel
theorem dX8_isSound_1 : decode cX8_isSound 1 = .ok (.istore_n 1, 1) := by decide +kernel
theorem dX8_isSound_2 : decode cX8_isSound 2 = .ok (.iload_n 1, 1) := by decide +kernel
theorem dX8_isSound_3 : decode cX8_isSound 3 = .ok (.aload_n 0, 1) := by decide +kernel
theorem dX8_isSound_4 : decode cX8_isSound 4 = .ok (.getfield 26, 3) := by decide +kernel
theorem dX8_isSound_7 : decode cX8_isSound 7 = .ok (.getfield 72, 3) := by decide +kernel
theorem dX8_isSound_10 : decode cX8_isSound 10 = .ok (.if_icmp .ge 49, 3) := by decide +kernel
theorem dX8_isSound_13 : decode cX8_isSound 13 = .ok (.aload_n 0, 1) := by decide +kernel
theorem dX8_isSound_14 : decode cX8_isSound 14 = .ok (.getfield 35, 3) := by decide +kernel
theorem dX8_isSound_17 : decode cX8_isSound 17 = .ok (.iload_n 1, 1) := by decide +kernel
theorem dX8_isSound_18 : decode cX8_isSound 18 = .ok (.invokevirtual 165, 3) := by decide +kernel
theorem dX8_isSound_21 : decode cX8_isSound 21 = .ok (.aload_n 0, 1) := by decide +kernel
theorem dX8_isSound_22 : decode cX8_isSound 22 = .ok (.getfield 35, 3) := by decide +kernel
theorem dX8_isSound_25 : decode cX8_isSound 25 = .ok (.iload_n 1, 1) := by decide +kernel
theorem dX8_isSound_26 : decode cX8_isSound 26 = .ok (.invokevirtual 169, 3) := by decide +kernel
theorem dX8_isSound_29 : decode cX8_isSound 29 = .ok (.if_icmp .ne 22, 3) := by decide +kernel
theorem dX8_isSound_32 : decode cX8_isSound 32 = .ok (.aload_n 0, 1) := by decide +kernel
theorem dX8_isSound_33 : decode cX8_isSound 33 = .ok (.getfield 35, 3) := by decide +kernel
theorem dX8_isSound_36 : decode cX8_isSound 36 = .ok (.iload_n 1, 1) := by decide +kernel
theorem dX8_isSound_37 : decode cX8_isSound 37 = .ok (.invokevirtual 172, 3) := by decide +kernel
theorem dX8_isSound_40 : decode cX8_isSound 40 = .ok (.aload_n 0, 1) := by decide +kernel
theorem dX8_isSound_41 : decode cX8_isSound 41 = .ok (.getfield 35, 3) := by decide +kernel
theorem dX8_isSound_44 : decode cX8_isSound 44 = .ok (.iload_n 1, 1) := by decide +kernel
theorem dX8_isSound_45 : decode cX8_isSound 45 = .ok (.invokevirtual 175, 3) := by decide +kernel
theorem dX8_isSound_48 : decode cX8_isSound 48 = .ok (.if_icmp .eq 5, 3) := by decide +kernel
theorem dX8_isSound_51 : decode cX8_isSound 51 = .ok (.iconst 0, 1) := by decide +kernel
theorem dX8_isSound_52 : decode cX8_isSound 52 = .ok (.ireturn, 1) := by decide +kernel
theorem dX8_isSound_53 : decode cX8_isSound 53 = .ok (.iinc 1 1, 3) := by decide +kernel
theorem dX8_isSound_56 : decode cX8_isSound 56 = .ok (.goto (-54), 3) := by decide +kernel
theorem dX8_isSound_59 : decode cX8_isSound 59 = .ok (.aload_n 0, 1) := by decide +kernel
theorem dX8_isSound_60 : decode cX8_isSound 60 = .ok (.getfield 61, 3) := by decide +kernel
theorem dX8_isSound_63 : decode cX8_isSound 63 = .ok (.iconst 1, 1) := by decide +kernel
theorem dX8_isSound_64 : decode cX8_isSound 64 = .ok (.invokevirtual 236, 3) := by decide +kernel
theorem dX8_isSound_67 : decode cX8_isSound 67 = .ok (.aload_n 0, 1) := by decide +kernel
theorem dX8_isSound_68 : decode cX8_isSound 68 = .ok (.getfield 61, 3) := by decide +kernel
theorem dX8_isSound_71 : decode cX8_isSound 71 = .ok (.iconst 0, 1) := by decide +kernel
theorem dX8_isSound_72 : decode cX8_isSound 72 = .ok (.invokevirtual 236, 3) := by decide +kernel
theorem dX8_isSound_75 : decode cX8_isSound 75 = .ok (.if_icmp .ne 7, 3) := by decide +kernel
theorem dX8_isSound_78 : decode cX8_isSound 78 = .ok (.iconst 1, 1) := by decide +kernel
theorem dX8_isSound_79 : decode cX8_isSound 79 = .ok (.goto 4, 3) := by decide +kernel
theorem dX8_isSound_82 : decode cX8_isSound 82 = .ok (.iconst 0, 1) := by decide +kernel
theorem dX8_isSound_83 : decode cX8_isSound 83 = .ok (.ireturn, 1) := by decide +kernel
theorem dX8_requirePerson_0 : decode cX8_requirePerson 0 = .ok (.aload_n 0, 1) := by decide +kernel
theorem dX8_requirePerson_1 : decode cX8_requirePerson 1 = .ok (.getfield 26, 3) := by decide +kernel
theorem dX8_requirePerson_4 : decode cX8_requirePerson 4 = .ok (.iload_n 1, 1) := by decide +kernel
theorem dX8_requirePerson_5 : decode cX8_requirePerson 5 = .ok (.invokevirtual 268, 3) := by decide +kernel
theorem dX8_requirePerson_8 : decode cX8_requirePerson 8 = .ok (.ifCond .ne 14, 3) := by decide +kernel
theorem dX8_requirePerson_11 : decode cX8_requirePerson 11 = .ok (.new 271, 3) := by decide +kernel
theorem dX8_requirePerson_14 : decode cX8_requirePerson 14 = .ok (.dup, 1) := by decide +kernel
theorem dX8_requirePerson_15 : decode cX8_requirePerson 15 = .ok (.ldc_w 273, 3) := by decide +kernel
theorem dX8_requirePerson_18 : decode cX8_requirePerson 18 = .ok (.invokespecial 275, 3) := by decide +kernel
theorem dX8_requirePerson_21 : decode cX8_requirePerson 21 = .ok (.athrow, 1) := by decide +kernel
theorem dX8_requirePerson_22 : decode cX8_requirePerson 22 = .ok (.return_, 1) := by decide +kernel
theorem dX8_requireDay_0 : decode cX8_requireDay 0 = .ok (.iload_n 0, 1) := by decide +kernel
theorem dX8_requireDay_1 : decode cX8_requireDay 1 = .ok (.ifCond .lt 9, 3) := by decide +kernel
theorem dX8_requireDay_4 : decode cX8_requireDay 4 = .ok (.iload_n 0, 1) := by decide +kernel
theorem dX8_requireDay_5 : decode cX8_requireDay 5 = .ok (.bipush 8, 2) := by decide +kernel
theorem dX8_requireDay_7 : decode cX8_requireDay 7 = .ok (.if_icmp .lt 14, 3) := by decide +kernel
theorem dX8_requireDay_10 : decode cX8_requireDay 10 = .ok (.new 271, 3) := by decide +kernel
theorem dX8_requireDay_13 : decode cX8_requireDay 13 = .ok (.dup, 1) := by decide +kernel
theorem dX8_requireDay_14 : decode cX8_requireDay 14 = .ok (.ldc_w 276, 3) := by decide +kernel
theorem dX8_requireDay_17 : decode cX8_requireDay 17 = .ok (.invokespecial 275, 3) := by decide +kernel
theorem dX8_requireDay_20 : decode cX8_requireDay 20 = .ok (.athrow, 1) := by decide +kernel
theorem dX8_requireDay_21 : decode cX8_requireDay 21 = .ok (.return_, 1) := by decide +kernel
theorem dX8_requireShift_0 : decode cX8_requireShift 0 = .ok (.aload_n 0, 1) := by decide +kernel
theorem dX8_requireShift_1 : decode cX8_requireShift 1 = .ok (.getfield 12, 3) := by decide +kernel
theorem dX8_requireShift_4 : decode cX8_requireShift 4 = .ok (.iload_n 1, 1) := by decide +kernel
theorem dX8_requireShift_5 : decode cX8_requireShift 5 = .ok (.invokevirtual 278, 3) := by decide +kernel
theorem dX8_requireShift_8 : decode cX8_requireShift 8 = .ok (.ifCond .ne 14, 3) := by decide +kernel
theorem dX8_requireShift_11 : decode cX8_requireShift 11 = .ok (.new 160, 3) := by decide +kernel
theorem dX8_requireShift_14 : decode cX8_requireShift 14 = .ok (.dup, 1) := by decide +kernel
theorem dX8_requireShift_15 : decode cX8_requireShift 15 = .ok (.ldc_w 281, 3) := by decide +kernel
theorem dX8_requireShift_18 : decode cX8_requireShift 18 = .ok (.invokespecial 164, 3) := by decide +kernel
theorem dX8_requireShift_21 : decode cX8_requireShift 21 = .ok (.athrow, 1) := by decide +kernel
theorem dX8_requireShift_22 : decode cX8_requireShift 22 = .ok (.return_, 1) := by decide +kernel
theorem dX8_requireRange_0 : decode cX8_requireRange 0 = .ok (.iload_n 0, 1) := by decide +kernel
theorem dX8_requireRange_1 : decode cX8_requireRange 1 = .ok (.iload_n 1, 1) := by decide +kernel
theorem dX8_requireRange_2 : decode cX8_requireRange 2 = .ok (.if_icmp .lt 8, 3) := by decide +kernel
theorem dX8_requireRange_5 : decode cX8_requireRange 5 = .ok (.iload_n 0, 1) := by decide +kernel
theorem dX8_requireRange_6 : decode cX8_requireRange 6 = .ok (.iload_n 2, 1) := by decide +kernel
theorem dX8_requireRange_7 : decode cX8_requireRange 7 = .ok (.if_icmp .le 14, 3) := by decide +kernel
theorem dX8_requireRange_10 : decode cX8_requireRange 10 = .ok (.new 217, 3) := by decide +kernel
theorem dX8_requireRange_13 : decode cX8_requireRange 13 = .ok (.dup, 1) := by decide +kernel
theorem dX8_requireRange_14 : decode cX8_requireRange 14 = .ok (.ldc_w 283, 3) := by decide +kernel
theorem dX8_requireRange_17 : decode cX8_requireRange 17 = .ok (.invokespecial 221, 3) := by decide +kernel
theorem dX8_requireRange_20 : decode cX8_requireRange 20 = .ok (.athrow, 1) := by decide +kernel
theorem dX8_requireRange_21 : decode cX8_requireRange 21 = .ok (.return_, 1) := by decide +kernel
theorem dX8_requireChange_0 : decode cX8_requireChange 0 = .ok (.iload_n 1, 1) := by decide +kernel
theorem dX8_requireChange_1 : decode cX8_requireChange 1 = .ok (.ifCond .lt 14, 3) := by decide +kernel
theorem dX8_requireChange_4 : decode cX8_requireChange 4 = .ok (.iload_n 1, 1) := by decide +kernel
theorem dX8_requireChange_5 : decode cX8_requireChange 5 = .ok (.aload_n 0, 1) := by decide +kernel
theorem dX8_requireChange_6 : decode cX8_requireChange 6 = .ok (.getfield 68, 3) := by decide +kernel
theorem dX8_requireChange_9 : decode cX8_requireChange 9 = .ok (.getfield 243, 3) := by decide +kernel
theorem dX8_requireChange_12 : decode cX8_requireChange 12 = .ok (.if_icmp .lt 14, 3) := by decide +kernel
theorem dX8_requireChange_15 : decode cX8_requireChange 15 = .ok (.new 160, 3) := by decide +kernel
theorem dX8_requireChange_18 : decode cX8_requireChange 18 = .ok (.dup, 1) := by decide +kernel
theorem dX8_requireChange_19 : decode cX8_requireChange 19 = .ok (.ldc_w 285, 3) := by decide +kernel
theorem dX8_requireChange_22 : decode cX8_requireChange 22 = .ok (.invokespecial 164, 3) := by decide +kernel
theorem dX8_requireChange_25 : decode cX8_requireChange 25 = .ok (.athrow, 1) := by decide +kernel
theorem dX8_requireChange_26 : decode cX8_requireChange 26 = .ok (.return_, 1) := by decide +kernel
theorem dX8_requireSize_0 : decode cX8_requireSize 0 = .ok (.iload_n 0, 1) := by decide +kernel
theorem dX8_requireSize_1 : decode cX8_requireSize 1 = .ok (.iconst (-1), 1) := by decide +kernel
theorem dX8_requireSize_2 : decode cX8_requireSize 2 = .ok (.if_icmp .ne 14, 3) := by decide +kernel
theorem dX8_requireSize_5 : decode cX8_requireSize 5 = .ok (.new 160, 3) := by decide +kernel
theorem dX8_requireSize_8 : decode cX8_requireSize 8 = .ok (.dup, 1) := by decide +kernel
theorem dX8_requireSize_9 : decode cX8_requireSize 9 = .ok (.ldc_w 287, 3) := by decide +kernel
theorem dX8_requireSize_12 : decode cX8_requireSize 12 = .ok (.invokespecial 164, 3) := by decide +kernel
theorem dX8_requireSize_15 : decode cX8_requireSize 15 = .ok (.athrow, 1) := by decide +kernel
theorem dX8_requireSize_16 : decode cX8_requireSize 16 = .ok (.iload_n 0, 1) := by decide +kernel
theorem dX8_requireSize_17 : decode cX8_requireSize 17 = .ok (.ireturn, 1) := by decide +kernel
theorem dX8_requireBreach_0 : decode cX8_requireBreach 0 = .ok (.aload_n 0, 1) := by decide +kernel
theorem dX8_requireBreach_1 : decode cX8_requireBreach 1 = .ok (.getfield 42, 3) := by decide +kernel
theorem dX8_requireBreach_4 : decode cX8_requireBreach 4 = .ok (.aload_n 0, 1) := by decide +kernel
theorem dX8_requireBreach_5 : decode cX8_requireBreach 5 = .ok (.getfield 49, 3) := by decide +kernel
theorem dX8_requireBreach_8 : decode cX8_requireBreach 8 = .ok (.invokevirtual 178, 3) := by decide +kernel
theorem dX8_requireBreach_11 : decode cX8_requireBreach 11 = .ok (.aload_n 0, 1) := by decide +kernel
theorem dX8_requireBreach_12 : decode cX8_requireBreach 12 = .ok (.getfield 49, 3) := by decide +kernel
theorem dX8_requireBreach_15 : decode cX8_requireBreach 15 = .ok (.iload_n 1, 1) := by decide +kernel
theorem dX8_requireBreach_16 : decode cX8_requireBreach 16 = .ok (.invokevirtual 289, 3) := by decide +kernel
theorem dX8_requireBreach_19 : decode cX8_requireBreach 19 = .ok (.istore_n 2, 1) := by decide +kernel
theorem dX8_requireBreach_20 : decode cX8_requireBreach 20 = .ok (.iload_n 2, 1) := by decide +kernel
theorem dX8_requireBreach_21 : decode cX8_requireBreach 21 = .ok (.iconst (-1), 1) := by decide +kernel
theorem dX8_requireBreach_22 : decode cX8_requireBreach 22 = .ok (.if_icmp .ne 14, 3) := by decide +kernel
theorem dX8_requireBreach_25 : decode cX8_requireBreach 25 = .ok (.new 160, 3) := by decide +kernel
theorem dX8_requireBreach_28 : decode cX8_requireBreach 28 = .ok (.dup, 1) := by decide +kernel
theorem dX8_requireBreach_29 : decode cX8_requireBreach 29 = .ok (.ldc_w 292, 3) := by decide +kernel
theorem dX8_requireBreach_32 : decode cX8_requireBreach 32 = .ok (.invokespecial 164, 3) := by decide +kernel
theorem dX8_requireBreach_35 : decode cX8_requireBreach 35 = .ok (.athrow, 1) := by decide +kernel
theorem dX8_requireBreach_36 : decode cX8_requireBreach 36 = .ok (.iload_n 2, 1) := by decide +kernel
theorem dX8_requireBreach_37 : decode cX8_requireBreach 37 = .ok (.ireturn, 1) := by decide +kernel
theorem dX8_sizeAfterExchange_0 : decode cX8_sizeAfterExchange 0 = .ok (.aload_n 0, 1) := by decide +kernel
theorem dX8_sizeAfterExchange_1 : decode cX8_sizeAfterExchange 1 = .ok (.getfield 26, 3) := by decide +kernel
theorem dX8_sizeAfterExchange_4 : decode cX8_sizeAfterExchange 4 = .ok (.iload_n 1, 1) := by decide +kernel
theorem dX8_sizeAfterExchange_5 : decode cX8_sizeAfterExchange 5 = .ok (.iload_n 2, 1) := by decide +kernel
theorem dX8_sizeAfterExchange_6 : decode cX8_sizeAfterExchange 6 = .ok (.iload_n 3, 1) := by decide +kernel
theorem dX8_sizeAfterExchange_7 : decode cX8_sizeAfterExchange 7 = .ok (.invokevirtual 231, 3) := by decide +kernel
theorem dX8_sizeAfterExchange_10 : decode cX8_sizeAfterExchange 10 = .ok (.aload_n 0, 1) := by decide +kernel
theorem dX8_sizeAfterExchange_11 : decode cX8_sizeAfterExchange 11 = .ok (.getfield 42, 3) := by decide +kernel
theorem dX8_sizeAfterExchange_14 : decode cX8_sizeAfterExchange 14 = .ok (.aload_n 0, 1) := by decide +kernel
theorem dX8_sizeAfterExchange_15 : decode cX8_sizeAfterExchange 15 = .ok (.getfield 53, 3) := by decide +kernel
theorem dX8_sizeAfterExchange_18 : decode cX8_sizeAfterExchange 18 = .ok (.invokevirtual 178, 3) := by decide +kernel
theorem dX8_sizeAfterExchange_21 : decode cX8_sizeAfterExchange 21 = .ok (.aload_n 0, 1) := by decide +kernel
theorem dX8_sizeAfterExchange_22 : decode cX8_sizeAfterExchange 22 = .ok (.getfield 26, 3) := by decide +kernel
theorem dX8_sizeAfterExchange_25 : decode cX8_sizeAfterExchange 25 = .ok (.iload_n 1, 1) := by decide +kernel
theorem dX8_sizeAfterExchange_26 : decode cX8_sizeAfterExchange 26 = .ok (.iload_n 2, 1) := by decide +kernel
theorem dX8_sizeAfterExchange_27 : decode cX8_sizeAfterExchange 27 = .ok (.iload_n 3, 1) := by decide +kernel
theorem dX8_sizeAfterExchange_28 : decode cX8_sizeAfterExchange 28 = .ok (.invokevirtual 231, 3) := by decide +kernel
theorem dX8_sizeAfterExchange_31 : decode cX8_sizeAfterExchange 31 = .ok (.aload_n 0, 1) := by decide +kernel
theorem dX8_sizeAfterExchange_32 : decode cX8_sizeAfterExchange 32 = .ok (.getfield 53, 3) := by decide +kernel
theorem dX8_sizeAfterExchange_35 : decode cX8_sizeAfterExchange 35 = .ok (.aload_n 0, 1) := by decide +kernel
theorem dX8_sizeAfterExchange_36 : decode cX8_sizeAfterExchange 36 = .ok (.getfield 49, 3) := by decide +kernel
theorem dX8_sizeAfterExchange_39 : decode cX8_sizeAfterExchange 39 = .ok (.invokevirtual 294, 3) := by decide +kernel
theorem dX8_sizeAfterExchange_42 : decode cX8_sizeAfterExchange 42 = .ok (.ifCond .eq 13, 3) := by decide +kernel
theorem dX8_sizeAfterExchange_45 : decode cX8_sizeAfterExchange 45 = .ok (.aload_n 0, 1) := by decide +kernel
theorem dX8_sizeAfterExchange_46 : decode cX8_sizeAfterExchange 46 = .ok (.getfield 53, 3) := by decide +kernel
theorem dX8_sizeAfterExchange_49 : decode cX8_sizeAfterExchange 49 = .ok (.invokevirtual 182, 3) := by decide +kernel
theorem dX8_sizeAfterExchange_52 : decode cX8_sizeAfterExchange 52 = .ok (.goto 4, 3) := by decide +kernel
theorem dX8_sizeAfterExchange_55 : decode cX8_sizeAfterExchange 55 = .ok (.iconst (-1), 1) := by decide +kernel
theorem dX8_sizeAfterExchange_56 : decode cX8_sizeAfterExchange 56 = .ok (.ireturn, 1) := by decide +kernel
theorem dX8_cellOf_0 : decode cX8_cellOf 0 = .ok (.iload_n 0, 1) := by decide +kernel
theorem dX8_cellOf_1 : decode cX8_cellOf 1 = .ok (.ifCond .lt 27, 3) := by decide +kernel
theorem dX8_cellOf_4 : decode cX8_cellOf 4 = .ok (.iload_n 0, 1) := by decide +kernel
theorem dX8_cellOf_5 : decode cX8_cellOf 5 = .ok (.iconst 4, 1) := by decide +kernel
theorem dX8_cellOf_6 : decode cX8_cellOf 6 = .ok (.if_icmp .ge 22, 3) := by decide +kernel
theorem dX8_cellOf_9 : decode cX8_cellOf 9 = .ok (.iload_n 1, 1) := by decide +kernel
theorem dX8_cellOf_10 : decode cX8_cellOf 10 = .ok (.ifCond .lt 18, 3) := by decide +kernel
theorem dX8_cellOf_13 : decode cX8_cellOf 13 = .ok (.iload_n 1, 1) := by decide +kernel
theorem dX8_cellOf_14 : decode cX8_cellOf 14 = .ok (.bipush 8, 2) := by decide +kernel
theorem dX8_cellOf_16 : decode cX8_cellOf 16 = .ok (.if_icmp .ge 12, 3) := by decide +kernel
theorem dX8_cellOf_19 : decode cX8_cellOf 19 = .ok (.iload_n 0, 1) := by decide +kernel
theorem dX8_cellOf_20 : decode cX8_cellOf 20 = .ok (.bipush 8, 2) := by decide +kernel
theorem dX8_cellOf_22 : decode cX8_cellOf 22 = .ok (.imul, 1) := by decide +kernel
theorem dX8_cellOf_23 : decode cX8_cellOf 23 = .ok (.iload_n 1, 1) := by decide +kernel
theorem dX8_cellOf_24 : decode cX8_cellOf 24 = .ok (.iadd, 1) := by decide +kernel
theorem dX8_cellOf_25 : decode cX8_cellOf 25 = .ok (.goto 4, 3) := by decide +kernel
theorem dX8_cellOf_28 : decode cX8_cellOf 28 = .ok (.iconst (-1), 1) := by decide +kernel
theorem dX8_cellOf_29 : decode cX8_cellOf 29 = .ok (.ireturn, 1) := by decide +kernel
theorem dX8_postOf_0 : decode cX8_postOf 0 = .ok (.iload_n 0, 1) := by decide +kernel
theorem dX8_postOf_1 : decode cX8_postOf 1 = .ok (.ifCond .lt 26, 3) := by decide +kernel
theorem dX8_postOf_4 : decode cX8_postOf 4 = .ok (.iload_n 0, 1) := by decide +kernel
theorem dX8_postOf_5 : decode cX8_postOf 5 = .ok (.bipush 8, 2) := by decide +kernel
theorem dX8_postOf_7 : decode cX8_postOf 7 = .ok (.if_icmp .ge 20, 3) := by decide +kernel
theorem dX8_postOf_10 : decode cX8_postOf 10 = .ok (.iload_n 1, 1) := by decide +kernel
theorem dX8_postOf_11 : decode cX8_postOf 11 = .ok (.ifCond .lt 16, 3) := by decide +kernel
theorem dX8_postOf_14 : decode cX8_postOf 14 = .ok (.iload_n 1, 1) := by decide +kernel
theorem dX8_postOf_15 : decode cX8_postOf 15 = .ok (.iconst 3, 1) := by decide +kernel
theorem dX8_postOf_16 : decode cX8_postOf 16 = .ok (.if_icmp .ge 11, 3) := by decide +kernel
theorem dX8_postOf_19 : decode cX8_postOf 19 = .ok (.iload_n 0, 1) := by decide +kernel
theorem dX8_postOf_20 : decode cX8_postOf 20 = .ok (.iconst 3, 1) := by decide +kernel
theorem dX8_postOf_21 : decode cX8_postOf 21 = .ok (.imul, 1) := by decide +kernel
theorem dX8_postOf_22 : decode cX8_postOf 22 = .ok (.iload_n 1, 1) := by decide +kernel
theorem dX8_postOf_23 : decode cX8_postOf 23 = .ok (.iadd, 1) := by decide +kernel
theorem dX8_postOf_24 : decode cX8_postOf 24 = .ok (.goto 4, 3) := by decide +kernel
theorem dX8_postOf_27 : decode cX8_postOf 27 = .ok (.iconst (-1), 1) := by decide +kernel
theorem dX8_postOf_28 : decode cX8_postOf 28 = .ok (.ireturn, 1) := by decide +kernel
theorem dX8_skillOf_0 : decode cX8_skillOf 0 = .ok (.iload_n 0, 1) := by decide +kernel
theorem dX8_skillOf_1 : decode cX8_skillOf 1 = .ok (.ifCond .lt 25, 3) := by decide +kernel
theorem dX8_skillOf_4 : decode cX8_skillOf 4 = .ok (.iload_n 0, 1) := by decide +kernel
theorem dX8_skillOf_5 : decode cX8_skillOf 5 = .ok (.iconst 4, 1) := by decide +kernel
theorem dX8_skillOf_6 : decode cX8_skillOf 6 = .ok (.if_icmp .ge 20, 3) := by decide +kernel
theorem dX8_skillOf_9 : decode cX8_skillOf 9 = .ok (.iload_n 1, 1) := by decide +kernel
theorem dX8_skillOf_10 : decode cX8_skillOf 10 = .ok (.ifCond .lt 16, 3) := by decide +kernel
theorem dX8_skillOf_13 : decode cX8_skillOf 13 = .ok (.iload_n 1, 1) := by decide +kernel
theorem dX8_skillOf_14 : decode cX8_skillOf 14 = .ok (.iconst 3, 1) := by decide +kernel
theorem dX8_skillOf_15 : decode cX8_skillOf 15 = .ok (.if_icmp .ge 11, 3) := by decide +kernel
theorem dX8_skillOf_18 : decode cX8_skillOf 18 = .ok (.iload_n 0, 1) := by decide +kernel
theorem dX8_skillOf_19 : decode cX8_skillOf 19 = .ok (.iconst 3, 1) := by decide +kernel
theorem dX8_skillOf_20 : decode cX8_skillOf 20 = .ok (.imul, 1) := by decide +kernel
theorem dX8_skillOf_21 : decode cX8_skillOf 21 = .ok (.iload_n 1, 1) := by decide +kernel
theorem dX8_skillOf_22 : decode cX8_skillOf 22 = .ok (.iadd, 1) := by decide +kernel
theorem dX8_skillOf_23 : decode cX8_skillOf 23 = .ok (.goto 4, 3) := by decide +kernel
theorem dX8_skillOf_26 : decode cX8_skillOf 26 = .ok (.iconst (-1), 1) := by decide +kernel
theorem dX8_skillOf_27 : decode cX8_skillOf 27 = .ok (.ireturn, 1) := by decide +kernel
theorem dX8_breachOf_0 : decode cX8_breachOf 0 = .ok (.iload_n 0, 1) := by decide +kernel
theorem dX8_breachOf_1 : decode cX8_breachOf 1 = .ok (.iconst 5, 1) := by decide +kernel
theorem dX8_breachOf_2 : decode cX8_breachOf 2 = .ok (.imul, 1) := by decide +kernel
theorem dX8_breachOf_3 : decode cX8_breachOf 3 = .ok (.iload_n 1, 1) := by decide +kernel
theorem dX8_breachOf_4 : decode cX8_breachOf 4 = .ok (.iadd, 1) := by decide +kernel
theorem dX8_breachOf_5 : decode cX8_breachOf 5 = .ok (.iconst 1, 1) := by decide +kernel
theorem dX8_breachOf_6 : decode cX8_breachOf 6 = .ok (.iadd, 1) := by decide +kernel
theorem dX8_breachOf_7 : decode cX8_breachOf 7 = .ok (.bipush 8, 2) := by decide +kernel
theorem dX8_breachOf_9 : decode cX8_breachOf 9 = .ok (.imul, 1) := by decide +kernel
theorem dX8_breachOf_10 : decode cX8_breachOf 10 = .ok (.iload_n 2, 1) := by decide +kernel
theorem dX8_breachOf_11 : decode cX8_breachOf 11 = .ok (.iadd, 1) := by decide +kernel
theorem dX8_breachOf_12 : decode cX8_breachOf 12 = .ok (.iconst 4, 1) := by decide +kernel
theorem dX8_breachOf_13 : decode cX8_breachOf 13 = .ok (.imul, 1) := by decide +kernel
theorem dX8_breachOf_14 : decode cX8_breachOf 14 = .ok (.iload_n 3, 1) := by decide +kernel
theorem dX8_breachOf_15 : decode cX8_breachOf 15 = .ok (.iadd, 1) := by decide +kernel
theorem dX8_breachOf_16 : decode cX8_breachOf 16 = .ok (.iconst 1, 1) := by decide +kernel
theorem dX8_breachOf_17 : decode cX8_breachOf 17 = .ok (.iadd, 1) := by decide +kernel
theorem dX8_breachOf_18 : decode cX8_breachOf 18 = .ok (.ireturn, 1) := by decide +kernel
theorem dX8_shiftIn_0 : decode cX8_shiftIn 0 = .ok (.iload_n 0, 1) := by decide +kernel
theorem dX8_shiftIn_1 : decode cX8_shiftIn 1 = .ok (.iconst 4, 1) := by decide +kernel
theorem dX8_shiftIn_2 : decode cX8_shiftIn 2 = .ok (.irem, 1) := by decide +kernel
theorem dX8_shiftIn_3 : decode cX8_shiftIn 3 = .ok (.iconst 1, 1) := by decide +kernel
theorem dX8_shiftIn_4 : decode cX8_shiftIn 4 = .ok (.isub, 1) := by decide +kernel
theorem dX8_shiftIn_5 : decode cX8_shiftIn 5 = .ok (.ireturn, 1) := by decide +kernel
theorem dX8_dayOf_0 : decode cX8_dayOf 0 = .ok (.iload_n 0, 1) := by decide +kernel
theorem dX8_dayOf_1 : decode cX8_dayOf 1 = .ok (.iconst 4, 1) := by decide +kernel
theorem dX8_dayOf_2 : decode cX8_dayOf 2 = .ok (.idiv, 1) := by decide +kernel
theorem dX8_dayOf_3 : decode cX8_dayOf 3 = .ok (.bipush 8, 2) := by decide +kernel
theorem dX8_dayOf_5 : decode cX8_dayOf 5 = .ok (.irem, 1) := by decide +kernel
theorem dX8_dayOf_6 : decode cX8_dayOf 6 = .ok (.ireturn, 1) := by decide +kernel
theorem dX8_personOf_0 : decode cX8_personOf 0 = .ok (.iload_n 0, 1) := by decide +kernel
theorem dX8_personOf_1 : decode cX8_personOf 1 = .ok (.bipush 32, 2) := by decide +kernel
theorem dX8_personOf_3 : decode cX8_personOf 3 = .ok (.idiv, 1) := by decide +kernel
theorem dX8_personOf_4 : decode cX8_personOf 4 = .ok (.iconst 5, 1) := by decide +kernel
theorem dX8_personOf_5 : decode cX8_personOf 5 = .ok (.irem, 1) := by decide +kernel
theorem dX8_personOf_6 : decode cX8_personOf 6 = .ok (.iconst 1, 1) := by decide +kernel
theorem dX8_personOf_7 : decode cX8_personOf 7 = .ok (.isub, 1) := by decide +kernel
theorem dX8_personOf_8 : decode cX8_personOf 8 = .ok (.ireturn, 1) := by decide +kernel
theorem dX8_kindOf_0 : decode cX8_kindOf 0 = .ok (.iload_n 0, 1) := by decide +kernel
theorem dX8_kindOf_1 : decode cX8_kindOf 1 = .ok (.sipush 160, 3) := by decide +kernel
theorem dX8_kindOf_4 : decode cX8_kindOf 4 = .ok (.idiv, 1) := by decide +kernel
theorem dX8_kindOf_5 : decode cX8_kindOf 5 = .ok (.ireturn, 1) := by decide +kernel
theorem dX9_init_0 : decode cX9_init 0 = .ok (.aload_n 0, 1) := by decide +kernel
theorem dX9_init_1 : decode cX9_init 1 = .ok (.invokespecial 3, 3) := by decide +kernel
theorem dX9_init_4 : decode cX9_init 4 = .ok (.aload_n 0, 1) := by decide +kernel
theorem dX9_init_5 : decode cX9_init 5 = .ok (.iconst 3, 1) := by decide +kernel
theorem dX9_init_6 : decode cX9_init 6 = .ok (.newarray .int, 2) := by decide +kernel
theorem dX9_init_8 : decode cX9_init 8 = .ok (.putfield 9, 3) := by decide +kernel
theorem dX9_init_11 : decode cX9_init 11 = .ok (.aload_n 0, 1) := by decide +kernel
theorem dX9_init_12 : decode cX9_init 12 = .ok (.iconst 3, 1) := by decide +kernel
theorem dX9_init_13 : decode cX9_init 13 = .ok (.newarray .int, 2) := by decide +kernel
theorem dX9_init_15 : decode cX9_init 15 = .ok (.putfield 13, 3) := by decide +kernel
theorem dX9_init_18 : decode cX9_init 18 = .ok (.aload_n 0, 1) := by decide +kernel
theorem dX9_init_19 : decode cX9_init 19 = .ok (.bipush 32, 2) := by decide +kernel
theorem dX9_init_21 : decode cX9_init 21 = .ok (.newarray .int, 2) := by decide +kernel
theorem dX9_init_23 : decode cX9_init 23 = .ok (.putfield 16, 3) := by decide +kernel
theorem dX9_init_26 : decode cX9_init 26 = .ok (.aload_n 0, 1) := by decide +kernel
theorem dX9_init_27 : decode cX9_init 27 = .ok (.bipush 32, 2) := by decide +kernel
theorem dX9_init_29 : decode cX9_init 29 = .ok (.newarray .boolean, 2) := by decide +kernel
theorem dX9_init_31 : decode cX9_init 31 = .ok (.putfield 19, 3) := by decide +kernel
theorem dX9_init_34 : decode cX9_init 34 = .ok (.aload_n 0, 1) := by decide +kernel
theorem dX9_init_35 : decode cX9_init 35 = .ok (.bipush 12, 2) := by decide +kernel
theorem dX9_init_37 : decode cX9_init 37 = .ok (.newarray .boolean, 2) := by decide +kernel
theorem dX9_init_39 : decode cX9_init 39 = .ok (.putfield 23, 3) := by decide +kernel
theorem dX9_init_42 : decode cX9_init 42 = .ok (.aload_n 0, 1) := by decide +kernel
theorem dX9_init_43 : decode cX9_init 43 = .ok (.bipush 24, 2) := by decide +kernel
theorem dX9_init_45 : decode cX9_init 45 = .ok (.newarray .int, 2) := by decide +kernel
theorem dX9_init_47 : decode cX9_init 47 = .ok (.putfield 26, 3) := by decide +kernel
theorem dX9_init_50 : decode cX9_init 50 = .ok (.aload_n 0, 1) := by decide +kernel
theorem dX9_init_51 : decode cX9_init 51 = .ok (.sipush 660, 3) := by decide +kernel
theorem dX9_init_54 : decode cX9_init 54 = .ok (.putfield 29, 3) := by decide +kernel
theorem dX9_init_57 : decode cX9_init 57 = .ok (.aload_n 0, 1) := by decide +kernel
theorem dX9_init_58 : decode cX9_init 58 = .ok (.iconst 3, 1) := by decide +kernel
theorem dX9_init_59 : decode cX9_init 59 = .ok (.putfield 33, 3) := by decide +kernel
theorem dX9_init_62 : decode cX9_init 62 = .ok (.aload_n 0, 1) := by decide +kernel
theorem dX9_init_63 : decode cX9_init 63 = .ok (.bipush 6, 2) := by decide +kernel
theorem dX9_init_65 : decode cX9_init 65 = .ok (.putfield 36, 3) := by decide +kernel
theorem dX9_init_68 : decode cX9_init 68 = .ok (.aload_n 0, 1) := by decide +kernel
theorem dX9_init_69 : decode cX9_init 69 = .ok (.bipush 7, 2) := by decide +kernel
theorem dX9_init_71 : decode cX9_init 71 = .ok (.putfield 39, 3) := by decide +kernel
theorem dX9_init_74 : decode cX9_init 74 = .ok (.aload_n 0, 1) := by decide +kernel
theorem dX9_init_75 : decode cX9_init 75 = .ok (.sipush 2880, 3) := by decide +kernel
theorem dX9_init_78 : decode cX9_init 78 = .ok (.putfield 42, 3) := by decide +kernel
theorem dX9_init_81 : decode cX9_init 81 = .ok (.aload_n 0, 1) := by decide +kernel
theorem dX9_init_82 : decode cX9_init 82 = .ok (.sipush 256, 3) := by decide +kernel
theorem dX9_init_85 : decode cX9_init 85 = .ok (.newarray .char, 2) := by decide +kernel
theorem dX9_init_87 : decode cX9_init 87 = .ok (.putfield 45, 3) := by decide +kernel
theorem dX9_init_90 : decode cX9_init 90 = .ok (.aload_n 0, 1) := by decide +kernel
theorem dX9_init_91 : decode cX9_init 91 = .ok (.sipush 256, 3) := by decide +kernel
theorem dX9_init_94 : decode cX9_init 94 = .ok (.newarray .int, 2) := by decide +kernel
theorem dX9_init_96 : decode cX9_init 96 = .ok (.putfield 49, 3) := by decide +kernel
theorem dX9_init_99 : decode cX9_init 99 = .ok (.aload_n 0, 1) := by decide +kernel
theorem dX9_init_100 : decode cX9_init 100 = .ok (.sipush 256, 3) := by decide +kernel
theorem dX9_init_103 : decode cX9_init 103 = .ok (.newarray .int, 2) := by decide +kernel
theorem dX9_init_105 : decode cX9_init 105 = .ok (.putfield 52, 3) := by decide +kernel
theorem dX9_init_108 : decode cX9_init 108 = .ok (.aload_n 0, 1) := by decide +kernel
theorem dX9_init_109 : decode cX9_init 109 = .ok (.sipush 256, 3) := by decide +kernel
theorem dX9_init_112 : decode cX9_init 112 = .ok (.newarray .int, 2) := by decide +kernel
theorem dX9_init_114 : decode cX9_init 114 = .ok (.putfield 55, 3) := by decide +kernel
theorem dX9_init_117 : decode cX9_init 117 = .ok (.aload_n 0, 1) := by decide +kernel
theorem dX9_init_118 : decode cX9_init 118 = .ok (.sipush 216, 3) := by decide +kernel
theorem dX9_init_121 : decode cX9_init 121 = .ok (.newarray .boolean, 2) := by decide +kernel
theorem dX9_init_123 : decode cX9_init 123 = .ok (.putfield 58, 3) := by decide +kernel
theorem dX9_init_126 : decode cX9_init 126 = .ok (.aload_n 0, 1) := by decide +kernel
theorem dX9_init_127 : decode cX9_init 127 = .ok (.iconst 2, 1) := by decide +kernel
theorem dX9_init_128 : decode cX9_init 128 = .ok (.newarray .int, 2) := by decide +kernel
theorem dX9_init_130 : decode cX9_init 130 = .ok (.putfield 61, 3) := by decide +kernel
theorem dX9_init_133 : decode cX9_init 133 = .ok (.aload_n 0, 1) := by decide +kernel
theorem dX9_init_134 : decode cX9_init 134 = .ok (.iconst 2, 1) := by decide +kernel
theorem dX9_init_135 : decode cX9_init 135 = .ok (.newarray .int, 2) := by decide +kernel
theorem dX9_init_137 : decode cX9_init 137 = .ok (.putfield 64, 3) := by decide +kernel
theorem dX9_init_140 : decode cX9_init 140 = .ok (.aload_n 0, 1) := by decide +kernel
theorem dX9_init_141 : decode cX9_init 141 = .ok (.iconst 2, 1) := by decide +kernel
theorem dX9_init_142 : decode cX9_init 142 = .ok (.newarray .int, 2) := by decide +kernel
theorem dX9_init_144 : decode cX9_init 144 = .ok (.putfield 67, 3) := by decide +kernel
theorem dX9_init_147 : decode cX9_init 147 = .ok (.aload_n 0, 1) := by decide +kernel
theorem dX9_init_148 : decode cX9_init 148 = .ok (.iconst 2, 1) := by decide +kernel
theorem dX9_init_149 : decode cX9_init 149 = .ok (.newarray .int, 2) := by decide +kernel
theorem dX9_init_151 : decode cX9_init 151 = .ok (.putfield 70, 3) := by decide +kernel
theorem dX9_init_154 : decode cX9_init 154 = .ok (.iconst 0, 1) := by decide +kernel
theorem dX9_init_155 : decode cX9_init 155 = .ok (.istore_n 1, 1) := by decide +kernel
theorem dX9_init_156 : decode cX9_init 156 = .ok (.iload_n 1, 1) := by decide +kernel
theorem dX9_init_157 : decode cX9_init 157 = .ok (.bipush 32, 2) := by decide +kernel
theorem dX9_init_159 : decode cX9_init 159 = .ok (.if_icmp .ge 16, 3) := by decide +kernel
theorem dX9_init_162 : decode cX9_init 162 = .ok (.aload_n 0, 1) := by decide +kernel
theorem dX9_init_163 : decode cX9_init 163 = .ok (.getfield 16, 3) := by decide +kernel
theorem dX9_init_166 : decode cX9_init 166 = .ok (.iload_n 1, 1) := by decide +kernel
theorem dX9_init_167 : decode cX9_init 167 = .ok (.iconst (-1), 1) := by decide +kernel
theorem dX9_init_168 : decode cX9_init 168 = .ok (.iastore, 1) := by decide +kernel
theorem dX9_init_169 : decode cX9_init 169 = .ok (.iinc 1 1, 3) := by decide +kernel
theorem dX9_init_172 : decode cX9_init 172 = .ok (.goto (-16), 3) := by decide +kernel
theorem dX9_init_175 : decode cX9_init 175 = .ok (.return_, 1) := by decide +kernel
theorem dX9_thrown_0 : decode cX9_thrown 0 = .ok (.aload_n 0, 1) := by decide +kernel
theorem dX9_thrown_1 : decode cX9_thrown 1 = .ok (.getfield 73, 3) := by decide +kernel
theorem dX9_thrown_4 : decode cX9_thrown 4 = .ok (.ireturn, 1) := by decide +kernel
theorem dX9_in_0 : decode cX9_in 0 = .ok (.iload_n 0, 1) := by decide +kernel
theorem dX9_in_1 : decode cX9_in 1 = .ok (.iload_n 1, 1) := by decide +kernel
theorem dX9_in_2 : decode cX9_in 2 = .ok (.if_icmp .lt 12, 3) := by decide +kernel
theorem dX9_in_5 : decode cX9_in 5 = .ok (.iload_n 0, 1) := by decide +kernel
theorem dX9_in_6 : decode cX9_in 6 = .ok (.iload_n 2, 1) := by decide +kernel
theorem dX9_in_7 : decode cX9_in 7 = .ok (.if_icmp .gt 7, 3) := by decide +kernel
theorem dX9_in_10 : decode cX9_in 10 = .ok (.iconst 1, 1) := by decide +kernel
theorem dX9_in_11 : decode cX9_in 11 = .ok (.goto 4, 3) := by decide +kernel
theorem dX9_in_14 : decode cX9_in 14 = .ok (.iconst 0, 1) := by decide +kernel
theorem dX9_in_15 : decode cX9_in 15 = .ok (.ireturn, 1) := by decide +kernel
theorem dX9_goesOn_0 : decode cX9_goesOn 0 = .ok (.aload_n 0, 1) := by decide +kernel
theorem dX9_goesOn_1 : decode cX9_goesOn 1 = .ok (.iload_n 1, 1) := by decide +kernel
theorem dX9_goesOn_2 : decode cX9_goesOn 2 = .ok (.putfield 73, 3) := by decide +kernel
theorem dX9_goesOn_5 : decode cX9_goesOn 5 = .ok (.iload_n 1, 1) := by decide +kernel
theorem dX9_goesOn_6 : decode cX9_goesOn 6 = .ok (.ifCond .ne 7, 3) := by decide +kernel
theorem dX9_goesOn_9 : decode cX9_goesOn 9 = .ok (.iconst 1, 1) := by decide +kernel
theorem dX9_goesOn_10 : decode cX9_goesOn 10 = .ok (.goto 4, 3) := by decide +kernel
theorem dX9_goesOn_13 : decode cX9_goesOn 13 = .ok (.iconst 0, 1) := by decide +kernel
theorem dX9_goesOn_14 : decode cX9_goesOn 14 = .ok (.ireturn, 1) := by decide +kernel
theorem dX9_isPerson_0 : decode cX9_isPerson 0 = .ok (.iload_n 1, 1) := by decide +kernel
theorem dX9_isPerson_1 : decode cX9_isPerson 1 = .ok (.iconst 0, 1) := by decide +kernel
theorem dX9_isPerson_2 : decode cX9_isPerson 2 = .ok (.aload_n 0, 1) := by decide +kernel
theorem dX9_isPerson_3 : decode cX9_isPerson 3 = .ok (.getfield 76, 3) := by decide +kernel
theorem dX9_isPerson_6 : decode cX9_isPerson 6 = .ok (.iconst 1, 1) := by decide +kernel
theorem dX9_isPerson_7 : decode cX9_isPerson 7 = .ok (.isub, 1) := by decide +kernel
theorem dX9_isPerson_8 : decode cX9_isPerson 8 = .ok (.invokestatic 79, 3) := by decide +kernel
theorem dX9_isPerson_11 : decode cX9_isPerson 11 = .ok (.ireturn, 1) := by decide +kernel
theorem dX9_isDay_0 : decode cX9_isDay 0 = .ok (.iload_n 0, 1) := by decide +kernel
theorem dX9_isDay_1 : decode cX9_isDay 1 = .ok (.iconst 0, 1) := by decide +kernel
theorem dX9_isDay_2 : decode cX9_isDay 2 = .ok (.bipush 7, 2) := by decide +kernel
theorem dX9_isDay_4 : decode cX9_isDay 4 = .ok (.invokestatic 79, 3) := by decide +kernel
theorem dX9_isDay_7 : decode cX9_isDay 7 = .ok (.ireturn, 1) := by decide +kernel
theorem dX9_isShift_0 : decode cX9_isShift 0 = .ok (.iload_n 1, 1) := by decide +kernel
theorem dX9_isShift_1 : decode cX9_isShift 1 = .ok (.iconst 0, 1) := by decide +kernel
theorem dX9_isShift_2 : decode cX9_isShift 2 = .ok (.aload_n 0, 1) := by decide +kernel
theorem dX9_isShift_3 : decode cX9_isShift 3 = .ok (.getfield 83, 3) := by decide +kernel
theorem dX9_isShift_6 : decode cX9_isShift 6 = .ok (.iconst 1, 1) := by decide +kernel
theorem dX9_isShift_7 : decode cX9_isShift 7 = .ok (.isub, 1) := by decide +kernel
theorem dX9_isShift_8 : decode cX9_isShift 8 = .ok (.invokestatic 79, 3) := by decide +kernel
theorem dX9_isShift_11 : decode cX9_isShift 11 = .ok (.ireturn, 1) := by decide +kernel
theorem dX9_at_0 : decode cX9_at 0 = .ok (.aload_n 0, 1) := by decide +kernel
theorem dX9_at_1 : decode cX9_at 1 = .ok (.getfield 16, 3) := by decide +kernel
theorem dX9_at_4 : decode cX9_at 4 = .ok (.bipush 8, 2) := by decide +kernel
theorem dX9_at_6 : decode cX9_at 6 = .ok (.iload_n 1, 1) := by decide +kernel
theorem dX9_at_7 : decode cX9_at 7 = .ok (.imul, 1) := by decide +kernel
theorem dX9_at_8 : decode cX9_at 8 = .ok (.iload_n 2, 1) := by decide +kernel
theorem dX9_at_9 : decode cX9_at 9 = .ok (.iadd, 1) := by decide +kernel
theorem dX9_at_10 : decode cX9_at 10 = .ok (.iaload, 1) := by decide +kernel
theorem dX9_at_11 : decode cX9_at 11 = .ok (.ireturn, 1) := by decide +kernel
theorem dX9_isNightShift_0 : decode cX9_isNightShift 0 = .ok (.aload_n 0, 1) := by decide +kernel
theorem dX9_isNightShift_1 : decode cX9_isNightShift 1 = .ok (.getfield 9, 3) := by decide +kernel
theorem dX9_isNightShift_4 : decode cX9_isNightShift 4 = .ok (.iload_n 1, 1) := by decide +kernel
theorem dX9_isNightShift_5 : decode cX9_isNightShift 5 = .ok (.iaload, 1) := by decide +kernel
theorem dX9_isNightShift_6 : decode cX9_isNightShift 6 = .ok (.aload_n 0, 1) := by decide +kernel
theorem dX9_isNightShift_7 : decode cX9_isNightShift 7 = .ok (.getfield 13, 3) := by decide +kernel
theorem dX9_isNightShift_10 : decode cX9_isNightShift 10 = .ok (.iload_n 1, 1) := by decide +kernel
theorem dX9_isNightShift_11 : decode cX9_isNightShift 11 = .ok (.iaload, 1) := by decide +kernel
theorem dX9_isNightShift_12 : decode cX9_isNightShift 12 = .ok (.iadd, 1) := by decide +kernel
theorem dX9_isNightShift_13 : decode cX9_isNightShift 13 = .ok (.sipush 1620, 3) := by decide +kernel
theorem dX9_isNightShift_16 : decode cX9_isNightShift 16 = .ok (.if_icmp .le 7, 3) := by decide +kernel
theorem dX9_isNightShift_19 : decode cX9_isNightShift 19 = .ok (.iconst 1, 1) := by decide +kernel
theorem dX9_isNightShift_20 : decode cX9_isNightShift 20 = .ok (.goto 4, 3) := by decide +kernel
theorem dX9_isNightShift_23 : decode cX9_isNightShift 23 = .ok (.iconst 0, 1) := by decide +kernel
theorem dX9_isNightShift_24 : decode cX9_isNightShift 24 = .ok (.ireturn, 1) := by decide +kernel
theorem dX9_lastBefore_0 : decode cX9_lastBefore 0 = .ok (.iload_n 2, 1) := by decide +kernel
theorem dX9_lastBefore_1 : decode cX9_lastBefore 1 = .ok (.iconst 1, 1) := by decide +kernel
theorem dX9_lastBefore_2 : decode cX9_lastBefore 2 = .ok (.isub, 1) := by decide +kernel
theorem dX9_lastBefore_3 : decode cX9_lastBefore 3 = .ok (.istore_n 3, 1) := by decide +kernel
theorem dX9_lastBefore_4 : decode cX9_lastBefore 4 = .ok (.iload_n 3, 1) := by decide +kernel
theorem dX9_lastBefore_5 : decode cX9_lastBefore 5 = .ok (.ifCond .lt 19, 3) := by decide +kernel
theorem dX9_lastBefore_8 : decode cX9_lastBefore 8 = .ok (.aload_n 0, 1) := by decide +kernel
theorem dX9_lastBefore_9 : decode cX9_lastBefore 9 = .ok (.iload_n 1, 1) := by decide +kernel
theorem dX9_lastBefore_10 : decode cX9_lastBefore 10 = .ok (.iload_n 3, 1) := by decide +kernel
theorem dX9_lastBefore_11 : decode cX9_lastBefore 11 = .ok (.invokevirtual 86, 3) := by decide +kernel
theorem dX9_lastBefore_14 : decode cX9_lastBefore 14 = .ok (.iconst (-1), 1) := by decide +kernel
theorem dX9_lastBefore_15 : decode cX9_lastBefore 15 = .ok (.if_icmp .ne 9, 3) := by decide +kernel
theorem dX9_lastBefore_18 : decode cX9_lastBefore 18 = .ok (.iinc 3 (-1), 3) := by decide +kernel
theorem dX9_lastBefore_21 : decode cX9_lastBefore 21 = .ok (.goto (-17), 3) := by decide +kernel
theorem dX9_lastBefore_24 : decode cX9_lastBefore 24 = .ok (.iload_n 3, 1) := by decide +kernel
theorem dX9_lastBefore_25 : decode cX9_lastBefore 25 = .ok (.ireturn, 1) := by decide +kernel
theorem dX9_minutesBefore_0 : decode cX9_minutesBefore 0 = .ok (.aload_n 0, 1) := by decide +kernel
theorem dX9_minutesBefore_1 : decode cX9_minutesBefore 1 = .ok (.iload_n 1, 1) := by decide +kernel
theorem dX9_minutesBefore_2 : decode cX9_minutesBefore 2 = .ok (.iload_n 2, 1) := by decide +kernel
theorem dX9_minutesBefore_3 : decode cX9_minutesBefore 3 = .ok (.invokevirtual 90, 3) := by decide +kernel
theorem dX9_minutesBefore_6 : decode cX9_minutesBefore 6 = .ok (.istore_n 3, 1) := by decide +kernel
theorem dX9_minutesBefore_7 : decode cX9_minutesBefore 7 = .ok (.sipush 1440, 3) := by decide +kernel
theorem dX9_minutesBefore_10 : decode cX9_minutesBefore 10 = .ok (.iload_n 2, 1) := by decide +kernel
theorem dX9_minutesBefore_11 : decode cX9_minutesBefore 11 = .ok (.iload_n 3, 1) := by decide +kernel
theorem dX9_minutesBefore_12 : decode cX9_minutesBefore 12 = .ok (.isub, 1) := by decide +kernel
theorem dX9_minutesBefore_13 : decode cX9_minutesBefore 13 = .ok (.imul, 1) := by decide +kernel
theorem dX9_minutesBefore_14 : decode cX9_minutesBefore 14 = .ok (.aload_n 0, 1) := by decide +kernel
theorem dX9_minutesBefore_15 : decode cX9_minutesBefore 15 = .ok (.getfield 9, 3) := by decide +kernel
theorem dX9_minutesBefore_18 : decode cX9_minutesBefore 18 = .ok (.aload_n 0, 1) := by decide +kernel
theorem dX9_minutesBefore_19 : decode cX9_minutesBefore 19 = .ok (.iload_n 1, 1) := by decide +kernel
theorem dX9_minutesBefore_20 : decode cX9_minutesBefore 20 = .ok (.iload_n 2, 1) := by decide +kernel
theorem dX9_minutesBefore_21 : decode cX9_minutesBefore 21 = .ok (.invokevirtual 86, 3) := by decide +kernel
theorem dX9_minutesBefore_24 : decode cX9_minutesBefore 24 = .ok (.iaload, 1) := by decide +kernel
theorem dX9_minutesBefore_25 : decode cX9_minutesBefore 25 = .ok (.iadd, 1) := by decide +kernel
theorem dX9_minutesBefore_26 : decode cX9_minutesBefore 26 = .ok (.aload_n 0, 1) := by decide +kernel
theorem dX9_minutesBefore_27 : decode cX9_minutesBefore 27 = .ok (.getfield 9, 3) := by decide +kernel
theorem dX9_minutesBefore_30 : decode cX9_minutesBefore 30 = .ok (.aload_n 0, 1) := by decide +kernel
theorem dX9_minutesBefore_31 : decode cX9_minutesBefore 31 = .ok (.iload_n 1, 1) := by decide +kernel
theorem dX9_minutesBefore_32 : decode cX9_minutesBefore 32 = .ok (.iload_n 3, 1) := by decide +kernel
theorem dX9_minutesBefore_33 : decode cX9_minutesBefore 33 = .ok (.invokevirtual 86, 3) := by decide +kernel
theorem dX9_minutesBefore_36 : decode cX9_minutesBefore 36 = .ok (.iaload, 1) := by decide +kernel
theorem dX9_minutesBefore_37 : decode cX9_minutesBefore 37 = .ok (.isub, 1) := by decide +kernel
theorem dX9_minutesBefore_38 : decode cX9_minutesBefore 38 = .ok (.aload_n 0, 1) := by decide +kernel
theorem dX9_minutesBefore_39 : decode cX9_minutesBefore 39 = .ok (.getfield 13, 3) := by decide +kernel
theorem dX9_minutesBefore_42 : decode cX9_minutesBefore 42 = .ok (.aload_n 0, 1) := by decide +kernel
theorem dX9_minutesBefore_43 : decode cX9_minutesBefore 43 = .ok (.iload_n 1, 1) := by decide +kernel
theorem dX9_minutesBefore_44 : decode cX9_minutesBefore 44 = .ok (.iload_n 3, 1) := by decide +kernel
theorem dX9_minutesBefore_45 : decode cX9_minutesBefore 45 = .ok (.invokevirtual 86, 3) := by decide +kernel
theorem dX9_minutesBefore_48 : decode cX9_minutesBefore 48 = .ok (.iaload, 1) := by decide +kernel
theorem dX9_minutesBefore_49 : decode cX9_minutesBefore 49 = .ok (.isub, 1) := by decide +kernel
theorem dX9_minutesBefore_50 : decode cX9_minutesBefore 50 = .ok (.ireturn, 1) := by decide +kernel
theorem dX9_isRestShort_0 : decode cX9_isRestShort 0 = .ok (.aload_n 0, 1) := by decide +kernel
theorem dX9_isRestShort_1 : decode cX9_isRestShort 1 = .ok (.iload_n 1, 1) := by decide +kernel
theorem dX9_isRestShort_2 : decode cX9_isRestShort 2 = .ok (.iload_n 2, 1) := by decide +kernel
theorem dX9_isRestShort_3 : decode cX9_isRestShort 3 = .ok (.invokevirtual 86, 3) := by decide +kernel
theorem dX9_isRestShort_6 : decode cX9_isRestShort 6 = .ok (.iconst (-1), 1) := by decide +kernel
theorem dX9_isRestShort_7 : decode cX9_isRestShort 7 = .ok (.if_icmp .eq 30, 3) := by decide +kernel
theorem dX9_isRestShort_10 : decode cX9_isRestShort 10 = .ok (.aload_n 0, 1) := by decide +kernel
theorem dX9_isRestShort_11 : decode cX9_isRestShort 11 = .ok (.iload_n 1, 1) := by decide +kernel
theorem dX9_isRestShort_12 : decode cX9_isRestShort 12 = .ok (.iload_n 2, 1) := by decide +kernel
theorem dX9_isRestShort_13 : decode cX9_isRestShort 13 = .ok (.invokevirtual 90, 3) := by decide +kernel
theorem dX9_isRestShort_16 : decode cX9_isRestShort 16 = .ok (.iconst (-1), 1) := by decide +kernel
theorem dX9_isRestShort_17 : decode cX9_isRestShort 17 = .ok (.if_icmp .eq 20, 3) := by decide +kernel
theorem dX9_isRestShort_20 : decode cX9_isRestShort 20 = .ok (.aload_n 0, 1) := by decide +kernel
theorem dX9_isRestShort_21 : decode cX9_isRestShort 21 = .ok (.iload_n 1, 1) := by decide +kernel
theorem dX9_isRestShort_22 : decode cX9_isRestShort 22 = .ok (.iload_n 2, 1) := by decide +kernel
theorem dX9_isRestShort_23 : decode cX9_isRestShort 23 = .ok (.invokevirtual 93, 3) := by decide +kernel
theorem dX9_isRestShort_26 : decode cX9_isRestShort 26 = .ok (.aload_n 0, 1) := by decide +kernel
theorem dX9_isRestShort_27 : decode cX9_isRestShort 27 = .ok (.getfield 29, 3) := by decide +kernel
theorem dX9_isRestShort_30 : decode cX9_isRestShort 30 = .ok (.if_icmp .ge 7, 3) := by decide +kernel
theorem dX9_isRestShort_33 : decode cX9_isRestShort 33 = .ok (.iconst 1, 1) := by decide +kernel
theorem dX9_isRestShort_34 : decode cX9_isRestShort 34 = .ok (.goto 4, 3) := by decide +kernel
theorem dX9_isRestShort_37 : decode cX9_isRestShort 37 = .ok (.iconst 0, 1) := by decide +kernel
theorem dX9_isRestShort_38 : decode cX9_isRestShort 38 = .ok (.ireturn, 1) := by decide +kernel
theorem dX9_isRow_0 : decode cX9_isRow 0 = .ok (.iload_n 2, 1) := by decide +kernel
theorem dX9_isRow_1 : decode cX9_isRow 1 = .ok (.iload_n 3, 1) := by decide +kernel
theorem dX9_isRow_2 : decode cX9_isRow 2 = .ok (.if_icmp .lt 7, 3) := by decide +kernel
theorem dX9_isRow_5 : decode cX9_isRow 5 = .ok (.iconst 1, 1) := by decide +kernel
theorem dX9_isRow_6 : decode cX9_isRow 6 = .ok (.goto 4, 3) := by decide +kernel
theorem dX9_isRow_9 : decode cX9_isRow 9 = .ok (.iconst 0, 1) := by decide +kernel
theorem dX9_isRow_10 : decode cX9_isRow 10 = .ok (.istore 5, 2) := by decide +kernel
theorem dX9_isRow_12 : decode cX9_isRow 12 = .ok (.iload_n 2, 1) := by decide +kernel
theorem dX9_isRow_13 : decode cX9_isRow 13 = .ok (.iload_n 3, 1) := by decide +kernel
theorem dX9_isRow_14 : decode cX9_isRow 14 = .ok (.isub, 1) := by decide +kernel
theorem dX9_isRow_15 : decode cX9_isRow 15 = .ok (.istore 6, 2) := by decide +kernel
theorem dX9_isRow_17 : decode cX9_isRow 17 = .ok (.iload 5, 2) := by decide +kernel
theorem dX9_isRow_19 : decode cX9_isRow 19 = .ok (.ifCond .eq 52, 3) := by decide +kernel
theorem dX9_isRow_22 : decode cX9_isRow 22 = .ok (.iload 6, 2) := by decide +kernel
theorem dX9_isRow_24 : decode cX9_isRow 24 = .ok (.iload_n 2, 1) := by decide +kernel
theorem dX9_isRow_25 : decode cX9_isRow 25 = .ok (.if_icmp .gt 46, 3) := by decide +kernel
theorem dX9_isRow_28 : decode cX9_isRow 28 = .ok (.aload_n 0, 1) := by decide +kernel
theorem dX9_isRow_29 : decode cX9_isRow 29 = .ok (.iload_n 1, 1) := by decide +kernel
theorem dX9_isRow_30 : decode cX9_isRow 30 = .ok (.iload 6, 2) := by decide +kernel
theorem dX9_isRow_32 : decode cX9_isRow 32 = .ok (.invokevirtual 86, 3) := by decide +kernel
theorem dX9_isRow_35 : decode cX9_isRow 35 = .ok (.iconst (-1), 1) := by decide +kernel
theorem dX9_isRow_36 : decode cX9_isRow 36 = .ok (.if_icmp .eq 26, 3) := by decide +kernel
theorem dX9_isRow_39 : decode cX9_isRow 39 = .ok (.iload 4, 2) := by decide +kernel
theorem dX9_isRow_41 : decode cX9_isRow 41 = .ok (.ifCond .eq 17, 3) := by decide +kernel
theorem dX9_isRow_44 : decode cX9_isRow 44 = .ok (.aload_n 0, 1) := by decide +kernel
theorem dX9_isRow_45 : decode cX9_isRow 45 = .ok (.aload_n 0, 1) := by decide +kernel
theorem dX9_isRow_46 : decode cX9_isRow 46 = .ok (.iload_n 1, 1) := by decide +kernel
theorem dX9_isRow_47 : decode cX9_isRow 47 = .ok (.iload 6, 2) := by decide +kernel
theorem dX9_isRow_49 : decode cX9_isRow 49 = .ok (.invokevirtual 86, 3) := by decide +kernel
theorem dX9_isRow_52 : decode cX9_isRow 52 = .ok (.invokevirtual 96, 3) := by decide +kernel
theorem dX9_isRow_55 : decode cX9_isRow 55 = .ok (.ifCond .eq 7, 3) := by decide +kernel
theorem dX9_isRow_58 : decode cX9_isRow 58 = .ok (.iconst 1, 1) := by decide +kernel
theorem dX9_isRow_59 : decode cX9_isRow 59 = .ok (.goto 4, 3) := by decide +kernel
theorem dX9_isRow_62 : decode cX9_isRow 62 = .ok (.iconst 0, 1) := by decide +kernel
theorem dX9_isRow_63 : decode cX9_isRow 63 = .ok (.istore 5, 2) := by decide +kernel
theorem dX9_isRow_65 : decode cX9_isRow 65 = .ok (.iinc 6 1, 3) := by decide +kernel
theorem dX9_isRow_68 : decode cX9_isRow 68 = .ok (.goto (-51), 3) := by decide +kernel
theorem dX9_isRow_71 : decode cX9_isRow 71 = .ok (.iload 5, 2) := by decide +kernel
theorem dX9_isRow_73 : decode cX9_isRow 73 = .ok (.ireturn, 1) := by decide +kernel
theorem dX9_sumFrom_0 : decode cX9_sumFrom 0 = .ok (.iconst 0, 1) := by decide +kernel
theorem dX9_sumFrom_1 : decode cX9_sumFrom 1 = .ok (.istore 4, 2) := by decide +kernel
theorem dX9_sumFrom_3 : decode cX9_sumFrom 3 = .ok (.iload_n 2, 1) := by decide +kernel
theorem dX9_sumFrom_4 : decode cX9_sumFrom 4 = .ok (.istore 5, 2) := by decide +kernel
theorem dX9_sumFrom_6 : decode cX9_sumFrom 6 = .ok (.iload 5, 2) := by decide +kernel
theorem dX9_sumFrom_8 : decode cX9_sumFrom 8 = .ok (.iload_n 2, 1) := by decide +kernel
theorem dX9_sumFrom_9 : decode cX9_sumFrom 9 = .ok (.iload_n 3, 1) := by decide +kernel
theorem dX9_sumFrom_10 : decode cX9_sumFrom 10 = .ok (.iadd, 1) := by decide +kernel
theorem dX9_sumFrom_11 : decode cX9_sumFrom 11 = .ok (.if_icmp .ge 41, 3) := by decide +kernel
theorem dX9_sumFrom_14 : decode cX9_sumFrom 14 = .ok (.iload 4, 2) := by decide +kernel
theorem dX9_sumFrom_16 : decode cX9_sumFrom 16 = .ok (.aload_n 0, 1) := by decide +kernel
theorem dX9_sumFrom_17 : decode cX9_sumFrom 17 = .ok (.iload_n 1, 1) := by decide +kernel
theorem dX9_sumFrom_18 : decode cX9_sumFrom 18 = .ok (.iload 5, 2) := by decide +kernel
theorem dX9_sumFrom_20 : decode cX9_sumFrom 20 = .ok (.invokevirtual 86, 3) := by decide +kernel
theorem dX9_sumFrom_23 : decode cX9_sumFrom 23 = .ok (.iconst (-1), 1) := by decide +kernel
theorem dX9_sumFrom_24 : decode cX9_sumFrom 24 = .ok (.if_icmp .ne 7, 3) := by decide +kernel
theorem dX9_sumFrom_27 : decode cX9_sumFrom 27 = .ok (.iconst 0, 1) := by decide +kernel
theorem dX9_sumFrom_28 : decode cX9_sumFrom 28 = .ok (.goto 15, 3) := by decide +kernel
theorem dX9_sumFrom_31 : decode cX9_sumFrom 31 = .ok (.aload_n 0, 1) := by decide +kernel
theorem dX9_sumFrom_32 : decode cX9_sumFrom 32 = .ok (.getfield 13, 3) := by decide +kernel
theorem dX9_sumFrom_35 : decode cX9_sumFrom 35 = .ok (.aload_n 0, 1) := by decide +kernel
theorem dX9_sumFrom_36 : decode cX9_sumFrom 36 = .ok (.iload_n 1, 1) := by decide +kernel
theorem dX9_sumFrom_37 : decode cX9_sumFrom 37 = .ok (.iload 5, 2) := by decide +kernel
theorem dX9_sumFrom_39 : decode cX9_sumFrom 39 = .ok (.invokevirtual 86, 3) := by decide +kernel
theorem dX9_sumFrom_42 : decode cX9_sumFrom 42 = .ok (.iaload, 1) := by decide +kernel
theorem dX9_sumFrom_43 : decode cX9_sumFrom 43 = .ok (.iadd, 1) := by decide +kernel
theorem dX9_sumFrom_44 : decode cX9_sumFrom 44 = .ok (.istore 4, 2) := by decide +kernel
theorem dX9_sumFrom_46 : decode cX9_sumFrom 46 = .ok (.iinc 5 1, 3) := by decide +kernel
theorem dX9_sumFrom_49 : decode cX9_sumFrom 49 = .ok (.goto (-43), 3) := by decide +kernel
theorem dX9_sumFrom_52 : decode cX9_sumFrom 52 = .ok (.iload 4, 2) := by decide +kernel
theorem dX9_sumFrom_54 : decode cX9_sumFrom 54 = .ok (.ireturn, 1) := by decide +kernel
theorem dX9_onShift_0 : decode cX9_onShift 0 = .ok (.iconst 0, 1) := by decide +kernel
theorem dX9_onShift_1 : decode cX9_onShift 1 = .ok (.istore_n 3, 1) := by decide +kernel
theorem dX9_onShift_2 : decode cX9_onShift 2 = .ok (.iconst 0, 1) := by decide +kernel
theorem dX9_onShift_3 : decode cX9_onShift 3 = .ok (.istore 4, 2) := by decide +kernel
theorem dX9_onShift_5 : decode cX9_onShift 5 = .ok (.iload 4, 2) := by decide +kernel
theorem dX9_onShift_7 : decode cX9_onShift 7 = .ok (.aload_n 0, 1) := by decide +kernel
theorem dX9_onShift_8 : decode cX9_onShift 8 = .ok (.getfield 76, 3) := by decide +kernel
theorem dX9_onShift_11 : decode cX9_onShift 11 = .ok (.if_icmp .ge 28, 3) := by decide +kernel
theorem dX9_onShift_14 : decode cX9_onShift 14 = .ok (.iload_n 3, 1) := by decide +kernel
theorem dX9_onShift_15 : decode cX9_onShift 15 = .ok (.aload_n 0, 1) := by decide +kernel
theorem dX9_onShift_16 : decode cX9_onShift 16 = .ok (.iload 4, 2) := by decide +kernel
theorem dX9_onShift_18 : decode cX9_onShift 18 = .ok (.iload_n 1, 1) := by decide +kernel
theorem dX9_onShift_19 : decode cX9_onShift 19 = .ok (.invokevirtual 86, 3) := by decide +kernel
theorem dX9_onShift_22 : decode cX9_onShift 22 = .ok (.iload_n 2, 1) := by decide +kernel
theorem dX9_onShift_23 : decode cX9_onShift 23 = .ok (.if_icmp .ne 7, 3) := by decide +kernel
theorem dX9_onShift_26 : decode cX9_onShift 26 = .ok (.iconst 1, 1) := by decide +kernel
theorem dX9_onShift_27 : decode cX9_onShift 27 = .ok (.goto 4, 3) := by decide +kernel
theorem dX9_onShift_30 : decode cX9_onShift 30 = .ok (.iconst 0, 1) := by decide +kernel
theorem dX9_onShift_31 : decode cX9_onShift 31 = .ok (.iadd, 1) := by decide +kernel
theorem dX9_onShift_32 : decode cX9_onShift 32 = .ok (.istore_n 3, 1) := by decide +kernel
theorem dX9_onShift_33 : decode cX9_onShift 33 = .ok (.iinc 4 1, 3) := by decide +kernel
theorem dX9_onShift_36 : decode cX9_onShift 36 = .ok (.goto (-31), 3) := by decide +kernel
theorem dX9_onShift_39 : decode cX9_onShift 39 = .ok (.iload_n 3, 1) := by decide +kernel
theorem dX9_onShift_40 : decode cX9_onShift 40 = .ok (.ireturn, 1) := by decide +kernel
theorem dX9_isBreach_0 : decode cX9_isBreach 0 = .ok (.aload_n 0, 1) := by decide +kernel
theorem dX9_isBreach_1 : decode cX9_isBreach 1 = .ok (.iload_n 2, 1) := by decide +kernel
theorem dX9_isBreach_2 : decode cX9_isBreach 2 = .ok (.iload_n 3, 1) := by decide +kernel
theorem dX9_isBreach_3 : decode cX9_isBreach 3 = .ok (.invokevirtual 86, 3) := by decide +kernel
theorem dX9_isBreach_6 : decode cX9_isBreach 6 = .ok (.istore 4, 2) := by decide +kernel
theorem dX9_isBreach_8 : decode cX9_isBreach 8 = .ok (.iload_n 1, 1) := by decide +kernel
theorem dX9_isBreach_9 : decode cX9_isBreach 9 = .ok (.tableswitch 118 0 4 #[35, 61, 87, 94, 106], 35) := by decide +kernel
theorem dX9_isBreach_44 : decode cX9_isBreach 44 = .ok (.iload 4, 2) := by decide +kernel
theorem dX9_isBreach_46 : decode cX9_isBreach 46 = .ok (.iconst (-1), 1) := by decide +kernel
theorem dX9_isBreach_47 : decode cX9_isBreach 47 = .ok (.if_icmp .eq 21, 3) := by decide +kernel
theorem dX9_isBreach_50 : decode cX9_isBreach 50 = .ok (.aload_n 0, 1) := by decide +kernel
theorem dX9_isBreach_51 : decode cX9_isBreach 51 = .ok (.getfield 19, 3) := by decide +kernel
theorem dX9_isBreach_54 : decode cX9_isBreach 54 = .ok (.bipush 8, 2) := by decide +kernel
theorem dX9_isBreach_56 : decode cX9_isBreach 56 = .ok (.iload_n 2, 1) := by decide +kernel
theorem dX9_isBreach_57 : decode cX9_isBreach 57 = .ok (.imul, 1) := by decide +kernel
theorem dX9_isBreach_58 : decode cX9_isBreach 58 = .ok (.iload_n 3, 1) := by decide +kernel
theorem dX9_isBreach_59 : decode cX9_isBreach 59 = .ok (.iadd, 1) := by decide +kernel
theorem dX9_isBreach_60 : decode cX9_isBreach 60 = .ok (.baload, 1) := by decide +kernel
theorem dX9_isBreach_61 : decode cX9_isBreach 61 = .ok (.ifCond .eq 7, 3) := by decide +kernel
theorem dX9_isBreach_64 : decode cX9_isBreach 64 = .ok (.iconst 1, 1) := by decide +kernel
theorem dX9_isBreach_65 : decode cX9_isBreach 65 = .ok (.goto 4, 3) := by decide +kernel
theorem dX9_isBreach_68 : decode cX9_isBreach 68 = .ok (.iconst 0, 1) := by decide +kernel
theorem dX9_isBreach_69 : decode cX9_isBreach 69 = .ok (.ireturn, 1) := by decide +kernel
theorem dX9_isBreach_70 : decode cX9_isBreach 70 = .ok (.iload 4, 2) := by decide +kernel
theorem dX9_isBreach_72 : decode cX9_isBreach 72 = .ok (.iconst (-1), 1) := by decide +kernel
theorem dX9_isBreach_73 : decode cX9_isBreach 73 = .ok (.if_icmp .eq 21, 3) := by decide +kernel
theorem dX9_isBreach_76 : decode cX9_isBreach 76 = .ok (.aload_n 0, 1) := by decide +kernel
theorem dX9_isBreach_77 : decode cX9_isBreach 77 = .ok (.getfield 23, 3) := by decide +kernel
theorem dX9_isBreach_80 : decode cX9_isBreach 80 = .ok (.iconst 3, 1) := by decide +kernel
theorem dX9_isBreach_81 : decode cX9_isBreach 81 = .ok (.iload_n 2, 1) := by decide +kernel
theorem dX9_isBreach_82 : decode cX9_isBreach 82 = .ok (.imul, 1) := by decide +kernel
theorem dX9_isBreach_83 : decode cX9_isBreach 83 = .ok (.iload 4, 2) := by decide +kernel
theorem dX9_isBreach_85 : decode cX9_isBreach 85 = .ok (.iadd, 1) := by decide +kernel
theorem dX9_isBreach_86 : decode cX9_isBreach 86 = .ok (.baload, 1) := by decide +kernel
theorem dX9_isBreach_87 : decode cX9_isBreach 87 = .ok (.ifCond .ne 7, 3) := by decide +kernel
theorem dX9_isBreach_90 : decode cX9_isBreach 90 = .ok (.iconst 1, 1) := by decide +kernel
theorem dX9_isBreach_91 : decode cX9_isBreach 91 = .ok (.goto 4, 3) := by decide +kernel
theorem dX9_isBreach_94 : decode cX9_isBreach 94 = .ok (.iconst 0, 1) := by decide +kernel
theorem dX9_isBreach_95 : decode cX9_isBreach 95 = .ok (.ireturn, 1) := by decide +kernel
theorem dX9_isBreach_96 : decode cX9_isBreach 96 = .ok (.aload_n 0, 1) := by decide +kernel
theorem dX9_isBreach_97 : decode cX9_isBreach 97 = .ok (.iload_n 2, 1) := by decide +kernel
theorem dX9_isBreach_98 : decode cX9_isBreach 98 = .ok (.iload_n 3, 1) := by decide +kernel
theorem dX9_isBreach_99 : decode cX9_isBreach 99 = .ok (.invokevirtual 100, 3) := by decide +kernel
theorem dX9_isBreach_102 : decode cX9_isBreach 102 = .ok (.ireturn, 1) := by decide +kernel
theorem dX9_isBreach_103 : decode cX9_isBreach 103 = .ok (.aload_n 0, 1) := by decide +kernel
theorem dX9_isBreach_104 : decode cX9_isBreach 104 = .ok (.iload_n 2, 1) := by decide +kernel
theorem dX9_isBreach_105 : decode cX9_isBreach 105 = .ok (.iload_n 3, 1) := by decide +kernel
theorem dX9_isBreach_106 : decode cX9_isBreach 106 = .ok (.aload_n 0, 1) := by decide +kernel
theorem dX9_isBreach_107 : decode cX9_isBreach 107 = .ok (.getfield 33, 3) := by decide +kernel
theorem dX9_isBreach_110 : decode cX9_isBreach 110 = .ok (.iconst 1, 1) := by decide +kernel
theorem dX9_isBreach_111 : decode cX9_isBreach 111 = .ok (.invokevirtual 104, 3) := by decide +kernel
theorem dX9_isBreach_114 : decode cX9_isBreach 114 = .ok (.ireturn, 1) := by decide +kernel
theorem dX9_isBreach_115 : decode cX9_isBreach 115 = .ok (.aload_n 0, 1) := by decide +kernel
theorem dX9_isBreach_116 : decode cX9_isBreach 116 = .ok (.iload_n 2, 1) := by decide +kernel
theorem dX9_isBreach_117 : decode cX9_isBreach 117 = .ok (.iload_n 3, 1) := by decide +kernel
theorem dX9_isBreach_118 : decode cX9_isBreach 118 = .ok (.aload_n 0, 1) := by decide +kernel
theorem dX9_isBreach_119 : decode cX9_isBreach 119 = .ok (.getfield 36, 3) := by decide +kernel
theorem dX9_isBreach_122 : decode cX9_isBreach 122 = .ok (.iconst 0, 1) := by decide +kernel
theorem dX9_isBreach_123 : decode cX9_isBreach 123 = .ok (.invokevirtual 104, 3) := by decide +kernel
theorem dX9_isBreach_126 : decode cX9_isBreach 126 = .ok (.ireturn, 1) := by decide +kernel
theorem dX9_isBreach_127 : decode cX9_isBreach 127 = .ok (.iload_n 3, 1) := by decide +kernel
theorem dX9_isBreach_128 : decode cX9_isBreach 128 = .ok (.aload_n 0, 1) := by decide +kernel
theorem dX9_isBreach_129 : decode cX9_isBreach 129 = .ok (.getfield 39, 3) := by decide +kernel
theorem dX9_isBreach_132 : decode cX9_isBreach 132 = .ok (.iadd, 1) := by decide +kernel
theorem dX9_isBreach_133 : decode cX9_isBreach 133 = .ok (.bipush 8, 2) := by decide +kernel
theorem dX9_isBreach_135 : decode cX9_isBreach 135 = .ok (.if_icmp .gt 24, 3) := by decide +kernel
theorem dX9_isBreach_138 : decode cX9_isBreach 138 = .ok (.aload_n 0, 1) := by decide +kernel
theorem dX9_isBreach_139 : decode cX9_isBreach 139 = .ok (.iload_n 2, 1) := by decide +kernel
theorem dX9_isBreach_140 : decode cX9_isBreach 140 = .ok (.iload_n 3, 1) := by decide +kernel
theorem dX9_isBreach_141 : decode cX9_isBreach 141 = .ok (.aload_n 0, 1) := by decide +kernel
theorem dX9_isBreach_142 : decode cX9_isBreach 142 = .ok (.getfield 39, 3) := by decide +kernel
theorem dX9_isBreach_145 : decode cX9_isBreach 145 = .ok (.invokevirtual 108, 3) := by decide +kernel
theorem dX9_isBreach_148 : decode cX9_isBreach 148 = .ok (.aload_n 0, 1) := by decide +kernel
theorem dX9_isBreach_149 : decode cX9_isBreach 149 = .ok (.getfield 42, 3) := by decide +kernel
theorem dX9_isBreach_152 : decode cX9_isBreach 152 = .ok (.if_icmp .le 7, 3) := by decide +kernel
theorem dX9_isBreach_155 : decode cX9_isBreach 155 = .ok (.iconst 1, 1) := by decide +kernel
theorem dX9_isBreach_156 : decode cX9_isBreach 156 = .ok (.goto 4, 3) := by decide +kernel
theorem dX9_isBreach_159 : decode cX9_isBreach 159 = .ok (.iconst 0, 1) := by decide +kernel
theorem dX9_isBreach_160 : decode cX9_isBreach 160 = .ok (.ireturn, 1) := by decide +kernel
theorem dX9_letter_0 : decode cX9_letter 0 = .ok (.iload_n 0, 1) := by decide +kernel
theorem dX9_letter_1 : decode cX9_letter 1 = .ok (.ifCond .ne 8, 3) := by decide +kernel
theorem dX9_letter_4 : decode cX9_letter 4 = .ok (.bipush 97, 2) := by decide +kernel
theorem dX9_letter_6 : decode cX9_letter 6 = .ok (.goto 45, 3) := by decide +kernel
theorem dX9_letter_9 : decode cX9_letter 9 = .ok (.iload_n 0, 1) := by decide +kernel
theorem dX9_letter_10 : decode cX9_letter 10 = .ok (.iconst 1, 1) := by decide +kernel
theorem dX9_letter_11 : decode cX9_letter 11 = .ok (.if_icmp .ne 8, 3) := by decide +kernel
theorem dX9_letter_14 : decode cX9_letter 14 = .ok (.bipush 107, 2) := by decide +kernel
theorem dX9_letter_16 : decode cX9_letter 16 = .ok (.goto 35, 3) := by decide +kernel
theorem dX9_letter_19 : decode cX9_letter 19 = .ok (.iload_n 0, 1) := by decide +kernel
theorem dX9_letter_20 : decode cX9_letter 20 = .ok (.iconst 2, 1) := by decide +kernel
theorem dX9_letter_21 : decode cX9_letter 21 = .ok (.if_icmp .ne 8, 3) := by decide +kernel
theorem dX9_letter_24 : decode cX9_letter 24 = .ok (.bipush 114, 2) := by decide +kernel
theorem dX9_letter_26 : decode cX9_letter 26 = .ok (.goto 25, 3) := by decide +kernel
theorem dX9_letter_29 : decode cX9_letter 29 = .ok (.iload_n 0, 1) := by decide +kernel
theorem dX9_letter_30 : decode cX9_letter 30 = .ok (.iconst 3, 1) := by decide +kernel
theorem dX9_letter_31 : decode cX9_letter 31 = .ok (.if_icmp .ne 8, 3) := by decide +kernel
theorem dX9_letter_34 : decode cX9_letter 34 = .ok (.bipush 110, 2) := by decide +kernel
theorem dX9_letter_36 : decode cX9_letter 36 = .ok (.goto 15, 3) := by decide +kernel
theorem dX9_letter_39 : decode cX9_letter 39 = .ok (.iload_n 0, 1) := by decide +kernel
theorem dX9_letter_40 : decode cX9_letter 40 = .ok (.iconst 4, 1) := by decide +kernel
theorem dX9_letter_41 : decode cX9_letter 41 = .ok (.if_icmp .ne 8, 3) := by decide +kernel
theorem dX9_letter_44 : decode cX9_letter 44 = .ok (.bipush 119, 2) := by decide +kernel
theorem dX9_letter_46 : decode cX9_letter 46 = .ok (.goto 5, 3) := by decide +kernel
theorem dX9_letter_49 : decode cX9_letter 49 = .ok (.bipush 104, 2) := by decide +kernel
theorem dX9_letter_51 : decode cX9_letter 51 = .ok (.ireturn, 1) := by decide +kernel
theorem dX9_tells_0 : decode cX9_tells 0 = .ok (.aload_n 0, 1) := by decide +kernel
theorem dX9_tells_1 : decode cX9_tells 1 = .ok (.getfield 45, 3) := by decide +kernel
theorem dX9_tells_4 : decode cX9_tells 4 = .ok (.aload_n 0, 1) := by decide +kernel
theorem dX9_tells_5 : decode cX9_tells 5 = .ok (.getfield 112, 3) := by decide +kernel
theorem dX9_tells_8 : decode cX9_tells 8 = .ok (.iload_n 1, 1) := by decide +kernel
theorem dX9_tells_9 : decode cX9_tells 9 = .ok (.castore, 1) := by decide +kernel
theorem dX9_tells_10 : decode cX9_tells 10 = .ok (.aload_n 0, 1) := by decide +kernel
theorem dX9_tells_11 : decode cX9_tells 11 = .ok (.getfield 49, 3) := by decide +kernel
theorem dX9_tells_14 : decode cX9_tells 14 = .ok (.aload_n 0, 1) := by decide +kernel
theorem dX9_tells_15 : decode cX9_tells 15 = .ok (.getfield 112, 3) := by decide +kernel
theorem dX9_tells_18 : decode cX9_tells 18 = .ok (.iload_n 2, 1) := by decide +kernel
theorem dX9_tells_19 : decode cX9_tells 19 = .ok (.iastore, 1) := by decide +kernel
theorem dX9_tells_20 : decode cX9_tells 20 = .ok (.aload_n 0, 1) := by decide +kernel
theorem dX9_tells_21 : decode cX9_tells 21 = .ok (.getfield 52, 3) := by decide +kernel
theorem dX9_tells_24 : decode cX9_tells 24 = .ok (.aload_n 0, 1) := by decide +kernel
theorem dX9_tells_25 : decode cX9_tells 25 = .ok (.getfield 112, 3) := by decide +kernel
theorem dX9_tells_28 : decode cX9_tells 28 = .ok (.iload_n 3, 1) := by decide +kernel
theorem dX9_tells_29 : decode cX9_tells 29 = .ok (.iastore, 1) := by decide +kernel
theorem dX9_tells_30 : decode cX9_tells 30 = .ok (.aload_n 0, 1) := by decide +kernel
theorem dX9_tells_31 : decode cX9_tells 31 = .ok (.getfield 55, 3) := by decide +kernel
theorem dX9_tells_34 : decode cX9_tells 34 = .ok (.aload_n 0, 1) := by decide +kernel
theorem dX9_tells_35 : decode cX9_tells 35 = .ok (.getfield 112, 3) := by decide +kernel
theorem dX9_tells_38 : decode cX9_tells 38 = .ok (.iload 4, 2) := by decide +kernel
theorem dX9_tells_40 : decode cX9_tells 40 = .ok (.iastore, 1) := by decide +kernel
theorem dX9_tells_41 : decode cX9_tells 41 = .ok (.aload_n 0, 1) := by decide +kernel
theorem dX9_tells_42 : decode cX9_tells 42 = .ok (.dup, 1) := by decide +kernel
theorem dX9_tells_43 : decode cX9_tells 43 = .ok (.getfield 112, 3) := by decide +kernel
theorem dX9_tells_46 : decode cX9_tells 46 = .ok (.iconst 1, 1) := by decide +kernel
theorem dX9_tells_47 : decode cX9_tells 47 = .ok (.iadd, 1) := by decide +kernel
theorem dX9_tells_48 : decode cX9_tells 48 = .ok (.putfield 112, 3) := by decide +kernel
theorem dX9_tells_51 : decode cX9_tells 51 = .ok (.return_, 1) := by decide +kernel
theorem dX9_tellsAll_0 : decode cX9_tellsAll 0 = .ok (.aload_n 0, 1) := by decide +kernel
theorem dX9_tellsAll_1 : decode cX9_tellsAll 1 = .ok (.iconst 0, 1) := by decide +kernel
theorem dX9_tellsAll_2 : decode cX9_tellsAll 2 = .ok (.putfield 112, 3) := by decide +kernel
theorem dX9_tellsAll_5 : decode cX9_tellsAll 5 = .ok (.iconst 0, 1) := by decide +kernel
theorem dX9_tellsAll_6 : decode cX9_tellsAll 6 = .ok (.istore_n 1, 1) := by decide +kernel
theorem dX9_tellsAll_7 : decode cX9_tellsAll 7 = .ok (.iload_n 1, 1) := by decide +kernel
theorem dX9_tellsAll_8 : decode cX9_tellsAll 8 = .ok (.bipush 6, 2) := by decide +kernel
theorem dX9_tellsAll_10 : decode cX9_tellsAll 10 = .ok (.if_icmp .ge 60, 3) := by decide +kernel
theorem dX9_tellsAll_13 : decode cX9_tellsAll 13 = .ok (.iconst 0, 1) := by decide +kernel
theorem dX9_tellsAll_14 : decode cX9_tellsAll 14 = .ok (.istore_n 2, 1) := by decide +kernel
theorem dX9_tellsAll_15 : decode cX9_tellsAll 15 = .ok (.iload_n 2, 1) := by decide +kernel
theorem dX9_tellsAll_16 : decode cX9_tellsAll 16 = .ok (.aload_n 0, 1) := by decide +kernel
theorem dX9_tellsAll_17 : decode cX9_tellsAll 17 = .ok (.getfield 76, 3) := by decide +kernel
theorem dX9_tellsAll_20 : decode cX9_tellsAll 20 = .ok (.if_icmp .ge 44, 3) := by decide +kernel
theorem dX9_tellsAll_23 : decode cX9_tellsAll 23 = .ok (.iconst 0, 1) := by decide +kernel
theorem dX9_tellsAll_24 : decode cX9_tellsAll 24 = .ok (.istore_n 3, 1) := by decide +kernel
theorem dX9_tellsAll_25 : decode cX9_tellsAll 25 = .ok (.iload_n 3, 1) := by decide +kernel
theorem dX9_tellsAll_26 : decode cX9_tellsAll 26 = .ok (.bipush 8, 2) := by decide +kernel
theorem dX9_tellsAll_28 : decode cX9_tellsAll 28 = .ok (.if_icmp .ge 30, 3) := by decide +kernel
theorem dX9_tellsAll_31 : decode cX9_tellsAll 31 = .ok (.aload_n 0, 1) := by decide +kernel
theorem dX9_tellsAll_32 : decode cX9_tellsAll 32 = .ok (.iload_n 1, 1) := by decide +kernel
theorem dX9_tellsAll_33 : decode cX9_tellsAll 33 = .ok (.iload_n 2, 1) := by decide +kernel
theorem dX9_tellsAll_34 : decode cX9_tellsAll 34 = .ok (.iload_n 3, 1) := by decide +kernel
theorem dX9_tellsAll_35 : decode cX9_tellsAll 35 = .ok (.invokevirtual 115, 3) := by decide +kernel
theorem dX9_tellsAll_38 : decode cX9_tellsAll 38 = .ok (.ifCond .eq 14, 3) := by decide +kernel
theorem dX9_tellsAll_41 : decode cX9_tellsAll 41 = .ok (.aload_n 0, 1) := by decide +kernel
theorem dX9_tellsAll_42 : decode cX9_tellsAll 42 = .ok (.iload_n 1, 1) := by decide +kernel
theorem dX9_tellsAll_43 : decode cX9_tellsAll 43 = .ok (.invokestatic 118, 3) := by decide +kernel
theorem dX9_tellsAll_46 : decode cX9_tellsAll 46 = .ok (.iload_n 2, 1) := by decide +kernel
theorem dX9_tellsAll_47 : decode cX9_tellsAll 47 = .ok (.iload_n 3, 1) := by decide +kernel
theorem dX9_tellsAll_48 : decode cX9_tellsAll 48 = .ok (.iconst (-1), 1) := by decide +kernel
theorem dX9_tellsAll_49 : decode cX9_tellsAll 49 = .ok (.invokevirtual 122, 3) := by decide +kernel
theorem dX9_tellsAll_52 : decode cX9_tellsAll 52 = .ok (.iinc 3 1, 3) := by decide +kernel
theorem dX9_tellsAll_55 : decode cX9_tellsAll 55 = .ok (.goto (-30), 3) := by decide +kernel
theorem dX9_tellsAll_58 : decode cX9_tellsAll 58 = .ok (.iinc 2 1, 3) := by decide +kernel
theorem dX9_tellsAll_61 : decode cX9_tellsAll 61 = .ok (.goto (-46), 3) := by decide +kernel
theorem dX9_tellsAll_64 : decode cX9_tellsAll 64 = .ok (.iinc 1 1, 3) := by decide +kernel
theorem dX9_tellsAll_67 : decode cX9_tellsAll 67 = .ok (.goto (-60), 3) := by decide +kernel
theorem dX9_tellsAll_70 : decode cX9_tellsAll 70 = .ok (.iconst 0, 1) := by decide +kernel
theorem dX9_tellsAll_71 : decode cX9_tellsAll 71 = .ok (.istore_n 1, 1) := by decide +kernel
theorem dX9_tellsAll_72 : decode cX9_tellsAll 72 = .ok (.iload_n 1, 1) := by decide +kernel
theorem dX9_tellsAll_73 : decode cX9_tellsAll 73 = .ok (.bipush 8, 2) := by decide +kernel
theorem dX9_tellsAll_75 : decode cX9_tellsAll 75 = .ok (.if_icmp .ge 53, 3) := by decide +kernel
theorem dX9_tellsAll_78 : decode cX9_tellsAll 78 = .ok (.iconst 0, 1) := by decide +kernel
theorem dX9_tellsAll_79 : decode cX9_tellsAll 79 = .ok (.istore_n 2, 1) := by decide +kernel
theorem dX9_tellsAll_80 : decode cX9_tellsAll 80 = .ok (.iload_n 2, 1) := by decide +kernel
theorem dX9_tellsAll_81 : decode cX9_tellsAll 81 = .ok (.aload_n 0, 1) := by decide +kernel
theorem dX9_tellsAll_82 : decode cX9_tellsAll 82 = .ok (.getfield 83, 3) := by decide +kernel
theorem dX9_tellsAll_85 : decode cX9_tellsAll 85 = .ok (.if_icmp .ge 37, 3) := by decide +kernel
theorem dX9_tellsAll_88 : decode cX9_tellsAll 88 = .ok (.aload_n 0, 1) := by decide +kernel
theorem dX9_tellsAll_89 : decode cX9_tellsAll 89 = .ok (.iload_n 1, 1) := by decide +kernel
theorem dX9_tellsAll_90 : decode cX9_tellsAll 90 = .ok (.iload_n 2, 1) := by decide +kernel
theorem dX9_tellsAll_91 : decode cX9_tellsAll 91 = .ok (.invokevirtual 126, 3) := by decide +kernel
theorem dX9_tellsAll_94 : decode cX9_tellsAll 94 = .ok (.aload_n 0, 1) := by decide +kernel
theorem dX9_tellsAll_95 : decode cX9_tellsAll 95 = .ok (.getfield 26, 3) := by decide +kernel
theorem dX9_tellsAll_98 : decode cX9_tellsAll 98 = .ok (.iconst 3, 1) := by decide +kernel
theorem dX9_tellsAll_99 : decode cX9_tellsAll 99 = .ok (.iload_n 1, 1) := by decide +kernel
theorem dX9_tellsAll_100 : decode cX9_tellsAll 100 = .ok (.imul, 1) := by decide +kernel
theorem dX9_tellsAll_101 : decode cX9_tellsAll 101 = .ok (.iload_n 2, 1) := by decide +kernel
theorem dX9_tellsAll_102 : decode cX9_tellsAll 102 = .ok (.iadd, 1) := by decide +kernel
theorem dX9_tellsAll_103 : decode cX9_tellsAll 103 = .ok (.iaload, 1) := by decide +kernel
theorem dX9_tellsAll_104 : decode cX9_tellsAll 104 = .ok (.if_icmp .ge 12, 3) := by decide +kernel
theorem dX9_tellsAll_107 : decode cX9_tellsAll 107 = .ok (.aload_n 0, 1) := by decide +kernel
theorem dX9_tellsAll_108 : decode cX9_tellsAll 108 = .ok (.bipush 100, 2) := by decide +kernel
theorem dX9_tellsAll_110 : decode cX9_tellsAll 110 = .ok (.iconst (-1), 1) := by decide +kernel
theorem dX9_tellsAll_111 : decode cX9_tellsAll 111 = .ok (.iload_n 1, 1) := by decide +kernel
theorem dX9_tellsAll_112 : decode cX9_tellsAll 112 = .ok (.iload_n 2, 1) := by decide +kernel
theorem dX9_tellsAll_113 : decode cX9_tellsAll 113 = .ok (.invokevirtual 122, 3) := by decide +kernel
theorem dX9_tellsAll_116 : decode cX9_tellsAll 116 = .ok (.iinc 2 1, 3) := by decide +kernel
theorem dX9_tellsAll_119 : decode cX9_tellsAll 119 = .ok (.goto (-39), 3) := by decide +kernel
theorem dX9_tellsAll_122 : decode cX9_tellsAll 122 = .ok (.iinc 1 1, 3) := by decide +kernel
theorem dX9_tellsAll_125 : decode cX9_tellsAll 125 = .ok (.goto (-53), 3) := by decide +kernel
theorem dX9_tellsAll_128 : decode cX9_tellsAll 128 = .ok (.return_, 1) := by decide +kernel
theorem dX9_isLawful_0 : decode cX9_isLawful 0 = .ok (.iconst 0, 1) := by decide +kernel
theorem dX9_isLawful_1 : decode cX9_isLawful 1 = .ok (.istore_n 1, 1) := by decide +kernel
theorem dX9_isLawful_2 : decode cX9_isLawful 2 = .ok (.iload_n 1, 1) := by decide +kernel
theorem dX9_isLawful_3 : decode cX9_isLawful 3 = .ok (.bipush 8, 2) := by decide +kernel
theorem dX9_isLawful_5 : decode cX9_isLawful 5 = .ok (.if_icmp .ge 46, 3) := by decide +kernel
theorem dX9_isLawful_8 : decode cX9_isLawful 8 = .ok (.iconst 0, 1) := by decide +kernel
theorem dX9_isLawful_9 : decode cX9_isLawful 9 = .ok (.istore_n 2, 1) := by decide +kernel
theorem dX9_isLawful_10 : decode cX9_isLawful 10 = .ok (.iload_n 2, 1) := by decide +kernel
theorem dX9_isLawful_11 : decode cX9_isLawful 11 = .ok (.aload_n 0, 1) := by decide +kernel
theorem dX9_isLawful_12 : decode cX9_isLawful 12 = .ok (.getfield 83, 3) := by decide +kernel
theorem dX9_isLawful_15 : decode cX9_isLawful 15 = .ok (.if_icmp .ge 30, 3) := by decide +kernel
theorem dX9_isLawful_18 : decode cX9_isLawful 18 = .ok (.aload_n 0, 1) := by decide +kernel
theorem dX9_isLawful_19 : decode cX9_isLawful 19 = .ok (.iload_n 1, 1) := by decide +kernel
theorem dX9_isLawful_20 : decode cX9_isLawful 20 = .ok (.iload_n 2, 1) := by decide +kernel
theorem dX9_isLawful_21 : decode cX9_isLawful 21 = .ok (.invokevirtual 126, 3) := by decide +kernel
theorem dX9_isLawful_24 : decode cX9_isLawful 24 = .ok (.aload_n 0, 1) := by decide +kernel
theorem dX9_isLawful_25 : decode cX9_isLawful 25 = .ok (.getfield 26, 3) := by decide +kernel
theorem dX9_isLawful_28 : decode cX9_isLawful 28 = .ok (.iconst 3, 1) := by decide +kernel
theorem dX9_isLawful_29 : decode cX9_isLawful 29 = .ok (.iload_n 1, 1) := by decide +kernel
theorem dX9_isLawful_30 : decode cX9_isLawful 30 = .ok (.imul, 1) := by decide +kernel
theorem dX9_isLawful_31 : decode cX9_isLawful 31 = .ok (.iload_n 2, 1) := by decide +kernel
theorem dX9_isLawful_32 : decode cX9_isLawful 32 = .ok (.iadd, 1) := by decide +kernel
theorem dX9_isLawful_33 : decode cX9_isLawful 33 = .ok (.iaload, 1) := by decide +kernel
theorem dX9_isLawful_34 : decode cX9_isLawful 34 = .ok (.if_icmp .ge 5, 3) := by decide +kernel
theorem dX9_isLawful_37 : decode cX9_isLawful 37 = .ok (.iconst 0, 1) := by decide +kernel
theorem dX9_isLawful_38 : decode cX9_isLawful 38 = .ok (.ireturn, 1) := by decide +kernel
theorem dX9_isLawful_39 : decode cX9_isLawful 39 = .ok (.iinc 2 1, 3) := by decide +kernel
theorem dX9_isLawful_42 : decode cX9_isLawful 42 = .ok (.goto (-32), 3) := by decide +kernel
theorem dX9_isLawful_45 : decode cX9_isLawful 45 = .ok (.iinc 1 1, 3) := by decide +kernel
theorem dX9_isLawful_48 : decode cX9_isLawful 48 = .ok (.goto (-46), 3) := by decide +kernel
theorem dX9_isLawful_51 : decode cX9_isLawful 51 = .ok (.iconst 0, 1) := by decide +kernel
theorem dX9_isLawful_52 : decode cX9_isLawful 52 = .ok (.istore_n 1, 1) := by decide +kernel
theorem dX9_isLawful_53 : decode cX9_isLawful 53 = .ok (.iload_n 1, 1) := by decide +kernel
theorem dX9_isLawful_54 : decode cX9_isLawful 54 = .ok (.bipush 6, 2) := by decide +kernel
theorem dX9_isLawful_56 : decode cX9_isLawful 56 = .ok (.if_icmp .ge 46, 3) := by decide +kernel
theorem dX9_isLawful_59 : decode cX9_isLawful 59 = .ok (.iconst 0, 1) := by decide +kernel
theorem dX9_isLawful_60 : decode cX9_isLawful 60 = .ok (.istore_n 2, 1) := by decide +kernel
theorem dX9_isLawful_61 : decode cX9_isLawful 61 = .ok (.iload_n 2, 1) := by decide +kernel
theorem dX9_isLawful_62 : decode cX9_isLawful 62 = .ok (.bipush 8, 2) := by decide +kernel
theorem dX9_isLawful_64 : decode cX9_isLawful 64 = .ok (.aload_n 0, 1) := by decide +kernel
theorem dX9_isLawful_65 : decode cX9_isLawful 65 = .ok (.getfield 76, 3) := by decide +kernel
theorem dX9_isLawful_68 : decode cX9_isLawful 68 = .ok (.imul, 1) := by decide +kernel
theorem dX9_isLawful_69 : decode cX9_isLawful 69 = .ok (.if_icmp .ge 27, 3) := by decide +kernel
theorem dX9_isLawful_72 : decode cX9_isLawful 72 = .ok (.aload_n 0, 1) := by decide +kernel
theorem dX9_isLawful_73 : decode cX9_isLawful 73 = .ok (.iload_n 1, 1) := by decide +kernel
theorem dX9_isLawful_74 : decode cX9_isLawful 74 = .ok (.iload_n 2, 1) := by decide +kernel
theorem dX9_isLawful_75 : decode cX9_isLawful 75 = .ok (.bipush 8, 2) := by decide +kernel
theorem dX9_isLawful_77 : decode cX9_isLawful 77 = .ok (.idiv, 1) := by decide +kernel
theorem dX9_isLawful_78 : decode cX9_isLawful 78 = .ok (.iload_n 2, 1) := by decide +kernel
theorem dX9_isLawful_79 : decode cX9_isLawful 79 = .ok (.bipush 8, 2) := by decide +kernel
theorem dX9_isLawful_81 : decode cX9_isLawful 81 = .ok (.irem, 1) := by decide +kernel
theorem dX9_isLawful_82 : decode cX9_isLawful 82 = .ok (.invokevirtual 115, 3) := by decide +kernel
theorem dX9_isLawful_85 : decode cX9_isLawful 85 = .ok (.ifCond .eq 5, 3) := by decide +kernel
theorem dX9_isLawful_88 : decode cX9_isLawful 88 = .ok (.iconst 0, 1) := by decide +kernel
theorem dX9_isLawful_89 : decode cX9_isLawful 89 = .ok (.ireturn, 1) := by decide +kernel
theorem dX9_isLawful_90 : decode cX9_isLawful 90 = .ok (.iinc 2 1, 3) := by decide +kernel
theorem dX9_isLawful_93 : decode cX9_isLawful 93 = .ok (.goto (-32), 3) := by decide +kernel
theorem dX9_isLawful_96 : decode cX9_isLawful 96 = .ok (.iinc 1 1, 3) := by decide +kernel
theorem dX9_isLawful_99 : decode cX9_isLawful 99 = .ok (.goto (-46), 3) := by decide +kernel
theorem dX9_isLawful_102 : decode cX9_isLawful 102 = .ok (.iconst 1, 1) := by decide +kernel
theorem dX9_isLawful_103 : decode cX9_isLawful 103 = .ok (.ireturn, 1) := by decide +kernel
theorem dX9_placeOf_0 : decode cX9_placeOf 0 = .ok (.aload_n 0, 1) := by decide +kernel
theorem dX9_placeOf_1 : decode cX9_placeOf 1 = .ok (.getfield 45, 3) := by decide +kernel
theorem dX9_placeOf_4 : decode cX9_placeOf 4 = .ok (.iload_n 1, 1) := by decide +kernel
theorem dX9_placeOf_5 : decode cX9_placeOf 5 = .ok (.caload, 1) := by decide +kernel
theorem dX9_placeOf_6 : decode cX9_placeOf 6 = .ok (.bipush 100, 2) := by decide +kernel
theorem dX9_placeOf_8 : decode cX9_placeOf 8 = .ok (.if_icmp .ne 23, 3) := by decide +kernel
theorem dX9_placeOf_11 : decode cX9_placeOf 11 = .ok (.sipush 192, 3) := by decide +kernel
theorem dX9_placeOf_14 : decode cX9_placeOf 14 = .ok (.iconst 3, 1) := by decide +kernel
theorem dX9_placeOf_15 : decode cX9_placeOf 15 = .ok (.aload_n 0, 1) := by decide +kernel
theorem dX9_placeOf_16 : decode cX9_placeOf 16 = .ok (.getfield 52, 3) := by decide +kernel
theorem dX9_placeOf_19 : decode cX9_placeOf 19 = .ok (.iload_n 1, 1) := by decide +kernel
theorem dX9_placeOf_20 : decode cX9_placeOf 20 = .ok (.iaload, 1) := by decide +kernel
theorem dX9_placeOf_21 : decode cX9_placeOf 21 = .ok (.imul, 1) := by decide +kernel
theorem dX9_placeOf_22 : decode cX9_placeOf 22 = .ok (.iadd, 1) := by decide +kernel
theorem dX9_placeOf_23 : decode cX9_placeOf 23 = .ok (.aload_n 0, 1) := by decide +kernel
theorem dX9_placeOf_24 : decode cX9_placeOf 24 = .ok (.getfield 55, 3) := by decide +kernel
theorem dX9_placeOf_27 : decode cX9_placeOf 27 = .ok (.iload_n 1, 1) := by decide +kernel
theorem dX9_placeOf_28 : decode cX9_placeOf 28 = .ok (.iaload, 1) := by decide +kernel
theorem dX9_placeOf_29 : decode cX9_placeOf 29 = .ok (.iadd, 1) := by decide +kernel
theorem dX9_placeOf_30 : decode cX9_placeOf 30 = .ok (.ireturn, 1) := by decide +kernel
theorem dX9_placeOf_31 : decode cX9_placeOf 31 = .ok (.iconst 0, 1) := by decide +kernel
theorem dX9_placeOf_32 : decode cX9_placeOf 32 = .ok (.istore_n 2, 1) := by decide +kernel
theorem dX9_placeOf_33 : decode cX9_placeOf 33 = .ok (.iload_n 2, 1) := by decide +kernel
theorem dX9_placeOf_34 : decode cX9_placeOf 34 = .ok (.invokestatic 118, 3) := by decide +kernel
theorem dX9_placeOf_37 : decode cX9_placeOf 37 = .ok (.aload_n 0, 1) := by decide +kernel
theorem dX9_placeOf_38 : decode cX9_placeOf 38 = .ok (.getfield 45, 3) := by decide +kernel
theorem dX9_placeOf_41 : decode cX9_placeOf 41 = .ok (.iload_n 1, 1) := by decide +kernel
theorem dX9_placeOf_42 : decode cX9_placeOf 42 = .ok (.caload, 1) := by decide +kernel
theorem dX9_placeOf_43 : decode cX9_placeOf 43 = .ok (.if_icmp .eq 9, 3) := by decide +kernel
theorem dX9_placeOf_46 : decode cX9_placeOf 46 = .ok (.iinc 2 1, 3) := by decide +kernel
theorem dX9_placeOf_49 : decode cX9_placeOf 49 = .ok (.goto (-16), 3) := by decide +kernel
theorem dX9_placeOf_52 : decode cX9_placeOf 52 = .ok (.bipush 32, 2) := by decide +kernel
theorem dX9_placeOf_54 : decode cX9_placeOf 54 = .ok (.iload_n 2, 1) := by decide +kernel
theorem dX9_placeOf_55 : decode cX9_placeOf 55 = .ok (.imul, 1) := by decide +kernel
theorem dX9_placeOf_56 : decode cX9_placeOf 56 = .ok (.bipush 8, 2) := by decide +kernel
theorem dX9_placeOf_58 : decode cX9_placeOf 58 = .ok (.aload_n 0, 1) := by decide +kernel
theorem dX9_placeOf_59 : decode cX9_placeOf 59 = .ok (.getfield 49, 3) := by decide +kernel
theorem dX9_placeOf_62 : decode cX9_placeOf 62 = .ok (.iload_n 1, 1) := by decide +kernel
theorem dX9_placeOf_63 : decode cX9_placeOf 63 = .ok (.iaload, 1) := by decide +kernel
theorem dX9_placeOf_64 : decode cX9_placeOf 64 = .ok (.imul, 1) := by decide +kernel
theorem dX9_placeOf_65 : decode cX9_placeOf 65 = .ok (.iadd, 1) := by decide +kernel
theorem dX9_placeOf_66 : decode cX9_placeOf 66 = .ok (.aload_n 0, 1) := by decide +kernel
theorem dX9_placeOf_67 : decode cX9_placeOf 67 = .ok (.getfield 52, 3) := by decide +kernel
theorem dX9_placeOf_70 : decode cX9_placeOf 70 = .ok (.iload_n 1, 1) := by decide +kernel
theorem dX9_placeOf_71 : decode cX9_placeOf 71 = .ok (.iaload, 1) := by decide +kernel
theorem dX9_placeOf_72 : decode cX9_placeOf 72 = .ok (.iadd, 1) := by decide +kernel
theorem dX9_placeOf_73 : decode cX9_placeOf 73 = .ok (.ireturn, 1) := by decide +kernel
theorem dX9_addPerson_0 : decode cX9_addPerson 0 = .ok (.aload_n 0, 1) := by decide +kernel
theorem dX9_addPerson_1 : decode cX9_addPerson 1 = .ok (.aload_n 0, 1) := by decide +kernel
theorem dX9_addPerson_2 : decode cX9_addPerson 2 = .ok (.getfield 76, 3) := by decide +kernel
theorem dX9_addPerson_5 : decode cX9_addPerson 5 = .ok (.iconst 4, 1) := by decide +kernel
theorem dX9_addPerson_6 : decode cX9_addPerson 6 = .ok (.if_icmp .ne 7, 3) := by decide +kernel
theorem dX9_addPerson_9 : decode cX9_addPerson 9 = .ok (.iconst 1, 1) := by decide +kernel
theorem dX9_addPerson_10 : decode cX9_addPerson 10 = .ok (.goto 4, 3) := by decide +kernel
theorem dX9_addPerson_13 : decode cX9_addPerson 13 = .ok (.iconst 0, 1) := by decide +kernel
theorem dX9_addPerson_14 : decode cX9_addPerson 14 = .ok (.invokevirtual 129, 3) := by decide +kernel
theorem dX9_addPerson_17 : decode cX9_addPerson 17 = .ok (.ifCond .ne 5, 3) := by decide +kernel
theorem dX9_addPerson_20 : decode cX9_addPerson 20 = .ok (.iconst 0, 1) := by decide +kernel
theorem dX9_addPerson_21 : decode cX9_addPerson 21 = .ok (.ireturn, 1) := by decide +kernel
theorem dX9_addPerson_22 : decode cX9_addPerson 22 = .ok (.aload_n 0, 1) := by decide +kernel
theorem dX9_addPerson_23 : decode cX9_addPerson 23 = .ok (.dup, 1) := by decide +kernel
theorem dX9_addPerson_24 : decode cX9_addPerson 24 = .ok (.getfield 76, 3) := by decide +kernel
theorem dX9_addPerson_27 : decode cX9_addPerson 27 = .ok (.iconst 1, 1) := by decide +kernel
theorem dX9_addPerson_28 : decode cX9_addPerson 28 = .ok (.iadd, 1) := by decide +kernel
theorem dX9_addPerson_29 : decode cX9_addPerson 29 = .ok (.putfield 76, 3) := by decide +kernel
theorem dX9_addPerson_32 : decode cX9_addPerson 32 = .ok (.aload_n 0, 1) := by decide +kernel
theorem dX9_addPerson_33 : decode cX9_addPerson 33 = .ok (.getfield 76, 3) := by decide +kernel
theorem dX9_addPerson_36 : decode cX9_addPerson 36 = .ok (.iconst 1, 1) := by decide +kernel
theorem dX9_addPerson_37 : decode cX9_addPerson 37 = .ok (.isub, 1) := by decide +kernel
theorem dX9_addPerson_38 : decode cX9_addPerson 38 = .ok (.ireturn, 1) := by decide +kernel
theorem dX9_addShift_0 : decode cX9_addShift 0 = .ok (.aload_n 0, 1) := by decide +kernel
theorem dX9_addShift_1 : decode cX9_addShift 1 = .ok (.iload_n 1, 1) := by decide +kernel
theorem dX9_addShift_2 : decode cX9_addShift 2 = .ok (.iconst 0, 1) := by decide +kernel
theorem dX9_addShift_3 : decode cX9_addShift 3 = .ok (.sipush 1439, 3) := by decide +kernel
theorem dX9_addShift_6 : decode cX9_addShift 6 = .ok (.invokestatic 79, 3) := by decide +kernel
theorem dX9_addShift_9 : decode cX9_addShift 9 = .ok (.ifCond .eq 14, 3) := by decide +kernel
theorem dX9_addShift_12 : decode cX9_addShift 12 = .ok (.iload_n 2, 1) := by decide +kernel
theorem dX9_addShift_13 : decode cX9_addShift 13 = .ok (.iconst 1, 1) := by decide +kernel
theorem dX9_addShift_14 : decode cX9_addShift 14 = .ok (.sipush 720, 3) := by decide +kernel
theorem dX9_addShift_17 : decode cX9_addShift 17 = .ok (.invokestatic 79, 3) := by decide +kernel
theorem dX9_addShift_20 : decode cX9_addShift 20 = .ok (.ifCond .ne 7, 3) := by decide +kernel
theorem dX9_addShift_23 : decode cX9_addShift 23 = .ok (.iconst 1, 1) := by decide +kernel
theorem dX9_addShift_24 : decode cX9_addShift 24 = .ok (.goto 16, 3) := by decide +kernel
theorem dX9_addShift_27 : decode cX9_addShift 27 = .ok (.aload_n 0, 1) := by decide +kernel
theorem dX9_addShift_28 : decode cX9_addShift 28 = .ok (.getfield 83, 3) := by decide +kernel
theorem dX9_addShift_31 : decode cX9_addShift 31 = .ok (.iconst 3, 1) := by decide +kernel
theorem dX9_addShift_32 : decode cX9_addShift 32 = .ok (.if_icmp .ne 7, 3) := by decide +kernel
theorem dX9_addShift_35 : decode cX9_addShift 35 = .ok (.iconst 2, 1) := by decide +kernel
theorem dX9_addShift_36 : decode cX9_addShift 36 = .ok (.goto 4, 3) := by decide +kernel
theorem dX9_addShift_39 : decode cX9_addShift 39 = .ok (.iconst 0, 1) := by decide +kernel
theorem dX9_addShift_40 : decode cX9_addShift 40 = .ok (.invokevirtual 129, 3) := by decide +kernel
theorem dX9_addShift_43 : decode cX9_addShift 43 = .ok (.ifCond .ne 5, 3) := by decide +kernel
theorem dX9_addShift_46 : decode cX9_addShift 46 = .ok (.iconst 0, 1) := by decide +kernel
theorem dX9_addShift_47 : decode cX9_addShift 47 = .ok (.ireturn, 1) := by decide +kernel
theorem dX9_addShift_48 : decode cX9_addShift 48 = .ok (.aload_n 0, 1) := by decide +kernel
theorem dX9_addShift_49 : decode cX9_addShift 49 = .ok (.getfield 9, 3) := by decide +kernel
theorem dX9_addShift_52 : decode cX9_addShift 52 = .ok (.aload_n 0, 1) := by decide +kernel
theorem dX9_addShift_53 : decode cX9_addShift 53 = .ok (.getfield 83, 3) := by decide +kernel
theorem dX9_addShift_56 : decode cX9_addShift 56 = .ok (.iload_n 1, 1) := by decide +kernel
theorem dX9_addShift_57 : decode cX9_addShift 57 = .ok (.iastore, 1) := by decide +kernel
theorem dX9_addShift_58 : decode cX9_addShift 58 = .ok (.aload_n 0, 1) := by decide +kernel
theorem dX9_addShift_59 : decode cX9_addShift 59 = .ok (.getfield 13, 3) := by decide +kernel
theorem dX9_addShift_62 : decode cX9_addShift 62 = .ok (.aload_n 0, 1) := by decide +kernel
theorem dX9_addShift_63 : decode cX9_addShift 63 = .ok (.getfield 83, 3) := by decide +kernel
theorem dX9_addShift_66 : decode cX9_addShift 66 = .ok (.iload_n 2, 1) := by decide +kernel
theorem dX9_addShift_67 : decode cX9_addShift 67 = .ok (.iastore, 1) := by decide +kernel
theorem dX9_addShift_68 : decode cX9_addShift 68 = .ok (.aload_n 0, 1) := by decide +kernel
theorem dX9_addShift_69 : decode cX9_addShift 69 = .ok (.dup, 1) := by decide +kernel
theorem dX9_addShift_70 : decode cX9_addShift 70 = .ok (.getfield 83, 3) := by decide +kernel
theorem dX9_addShift_73 : decode cX9_addShift 73 = .ok (.iconst 1, 1) := by decide +kernel
theorem dX9_addShift_74 : decode cX9_addShift 74 = .ok (.iadd, 1) := by decide +kernel
theorem dX9_addShift_75 : decode cX9_addShift 75 = .ok (.putfield 83, 3) := by decide +kernel
theorem dX9_addShift_78 : decode cX9_addShift 78 = .ok (.aload_n 0, 1) := by decide +kernel
theorem dX9_addShift_79 : decode cX9_addShift 79 = .ok (.getfield 83, 3) := by decide +kernel
theorem dX9_addShift_82 : decode cX9_addShift 82 = .ok (.iconst 1, 1) := by decide +kernel
theorem dX9_addShift_83 : decode cX9_addShift 83 = .ok (.isub, 1) := by decide +kernel
theorem dX9_addShift_84 : decode cX9_addShift 84 = .ok (.ireturn, 1) := by decide +kernel
theorem dX9_isNight_0 : decode cX9_isNight 0 = .ok (.aload_n 0, 1) := by decide +kernel
theorem dX9_isNight_1 : decode cX9_isNight 1 = .ok (.aload_n 0, 1) := by decide +kernel
theorem dX9_isNight_2 : decode cX9_isNight 2 = .ok (.iload_n 1, 1) := by decide +kernel
theorem dX9_isNight_3 : decode cX9_isNight 3 = .ok (.invokevirtual 132, 3) := by decide +kernel
theorem dX9_isNight_6 : decode cX9_isNight 6 = .ok (.ifCond .eq 7, 3) := by decide +kernel
theorem dX9_isNight_9 : decode cX9_isNight 9 = .ok (.iconst 0, 1) := by decide +kernel
theorem dX9_isNight_10 : decode cX9_isNight 10 = .ok (.goto 4, 3) := by decide +kernel
theorem dX9_isNight_13 : decode cX9_isNight 13 = .ok (.iconst 1, 1) := by decide +kernel
theorem dX9_isNight_14 : decode cX9_isNight 14 = .ok (.invokevirtual 129, 3) := by decide +kernel
theorem dX9_isNight_17 : decode cX9_isNight 17 = .ok (.ifCond .eq 15, 3) := by decide +kernel
theorem dX9_isNight_20 : decode cX9_isNight 20 = .ok (.aload_n 0, 1) := by decide +kernel
theorem dX9_isNight_21 : decode cX9_isNight 21 = .ok (.iload_n 1, 1) := by decide +kernel
theorem dX9_isNight_22 : decode cX9_isNight 22 = .ok (.invokevirtual 96, 3) := by decide +kernel
theorem dX9_isNight_25 : decode cX9_isNight 25 = .ok (.ifCond .eq 7, 3) := by decide +kernel
theorem dX9_isNight_28 : decode cX9_isNight 28 = .ok (.iconst 1, 1) := by decide +kernel
theorem dX9_isNight_29 : decode cX9_isNight 29 = .ok (.goto 4, 3) := by decide +kernel
theorem dX9_isNight_32 : decode cX9_isNight 32 = .ok (.iconst 0, 1) := by decide +kernel
theorem dX9_isNight_33 : decode cX9_isNight 33 = .ok (.ireturn, 1) := by decide +kernel
theorem dX9_teach_0 : decode cX9_teach 0 = .ok (.aload_n 0, 1) := by decide +kernel
theorem dX9_teach_1 : decode cX9_teach 1 = .ok (.aload_n 0, 1) := by decide +kernel
theorem dX9_teach_2 : decode cX9_teach 2 = .ok (.iload_n 1, 1) := by decide +kernel
theorem dX9_teach_3 : decode cX9_teach 3 = .ok (.invokevirtual 135, 3) := by decide +kernel
theorem dX9_teach_6 : decode cX9_teach 6 = .ok (.ifCond .ne 7, 3) := by decide +kernel
theorem dX9_teach_9 : decode cX9_teach 9 = .ok (.iconst 1, 1) := by decide +kernel
theorem dX9_teach_10 : decode cX9_teach 10 = .ok (.goto 16, 3) := by decide +kernel
theorem dX9_teach_13 : decode cX9_teach 13 = .ok (.aload_n 0, 1) := by decide +kernel
theorem dX9_teach_14 : decode cX9_teach 14 = .ok (.iload_n 2, 1) := by decide +kernel
theorem dX9_teach_15 : decode cX9_teach 15 = .ok (.invokevirtual 132, 3) := by decide +kernel
theorem dX9_teach_18 : decode cX9_teach 18 = .ok (.ifCond .ne 7, 3) := by decide +kernel
theorem dX9_teach_21 : decode cX9_teach 21 = .ok (.iconst 2, 1) := by decide +kernel
theorem dX9_teach_22 : decode cX9_teach 22 = .ok (.goto 4, 3) := by decide +kernel
theorem dX9_teach_25 : decode cX9_teach 25 = .ok (.iconst 0, 1) := by decide +kernel
theorem dX9_teach_26 : decode cX9_teach 26 = .ok (.invokevirtual 129, 3) := by decide +kernel
theorem dX9_teach_29 : decode cX9_teach 29 = .ok (.ifCond .ne 5, 3) := by decide +kernel
theorem dX9_teach_32 : decode cX9_teach 32 = .ok (.iconst 0, 1) := by decide +kernel
theorem dX9_teach_33 : decode cX9_teach 33 = .ok (.ireturn, 1) := by decide +kernel
theorem dX9_teach_34 : decode cX9_teach 34 = .ok (.aload_n 0, 1) := by decide +kernel
theorem dX9_teach_35 : decode cX9_teach 35 = .ok (.getfield 23, 3) := by decide +kernel
theorem dX9_teach_38 : decode cX9_teach 38 = .ok (.iconst 3, 1) := by decide +kernel
theorem dX9_teach_39 : decode cX9_teach 39 = .ok (.iload_n 1, 1) := by decide +kernel
theorem dX9_teach_40 : decode cX9_teach 40 = .ok (.imul, 1) := by decide +kernel
theorem dX9_teach_41 : decode cX9_teach 41 = .ok (.iload_n 2, 1) := by decide +kernel
theorem dX9_teach_42 : decode cX9_teach 42 = .ok (.iadd, 1) := by decide +kernel
theorem dX9_teach_43 : decode cX9_teach 43 = .ok (.baload, 1) := by decide +kernel
theorem dX9_teach_44 : decode cX9_teach 44 = .ok (.istore_n 3, 1) := by decide +kernel
theorem dX9_teach_45 : decode cX9_teach 45 = .ok (.aload_n 0, 1) := by decide +kernel
theorem dX9_teach_46 : decode cX9_teach 46 = .ok (.getfield 23, 3) := by decide +kernel
theorem dX9_teach_49 : decode cX9_teach 49 = .ok (.iconst 3, 1) := by decide +kernel
theorem dX9_teach_50 : decode cX9_teach 50 = .ok (.iload_n 1, 1) := by decide +kernel
theorem dX9_teach_51 : decode cX9_teach 51 = .ok (.imul, 1) := by decide +kernel
theorem dX9_teach_52 : decode cX9_teach 52 = .ok (.iload_n 2, 1) := by decide +kernel
theorem dX9_teach_53 : decode cX9_teach 53 = .ok (.iadd, 1) := by decide +kernel
theorem dX9_teach_54 : decode cX9_teach 54 = .ok (.iconst 1, 1) := by decide +kernel
theorem dX9_teach_55 : decode cX9_teach 55 = .ok (.bastore, 1) := by decide +kernel
theorem dX9_teach_56 : decode cX9_teach 56 = .ok (.iload_n 3, 1) := by decide +kernel
theorem dX9_teach_57 : decode cX9_teach 57 = .ok (.ifCond .ne 7, 3) := by decide +kernel
theorem dX9_teach_60 : decode cX9_teach 60 = .ok (.iconst 1, 1) := by decide +kernel
theorem dX9_teach_61 : decode cX9_teach 61 = .ok (.goto 4, 3) := by decide +kernel
theorem dX9_teach_64 : decode cX9_teach 64 = .ok (.iconst 0, 1) := by decide +kernel
theorem dX9_teach_65 : decode cX9_teach 65 = .ok (.ireturn, 1) := by decide +kernel
theorem dX9_setRest_0 : decode cX9_setRest 0 = .ok (.aload_n 0, 1) := by decide +kernel
theorem dX9_setRest_1 : decode cX9_setRest 1 = .ok (.getfield 29, 3) := by decide +kernel
theorem dX9_setRest_4 : decode cX9_setRest 4 = .ok (.istore_n 2, 1) := by decide +kernel
theorem dX9_setRest_5 : decode cX9_setRest 5 = .ok (.aload_n 0, 1) := by decide +kernel
theorem dX9_setRest_6 : decode cX9_setRest 6 = .ok (.aload_n 0, 1) := by decide +kernel
theorem dX9_setRest_7 : decode cX9_setRest 7 = .ok (.iload_n 1, 1) := by decide +kernel
theorem dX9_setRest_8 : decode cX9_setRest 8 = .ok (.iconst 0, 1) := by decide +kernel
theorem dX9_setRest_9 : decode cX9_setRest 9 = .ok (.sipush 2000, 3) := by decide +kernel
theorem dX9_setRest_12 : decode cX9_setRest 12 = .ok (.invokestatic 79, 3) := by decide +kernel
theorem dX9_setRest_15 : decode cX9_setRest 15 = .ok (.ifCond .eq 7, 3) := by decide +kernel
theorem dX9_setRest_18 : decode cX9_setRest 18 = .ok (.iconst 0, 1) := by decide +kernel
theorem dX9_setRest_19 : decode cX9_setRest 19 = .ok (.goto 4, 3) := by decide +kernel
theorem dX9_setRest_22 : decode cX9_setRest 22 = .ok (.iconst 1, 1) := by decide +kernel
theorem dX9_setRest_23 : decode cX9_setRest 23 = .ok (.invokevirtual 129, 3) := by decide +kernel
theorem dX9_setRest_26 : decode cX9_setRest 26 = .ok (.ifCond .eq 7, 3) := by decide +kernel
theorem dX9_setRest_29 : decode cX9_setRest 29 = .ok (.iload_n 1, 1) := by decide +kernel
theorem dX9_setRest_30 : decode cX9_setRest 30 = .ok (.goto 7, 3) := by decide +kernel
theorem dX9_setRest_33 : decode cX9_setRest 33 = .ok (.aload_n 0, 1) := by decide +kernel
theorem dX9_setRest_34 : decode cX9_setRest 34 = .ok (.getfield 29, 3) := by decide +kernel
theorem dX9_setRest_37 : decode cX9_setRest 37 = .ok (.putfield 29, 3) := by decide +kernel
theorem dX9_setRest_40 : decode cX9_setRest 40 = .ok (.iload_n 2, 1) := by decide +kernel
theorem dX9_setRest_41 : decode cX9_setRest 41 = .ok (.ireturn, 1) := by decide +kernel
theorem dX9_setNights_0 : decode cX9_setNights 0 = .ok (.aload_n 0, 1) := by decide +kernel
theorem dX9_setNights_1 : decode cX9_setNights 1 = .ok (.getfield 33, 3) := by decide +kernel
theorem dX9_setNights_4 : decode cX9_setNights 4 = .ok (.istore_n 2, 1) := by decide +kernel
theorem dX9_setNights_5 : decode cX9_setNights 5 = .ok (.aload_n 0, 1) := by decide +kernel
theorem dX9_setNights_6 : decode cX9_setNights 6 = .ok (.aload_n 0, 1) := by decide +kernel
theorem dX9_setNights_7 : decode cX9_setNights 7 = .ok (.iload_n 1, 1) := by decide +kernel
theorem dX9_setNights_8 : decode cX9_setNights 8 = .ok (.iconst 1, 1) := by decide +kernel
theorem dX9_setNights_9 : decode cX9_setNights 9 = .ok (.bipush 8, 2) := by decide +kernel
theorem dX9_setNights_11 : decode cX9_setNights 11 = .ok (.invokestatic 79, 3) := by decide +kernel
theorem dX9_setNights_14 : decode cX9_setNights 14 = .ok (.ifCond .eq 7, 3) := by decide +kernel
theorem dX9_setNights_17 : decode cX9_setNights 17 = .ok (.iconst 0, 1) := by decide +kernel
theorem dX9_setNights_18 : decode cX9_setNights 18 = .ok (.goto 4, 3) := by decide +kernel
theorem dX9_setNights_21 : decode cX9_setNights 21 = .ok (.iconst 1, 1) := by decide +kernel
theorem dX9_setNights_22 : decode cX9_setNights 22 = .ok (.invokevirtual 129, 3) := by decide +kernel
theorem dX9_setNights_25 : decode cX9_setNights 25 = .ok (.ifCond .eq 7, 3) := by decide +kernel
theorem dX9_setNights_28 : decode cX9_setNights 28 = .ok (.iload_n 1, 1) := by decide +kernel
theorem dX9_setNights_29 : decode cX9_setNights 29 = .ok (.goto 7, 3) := by decide +kernel
theorem dX9_setNights_32 : decode cX9_setNights 32 = .ok (.aload_n 0, 1) := by decide +kernel
theorem dX9_setNights_33 : decode cX9_setNights 33 = .ok (.getfield 33, 3) := by decide +kernel
theorem dX9_setNights_36 : decode cX9_setNights 36 = .ok (.putfield 33, 3) := by decide +kernel
theorem dX9_setNights_39 : decode cX9_setNights 39 = .ok (.iload_n 2, 1) := by decide +kernel
theorem dX9_setNights_40 : decode cX9_setNights 40 = .ok (.ireturn, 1) := by decide +kernel
theorem dX9_setRun_0 : decode cX9_setRun 0 = .ok (.aload_n 0, 1) := by decide +kernel
theorem dX9_setRun_1 : decode cX9_setRun 1 = .ok (.getfield 36, 3) := by decide +kernel
theorem dX9_setRun_4 : decode cX9_setRun 4 = .ok (.istore_n 2, 1) := by decide +kernel
theorem dX9_setRun_5 : decode cX9_setRun 5 = .ok (.aload_n 0, 1) := by decide +kernel
theorem dX9_setRun_6 : decode cX9_setRun 6 = .ok (.aload_n 0, 1) := by decide +kernel
theorem dX9_setRun_7 : decode cX9_setRun 7 = .ok (.iload_n 1, 1) := by decide +kernel
theorem dX9_setRun_8 : decode cX9_setRun 8 = .ok (.iconst 1, 1) := by decide +kernel
theorem dX9_setRun_9 : decode cX9_setRun 9 = .ok (.bipush 8, 2) := by decide +kernel
theorem dX9_setRun_11 : decode cX9_setRun 11 = .ok (.invokestatic 79, 3) := by decide +kernel
theorem dX9_setRun_14 : decode cX9_setRun 14 = .ok (.ifCond .eq 7, 3) := by decide +kernel
theorem dX9_setRun_17 : decode cX9_setRun 17 = .ok (.iconst 0, 1) := by decide +kernel
theorem dX9_setRun_18 : decode cX9_setRun 18 = .ok (.goto 4, 3) := by decide +kernel
theorem dX9_setRun_21 : decode cX9_setRun 21 = .ok (.iconst 1, 1) := by decide +kernel
theorem dX9_setRun_22 : decode cX9_setRun 22 = .ok (.invokevirtual 129, 3) := by decide +kernel
theorem dX9_setRun_25 : decode cX9_setRun 25 = .ok (.ifCond .eq 7, 3) := by decide +kernel
theorem dX9_setRun_28 : decode cX9_setRun 28 = .ok (.iload_n 1, 1) := by decide +kernel
theorem dX9_setRun_29 : decode cX9_setRun 29 = .ok (.goto 7, 3) := by decide +kernel
theorem dX9_setRun_32 : decode cX9_setRun 32 = .ok (.aload_n 0, 1) := by decide +kernel
theorem dX9_setRun_33 : decode cX9_setRun 33 = .ok (.getfield 36, 3) := by decide +kernel
theorem dX9_setRun_36 : decode cX9_setRun 36 = .ok (.putfield 36, 3) := by decide +kernel
theorem dX9_setRun_39 : decode cX9_setRun 39 = .ok (.iload_n 2, 1) := by decide +kernel
theorem dX9_setRun_40 : decode cX9_setRun 40 = .ok (.ireturn, 1) := by decide +kernel
theorem dX9_setHours_0 : decode cX9_setHours 0 = .ok (.aload_n 0, 1) := by decide +kernel
theorem dX9_setHours_1 : decode cX9_setHours 1 = .ok (.getfield 42, 3) := by decide +kernel
theorem dX9_setHours_4 : decode cX9_setHours 4 = .ok (.istore_n 3, 1) := by decide +kernel
theorem dX9_setHours_5 : decode cX9_setHours 5 = .ok (.aload_n 0, 1) := by decide +kernel
theorem dX9_setHours_6 : decode cX9_setHours 6 = .ok (.iload_n 1, 1) := by decide +kernel
theorem dX9_setHours_7 : decode cX9_setHours 7 = .ok (.iconst 1, 1) := by decide +kernel
theorem dX9_setHours_8 : decode cX9_setHours 8 = .ok (.bipush 8, 2) := by decide +kernel
theorem dX9_setHours_10 : decode cX9_setHours 10 = .ok (.invokestatic 79, 3) := by decide +kernel
theorem dX9_setHours_13 : decode cX9_setHours 13 = .ok (.ifCond .eq 18, 3) := by decide +kernel
theorem dX9_setHours_16 : decode cX9_setHours 16 = .ok (.iload_n 2, 1) := by decide +kernel
theorem dX9_setHours_17 : decode cX9_setHours 17 = .ok (.iconst 0, 1) := by decide +kernel
theorem dX9_setHours_18 : decode cX9_setHours 18 = .ok (.sipush 6000, 3) := by decide +kernel
theorem dX9_setHours_21 : decode cX9_setHours 21 = .ok (.invokestatic 79, 3) := by decide +kernel
theorem dX9_setHours_24 : decode cX9_setHours 24 = .ok (.ifCond .eq 7, 3) := by decide +kernel
theorem dX9_setHours_27 : decode cX9_setHours 27 = .ok (.iconst 0, 1) := by decide +kernel
theorem dX9_setHours_28 : decode cX9_setHours 28 = .ok (.goto 4, 3) := by decide +kernel
theorem dX9_setHours_31 : decode cX9_setHours 31 = .ok (.iconst 1, 1) := by decide +kernel
theorem dX9_setHours_32 : decode cX9_setHours 32 = .ok (.invokevirtual 129, 3) := by decide +kernel
theorem dX9_setHours_35 : decode cX9_setHours 35 = .ok (.ifCond .eq 13, 3) := by decide +kernel
theorem dX9_setHours_38 : decode cX9_setHours 38 = .ok (.aload_n 0, 1) := by decide +kernel
theorem dX9_setHours_39 : decode cX9_setHours 39 = .ok (.iload_n 1, 1) := by decide +kernel
theorem dX9_setHours_40 : decode cX9_setHours 40 = .ok (.putfield 39, 3) := by decide +kernel
theorem dX9_setHours_43 : decode cX9_setHours 43 = .ok (.aload_n 0, 1) := by decide +kernel
theorem dX9_setHours_44 : decode cX9_setHours 44 = .ok (.iload_n 2, 1) := by decide +kernel
theorem dX9_setHours_45 : decode cX9_setHours 45 = .ok (.putfield 42, 3) := by decide +kernel
theorem dX9_setHours_48 : decode cX9_setHours 48 = .ok (.iload_n 3, 1) := by decide +kernel
theorem dX9_setHours_49 : decode cX9_setHours 49 = .ok (.ireturn, 1) := by decide +kernel
theorem dX9_setDemand_0 : decode cX9_setDemand 0 = .ok (.aload_n 0, 1) := by decide +kernel
theorem dX9_setDemand_1 : decode cX9_setDemand 1 = .ok (.iload_n 1, 1) := by decide +kernel
theorem dX9_setDemand_2 : decode cX9_setDemand 2 = .ok (.invokestatic 138, 3) := by decide +kernel
theorem dX9_setDemand_5 : decode cX9_setDemand 5 = .ok (.ifCond .ne 7, 3) := by decide +kernel
theorem dX9_setDemand_8 : decode cX9_setDemand 8 = .ok (.iconst 1, 1) := by decide +kernel
theorem dX9_setDemand_9 : decode cX9_setDemand 9 = .ok (.goto 29, 3) := by decide +kernel
theorem dX9_setDemand_12 : decode cX9_setDemand 12 = .ok (.aload_n 0, 1) := by decide +kernel
theorem dX9_setDemand_13 : decode cX9_setDemand 13 = .ok (.iload_n 2, 1) := by decide +kernel
theorem dX9_setDemand_14 : decode cX9_setDemand 14 = .ok (.invokevirtual 132, 3) := by decide +kernel
theorem dX9_setDemand_17 : decode cX9_setDemand 17 = .ok (.ifCond .ne 7, 3) := by decide +kernel
theorem dX9_setDemand_20 : decode cX9_setDemand 20 = .ok (.iconst 2, 1) := by decide +kernel
theorem dX9_setDemand_21 : decode cX9_setDemand 21 = .ok (.goto 17, 3) := by decide +kernel
theorem dX9_setDemand_24 : decode cX9_setDemand 24 = .ok (.iload_n 3, 1) := by decide +kernel
theorem dX9_setDemand_25 : decode cX9_setDemand 25 = .ok (.iconst 0, 1) := by decide +kernel
theorem dX9_setDemand_26 : decode cX9_setDemand 26 = .ok (.iconst 4, 1) := by decide +kernel
theorem dX9_setDemand_27 : decode cX9_setDemand 27 = .ok (.invokestatic 79, 3) := by decide +kernel
theorem dX9_setDemand_30 : decode cX9_setDemand 30 = .ok (.ifCond .ne 7, 3) := by decide +kernel
theorem dX9_setDemand_33 : decode cX9_setDemand 33 = .ok (.iconst 3, 1) := by decide +kernel
theorem dX9_setDemand_34 : decode cX9_setDemand 34 = .ok (.goto 4, 3) := by decide +kernel
theorem dX9_setDemand_37 : decode cX9_setDemand 37 = .ok (.iconst 0, 1) := by decide +kernel
theorem dX9_setDemand_38 : decode cX9_setDemand 38 = .ok (.invokevirtual 129, 3) := by decide +kernel
theorem dX9_setDemand_41 : decode cX9_setDemand 41 = .ok (.ifCond .ne 5, 3) := by decide +kernel
theorem dX9_setDemand_44 : decode cX9_setDemand 44 = .ok (.iconst 0, 1) := by decide +kernel
theorem dX9_setDemand_45 : decode cX9_setDemand 45 = .ok (.ireturn, 1) := by decide +kernel
theorem dX9_setDemand_46 : decode cX9_setDemand 46 = .ok (.aload_n 0, 1) := by decide +kernel
theorem dX9_setDemand_47 : decode cX9_setDemand 47 = .ok (.getfield 26, 3) := by decide +kernel
theorem dX9_setDemand_50 : decode cX9_setDemand 50 = .ok (.iconst 3, 1) := by decide +kernel
theorem dX9_setDemand_51 : decode cX9_setDemand 51 = .ok (.iload_n 1, 1) := by decide +kernel
theorem dX9_setDemand_52 : decode cX9_setDemand 52 = .ok (.imul, 1) := by decide +kernel
theorem dX9_setDemand_53 : decode cX9_setDemand 53 = .ok (.iload_n 2, 1) := by decide +kernel
theorem dX9_setDemand_54 : decode cX9_setDemand 54 = .ok (.iadd, 1) := by decide +kernel
theorem dX9_setDemand_55 : decode cX9_setDemand 55 = .ok (.iaload, 1) := by decide +kernel
theorem dX9_setDemand_56 : decode cX9_setDemand 56 = .ok (.istore 4, 2) := by decide +kernel
theorem dX9_setDemand_58 : decode cX9_setDemand 58 = .ok (.aload_n 0, 1) := by decide +kernel
theorem dX9_setDemand_59 : decode cX9_setDemand 59 = .ok (.getfield 26, 3) := by decide +kernel
theorem dX9_setDemand_62 : decode cX9_setDemand 62 = .ok (.iconst 3, 1) := by decide +kernel
theorem dX9_setDemand_63 : decode cX9_setDemand 63 = .ok (.iload_n 1, 1) := by decide +kernel
theorem dX9_setDemand_64 : decode cX9_setDemand 64 = .ok (.imul, 1) := by decide +kernel
theorem dX9_setDemand_65 : decode cX9_setDemand 65 = .ok (.iload_n 2, 1) := by decide +kernel
theorem dX9_setDemand_66 : decode cX9_setDemand 66 = .ok (.iadd, 1) := by decide +kernel
theorem dX9_setDemand_67 : decode cX9_setDemand 67 = .ok (.iload_n 3, 1) := by decide +kernel
theorem dX9_setDemand_68 : decode cX9_setDemand 68 = .ok (.iastore, 1) := by decide +kernel
theorem dX9_setDemand_69 : decode cX9_setDemand 69 = .ok (.iload 4, 2) := by decide +kernel
theorem dX9_setDemand_71 : decode cX9_setDemand 71 = .ok (.ireturn, 1) := by decide +kernel
theorem dX9_assign_0 : decode cX9_assign 0 = .ok (.aload_n 0, 1) := by decide +kernel
theorem dX9_assign_1 : decode cX9_assign 1 = .ok (.aload_n 0, 1) := by decide +kernel
theorem dX9_assign_2 : decode cX9_assign 2 = .ok (.iload_n 1, 1) := by decide +kernel
theorem dX9_assign_3 : decode cX9_assign 3 = .ok (.invokevirtual 135, 3) := by decide +kernel
theorem dX9_assign_6 : decode cX9_assign 6 = .ok (.ifCond .eq 10, 3) := by decide +kernel
theorem dX9_assign_9 : decode cX9_assign 9 = .ok (.iload_n 2, 1) := by decide +kernel
theorem dX9_assign_10 : decode cX9_assign 10 = .ok (.invokestatic 138, 3) := by decide +kernel
theorem dX9_assign_13 : decode cX9_assign 13 = .ok (.ifCond .ne 7, 3) := by decide +kernel
theorem dX9_assign_16 : decode cX9_assign 16 = .ok (.iconst 1, 1) := by decide +kernel
theorem dX9_assign_17 : decode cX9_assign 17 = .ok (.goto 16, 3) := by decide +kernel
theorem dX9_assign_20 : decode cX9_assign 20 = .ok (.aload_n 0, 1) := by decide +kernel
theorem dX9_assign_21 : decode cX9_assign 21 = .ok (.iload_n 3, 1) := by decide +kernel
theorem dX9_assign_22 : decode cX9_assign 22 = .ok (.invokevirtual 132, 3) := by decide +kernel
theorem dX9_assign_25 : decode cX9_assign 25 = .ok (.ifCond .ne 7, 3) := by decide +kernel
theorem dX9_assign_28 : decode cX9_assign 28 = .ok (.iconst 2, 1) := by decide +kernel
theorem dX9_assign_29 : decode cX9_assign 29 = .ok (.goto 4, 3) := by decide +kernel
theorem dX9_assign_32 : decode cX9_assign 32 = .ok (.iconst 0, 1) := by decide +kernel
theorem dX9_assign_33 : decode cX9_assign 33 = .ok (.invokevirtual 129, 3) := by decide +kernel
theorem dX9_assign_36 : decode cX9_assign 36 = .ok (.ifCond .ne 5, 3) := by decide +kernel
theorem dX9_assign_39 : decode cX9_assign 39 = .ok (.iconst 0, 1) := by decide +kernel
theorem dX9_assign_40 : decode cX9_assign 40 = .ok (.ireturn, 1) := by decide +kernel
theorem dX9_assign_41 : decode cX9_assign 41 = .ok (.aload_n 0, 1) := by decide +kernel
theorem dX9_assign_42 : decode cX9_assign 42 = .ok (.iload_n 1, 1) := by decide +kernel
theorem dX9_assign_43 : decode cX9_assign 43 = .ok (.iload_n 2, 1) := by decide +kernel
theorem dX9_assign_44 : decode cX9_assign 44 = .ok (.invokevirtual 86, 3) := by decide +kernel
theorem dX9_assign_47 : decode cX9_assign 47 = .ok (.istore 4, 2) := by decide +kernel
theorem dX9_assign_49 : decode cX9_assign 49 = .ok (.aload_n 0, 1) := by decide +kernel
theorem dX9_assign_50 : decode cX9_assign 50 = .ok (.getfield 16, 3) := by decide +kernel
theorem dX9_assign_53 : decode cX9_assign 53 = .ok (.bipush 8, 2) := by decide +kernel
theorem dX9_assign_55 : decode cX9_assign 55 = .ok (.iload_n 1, 1) := by decide +kernel
theorem dX9_assign_56 : decode cX9_assign 56 = .ok (.imul, 1) := by decide +kernel
theorem dX9_assign_57 : decode cX9_assign 57 = .ok (.iload_n 2, 1) := by decide +kernel
theorem dX9_assign_58 : decode cX9_assign 58 = .ok (.iadd, 1) := by decide +kernel
theorem dX9_assign_59 : decode cX9_assign 59 = .ok (.iload_n 3, 1) := by decide +kernel
theorem dX9_assign_60 : decode cX9_assign 60 = .ok (.iastore, 1) := by decide +kernel
theorem dX9_assign_61 : decode cX9_assign 61 = .ok (.iload 4, 2) := by decide +kernel
theorem dX9_assign_63 : decode cX9_assign 63 = .ok (.ireturn, 1) := by decide +kernel
theorem dX9_free_0 : decode cX9_free 0 = .ok (.aload_n 0, 1) := by decide +kernel
theorem dX9_free_1 : decode cX9_free 1 = .ok (.iload_n 1, 1) := by decide +kernel
theorem dX9_free_2 : decode cX9_free 2 = .ok (.invokevirtual 135, 3) := by decide +kernel
theorem dX9_free_5 : decode cX9_free 5 = .ok (.ifCond .eq 10, 3) := by decide +kernel
theorem dX9_free_8 : decode cX9_free 8 = .ok (.iload_n 2, 1) := by decide +kernel
theorem dX9_free_9 : decode cX9_free 9 = .ok (.invokestatic 138, 3) := by decide +kernel
theorem dX9_free_12 : decode cX9_free 12 = .ok (.ifCond .ne 7, 3) := by decide +kernel
theorem dX9_free_15 : decode cX9_free 15 = .ok (.iconst 1, 1) := by decide +kernel
theorem dX9_free_16 : decode cX9_free 16 = .ok (.goto 4, 3) := by decide +kernel
theorem dX9_free_19 : decode cX9_free 19 = .ok (.iconst 0, 1) := by decide +kernel
theorem dX9_free_20 : decode cX9_free 20 = .ok (.istore_n 3, 1) := by decide +kernel
theorem dX9_free_21 : decode cX9_free 21 = .ok (.iload_n 3, 1) := by decide +kernel
theorem dX9_free_22 : decode cX9_free 22 = .ok (.ifCond .ne 17, 3) := by decide +kernel
theorem dX9_free_25 : decode cX9_free 25 = .ok (.aload_n 0, 1) := by decide +kernel
theorem dX9_free_26 : decode cX9_free 26 = .ok (.iload_n 1, 1) := by decide +kernel
theorem dX9_free_27 : decode cX9_free 27 = .ok (.iload_n 2, 1) := by decide +kernel
theorem dX9_free_28 : decode cX9_free 28 = .ok (.invokevirtual 86, 3) := by decide +kernel
theorem dX9_free_31 : decode cX9_free 31 = .ok (.iconst (-1), 1) := by decide +kernel
theorem dX9_free_32 : decode cX9_free 32 = .ok (.if_icmp .ne 7, 3) := by decide +kernel
theorem dX9_free_35 : decode cX9_free 35 = .ok (.iconst 2, 1) := by decide +kernel
theorem dX9_free_36 : decode cX9_free 36 = .ok (.goto 4, 3) := by decide +kernel
theorem dX9_free_39 : decode cX9_free 39 = .ok (.iload_n 3, 1) := by decide +kernel
theorem dX9_free_40 : decode cX9_free 40 = .ok (.istore_n 3, 1) := by decide +kernel
theorem dX9_free_41 : decode cX9_free 41 = .ok (.aload_n 0, 1) := by decide +kernel
theorem dX9_free_42 : decode cX9_free 42 = .ok (.iload_n 3, 1) := by decide +kernel
theorem dX9_free_43 : decode cX9_free 43 = .ok (.invokevirtual 129, 3) := by decide +kernel
theorem dX9_free_46 : decode cX9_free 46 = .ok (.ifCond .ne 5, 3) := by decide +kernel
theorem dX9_free_49 : decode cX9_free 49 = .ok (.iconst 0, 1) := by decide +kernel
theorem dX9_free_50 : decode cX9_free 50 = .ok (.ireturn, 1) := by decide +kernel
theorem dX9_free_51 : decode cX9_free 51 = .ok (.aload_n 0, 1) := by decide +kernel
theorem dX9_free_52 : decode cX9_free 52 = .ok (.iload_n 1, 1) := by decide +kernel
theorem dX9_free_53 : decode cX9_free 53 = .ok (.iload_n 2, 1) := by decide +kernel
theorem dX9_free_54 : decode cX9_free 54 = .ok (.invokevirtual 86, 3) := by decide +kernel
theorem dX9_free_57 : decode cX9_free 57 = .ok (.istore 4, 2) := by decide +kernel
theorem dX9_free_59 : decode cX9_free 59 = .ok (.aload_n 0, 1) := by decide +kernel
theorem dX9_free_60 : decode cX9_free 60 = .ok (.getfield 16, 3) := by decide +kernel
theorem dX9_free_63 : decode cX9_free 63 = .ok (.bipush 8, 2) := by decide +kernel
theorem dX9_free_65 : decode cX9_free 65 = .ok (.iload_n 1, 1) := by decide +kernel
theorem dX9_free_66 : decode cX9_free 66 = .ok (.imul, 1) := by decide +kernel
theorem dX9_free_67 : decode cX9_free 67 = .ok (.iload_n 2, 1) := by decide +kernel
theorem dX9_free_68 : decode cX9_free 68 = .ok (.iadd, 1) := by decide +kernel
theorem dX9_free_69 : decode cX9_free 69 = .ok (.iconst (-1), 1) := by decide +kernel
theorem dX9_free_70 : decode cX9_free 70 = .ok (.iastore, 1) := by decide +kernel
theorem dX9_free_71 : decode cX9_free 71 = .ok (.iload 4, 2) := by decide +kernel
theorem dX9_free_73 : decode cX9_free 73 = .ok (.ireturn, 1) := by decide +kernel
theorem dX9_setAbsent_0 : decode cX9_setAbsent 0 = .ok (.aload_n 0, 1) := by decide +kernel
theorem dX9_setAbsent_1 : decode cX9_setAbsent 1 = .ok (.aload_n 0, 1) := by decide +kernel
theorem dX9_setAbsent_2 : decode cX9_setAbsent 2 = .ok (.iload_n 1, 1) := by decide +kernel
theorem dX9_setAbsent_3 : decode cX9_setAbsent 3 = .ok (.invokevirtual 135, 3) := by decide +kernel
theorem dX9_setAbsent_6 : decode cX9_setAbsent 6 = .ok (.ifCond .eq 10, 3) := by decide +kernel
theorem dX9_setAbsent_9 : decode cX9_setAbsent 9 = .ok (.iload_n 2, 1) := by decide +kernel
theorem dX9_setAbsent_10 : decode cX9_setAbsent 10 = .ok (.invokestatic 138, 3) := by decide +kernel
theorem dX9_setAbsent_13 : decode cX9_setAbsent 13 = .ok (.ifCond .ne 7, 3) := by decide +kernel
theorem dX9_setAbsent_16 : decode cX9_setAbsent 16 = .ok (.iconst 1, 1) := by decide +kernel
theorem dX9_setAbsent_17 : decode cX9_setAbsent 17 = .ok (.goto 4, 3) := by decide +kernel
theorem dX9_setAbsent_20 : decode cX9_setAbsent 20 = .ok (.iconst 0, 1) := by decide +kernel
theorem dX9_setAbsent_21 : decode cX9_setAbsent 21 = .ok (.invokevirtual 129, 3) := by decide +kernel
theorem dX9_setAbsent_24 : decode cX9_setAbsent 24 = .ok (.ifCond .ne 5, 3) := by decide +kernel
theorem dX9_setAbsent_27 : decode cX9_setAbsent 27 = .ok (.iconst 0, 1) := by decide +kernel
theorem dX9_setAbsent_28 : decode cX9_setAbsent 28 = .ok (.ireturn, 1) := by decide +kernel
theorem dX9_setAbsent_29 : decode cX9_setAbsent 29 = .ok (.aload_n 0, 1) := by decide +kernel
theorem dX9_setAbsent_30 : decode cX9_setAbsent 30 = .ok (.getfield 19, 3) := by decide +kernel
theorem dX9_setAbsent_33 : decode cX9_setAbsent 33 = .ok (.bipush 8, 2) := by decide +kernel
theorem dX9_setAbsent_35 : decode cX9_setAbsent 35 = .ok (.iload_n 1, 1) := by decide +kernel
theorem dX9_setAbsent_36 : decode cX9_setAbsent 36 = .ok (.imul, 1) := by decide +kernel
theorem dX9_setAbsent_37 : decode cX9_setAbsent 37 = .ok (.iload_n 2, 1) := by decide +kernel
theorem dX9_setAbsent_38 : decode cX9_setAbsent 38 = .ok (.iadd, 1) := by decide +kernel
theorem dX9_setAbsent_39 : decode cX9_setAbsent 39 = .ok (.baload, 1) := by decide +kernel
theorem dX9_setAbsent_40 : decode cX9_setAbsent 40 = .ok (.istore 4, 2) := by decide +kernel
theorem dX9_setAbsent_42 : decode cX9_setAbsent 42 = .ok (.aload_n 0, 1) := by decide +kernel
theorem dX9_setAbsent_43 : decode cX9_setAbsent 43 = .ok (.getfield 19, 3) := by decide +kernel
theorem dX9_setAbsent_46 : decode cX9_setAbsent 46 = .ok (.bipush 8, 2) := by decide +kernel
theorem dX9_setAbsent_48 : decode cX9_setAbsent 48 = .ok (.iload_n 1, 1) := by decide +kernel
theorem dX9_setAbsent_49 : decode cX9_setAbsent 49 = .ok (.imul, 1) := by decide +kernel
theorem dX9_setAbsent_50 : decode cX9_setAbsent 50 = .ok (.iload_n 2, 1) := by decide +kernel
theorem dX9_setAbsent_51 : decode cX9_setAbsent 51 = .ok (.iadd, 1) := by decide +kernel
theorem dX9_setAbsent_52 : decode cX9_setAbsent 52 = .ok (.iload_n 3, 1) := by decide +kernel
theorem dX9_setAbsent_53 : decode cX9_setAbsent 53 = .ok (.bastore, 1) := by decide +kernel
theorem dX9_setAbsent_54 : decode cX9_setAbsent 54 = .ok (.iload 4, 2) := by decide +kernel
theorem dX9_setAbsent_56 : decode cX9_setAbsent 56 = .ok (.ireturn, 1) := by decide +kernel
theorem dX9_shiftOf_0 : decode cX9_shiftOf 0 = .ok (.aload_n 0, 1) := by decide +kernel
theorem dX9_shiftOf_1 : decode cX9_shiftOf 1 = .ok (.aload_n 0, 1) := by decide +kernel
theorem dX9_shiftOf_2 : decode cX9_shiftOf 2 = .ok (.iload_n 1, 1) := by decide +kernel
theorem dX9_shiftOf_3 : decode cX9_shiftOf 3 = .ok (.invokevirtual 135, 3) := by decide +kernel
theorem dX9_shiftOf_6 : decode cX9_shiftOf 6 = .ok (.ifCond .eq 10, 3) := by decide +kernel
theorem dX9_shiftOf_9 : decode cX9_shiftOf 9 = .ok (.iload_n 2, 1) := by decide +kernel
theorem dX9_shiftOf_10 : decode cX9_shiftOf 10 = .ok (.invokestatic 138, 3) := by decide +kernel
theorem dX9_shiftOf_13 : decode cX9_shiftOf 13 = .ok (.ifCond .ne 7, 3) := by decide +kernel
theorem dX9_shiftOf_16 : decode cX9_shiftOf 16 = .ok (.iconst 1, 1) := by decide +kernel
theorem dX9_shiftOf_17 : decode cX9_shiftOf 17 = .ok (.goto 4, 3) := by decide +kernel
theorem dX9_shiftOf_20 : decode cX9_shiftOf 20 = .ok (.iconst 0, 1) := by decide +kernel
theorem dX9_shiftOf_21 : decode cX9_shiftOf 21 = .ok (.invokevirtual 129, 3) := by decide +kernel
theorem dX9_shiftOf_24 : decode cX9_shiftOf 24 = .ok (.ifCond .eq 12, 3) := by decide +kernel
theorem dX9_shiftOf_27 : decode cX9_shiftOf 27 = .ok (.aload_n 0, 1) := by decide +kernel
theorem dX9_shiftOf_28 : decode cX9_shiftOf 28 = .ok (.iload_n 1, 1) := by decide +kernel
theorem dX9_shiftOf_29 : decode cX9_shiftOf 29 = .ok (.iload_n 2, 1) := by decide +kernel
theorem dX9_shiftOf_30 : decode cX9_shiftOf 30 = .ok (.invokevirtual 86, 3) := by decide +kernel
theorem dX9_shiftOf_33 : decode cX9_shiftOf 33 = .ok (.goto 4, 3) := by decide +kernel
theorem dX9_shiftOf_36 : decode cX9_shiftOf 36 = .ok (.iconst 0, 1) := by decide +kernel
theorem dX9_shiftOf_37 : decode cX9_shiftOf 37 = .ok (.ireturn, 1) := by decide +kernel
theorem dX9_restBefore_0 : decode cX9_restBefore 0 = .ok (.aload_n 0, 1) := by decide +kernel
theorem dX9_restBefore_1 : decode cX9_restBefore 1 = .ok (.iload_n 1, 1) := by decide +kernel
theorem dX9_restBefore_2 : decode cX9_restBefore 2 = .ok (.invokevirtual 135, 3) := by decide +kernel
theorem dX9_restBefore_5 : decode cX9_restBefore 5 = .ok (.ifCond .eq 10, 3) := by decide +kernel
theorem dX9_restBefore_8 : decode cX9_restBefore 8 = .ok (.iload_n 2, 1) := by decide +kernel
theorem dX9_restBefore_9 : decode cX9_restBefore 9 = .ok (.invokestatic 138, 3) := by decide +kernel
theorem dX9_restBefore_12 : decode cX9_restBefore 12 = .ok (.ifCond .ne 7, 3) := by decide +kernel
theorem dX9_restBefore_15 : decode cX9_restBefore 15 = .ok (.iconst 1, 1) := by decide +kernel
theorem dX9_restBefore_16 : decode cX9_restBefore 16 = .ok (.goto 4, 3) := by decide +kernel
theorem dX9_restBefore_19 : decode cX9_restBefore 19 = .ok (.iconst 0, 1) := by decide +kernel
theorem dX9_restBefore_20 : decode cX9_restBefore 20 = .ok (.istore_n 3, 1) := by decide +kernel
theorem dX9_restBefore_21 : decode cX9_restBefore 21 = .ok (.iload_n 3, 1) := by decide +kernel
theorem dX9_restBefore_22 : decode cX9_restBefore 22 = .ok (.ifCond .ne 27, 3) := by decide +kernel
theorem dX9_restBefore_25 : decode cX9_restBefore 25 = .ok (.aload_n 0, 1) := by decide +kernel
theorem dX9_restBefore_26 : decode cX9_restBefore 26 = .ok (.iload_n 1, 1) := by decide +kernel
theorem dX9_restBefore_27 : decode cX9_restBefore 27 = .ok (.iload_n 2, 1) := by decide +kernel
theorem dX9_restBefore_28 : decode cX9_restBefore 28 = .ok (.invokevirtual 86, 3) := by decide +kernel
theorem dX9_restBefore_31 : decode cX9_restBefore 31 = .ok (.iconst (-1), 1) := by decide +kernel
theorem dX9_restBefore_32 : decode cX9_restBefore 32 = .ok (.if_icmp .eq 13, 3) := by decide +kernel
theorem dX9_restBefore_35 : decode cX9_restBefore 35 = .ok (.aload_n 0, 1) := by decide +kernel
theorem dX9_restBefore_36 : decode cX9_restBefore 36 = .ok (.iload_n 1, 1) := by decide +kernel
theorem dX9_restBefore_37 : decode cX9_restBefore 37 = .ok (.iload_n 2, 1) := by decide +kernel
theorem dX9_restBefore_38 : decode cX9_restBefore 38 = .ok (.invokevirtual 90, 3) := by decide +kernel
theorem dX9_restBefore_41 : decode cX9_restBefore 41 = .ok (.iconst (-1), 1) := by decide +kernel
theorem dX9_restBefore_42 : decode cX9_restBefore 42 = .ok (.if_icmp .ne 7, 3) := by decide +kernel
theorem dX9_restBefore_45 : decode cX9_restBefore 45 = .ok (.iconst 2, 1) := by decide +kernel
theorem dX9_restBefore_46 : decode cX9_restBefore 46 = .ok (.goto 4, 3) := by decide +kernel
theorem dX9_restBefore_49 : decode cX9_restBefore 49 = .ok (.iload_n 3, 1) := by decide +kernel
theorem dX9_restBefore_50 : decode cX9_restBefore 50 = .ok (.istore_n 3, 1) := by decide +kernel
theorem dX9_restBefore_51 : decode cX9_restBefore 51 = .ok (.aload_n 0, 1) := by decide +kernel
theorem dX9_restBefore_52 : decode cX9_restBefore 52 = .ok (.iload_n 3, 1) := by decide +kernel
theorem dX9_restBefore_53 : decode cX9_restBefore 53 = .ok (.invokevirtual 129, 3) := by decide +kernel
theorem dX9_restBefore_56 : decode cX9_restBefore 56 = .ok (.ifCond .eq 12, 3) := by decide +kernel
theorem dX9_restBefore_59 : decode cX9_restBefore 59 = .ok (.aload_n 0, 1) := by decide +kernel
theorem dX9_restBefore_60 : decode cX9_restBefore 60 = .ok (.iload_n 1, 1) := by decide +kernel
theorem dX9_restBefore_61 : decode cX9_restBefore 61 = .ok (.iload_n 2, 1) := by decide +kernel
theorem dX9_restBefore_62 : decode cX9_restBefore 62 = .ok (.invokevirtual 93, 3) := by decide +kernel
theorem dX9_restBefore_65 : decode cX9_restBefore 65 = .ok (.goto 4, 3) := by decide +kernel
theorem dX9_restBefore_68 : decode cX9_restBefore 68 = .ok (.iconst 0, 1) := by decide +kernel
theorem dX9_restBefore_69 : decode cX9_restBefore 69 = .ok (.ireturn, 1) := by decide +kernel
theorem dX9_rowOf_0 : decode cX9_rowOf 0 = .ok (.iconst 0, 1) := by decide +kernel
theorem dX9_rowOf_1 : decode cX9_rowOf 1 = .ok (.istore_n 2, 1) := by decide +kernel
theorem dX9_rowOf_2 : decode cX9_rowOf 2 = .ok (.iconst 0, 1) := by decide +kernel
theorem dX9_rowOf_3 : decode cX9_rowOf 3 = .ok (.istore_n 3, 1) := by decide +kernel
theorem dX9_rowOf_4 : decode cX9_rowOf 4 = .ok (.iconst 0, 1) := by decide +kernel
theorem dX9_rowOf_5 : decode cX9_rowOf 5 = .ok (.istore 4, 2) := by decide +kernel
theorem dX9_rowOf_7 : decode cX9_rowOf 7 = .ok (.iload 4, 2) := by decide +kernel
theorem dX9_rowOf_9 : decode cX9_rowOf 9 = .ok (.bipush 8, 2) := by decide +kernel
theorem dX9_rowOf_11 : decode cX9_rowOf 11 = .ok (.if_icmp .ge 53, 3) := by decide +kernel
theorem dX9_rowOf_14 : decode cX9_rowOf 14 = .ok (.aload_n 0, 1) := by decide +kernel
theorem dX9_rowOf_15 : decode cX9_rowOf 15 = .ok (.iload_n 1, 1) := by decide +kernel
theorem dX9_rowOf_16 : decode cX9_rowOf 16 = .ok (.iload 4, 2) := by decide +kernel
theorem dX9_rowOf_18 : decode cX9_rowOf 18 = .ok (.invokevirtual 86, 3) := by decide +kernel
theorem dX9_rowOf_21 : decode cX9_rowOf 21 = .ok (.iconst (-1), 1) := by decide +kernel
theorem dX9_rowOf_22 : decode cX9_rowOf 22 = .ok (.if_icmp .eq 23, 3) := by decide +kernel
theorem dX9_rowOf_25 : decode cX9_rowOf 25 = .ok (.aload_n 0, 1) := by decide +kernel
theorem dX9_rowOf_26 : decode cX9_rowOf 26 = .ok (.aload_n 0, 1) := by decide +kernel
theorem dX9_rowOf_27 : decode cX9_rowOf 27 = .ok (.iload_n 1, 1) := by decide +kernel
theorem dX9_rowOf_28 : decode cX9_rowOf 28 = .ok (.iload 4, 2) := by decide +kernel
theorem dX9_rowOf_30 : decode cX9_rowOf 30 = .ok (.invokevirtual 86, 3) := by decide +kernel
theorem dX9_rowOf_33 : decode cX9_rowOf 33 = .ok (.invokevirtual 96, 3) := by decide +kernel
theorem dX9_rowOf_36 : decode cX9_rowOf 36 = .ok (.ifCond .eq 9, 3) := by decide +kernel
theorem dX9_rowOf_39 : decode cX9_rowOf 39 = .ok (.iload_n 3, 1) := by decide +kernel
theorem dX9_rowOf_40 : decode cX9_rowOf 40 = .ok (.iconst 1, 1) := by decide +kernel
theorem dX9_rowOf_41 : decode cX9_rowOf 41 = .ok (.iadd, 1) := by decide +kernel
theorem dX9_rowOf_42 : decode cX9_rowOf 42 = .ok (.goto 4, 3) := by decide +kernel
theorem dX9_rowOf_45 : decode cX9_rowOf 45 = .ok (.iconst 0, 1) := by decide +kernel
theorem dX9_rowOf_46 : decode cX9_rowOf 46 = .ok (.istore_n 3, 1) := by decide +kernel
theorem dX9_rowOf_47 : decode cX9_rowOf 47 = .ok (.iload_n 3, 1) := by decide +kernel
theorem dX9_rowOf_48 : decode cX9_rowOf 48 = .ok (.iload_n 2, 1) := by decide +kernel
theorem dX9_rowOf_49 : decode cX9_rowOf 49 = .ok (.if_icmp .le 7, 3) := by decide +kernel
theorem dX9_rowOf_52 : decode cX9_rowOf 52 = .ok (.iload_n 3, 1) := by decide +kernel
theorem dX9_rowOf_53 : decode cX9_rowOf 53 = .ok (.goto 4, 3) := by decide +kernel
theorem dX9_rowOf_56 : decode cX9_rowOf 56 = .ok (.iload_n 2, 1) := by decide +kernel
theorem dX9_rowOf_57 : decode cX9_rowOf 57 = .ok (.istore_n 2, 1) := by decide +kernel
theorem dX9_rowOf_58 : decode cX9_rowOf 58 = .ok (.iinc 4 1, 3) := by decide +kernel
theorem dX9_rowOf_61 : decode cX9_rowOf 61 = .ok (.goto (-54), 3) := by decide +kernel
theorem dX9_rowOf_64 : decode cX9_rowOf 64 = .ok (.iload_n 2, 1) := by decide +kernel
theorem dX9_rowOf_65 : decode cX9_rowOf 65 = .ok (.ireturn, 1) := by decide +kernel
theorem dX9_longestNights_0 : decode cX9_longestNights 0 = .ok (.aload_n 0, 1) := by decide +kernel
theorem dX9_longestNights_1 : decode cX9_longestNights 1 = .ok (.aload_n 0, 1) := by decide +kernel
theorem dX9_longestNights_2 : decode cX9_longestNights 2 = .ok (.iload_n 1, 1) := by decide +kernel
theorem dX9_longestNights_3 : decode cX9_longestNights 3 = .ok (.invokevirtual 135, 3) := by decide +kernel
theorem dX9_longestNights_6 : decode cX9_longestNights 6 = .ok (.ifCond .eq 7, 3) := by decide +kernel
theorem dX9_longestNights_9 : decode cX9_longestNights 9 = .ok (.iconst 0, 1) := by decide +kernel
theorem dX9_longestNights_10 : decode cX9_longestNights 10 = .ok (.goto 4, 3) := by decide +kernel
theorem dX9_longestNights_13 : decode cX9_longestNights 13 = .ok (.iconst 1, 1) := by decide +kernel
theorem dX9_longestNights_14 : decode cX9_longestNights 14 = .ok (.invokevirtual 129, 3) := by decide +kernel
theorem dX9_longestNights_17 : decode cX9_longestNights 17 = .ok (.ifCond .eq 11, 3) := by decide +kernel
theorem dX9_longestNights_20 : decode cX9_longestNights 20 = .ok (.aload_n 0, 1) := by decide +kernel
theorem dX9_longestNights_21 : decode cX9_longestNights 21 = .ok (.iload_n 1, 1) := by decide +kernel
theorem dX9_longestNights_22 : decode cX9_longestNights 22 = .ok (.invokevirtual 141, 3) := by decide +kernel
theorem dX9_longestNights_25 : decode cX9_longestNights 25 = .ok (.goto 4, 3) := by decide +kernel
theorem dX9_longestNights_28 : decode cX9_longestNights 28 = .ok (.iconst 0, 1) := by decide +kernel
theorem dX9_longestNights_29 : decode cX9_longestNights 29 = .ok (.ireturn, 1) := by decide +kernel
theorem dX9_longestByRows_0 : decode cX9_longestByRows 0 = .ok (.aload_n 0, 1) := by decide +kernel
theorem dX9_longestByRows_1 : decode cX9_longestByRows 1 = .ok (.iload_n 1, 1) := by decide +kernel
theorem dX9_longestByRows_2 : decode cX9_longestByRows 2 = .ok (.invokevirtual 145, 3) := by decide +kernel
theorem dX9_longestByRows_5 : decode cX9_longestByRows 5 = .ok (.ireturn, 1) := by decide +kernel
theorem dX9_peak_0 : decode cX9_peak 0 = .ok (.aload_n 0, 1) := by decide +kernel
theorem dX9_peak_1 : decode cX9_peak 1 = .ok (.aload_n 0, 1) := by decide +kernel
theorem dX9_peak_2 : decode cX9_peak 2 = .ok (.iload_n 1, 1) := by decide +kernel
theorem dX9_peak_3 : decode cX9_peak 3 = .ok (.invokevirtual 135, 3) := by decide +kernel
theorem dX9_peak_6 : decode cX9_peak 6 = .ok (.ifCond .eq 7, 3) := by decide +kernel
theorem dX9_peak_9 : decode cX9_peak 9 = .ok (.iconst 0, 1) := by decide +kernel
theorem dX9_peak_10 : decode cX9_peak 10 = .ok (.goto 4, 3) := by decide +kernel
theorem dX9_peak_13 : decode cX9_peak 13 = .ok (.iconst 1, 1) := by decide +kernel
theorem dX9_peak_14 : decode cX9_peak 14 = .ok (.invokevirtual 129, 3) := by decide +kernel
theorem dX9_peak_17 : decode cX9_peak 17 = .ok (.ifCond .ne 5, 3) := by decide +kernel
theorem dX9_peak_20 : decode cX9_peak 20 = .ok (.iconst 0, 1) := by decide +kernel
theorem dX9_peak_21 : decode cX9_peak 21 = .ok (.ireturn, 1) := by decide +kernel
theorem dX9_peak_22 : decode cX9_peak 22 = .ok (.iconst 0, 1) := by decide +kernel
theorem dX9_peak_23 : decode cX9_peak 23 = .ok (.istore_n 2, 1) := by decide +kernel
theorem dX9_peak_24 : decode cX9_peak 24 = .ok (.iconst 0, 1) := by decide +kernel
theorem dX9_peak_25 : decode cX9_peak 25 = .ok (.istore_n 3, 1) := by decide +kernel
theorem dX9_peak_26 : decode cX9_peak 26 = .ok (.iload_n 3, 1) := by decide +kernel
theorem dX9_peak_27 : decode cX9_peak 27 = .ok (.aload_n 0, 1) := by decide +kernel
theorem dX9_peak_28 : decode cX9_peak 28 = .ok (.getfield 39, 3) := by decide +kernel
theorem dX9_peak_31 : decode cX9_peak 31 = .ok (.iadd, 1) := by decide +kernel
theorem dX9_peak_32 : decode cX9_peak 32 = .ok (.bipush 8, 2) := by decide +kernel
theorem dX9_peak_34 : decode cX9_peak 34 = .ok (.if_icmp .gt 34, 3) := by decide +kernel
theorem dX9_peak_37 : decode cX9_peak 37 = .ok (.aload_n 0, 1) := by decide +kernel
theorem dX9_peak_38 : decode cX9_peak 38 = .ok (.iload_n 1, 1) := by decide +kernel
theorem dX9_peak_39 : decode cX9_peak 39 = .ok (.iload_n 3, 1) := by decide +kernel
theorem dX9_peak_40 : decode cX9_peak 40 = .ok (.aload_n 0, 1) := by decide +kernel
theorem dX9_peak_41 : decode cX9_peak 41 = .ok (.getfield 39, 3) := by decide +kernel
theorem dX9_peak_44 : decode cX9_peak 44 = .ok (.invokevirtual 108, 3) := by decide +kernel
theorem dX9_peak_47 : decode cX9_peak 47 = .ok (.istore 4, 2) := by decide +kernel
theorem dX9_peak_49 : decode cX9_peak 49 = .ok (.iload 4, 2) := by decide +kernel
theorem dX9_peak_51 : decode cX9_peak 51 = .ok (.iload_n 2, 1) := by decide +kernel
theorem dX9_peak_52 : decode cX9_peak 52 = .ok (.if_icmp .le 8, 3) := by decide +kernel
theorem dX9_peak_55 : decode cX9_peak 55 = .ok (.iload 4, 2) := by decide +kernel
theorem dX9_peak_57 : decode cX9_peak 57 = .ok (.goto 4, 3) := by decide +kernel
theorem dX9_peak_60 : decode cX9_peak 60 = .ok (.iload_n 2, 1) := by decide +kernel
theorem dX9_peak_61 : decode cX9_peak 61 = .ok (.istore_n 2, 1) := by decide +kernel
theorem dX9_peak_62 : decode cX9_peak 62 = .ok (.iinc 3 1, 3) := by decide +kernel
theorem dX9_peak_65 : decode cX9_peak 65 = .ok (.goto (-39), 3) := by decide +kernel
theorem dX9_peak_68 : decode cX9_peak 68 = .ok (.iload_n 2, 1) := by decide +kernel
theorem dX9_peak_69 : decode cX9_peak 69 = .ok (.ireturn, 1) := by decide +kernel
theorem dX9_peakByAdding_0 : decode cX9_peakByAdding 0 = .ok (.aload_n 0, 1) := by decide +kernel
theorem dX9_peakByAdding_1 : decode cX9_peakByAdding 1 = .ok (.iload_n 1, 1) := by decide +kernel
theorem dX9_peakByAdding_2 : decode cX9_peakByAdding 2 = .ok (.invokevirtual 148, 3) := by decide +kernel
theorem dX9_peakByAdding_5 : decode cX9_peakByAdding 5 = .ok (.ireturn, 1) := by decide +kernel
theorem dX9_breaches_0 : decode cX9_breaches 0 = .ok (.aload_n 0, 1) := by decide +kernel
theorem dX9_breaches_1 : decode cX9_breaches 1 = .ok (.iconst 0, 1) := by decide +kernel
theorem dX9_breaches_2 : decode cX9_breaches 2 = .ok (.putfield 73, 3) := by decide +kernel
theorem dX9_breaches_5 : decode cX9_breaches 5 = .ok (.aload_n 0, 1) := by decide +kernel
theorem dX9_breaches_6 : decode cX9_breaches 6 = .ok (.invokevirtual 151, 3) := by decide +kernel
theorem dX9_breaches_9 : decode cX9_breaches 9 = .ok (.aload_n 0, 1) := by decide +kernel
theorem dX9_breaches_10 : decode cX9_breaches 10 = .ok (.getfield 112, 3) := by decide +kernel
theorem dX9_breaches_13 : decode cX9_breaches 13 = .ok (.ireturn, 1) := by decide +kernel
theorem dX9_tells__0 : decode cX9_tells_ 0 = .ok (.aload_n 0, 1) := by decide +kernel
theorem dX9_tells__1 : decode cX9_tells_ 1 = .ok (.invokevirtual 151, 3) := by decide +kernel
theorem dX9_tells__4 : decode cX9_tells_ 4 = .ok (.aload_n 0, 1) := by decide +kernel
theorem dX9_tells__5 : decode cX9_tells_ 5 = .ok (.iload_n 1, 1) := by decide +kernel
theorem dX9_tells__6 : decode cX9_tells_ 6 = .ok (.iconst 0, 1) := by decide +kernel
theorem dX9_tells__7 : decode cX9_tells_ 7 = .ok (.aload_n 0, 1) := by decide +kernel
theorem dX9_tells__8 : decode cX9_tells_ 8 = .ok (.getfield 112, 3) := by decide +kernel
theorem dX9_tells__11 : decode cX9_tells_ 11 = .ok (.iconst 1, 1) := by decide +kernel
theorem dX9_tells__12 : decode cX9_tells_ 12 = .ok (.isub, 1) := by decide +kernel
theorem dX9_tells__13 : decode cX9_tells_ 13 = .ok (.invokestatic 79, 3) := by decide +kernel
theorem dX9_tells__16 : decode cX9_tells_ 16 = .ok (.ifCond .eq 7, 3) := by decide +kernel
theorem dX9_tells__19 : decode cX9_tells_ 19 = .ok (.iconst 0, 1) := by decide +kernel
theorem dX9_tells__20 : decode cX9_tells_ 20 = .ok (.goto 4, 3) := by decide +kernel
theorem dX9_tells__23 : decode cX9_tells_ 23 = .ok (.iconst 1, 1) := by decide +kernel
theorem dX9_tells__24 : decode cX9_tells_ 24 = .ok (.invokevirtual 129, 3) := by decide +kernel
theorem dX9_tells__27 : decode cX9_tells_ 27 = .ok (.ireturn, 1) := by decide +kernel
theorem dX9_breachKind_0 : decode cX9_breachKind 0 = .ok (.aload_n 0, 1) := by decide +kernel
theorem dX9_breachKind_1 : decode cX9_breachKind 1 = .ok (.iload_n 1, 1) := by decide +kernel
theorem dX9_breachKind_2 : decode cX9_breachKind 2 = .ok (.invokevirtual 154, 3) := by decide +kernel
theorem dX9_breachKind_5 : decode cX9_breachKind 5 = .ok (.ifCond .eq 12, 3) := by decide +kernel
theorem dX9_breachKind_8 : decode cX9_breachKind 8 = .ok (.aload_n 0, 1) := by decide +kernel
theorem dX9_breachKind_9 : decode cX9_breachKind 9 = .ok (.getfield 45, 3) := by decide +kernel
theorem dX9_breachKind_12 : decode cX9_breachKind 12 = .ok (.iload_n 1, 1) := by decide +kernel
theorem dX9_breachKind_13 : decode cX9_breachKind 13 = .ok (.caload, 1) := by decide +kernel
theorem dX9_breachKind_14 : decode cX9_breachKind 14 = .ok (.goto 4, 3) := by decide +kernel
theorem dX9_breachKind_17 : decode cX9_breachKind 17 = .ok (.iconst 0, 1) := by decide +kernel
theorem dX9_breachKind_18 : decode cX9_breachKind 18 = .ok (.ireturn, 1) := by decide +kernel
theorem dX9_breachPerson_0 : decode cX9_breachPerson 0 = .ok (.aload_n 0, 1) := by decide +kernel
theorem dX9_breachPerson_1 : decode cX9_breachPerson 1 = .ok (.iload_n 1, 1) := by decide +kernel
theorem dX9_breachPerson_2 : decode cX9_breachPerson 2 = .ok (.invokevirtual 154, 3) := by decide +kernel
theorem dX9_breachPerson_5 : decode cX9_breachPerson 5 = .ok (.ifCond .eq 12, 3) := by decide +kernel
theorem dX9_breachPerson_8 : decode cX9_breachPerson 8 = .ok (.aload_n 0, 1) := by decide +kernel
theorem dX9_breachPerson_9 : decode cX9_breachPerson 9 = .ok (.getfield 49, 3) := by decide +kernel
theorem dX9_breachPerson_12 : decode cX9_breachPerson 12 = .ok (.iload_n 1, 1) := by decide +kernel
theorem dX9_breachPerson_13 : decode cX9_breachPerson 13 = .ok (.iaload, 1) := by decide +kernel
theorem dX9_breachPerson_14 : decode cX9_breachPerson 14 = .ok (.goto 4, 3) := by decide +kernel
theorem dX9_breachPerson_17 : decode cX9_breachPerson 17 = .ok (.iconst 0, 1) := by decide +kernel
theorem dX9_breachPerson_18 : decode cX9_breachPerson 18 = .ok (.ireturn, 1) := by decide +kernel
theorem dX9_breachDay_0 : decode cX9_breachDay 0 = .ok (.aload_n 0, 1) := by decide +kernel
theorem dX9_breachDay_1 : decode cX9_breachDay 1 = .ok (.iload_n 1, 1) := by decide +kernel
theorem dX9_breachDay_2 : decode cX9_breachDay 2 = .ok (.invokevirtual 154, 3) := by decide +kernel
theorem dX9_breachDay_5 : decode cX9_breachDay 5 = .ok (.ifCond .eq 12, 3) := by decide +kernel
theorem dX9_breachDay_8 : decode cX9_breachDay 8 = .ok (.aload_n 0, 1) := by decide +kernel
theorem dX9_breachDay_9 : decode cX9_breachDay 9 = .ok (.getfield 52, 3) := by decide +kernel
theorem dX9_breachDay_12 : decode cX9_breachDay 12 = .ok (.iload_n 1, 1) := by decide +kernel
theorem dX9_breachDay_13 : decode cX9_breachDay 13 = .ok (.iaload, 1) := by decide +kernel
theorem dX9_breachDay_14 : decode cX9_breachDay 14 = .ok (.goto 4, 3) := by decide +kernel
theorem dX9_breachDay_17 : decode cX9_breachDay 17 = .ok (.iconst 0, 1) := by decide +kernel
theorem dX9_breachDay_18 : decode cX9_breachDay 18 = .ok (.ireturn, 1) := by decide +kernel
theorem dX9_breachShift_0 : decode cX9_breachShift 0 = .ok (.aload_n 0, 1) := by decide +kernel
theorem dX9_breachShift_1 : decode cX9_breachShift 1 = .ok (.iload_n 1, 1) := by decide +kernel
theorem dX9_breachShift_2 : decode cX9_breachShift 2 = .ok (.invokevirtual 154, 3) := by decide +kernel
theorem dX9_breachShift_5 : decode cX9_breachShift 5 = .ok (.ifCond .eq 12, 3) := by decide +kernel
theorem dX9_breachShift_8 : decode cX9_breachShift 8 = .ok (.aload_n 0, 1) := by decide +kernel
theorem dX9_breachShift_9 : decode cX9_breachShift 9 = .ok (.getfield 55, 3) := by decide +kernel
theorem dX9_breachShift_12 : decode cX9_breachShift 12 = .ok (.iload_n 1, 1) := by decide +kernel
theorem dX9_breachShift_13 : decode cX9_breachShift 13 = .ok (.iaload, 1) := by decide +kernel
theorem dX9_breachShift_14 : decode cX9_breachShift 14 = .ok (.goto 4, 3) := by decide +kernel
theorem dX9_breachShift_17 : decode cX9_breachShift 17 = .ok (.iconst 0, 1) := by decide +kernel
theorem dX9_breachShift_18 : decode cX9_breachShift 18 = .ok (.ireturn, 1) := by decide +kernel
theorem dX9_breachesOf_0 : decode cX9_breachesOf 0 = .ok (.iconst 0, 1) := by decide +kernel
theorem dX9_breachesOf_1 : decode cX9_breachesOf 1 = .ok (.istore_n 2, 1) := by decide +kernel
theorem dX9_breachesOf_2 : decode cX9_breachesOf 2 = .ok (.iconst 0, 1) := by decide +kernel
theorem dX9_breachesOf_3 : decode cX9_breachesOf 3 = .ok (.istore_n 3, 1) := by decide +kernel
theorem dX9_breachesOf_4 : decode cX9_breachesOf 4 = .ok (.iload_n 3, 1) := by decide +kernel
theorem dX9_breachesOf_5 : decode cX9_breachesOf 5 = .ok (.aload_n 0, 1) := by decide +kernel
theorem dX9_breachesOf_6 : decode cX9_breachesOf 6 = .ok (.getfield 112, 3) := by decide +kernel
theorem dX9_breachesOf_9 : decode cX9_breachesOf 9 = .ok (.if_icmp .ge 27, 3) := by decide +kernel
theorem dX9_breachesOf_12 : decode cX9_breachesOf 12 = .ok (.iload_n 2, 1) := by decide +kernel
theorem dX9_breachesOf_13 : decode cX9_breachesOf 13 = .ok (.aload_n 0, 1) := by decide +kernel
theorem dX9_breachesOf_14 : decode cX9_breachesOf 14 = .ok (.getfield 49, 3) := by decide +kernel
theorem dX9_breachesOf_17 : decode cX9_breachesOf 17 = .ok (.iload_n 3, 1) := by decide +kernel
theorem dX9_breachesOf_18 : decode cX9_breachesOf 18 = .ok (.iaload, 1) := by decide +kernel
theorem dX9_breachesOf_19 : decode cX9_breachesOf 19 = .ok (.iload_n 1, 1) := by decide +kernel
theorem dX9_breachesOf_20 : decode cX9_breachesOf 20 = .ok (.if_icmp .ne 7, 3) := by decide +kernel
theorem dX9_breachesOf_23 : decode cX9_breachesOf 23 = .ok (.iconst 1, 1) := by decide +kernel
theorem dX9_breachesOf_24 : decode cX9_breachesOf 24 = .ok (.goto 4, 3) := by decide +kernel
theorem dX9_breachesOf_27 : decode cX9_breachesOf 27 = .ok (.iconst 0, 1) := by decide +kernel
theorem dX9_breachesOf_28 : decode cX9_breachesOf 28 = .ok (.iadd, 1) := by decide +kernel
theorem dX9_breachesOf_29 : decode cX9_breachesOf 29 = .ok (.istore_n 2, 1) := by decide +kernel
theorem dX9_breachesOf_30 : decode cX9_breachesOf 30 = .ok (.iinc 3 1, 3) := by decide +kernel
theorem dX9_breachesOf_33 : decode cX9_breachesOf 33 = .ok (.goto (-29), 3) := by decide +kernel
theorem dX9_breachesOf_36 : decode cX9_breachesOf 36 = .ok (.iload_n 2, 1) := by decide +kernel
theorem dX9_breachesOf_37 : decode cX9_breachesOf 37 = .ok (.ireturn, 1) := by decide +kernel
theorem dX9_mostBreaches_0 : decode cX9_mostBreaches 0 = .ok (.aload_n 0, 1) := by decide +kernel
theorem dX9_mostBreaches_1 : decode cX9_mostBreaches 1 = .ok (.invokevirtual 151, 3) := by decide +kernel
theorem dX9_mostBreaches_4 : decode cX9_mostBreaches 4 = .ok (.iconst (-1), 1) := by decide +kernel
theorem dX9_mostBreaches_5 : decode cX9_mostBreaches 5 = .ok (.istore_n 1, 1) := by decide +kernel
theorem dX9_mostBreaches_6 : decode cX9_mostBreaches 6 = .ok (.iconst 0, 1) := by decide +kernel
theorem dX9_mostBreaches_7 : decode cX9_mostBreaches 7 = .ok (.istore_n 2, 1) := by decide +kernel
theorem dX9_mostBreaches_8 : decode cX9_mostBreaches 8 = .ok (.iload_n 2, 1) := by decide +kernel
theorem dX9_mostBreaches_9 : decode cX9_mostBreaches 9 = .ok (.aload_n 0, 1) := by decide +kernel
theorem dX9_mostBreaches_10 : decode cX9_mostBreaches 10 = .ok (.getfield 112, 3) := by decide +kernel
theorem dX9_mostBreaches_13 : decode cX9_mostBreaches 13 = .ok (.if_icmp .ge 63, 3) := by decide +kernel
theorem dX9_mostBreaches_16 : decode cX9_mostBreaches 16 = .ok (.aload_n 0, 1) := by decide +kernel
theorem dX9_mostBreaches_17 : decode cX9_mostBreaches 17 = .ok (.getfield 49, 3) := by decide +kernel
theorem dX9_mostBreaches_20 : decode cX9_mostBreaches 20 = .ok (.iload_n 2, 1) := by decide +kernel
theorem dX9_mostBreaches_21 : decode cX9_mostBreaches 21 = .ok (.iaload, 1) := by decide +kernel
theorem dX9_mostBreaches_22 : decode cX9_mostBreaches 22 = .ok (.iconst (-1), 1) := by decide +kernel
theorem dX9_mostBreaches_23 : decode cX9_mostBreaches 23 = .ok (.if_icmp .eq 30, 3) := by decide +kernel
theorem dX9_mostBreaches_26 : decode cX9_mostBreaches 26 = .ok (.iload_n 1, 1) := by decide +kernel
theorem dX9_mostBreaches_27 : decode cX9_mostBreaches 27 = .ok (.iconst (-1), 1) := by decide +kernel
theorem dX9_mostBreaches_28 : decode cX9_mostBreaches 28 = .ok (.if_icmp .eq 21, 3) := by decide +kernel
theorem dX9_mostBreaches_31 : decode cX9_mostBreaches 31 = .ok (.aload_n 0, 1) := by decide +kernel
theorem dX9_mostBreaches_32 : decode cX9_mostBreaches 32 = .ok (.aload_n 0, 1) := by decide +kernel
theorem dX9_mostBreaches_33 : decode cX9_mostBreaches 33 = .ok (.getfield 49, 3) := by decide +kernel
theorem dX9_mostBreaches_36 : decode cX9_mostBreaches 36 = .ok (.iload_n 2, 1) := by decide +kernel
theorem dX9_mostBreaches_37 : decode cX9_mostBreaches 37 = .ok (.iaload, 1) := by decide +kernel
theorem dX9_mostBreaches_38 : decode cX9_mostBreaches 38 = .ok (.invokevirtual 156, 3) := by decide +kernel
theorem dX9_mostBreaches_41 : decode cX9_mostBreaches 41 = .ok (.aload_n 0, 1) := by decide +kernel
theorem dX9_mostBreaches_42 : decode cX9_mostBreaches 42 = .ok (.iload_n 1, 1) := by decide +kernel
theorem dX9_mostBreaches_43 : decode cX9_mostBreaches 43 = .ok (.invokevirtual 156, 3) := by decide +kernel
theorem dX9_mostBreaches_46 : decode cX9_mostBreaches 46 = .ok (.if_icmp .le 7, 3) := by decide +kernel
theorem dX9_mostBreaches_49 : decode cX9_mostBreaches 49 = .ok (.iconst 1, 1) := by decide +kernel
theorem dX9_mostBreaches_50 : decode cX9_mostBreaches 50 = .ok (.goto 4, 3) := by decide +kernel
theorem dX9_mostBreaches_53 : decode cX9_mostBreaches 53 = .ok (.iconst 0, 1) := by decide +kernel
theorem dX9_mostBreaches_54 : decode cX9_mostBreaches 54 = .ok (.istore_n 3, 1) := by decide +kernel
theorem dX9_mostBreaches_55 : decode cX9_mostBreaches 55 = .ok (.iload_n 3, 1) := by decide +kernel
theorem dX9_mostBreaches_56 : decode cX9_mostBreaches 56 = .ok (.ifCond .eq 12, 3) := by decide +kernel
theorem dX9_mostBreaches_59 : decode cX9_mostBreaches 59 = .ok (.aload_n 0, 1) := by decide +kernel
theorem dX9_mostBreaches_60 : decode cX9_mostBreaches 60 = .ok (.getfield 49, 3) := by decide +kernel
theorem dX9_mostBreaches_63 : decode cX9_mostBreaches 63 = .ok (.iload_n 2, 1) := by decide +kernel
theorem dX9_mostBreaches_64 : decode cX9_mostBreaches 64 = .ok (.iaload, 1) := by decide +kernel
theorem dX9_mostBreaches_65 : decode cX9_mostBreaches 65 = .ok (.goto 4, 3) := by decide +kernel
theorem dX9_mostBreaches_68 : decode cX9_mostBreaches 68 = .ok (.iload_n 1, 1) := by decide +kernel
theorem dX9_mostBreaches_69 : decode cX9_mostBreaches 69 = .ok (.istore_n 1, 1) := by decide +kernel
theorem dX9_mostBreaches_70 : decode cX9_mostBreaches 70 = .ok (.iinc 2 1, 3) := by decide +kernel
theorem dX9_mostBreaches_73 : decode cX9_mostBreaches 73 = .ok (.goto (-65), 3) := by decide +kernel
theorem dX9_mostBreaches_76 : decode cX9_mostBreaches 76 = .ok (.aload_n 0, 1) := by decide +kernel
theorem dX9_mostBreaches_77 : decode cX9_mostBreaches 77 = .ok (.iload_n 1, 1) := by decide +kernel
theorem dX9_mostBreaches_78 : decode cX9_mostBreaches 78 = .ok (.iconst (-1), 1) := by decide +kernel
theorem dX9_mostBreaches_79 : decode cX9_mostBreaches 79 = .ok (.if_icmp .ne 7, 3) := by decide +kernel
theorem dX9_mostBreaches_82 : decode cX9_mostBreaches 82 = .ok (.iconst 1, 1) := by decide +kernel
theorem dX9_mostBreaches_83 : decode cX9_mostBreaches 83 = .ok (.goto 4, 3) := by decide +kernel
theorem dX9_mostBreaches_86 : decode cX9_mostBreaches 86 = .ok (.iconst 0, 1) := by decide +kernel
theorem dX9_mostBreaches_87 : decode cX9_mostBreaches 87 = .ok (.invokevirtual 129, 3) := by decide +kernel
theorem dX9_mostBreaches_90 : decode cX9_mostBreaches 90 = .ok (.ifCond .eq 7, 3) := by decide +kernel
theorem dX9_mostBreaches_93 : decode cX9_mostBreaches 93 = .ok (.iload_n 1, 1) := by decide +kernel
theorem dX9_mostBreaches_94 : decode cX9_mostBreaches 94 = .ok (.goto 4, 3) := by decide +kernel
theorem dX9_mostBreaches_97 : decode cX9_mostBreaches 97 = .ok (.iconst 0, 1) := by decide +kernel
theorem dX9_mostBreaches_98 : decode cX9_mostBreaches 98 = .ok (.ireturn, 1) := by decide +kernel
theorem dX9_exchanges_0 : decode cX9_exchanges 0 = .ok (.aload_n 0, 1) := by decide +kernel
theorem dX9_exchanges_1 : decode cX9_exchanges 1 = .ok (.iload_n 1, 1) := by decide +kernel
theorem dX9_exchanges_2 : decode cX9_exchanges 2 = .ok (.iload_n 3, 1) := by decide +kernel
theorem dX9_exchanges_3 : decode cX9_exchanges 3 = .ok (.invokevirtual 86, 3) := by decide +kernel
theorem dX9_exchanges_6 : decode cX9_exchanges 6 = .ok (.istore 4, 2) := by decide +kernel
theorem dX9_exchanges_8 : decode cX9_exchanges 8 = .ok (.aload_n 0, 1) := by decide +kernel
theorem dX9_exchanges_9 : decode cX9_exchanges 9 = .ok (.getfield 16, 3) := by decide +kernel
theorem dX9_exchanges_12 : decode cX9_exchanges 12 = .ok (.bipush 8, 2) := by decide +kernel
theorem dX9_exchanges_14 : decode cX9_exchanges 14 = .ok (.iload_n 1, 1) := by decide +kernel
theorem dX9_exchanges_15 : decode cX9_exchanges 15 = .ok (.imul, 1) := by decide +kernel
theorem dX9_exchanges_16 : decode cX9_exchanges 16 = .ok (.iload_n 3, 1) := by decide +kernel
theorem dX9_exchanges_17 : decode cX9_exchanges 17 = .ok (.iadd, 1) := by decide +kernel
theorem dX9_exchanges_18 : decode cX9_exchanges 18 = .ok (.aload_n 0, 1) := by decide +kernel
theorem dX9_exchanges_19 : decode cX9_exchanges 19 = .ok (.iload_n 2, 1) := by decide +kernel
theorem dX9_exchanges_20 : decode cX9_exchanges 20 = .ok (.iload_n 3, 1) := by decide +kernel
theorem dX9_exchanges_21 : decode cX9_exchanges 21 = .ok (.invokevirtual 86, 3) := by decide +kernel
theorem dX9_exchanges_24 : decode cX9_exchanges 24 = .ok (.iastore, 1) := by decide +kernel
theorem dX9_exchanges_25 : decode cX9_exchanges 25 = .ok (.aload_n 0, 1) := by decide +kernel
theorem dX9_exchanges_26 : decode cX9_exchanges 26 = .ok (.getfield 16, 3) := by decide +kernel
theorem dX9_exchanges_29 : decode cX9_exchanges 29 = .ok (.bipush 8, 2) := by decide +kernel
theorem dX9_exchanges_31 : decode cX9_exchanges 31 = .ok (.iload_n 2, 1) := by decide +kernel
theorem dX9_exchanges_32 : decode cX9_exchanges 32 = .ok (.imul, 1) := by decide +kernel
theorem dX9_exchanges_33 : decode cX9_exchanges 33 = .ok (.iload_n 3, 1) := by decide +kernel
theorem dX9_exchanges_34 : decode cX9_exchanges 34 = .ok (.iadd, 1) := by decide +kernel
theorem dX9_exchanges_35 : decode cX9_exchanges 35 = .ok (.iload 4, 2) := by decide +kernel
theorem dX9_exchanges_37 : decode cX9_exchanges 37 = .ok (.iastore, 1) := by decide +kernel
theorem dX9_exchanges_38 : decode cX9_exchanges 38 = .ok (.return_, 1) := by decide +kernel
theorem dX9_isFair_0 : decode cX9_isFair 0 = .ok (.aload_n 0, 1) := by decide +kernel
theorem dX9_isFair_1 : decode cX9_isFair 1 = .ok (.invokevirtual 151, 3) := by decide +kernel
theorem dX9_isFair_4 : decode cX9_isFair 4 = .ok (.iconst 0, 1) := by decide +kernel
theorem dX9_isFair_5 : decode cX9_isFair 5 = .ok (.istore 4, 2) := by decide +kernel
theorem dX9_isFair_7 : decode cX9_isFair 7 = .ok (.iload 4, 2) := by decide +kernel
theorem dX9_isFair_9 : decode cX9_isFair 9 = .ok (.aload_n 0, 1) := by decide +kernel
theorem dX9_isFair_10 : decode cX9_isFair 10 = .ok (.getfield 58, 3) := by decide +kernel
theorem dX9_isFair_13 : decode cX9_isFair 13 = .ok (.arraylength, 1) := by decide +kernel
theorem dX9_isFair_14 : decode cX9_isFair 14 = .ok (.if_icmp .ge 17, 3) := by decide +kernel
theorem dX9_isFair_17 : decode cX9_isFair 17 = .ok (.aload_n 0, 1) := by decide +kernel
theorem dX9_isFair_18 : decode cX9_isFair 18 = .ok (.getfield 58, 3) := by decide +kernel
theorem dX9_isFair_21 : decode cX9_isFair 21 = .ok (.iload 4, 2) := by decide +kernel
theorem dX9_isFair_23 : decode cX9_isFair 23 = .ok (.iconst 0, 1) := by decide +kernel
theorem dX9_isFair_24 : decode cX9_isFair 24 = .ok (.bastore, 1) := by decide +kernel
theorem dX9_isFair_25 : decode cX9_isFair 25 = .ok (.iinc 4 1, 3) := by decide +kernel
theorem dX9_isFair_28 : decode cX9_isFair 28 = .ok (.goto (-21), 3) := by decide +kernel
theorem dX9_isFair_31 : decode cX9_isFair 31 = .ok (.iconst 0, 1) := by decide +kernel
theorem dX9_isFair_32 : decode cX9_isFair 32 = .ok (.istore 4, 2) := by decide +kernel
theorem dX9_isFair_34 : decode cX9_isFair 34 = .ok (.iload 4, 2) := by decide +kernel
theorem dX9_isFair_36 : decode cX9_isFair 36 = .ok (.aload_n 0, 1) := by decide +kernel
theorem dX9_isFair_37 : decode cX9_isFair 37 = .ok (.getfield 112, 3) := by decide +kernel
theorem dX9_isFair_40 : decode cX9_isFair 40 = .ok (.if_icmp .ge 21, 3) := by decide +kernel
theorem dX9_isFair_43 : decode cX9_isFair 43 = .ok (.aload_n 0, 1) := by decide +kernel
theorem dX9_isFair_44 : decode cX9_isFair 44 = .ok (.getfield 58, 3) := by decide +kernel
theorem dX9_isFair_47 : decode cX9_isFair 47 = .ok (.aload_n 0, 1) := by decide +kernel
theorem dX9_isFair_48 : decode cX9_isFair 48 = .ok (.iload 4, 2) := by decide +kernel
theorem dX9_isFair_50 : decode cX9_isFair 50 = .ok (.invokevirtual 159, 3) := by decide +kernel
theorem dX9_isFair_53 : decode cX9_isFair 53 = .ok (.iconst 1, 1) := by decide +kernel
theorem dX9_isFair_54 : decode cX9_isFair 54 = .ok (.bastore, 1) := by decide +kernel
theorem dX9_isFair_55 : decode cX9_isFair 55 = .ok (.iinc 4 1, 3) := by decide +kernel
theorem dX9_isFair_58 : decode cX9_isFair 58 = .ok (.goto (-24), 3) := by decide +kernel
theorem dX9_isFair_61 : decode cX9_isFair 61 = .ok (.aload_n 0, 1) := by decide +kernel
theorem dX9_isFair_62 : decode cX9_isFair 62 = .ok (.iload_n 1, 1) := by decide +kernel
theorem dX9_isFair_63 : decode cX9_isFair 63 = .ok (.iload_n 2, 1) := by decide +kernel
theorem dX9_isFair_64 : decode cX9_isFair 64 = .ok (.iload_n 3, 1) := by decide +kernel
theorem dX9_isFair_65 : decode cX9_isFair 65 = .ok (.invokevirtual 162, 3) := by decide +kernel
theorem dX9_isFair_68 : decode cX9_isFair 68 = .ok (.aload_n 0, 1) := by decide +kernel
theorem dX9_isFair_69 : decode cX9_isFair 69 = .ok (.invokevirtual 151, 3) := by decide +kernel
theorem dX9_isFair_72 : decode cX9_isFair 72 = .ok (.aload_n 0, 1) := by decide +kernel
theorem dX9_isFair_73 : decode cX9_isFair 73 = .ok (.iload_n 1, 1) := by decide +kernel
theorem dX9_isFair_74 : decode cX9_isFair 74 = .ok (.iload_n 2, 1) := by decide +kernel
theorem dX9_isFair_75 : decode cX9_isFair 75 = .ok (.iload_n 3, 1) := by decide +kernel
theorem dX9_isFair_76 : decode cX9_isFair 76 = .ok (.invokevirtual 162, 3) := by decide +kernel
theorem dX9_isFair_79 : decode cX9_isFair 79 = .ok (.iconst 1, 1) := by decide +kernel
theorem dX9_isFair_80 : decode cX9_isFair 80 = .ok (.istore 4, 2) := by decide +kernel
theorem dX9_isFair_82 : decode cX9_isFair 82 = .ok (.iconst 0, 1) := by decide +kernel
theorem dX9_isFair_83 : decode cX9_isFair 83 = .ok (.istore 5, 2) := by decide +kernel
theorem dX9_isFair_85 : decode cX9_isFair 85 = .ok (.iload 5, 2) := by decide +kernel
theorem dX9_isFair_87 : decode cX9_isFair 87 = .ok (.aload_n 0, 1) := by decide +kernel
theorem dX9_isFair_88 : decode cX9_isFair 88 = .ok (.getfield 112, 3) := by decide +kernel
theorem dX9_isFair_91 : decode cX9_isFair 91 = .ok (.if_icmp .ge 35, 3) := by decide +kernel
theorem dX9_isFair_94 : decode cX9_isFair 94 = .ok (.iload 4, 2) := by decide +kernel
theorem dX9_isFair_96 : decode cX9_isFair 96 = .ok (.ifCond .eq 21, 3) := by decide +kernel
theorem dX9_isFair_99 : decode cX9_isFair 99 = .ok (.aload_n 0, 1) := by decide +kernel
theorem dX9_isFair_100 : decode cX9_isFair 100 = .ok (.getfield 58, 3) := by decide +kernel
theorem dX9_isFair_103 : decode cX9_isFair 103 = .ok (.aload_n 0, 1) := by decide +kernel
theorem dX9_isFair_104 : decode cX9_isFair 104 = .ok (.iload 5, 2) := by decide +kernel
theorem dX9_isFair_106 : decode cX9_isFair 106 = .ok (.invokevirtual 159, 3) := by decide +kernel
theorem dX9_isFair_109 : decode cX9_isFair 109 = .ok (.baload, 1) := by decide +kernel
theorem dX9_isFair_110 : decode cX9_isFair 110 = .ok (.ifCond .eq 7, 3) := by decide +kernel
theorem dX9_isFair_113 : decode cX9_isFair 113 = .ok (.iconst 1, 1) := by decide +kernel
theorem dX9_isFair_114 : decode cX9_isFair 114 = .ok (.goto 4, 3) := by decide +kernel
theorem dX9_isFair_117 : decode cX9_isFair 117 = .ok (.iconst 0, 1) := by decide +kernel
theorem dX9_isFair_118 : decode cX9_isFair 118 = .ok (.istore 4, 2) := by decide +kernel
theorem dX9_isFair_120 : decode cX9_isFair 120 = .ok (.iinc 5 1, 3) := by decide +kernel
theorem dX9_isFair_123 : decode cX9_isFair 123 = .ok (.goto (-38), 3) := by decide +kernel
theorem dX9_isFair_126 : decode cX9_isFair 126 = .ok (.iload 4, 2) := by decide +kernel
theorem dX9_isFair_128 : decode cX9_isFair 128 = .ok (.ireturn, 1) := by decide +kernel
theorem dX9_swap_0 : decode cX9_swap 0 = .ok (.aload_n 0, 1) := by decide +kernel
theorem dX9_swap_1 : decode cX9_swap 1 = .ok (.iload_n 1, 1) := by decide +kernel
theorem dX9_swap_2 : decode cX9_swap 2 = .ok (.invokevirtual 135, 3) := by decide +kernel
theorem dX9_swap_5 : decode cX9_swap 5 = .ok (.ifCond .eq 18, 3) := by decide +kernel
theorem dX9_swap_8 : decode cX9_swap 8 = .ok (.aload_n 0, 1) := by decide +kernel
theorem dX9_swap_9 : decode cX9_swap 9 = .ok (.iload_n 2, 1) := by decide +kernel
theorem dX9_swap_10 : decode cX9_swap 10 = .ok (.invokevirtual 135, 3) := by decide +kernel
theorem dX9_swap_13 : decode cX9_swap 13 = .ok (.ifCond .eq 10, 3) := by decide +kernel
theorem dX9_swap_16 : decode cX9_swap 16 = .ok (.iload_n 3, 1) := by decide +kernel
theorem dX9_swap_17 : decode cX9_swap 17 = .ok (.invokestatic 138, 3) := by decide +kernel
theorem dX9_swap_20 : decode cX9_swap 20 = .ok (.ifCond .ne 7, 3) := by decide +kernel
theorem dX9_swap_23 : decode cX9_swap 23 = .ok (.iconst 1, 1) := by decide +kernel
theorem dX9_swap_24 : decode cX9_swap 24 = .ok (.goto 13, 3) := by decide +kernel
theorem dX9_swap_27 : decode cX9_swap 27 = .ok (.iload_n 1, 1) := by decide +kernel
theorem dX9_swap_28 : decode cX9_swap 28 = .ok (.iload_n 2, 1) := by decide +kernel
theorem dX9_swap_29 : decode cX9_swap 29 = .ok (.if_icmp .ne 7, 3) := by decide +kernel
theorem dX9_swap_32 : decode cX9_swap 32 = .ok (.iconst 2, 1) := by decide +kernel
theorem dX9_swap_33 : decode cX9_swap 33 = .ok (.goto 4, 3) := by decide +kernel
theorem dX9_swap_36 : decode cX9_swap 36 = .ok (.iconst 0, 1) := by decide +kernel
theorem dX9_swap_37 : decode cX9_swap 37 = .ok (.istore 4, 2) := by decide +kernel
theorem dX9_swap_39 : decode cX9_swap 39 = .ok (.iload 4, 2) := by decide +kernel
theorem dX9_swap_41 : decode cX9_swap 41 = .ok (.ifCond .ne 17, 3) := by decide +kernel
theorem dX9_swap_44 : decode cX9_swap 44 = .ok (.aload_n 0, 1) := by decide +kernel
theorem dX9_swap_45 : decode cX9_swap 45 = .ok (.iload_n 1, 1) := by decide +kernel
theorem dX9_swap_46 : decode cX9_swap 46 = .ok (.iload_n 2, 1) := by decide +kernel
theorem dX9_swap_47 : decode cX9_swap 47 = .ok (.iload_n 3, 1) := by decide +kernel
theorem dX9_swap_48 : decode cX9_swap 48 = .ok (.invokevirtual 166, 3) := by decide +kernel
theorem dX9_swap_51 : decode cX9_swap 51 = .ok (.ifCond .ne 7, 3) := by decide +kernel
theorem dX9_swap_54 : decode cX9_swap 54 = .ok (.iconst 3, 1) := by decide +kernel
theorem dX9_swap_55 : decode cX9_swap 55 = .ok (.goto 5, 3) := by decide +kernel
theorem dX9_swap_58 : decode cX9_swap 58 = .ok (.iload 4, 2) := by decide +kernel
theorem dX9_swap_60 : decode cX9_swap 60 = .ok (.istore 4, 2) := by decide +kernel
theorem dX9_swap_62 : decode cX9_swap 62 = .ok (.aload_n 0, 1) := by decide +kernel
theorem dX9_swap_63 : decode cX9_swap 63 = .ok (.iload 4, 2) := by decide +kernel
theorem dX9_swap_65 : decode cX9_swap 65 = .ok (.invokevirtual 129, 3) := by decide +kernel
theorem dX9_swap_68 : decode cX9_swap 68 = .ok (.ifCond .ne 5, 3) := by decide +kernel
theorem dX9_swap_71 : decode cX9_swap 71 = .ok (.iconst 0, 1) := by decide +kernel
theorem dX9_swap_72 : decode cX9_swap 72 = .ok (.ireturn, 1) := by decide +kernel
theorem dX9_swap_73 : decode cX9_swap 73 = .ok (.aload_n 0, 1) := by decide +kernel
theorem dX9_swap_74 : decode cX9_swap 74 = .ok (.iload_n 1, 1) := by decide +kernel
theorem dX9_swap_75 : decode cX9_swap 75 = .ok (.iload_n 2, 1) := by decide +kernel
theorem dX9_swap_76 : decode cX9_swap 76 = .ok (.iload_n 3, 1) := by decide +kernel
theorem dX9_swap_77 : decode cX9_swap 77 = .ok (.invokevirtual 162, 3) := by decide +kernel
theorem dX9_swap_80 : decode cX9_swap 80 = .ok (.aload_n 0, 1) := by decide +kernel
theorem dX9_swap_81 : decode cX9_swap 81 = .ok (.invokevirtual 151, 3) := by decide +kernel
theorem dX9_swap_84 : decode cX9_swap 84 = .ok (.aload_n 0, 1) := by decide +kernel
theorem dX9_swap_85 : decode cX9_swap 85 = .ok (.getfield 112, 3) := by decide +kernel
theorem dX9_swap_88 : decode cX9_swap 88 = .ok (.ireturn, 1) := by decide +kernel
theorem dX9_partnerOf_0 : decode cX9_partnerOf 0 = .ok (.aload_n 0, 1) := by decide +kernel
theorem dX9_partnerOf_1 : decode cX9_partnerOf 1 = .ok (.invokevirtual 151, 3) := by decide +kernel
theorem dX9_partnerOf_4 : decode cX9_partnerOf 4 = .ok (.aload_n 0, 1) := by decide +kernel
theorem dX9_partnerOf_5 : decode cX9_partnerOf 5 = .ok (.getfield 112, 3) := by decide +kernel
theorem dX9_partnerOf_8 : decode cX9_partnerOf 8 = .ok (.istore_n 3, 1) := by decide +kernel
theorem dX9_partnerOf_9 : decode cX9_partnerOf 9 = .ok (.iconst 0, 1) := by decide +kernel
theorem dX9_partnerOf_10 : decode cX9_partnerOf 10 = .ok (.istore 4, 2) := by decide +kernel
theorem dX9_partnerOf_12 : decode cX9_partnerOf 12 = .ok (.iload 4, 2) := by decide +kernel
theorem dX9_partnerOf_14 : decode cX9_partnerOf 14 = .ok (.aload_n 0, 1) := by decide +kernel
theorem dX9_partnerOf_15 : decode cX9_partnerOf 15 = .ok (.getfield 76, 3) := by decide +kernel
theorem dX9_partnerOf_18 : decode cX9_partnerOf 18 = .ok (.if_icmp .ge 37, 3) := by decide +kernel
theorem dX9_partnerOf_21 : decode cX9_partnerOf 21 = .ok (.iload 4, 2) := by decide +kernel
theorem dX9_partnerOf_23 : decode cX9_partnerOf 23 = .ok (.iload_n 1, 1) := by decide +kernel
theorem dX9_partnerOf_24 : decode cX9_partnerOf 24 = .ok (.if_icmp .eq 25, 3) := by decide +kernel
theorem dX9_partnerOf_27 : decode cX9_partnerOf 27 = .ok (.aload_n 0, 1) := by decide +kernel
theorem dX9_partnerOf_28 : decode cX9_partnerOf 28 = .ok (.iload_n 1, 1) := by decide +kernel
theorem dX9_partnerOf_29 : decode cX9_partnerOf 29 = .ok (.iload 4, 2) := by decide +kernel
theorem dX9_partnerOf_31 : decode cX9_partnerOf 31 = .ok (.iload_n 2, 1) := by decide +kernel
theorem dX9_partnerOf_32 : decode cX9_partnerOf 32 = .ok (.invokevirtual 166, 3) := by decide +kernel
theorem dX9_partnerOf_35 : decode cX9_partnerOf 35 = .ok (.ifCond .eq 14, 3) := by decide +kernel
theorem dX9_partnerOf_38 : decode cX9_partnerOf 38 = .ok (.aload_n 0, 1) := by decide +kernel
theorem dX9_partnerOf_39 : decode cX9_partnerOf 39 = .ok (.getfield 112, 3) := by decide +kernel
theorem dX9_partnerOf_42 : decode cX9_partnerOf 42 = .ok (.iload_n 3, 1) := by decide +kernel
theorem dX9_partnerOf_43 : decode cX9_partnerOf 43 = .ok (.if_icmp .ge 6, 3) := by decide +kernel
theorem dX9_partnerOf_46 : decode cX9_partnerOf 46 = .ok (.iload 4, 2) := by decide +kernel
theorem dX9_partnerOf_48 : decode cX9_partnerOf 48 = .ok (.ireturn, 1) := by decide +kernel
theorem dX9_partnerOf_49 : decode cX9_partnerOf 49 = .ok (.iinc 4 1, 3) := by decide +kernel
theorem dX9_partnerOf_52 : decode cX9_partnerOf 52 = .ok (.goto (-40), 3) := by decide +kernel
theorem dX9_partnerOf_55 : decode cX9_partnerOf 55 = .ok (.iconst (-1), 1) := by decide +kernel
theorem dX9_partnerOf_56 : decode cX9_partnerOf 56 = .ok (.ireturn, 1) := by decide +kernel
theorem dX9_partner_0 : decode cX9_partner 0 = .ok (.aload_n 0, 1) := by decide +kernel
theorem dX9_partner_1 : decode cX9_partner 1 = .ok (.iload_n 1, 1) := by decide +kernel
theorem dX9_partner_2 : decode cX9_partner 2 = .ok (.invokevirtual 135, 3) := by decide +kernel
theorem dX9_partner_5 : decode cX9_partner 5 = .ok (.ifCond .eq 10, 3) := by decide +kernel
theorem dX9_partner_8 : decode cX9_partner 8 = .ok (.iload_n 2, 1) := by decide +kernel
theorem dX9_partner_9 : decode cX9_partner 9 = .ok (.invokestatic 138, 3) := by decide +kernel
theorem dX9_partner_12 : decode cX9_partner 12 = .ok (.ifCond .ne 7, 3) := by decide +kernel
theorem dX9_partner_15 : decode cX9_partner 15 = .ok (.iconst 1, 1) := by decide +kernel
theorem dX9_partner_16 : decode cX9_partner 16 = .ok (.goto 4, 3) := by decide +kernel
theorem dX9_partner_19 : decode cX9_partner 19 = .ok (.iconst 0, 1) := by decide +kernel
theorem dX9_partner_20 : decode cX9_partner 20 = .ok (.istore_n 3, 1) := by decide +kernel
theorem dX9_partner_21 : decode cX9_partner 21 = .ok (.iload_n 3, 1) := by decide +kernel
theorem dX9_partner_22 : decode cX9_partner 22 = .ok (.ifCond .ne 12, 3) := by decide +kernel
theorem dX9_partner_25 : decode cX9_partner 25 = .ok (.aload_n 0, 1) := by decide +kernel
theorem dX9_partner_26 : decode cX9_partner 26 = .ok (.iload_n 1, 1) := by decide +kernel
theorem dX9_partner_27 : decode cX9_partner 27 = .ok (.iload_n 2, 1) := by decide +kernel
theorem dX9_partner_28 : decode cX9_partner 28 = .ok (.invokevirtual 169, 3) := by decide +kernel
theorem dX9_partner_31 : decode cX9_partner 31 = .ok (.goto 4, 3) := by decide +kernel
theorem dX9_partner_34 : decode cX9_partner 34 = .ok (.iconst (-1), 1) := by decide +kernel
theorem dX9_partner_35 : decode cX9_partner 35 = .ok (.istore 4, 2) := by decide +kernel
theorem dX9_partner_37 : decode cX9_partner 37 = .ok (.aload_n 0, 1) := by decide +kernel
theorem dX9_partner_38 : decode cX9_partner 38 = .ok (.iload_n 3, 1) := by decide +kernel
theorem dX9_partner_39 : decode cX9_partner 39 = .ok (.ifCond .ne 13, 3) := by decide +kernel
theorem dX9_partner_42 : decode cX9_partner 42 = .ok (.iload 4, 2) := by decide +kernel
theorem dX9_partner_44 : decode cX9_partner 44 = .ok (.iconst (-1), 1) := by decide +kernel
theorem dX9_partner_45 : decode cX9_partner 45 = .ok (.if_icmp .ne 7, 3) := by decide +kernel
theorem dX9_partner_48 : decode cX9_partner 48 = .ok (.iconst 2, 1) := by decide +kernel
theorem dX9_partner_49 : decode cX9_partner 49 = .ok (.goto 4, 3) := by decide +kernel
theorem dX9_partner_52 : decode cX9_partner 52 = .ok (.iload_n 3, 1) := by decide +kernel
theorem dX9_partner_53 : decode cX9_partner 53 = .ok (.invokevirtual 129, 3) := by decide +kernel
theorem dX9_partner_56 : decode cX9_partner 56 = .ok (.ifCond .eq 8, 3) := by decide +kernel
theorem dX9_partner_59 : decode cX9_partner 59 = .ok (.iload 4, 2) := by decide +kernel
theorem dX9_partner_61 : decode cX9_partner 61 = .ok (.goto 4, 3) := by decide +kernel
theorem dX9_partner_64 : decode cX9_partner 64 = .ok (.iconst 0, 1) := by decide +kernel
theorem dX9_partner_65 : decode cX9_partner 65 = .ok (.ireturn, 1) := by decide +kernel
theorem dX9_mends_0 : decode cX9_mends 0 = .ok (.iload_n 1, 1) := by decide +kernel
theorem dX9_mends_1 : decode cX9_mends 1 = .ok (.iload_n 2, 1) := by decide +kernel
theorem dX9_mends_2 : decode cX9_mends 2 = .ok (.if_icmp .ne 8, 3) := by decide +kernel
theorem dX9_mends_5 : decode cX9_mends 5 = .ok (.aload_n 0, 1) := by decide +kernel
theorem dX9_mends_6 : decode cX9_mends 6 = .ok (.invokevirtual 172, 3) := by decide +kernel
theorem dX9_mends_9 : decode cX9_mends 9 = .ok (.ireturn, 1) := by decide +kernel
theorem dX9_mends_10 : decode cX9_mends 10 = .ok (.iload_n 3, 1) := by decide +kernel
theorem dX9_mends_11 : decode cX9_mends 11 = .ok (.istore 4, 2) := by decide +kernel
theorem dX9_mends_13 : decode cX9_mends 13 = .ok (.iload 4, 2) := by decide +kernel
theorem dX9_mends_15 : decode cX9_mends 15 = .ok (.bipush 8, 2) := by decide +kernel
theorem dX9_mends_17 : decode cX9_mends 17 = .ok (.aload_n 0, 1) := by decide +kernel
theorem dX9_mends_18 : decode cX9_mends 18 = .ok (.getfield 76, 3) := by decide +kernel
theorem dX9_mends_21 : decode cX9_mends 21 = .ok (.imul, 1) := by decide +kernel
theorem dX9_mends_22 : decode cX9_mends 22 = .ok (.if_icmp .ge 105, 3) := by decide +kernel
theorem dX9_mends_25 : decode cX9_mends 25 = .ok (.aload_n 0, 1) := by decide +kernel
theorem dX9_mends_26 : decode cX9_mends 26 = .ok (.getfield 16, 3) := by decide +kernel
theorem dX9_mends_29 : decode cX9_mends 29 = .ok (.iload 4, 2) := by decide +kernel
theorem dX9_mends_31 : decode cX9_mends 31 = .ok (.iaload, 1) := by decide +kernel
theorem dX9_mends_32 : decode cX9_mends 32 = .ok (.istore 5, 2) := by decide +kernel
theorem dX9_mends_34 : decode cX9_mends 34 = .ok (.iconst 0, 1) := by decide +kernel
theorem dX9_mends_35 : decode cX9_mends 35 = .ok (.istore 6, 2) := by decide +kernel
theorem dX9_mends_37 : decode cX9_mends 37 = .ok (.iload 6, 2) := by decide +kernel
theorem dX9_mends_39 : decode cX9_mends 39 = .ok (.aload_n 0, 1) := by decide +kernel
theorem dX9_mends_40 : decode cX9_mends 40 = .ok (.getfield 83, 3) := by decide +kernel
theorem dX9_mends_43 : decode cX9_mends 43 = .ok (.if_icmp .gt 78, 3) := by decide +kernel
theorem dX9_mends_46 : decode cX9_mends 46 = .ok (.iload 6, 2) := by decide +kernel
theorem dX9_mends_48 : decode cX9_mends 48 = .ok (.iconst 1, 1) := by decide +kernel
theorem dX9_mends_49 : decode cX9_mends 49 = .ok (.isub, 1) := by decide +kernel
theorem dX9_mends_50 : decode cX9_mends 50 = .ok (.iload 5, 2) := by decide +kernel
theorem dX9_mends_52 : decode cX9_mends 52 = .ok (.if_icmp .ne 6, 3) := by decide +kernel
theorem dX9_mends_55 : decode cX9_mends 55 = .ok (.goto 60, 3) := by decide +kernel
theorem dX9_mends_58 : decode cX9_mends 58 = .ok (.aload_n 0, 1) := by decide +kernel
theorem dX9_mends_59 : decode cX9_mends 59 = .ok (.getfield 16, 3) := by decide +kernel
theorem dX9_mends_62 : decode cX9_mends 62 = .ok (.iload 4, 2) := by decide +kernel
theorem dX9_mends_64 : decode cX9_mends 64 = .ok (.iload 6, 2) := by decide +kernel
theorem dX9_mends_66 : decode cX9_mends 66 = .ok (.iconst 1, 1) := by decide +kernel
theorem dX9_mends_67 : decode cX9_mends 67 = .ok (.isub, 1) := by decide +kernel
theorem dX9_mends_68 : decode cX9_mends 68 = .ok (.iastore, 1) := by decide +kernel
theorem dX9_mends_69 : decode cX9_mends 69 = .ok (.aload_n 0, 1) := by decide +kernel
theorem dX9_mends_70 : decode cX9_mends 70 = .ok (.getfield 61, 3) := by decide +kernel
theorem dX9_mends_73 : decode cX9_mends 73 = .ok (.iload_n 1, 1) := by decide +kernel
theorem dX9_mends_74 : decode cX9_mends 74 = .ok (.iload 4, 2) := by decide +kernel
theorem dX9_mends_76 : decode cX9_mends 76 = .ok (.iastore, 1) := by decide +kernel
theorem dX9_mends_77 : decode cX9_mends 77 = .ok (.aload_n 0, 1) := by decide +kernel
theorem dX9_mends_78 : decode cX9_mends 78 = .ok (.getfield 64, 3) := by decide +kernel
theorem dX9_mends_81 : decode cX9_mends 81 = .ok (.iload_n 1, 1) := by decide +kernel
theorem dX9_mends_82 : decode cX9_mends 82 = .ok (.iload 6, 2) := by decide +kernel
theorem dX9_mends_84 : decode cX9_mends 84 = .ok (.iastore, 1) := by decide +kernel
theorem dX9_mends_85 : decode cX9_mends 85 = .ok (.aload_n 0, 1) := by decide +kernel
theorem dX9_mends_86 : decode cX9_mends 86 = .ok (.iload_n 1, 1) := by decide +kernel
theorem dX9_mends_87 : decode cX9_mends 87 = .ok (.iconst 1, 1) := by decide +kernel
theorem dX9_mends_88 : decode cX9_mends 88 = .ok (.iadd, 1) := by decide +kernel
theorem dX9_mends_89 : decode cX9_mends 89 = .ok (.iload_n 2, 1) := by decide +kernel
theorem dX9_mends_90 : decode cX9_mends 90 = .ok (.iload 4, 2) := by decide +kernel
theorem dX9_mends_92 : decode cX9_mends 92 = .ok (.iconst 1, 1) := by decide +kernel
theorem dX9_mends_93 : decode cX9_mends 93 = .ok (.iadd, 1) := by decide +kernel
theorem dX9_mends_94 : decode cX9_mends 94 = .ok (.invokevirtual 176, 3) := by decide +kernel
theorem dX9_mends_97 : decode cX9_mends 97 = .ok (.istore 7, 2) := by decide +kernel
theorem dX9_mends_99 : decode cX9_mends 99 = .ok (.aload_n 0, 1) := by decide +kernel
theorem dX9_mends_100 : decode cX9_mends 100 = .ok (.getfield 16, 3) := by decide +kernel
theorem dX9_mends_103 : decode cX9_mends 103 = .ok (.iload 4, 2) := by decide +kernel
theorem dX9_mends_105 : decode cX9_mends 105 = .ok (.iload 5, 2) := by decide +kernel
theorem dX9_mends_107 : decode cX9_mends 107 = .ok (.iastore, 1) := by decide +kernel
theorem dX9_mends_108 : decode cX9_mends 108 = .ok (.iload 7, 2) := by decide +kernel
theorem dX9_mends_110 : decode cX9_mends 110 = .ok (.ifCond .eq 5, 3) := by decide +kernel
theorem dX9_mends_113 : decode cX9_mends 113 = .ok (.iconst 1, 1) := by decide +kernel
theorem dX9_mends_114 : decode cX9_mends 114 = .ok (.ireturn, 1) := by decide +kernel
theorem dX9_mends_115 : decode cX9_mends 115 = .ok (.iinc 6 1, 3) := by decide +kernel
theorem dX9_mends_118 : decode cX9_mends 118 = .ok (.goto (-81), 3) := by decide +kernel
theorem dX9_mends_121 : decode cX9_mends 121 = .ok (.iinc 4 1, 3) := by decide +kernel
theorem dX9_mends_124 : decode cX9_mends 124 = .ok (.goto (-111), 3) := by decide +kernel
theorem dX9_mends_127 : decode cX9_mends 127 = .ok (.iconst 0, 1) := by decide +kernel
theorem dX9_mends_128 : decode cX9_mends 128 = .ok (.ireturn, 1) := by decide +kernel
theorem dX9_leastSize_0 : decode cX9_leastSize 0 = .ok (.iconst 0, 1) := by decide +kernel
theorem dX9_leastSize_1 : decode cX9_leastSize 1 = .ok (.istore_n 1, 1) := by decide +kernel
theorem dX9_leastSize_2 : decode cX9_leastSize 2 = .ok (.iload_n 1, 1) := by decide +kernel
theorem dX9_leastSize_3 : decode cX9_leastSize 3 = .ok (.iconst 3, 1) := by decide +kernel
theorem dX9_leastSize_4 : decode cX9_leastSize 4 = .ok (.if_icmp .ge 19, 3) := by decide +kernel
theorem dX9_leastSize_7 : decode cX9_leastSize 7 = .ok (.aload_n 0, 1) := by decide +kernel
theorem dX9_leastSize_8 : decode cX9_leastSize 8 = .ok (.iconst 0, 1) := by decide +kernel
theorem dX9_leastSize_9 : decode cX9_leastSize 9 = .ok (.iload_n 1, 1) := by decide +kernel
theorem dX9_leastSize_10 : decode cX9_leastSize 10 = .ok (.iconst 0, 1) := by decide +kernel
theorem dX9_leastSize_11 : decode cX9_leastSize 11 = .ok (.invokevirtual 176, 3) := by decide +kernel
theorem dX9_leastSize_14 : decode cX9_leastSize 14 = .ok (.ifCond .ne 9, 3) := by decide +kernel
theorem dX9_leastSize_17 : decode cX9_leastSize 17 = .ok (.iinc 1 1, 3) := by decide +kernel
theorem dX9_leastSize_20 : decode cX9_leastSize 20 = .ok (.goto (-18), 3) := by decide +kernel
theorem dX9_leastSize_23 : decode cX9_leastSize 23 = .ok (.iload_n 1, 1) := by decide +kernel
theorem dX9_leastSize_24 : decode cX9_leastSize 24 = .ok (.iconst 3, 1) := by decide +kernel
theorem dX9_leastSize_25 : decode cX9_leastSize 25 = .ok (.if_icmp .ge 7, 3) := by decide +kernel
theorem dX9_leastSize_28 : decode cX9_leastSize 28 = .ok (.iload_n 1, 1) := by decide +kernel
theorem dX9_leastSize_29 : decode cX9_leastSize 29 = .ok (.goto 4, 3) := by decide +kernel
theorem dX9_leastSize_32 : decode cX9_leastSize 32 = .ok (.iconst (-1), 1) := by decide +kernel
theorem dX9_leastSize_33 : decode cX9_leastSize 33 = .ok (.ireturn, 1) := by decide +kernel
theorem dX9_leastChanges_0 : decode cX9_leastChanges 0 = .ok (.aload_n 0, 1) := by decide +kernel
theorem dX9_leastChanges_1 : decode cX9_leastChanges 1 = .ok (.invokevirtual 179, 3) := by decide +kernel
theorem dX9_leastChanges_4 : decode cX9_leastChanges 4 = .ok (.istore_n 1, 1) := by decide +kernel
theorem dX9_leastChanges_5 : decode cX9_leastChanges 5 = .ok (.aload_n 0, 1) := by decide +kernel
theorem dX9_leastChanges_6 : decode cX9_leastChanges 6 = .ok (.iload_n 1, 1) := by decide +kernel
theorem dX9_leastChanges_7 : decode cX9_leastChanges 7 = .ok (.iconst (-1), 1) := by decide +kernel
theorem dX9_leastChanges_8 : decode cX9_leastChanges 8 = .ok (.if_icmp .ne 7, 3) := by decide +kernel
theorem dX9_leastChanges_11 : decode cX9_leastChanges 11 = .ok (.iconst 1, 1) := by decide +kernel
theorem dX9_leastChanges_12 : decode cX9_leastChanges 12 = .ok (.goto 4, 3) := by decide +kernel
theorem dX9_leastChanges_15 : decode cX9_leastChanges 15 = .ok (.iconst 0, 1) := by decide +kernel
theorem dX9_leastChanges_16 : decode cX9_leastChanges 16 = .ok (.invokevirtual 129, 3) := by decide +kernel
theorem dX9_leastChanges_19 : decode cX9_leastChanges 19 = .ok (.ifCond .eq 7, 3) := by decide +kernel
theorem dX9_leastChanges_22 : decode cX9_leastChanges 22 = .ok (.iload_n 1, 1) := by decide +kernel
theorem dX9_leastChanges_23 : decode cX9_leastChanges 23 = .ok (.goto 4, 3) := by decide +kernel
theorem dX9_leastChanges_26 : decode cX9_leastChanges 26 = .ok (.iconst 0, 1) := by decide +kernel
theorem dX9_leastChanges_27 : decode cX9_leastChanges 27 = .ok (.ireturn, 1) := by decide +kernel
theorem dX9_leastByTrial_0 : decode cX9_leastByTrial 0 = .ok (.aload_n 0, 1) := by decide +kernel
theorem dX9_leastByTrial_1 : decode cX9_leastByTrial 1 = .ok (.invokevirtual 183, 3) := by decide +kernel
theorem dX9_leastByTrial_4 : decode cX9_leastByTrial 4 = .ok (.ireturn, 1) := by decide +kernel
theorem dX9_mend_0 : decode cX9_mend 0 = .ok (.aload_n 0, 1) := by decide +kernel
theorem dX9_mend_1 : decode cX9_mend 1 = .ok (.invokevirtual 179, 3) := by decide +kernel
theorem dX9_mend_4 : decode cX9_mend 4 = .ok (.istore_n 1, 1) := by decide +kernel
theorem dX9_mend_5 : decode cX9_mend 5 = .ok (.aload_n 0, 1) := by decide +kernel
theorem dX9_mend_6 : decode cX9_mend 6 = .ok (.iload_n 1, 1) := by decide +kernel
theorem dX9_mend_7 : decode cX9_mend 7 = .ok (.iconst (-1), 1) := by decide +kernel
theorem dX9_mend_8 : decode cX9_mend 8 = .ok (.if_icmp .ne 7, 3) := by decide +kernel
theorem dX9_mend_11 : decode cX9_mend 11 = .ok (.iconst 1, 1) := by decide +kernel
theorem dX9_mend_12 : decode cX9_mend 12 = .ok (.goto 4, 3) := by decide +kernel
theorem dX9_mend_15 : decode cX9_mend 15 = .ok (.iconst 0, 1) := by decide +kernel
theorem dX9_mend_16 : decode cX9_mend 16 = .ok (.invokevirtual 129, 3) := by decide +kernel
theorem dX9_mend_19 : decode cX9_mend 19 = .ok (.ifCond .ne 5, 3) := by decide +kernel
theorem dX9_mend_22 : decode cX9_mend 22 = .ok (.iconst 0, 1) := by decide +kernel
theorem dX9_mend_23 : decode cX9_mend 23 = .ok (.ireturn, 1) := by decide +kernel
theorem dX9_mend_24 : decode cX9_mend 24 = .ok (.aload_n 0, 1) := by decide +kernel
theorem dX9_mend_25 : decode cX9_mend 25 = .ok (.iload_n 1, 1) := by decide +kernel
theorem dX9_mend_26 : decode cX9_mend 26 = .ok (.putfield 186, 3) := by decide +kernel
theorem dX9_mend_29 : decode cX9_mend 29 = .ok (.iconst 0, 1) := by decide +kernel
theorem dX9_mend_30 : decode cX9_mend 30 = .ok (.istore_n 2, 1) := by decide +kernel
theorem dX9_mend_31 : decode cX9_mend 31 = .ok (.iload_n 2, 1) := by decide +kernel
theorem dX9_mend_32 : decode cX9_mend 32 = .ok (.iload_n 1, 1) := by decide +kernel
theorem dX9_mend_33 : decode cX9_mend 33 = .ok (.if_icmp .ge 52, 3) := by decide +kernel
theorem dX9_mend_36 : decode cX9_mend 36 = .ok (.aload_n 0, 1) := by decide +kernel
theorem dX9_mend_37 : decode cX9_mend 37 = .ok (.getfield 67, 3) := by decide +kernel
theorem dX9_mend_40 : decode cX9_mend 40 = .ok (.iload_n 2, 1) := by decide +kernel
theorem dX9_mend_41 : decode cX9_mend 41 = .ok (.aload_n 0, 1) := by decide +kernel
theorem dX9_mend_42 : decode cX9_mend 42 = .ok (.getfield 61, 3) := by decide +kernel
theorem dX9_mend_45 : decode cX9_mend 45 = .ok (.iload_n 2, 1) := by decide +kernel
theorem dX9_mend_46 : decode cX9_mend 46 = .ok (.iaload, 1) := by decide +kernel
theorem dX9_mend_47 : decode cX9_mend 47 = .ok (.iastore, 1) := by decide +kernel
theorem dX9_mend_48 : decode cX9_mend 48 = .ok (.aload_n 0, 1) := by decide +kernel
theorem dX9_mend_49 : decode cX9_mend 49 = .ok (.getfield 70, 3) := by decide +kernel
theorem dX9_mend_52 : decode cX9_mend 52 = .ok (.iload_n 2, 1) := by decide +kernel
theorem dX9_mend_53 : decode cX9_mend 53 = .ok (.aload_n 0, 1) := by decide +kernel
theorem dX9_mend_54 : decode cX9_mend 54 = .ok (.getfield 64, 3) := by decide +kernel
theorem dX9_mend_57 : decode cX9_mend 57 = .ok (.iload_n 2, 1) := by decide +kernel
theorem dX9_mend_58 : decode cX9_mend 58 = .ok (.iaload, 1) := by decide +kernel
theorem dX9_mend_59 : decode cX9_mend 59 = .ok (.iastore, 1) := by decide +kernel
theorem dX9_mend_60 : decode cX9_mend 60 = .ok (.aload_n 0, 1) := by decide +kernel
theorem dX9_mend_61 : decode cX9_mend 61 = .ok (.getfield 16, 3) := by decide +kernel
theorem dX9_mend_64 : decode cX9_mend 64 = .ok (.aload_n 0, 1) := by decide +kernel
theorem dX9_mend_65 : decode cX9_mend 65 = .ok (.getfield 61, 3) := by decide +kernel
theorem dX9_mend_68 : decode cX9_mend 68 = .ok (.iload_n 2, 1) := by decide +kernel
theorem dX9_mend_69 : decode cX9_mend 69 = .ok (.iaload, 1) := by decide +kernel
theorem dX9_mend_70 : decode cX9_mend 70 = .ok (.aload_n 0, 1) := by decide +kernel
theorem dX9_mend_71 : decode cX9_mend 71 = .ok (.getfield 64, 3) := by decide +kernel
theorem dX9_mend_74 : decode cX9_mend 74 = .ok (.iload_n 2, 1) := by decide +kernel
theorem dX9_mend_75 : decode cX9_mend 75 = .ok (.iaload, 1) := by decide +kernel
theorem dX9_mend_76 : decode cX9_mend 76 = .ok (.iconst 1, 1) := by decide +kernel
theorem dX9_mend_77 : decode cX9_mend 77 = .ok (.isub, 1) := by decide +kernel
theorem dX9_mend_78 : decode cX9_mend 78 = .ok (.iastore, 1) := by decide +kernel
theorem dX9_mend_79 : decode cX9_mend 79 = .ok (.iinc 2 1, 3) := by decide +kernel
theorem dX9_mend_82 : decode cX9_mend 82 = .ok (.goto (-51), 3) := by decide +kernel
theorem dX9_mend_85 : decode cX9_mend 85 = .ok (.iload_n 1, 1) := by decide +kernel
theorem dX9_mend_86 : decode cX9_mend 86 = .ok (.ireturn, 1) := by decide +kernel
theorem dX9_changedCell_0 : decode cX9_changedCell 0 = .ok (.aload_n 0, 1) := by decide +kernel
theorem dX9_changedCell_1 : decode cX9_changedCell 1 = .ok (.iload_n 1, 1) := by decide +kernel
theorem dX9_changedCell_2 : decode cX9_changedCell 2 = .ok (.iconst 0, 1) := by decide +kernel
theorem dX9_changedCell_3 : decode cX9_changedCell 3 = .ok (.aload_n 0, 1) := by decide +kernel
theorem dX9_changedCell_4 : decode cX9_changedCell 4 = .ok (.getfield 186, 3) := by decide +kernel
theorem dX9_changedCell_7 : decode cX9_changedCell 7 = .ok (.iconst 1, 1) := by decide +kernel
theorem dX9_changedCell_8 : decode cX9_changedCell 8 = .ok (.isub, 1) := by decide +kernel
theorem dX9_changedCell_9 : decode cX9_changedCell 9 = .ok (.invokestatic 79, 3) := by decide +kernel
theorem dX9_changedCell_12 : decode cX9_changedCell 12 = .ok (.ifCond .eq 7, 3) := by decide +kernel
theorem dX9_changedCell_15 : decode cX9_changedCell 15 = .ok (.iconst 0, 1) := by decide +kernel
theorem dX9_changedCell_16 : decode cX9_changedCell 16 = .ok (.goto 4, 3) := by decide +kernel
theorem dX9_changedCell_19 : decode cX9_changedCell 19 = .ok (.iconst 1, 1) := by decide +kernel
theorem dX9_changedCell_20 : decode cX9_changedCell 20 = .ok (.invokevirtual 129, 3) := by decide +kernel
theorem dX9_changedCell_23 : decode cX9_changedCell 23 = .ok (.ifCond .eq 12, 3) := by decide +kernel
theorem dX9_changedCell_26 : decode cX9_changedCell 26 = .ok (.aload_n 0, 1) := by decide +kernel
theorem dX9_changedCell_27 : decode cX9_changedCell 27 = .ok (.getfield 67, 3) := by decide +kernel
theorem dX9_changedCell_30 : decode cX9_changedCell 30 = .ok (.iload_n 1, 1) := by decide +kernel
theorem dX9_changedCell_31 : decode cX9_changedCell 31 = .ok (.iaload, 1) := by decide +kernel
theorem dX9_changedCell_32 : decode cX9_changedCell 32 = .ok (.goto 4, 3) := by decide +kernel
theorem dX9_changedCell_35 : decode cX9_changedCell 35 = .ok (.iconst 0, 1) := by decide +kernel
theorem dX9_changedCell_36 : decode cX9_changedCell 36 = .ok (.ireturn, 1) := by decide +kernel
theorem dX9_changedValue_0 : decode cX9_changedValue 0 = .ok (.aload_n 0, 1) := by decide +kernel
theorem dX9_changedValue_1 : decode cX9_changedValue 1 = .ok (.iload_n 1, 1) := by decide +kernel
theorem dX9_changedValue_2 : decode cX9_changedValue 2 = .ok (.iconst 0, 1) := by decide +kernel
theorem dX9_changedValue_3 : decode cX9_changedValue 3 = .ok (.aload_n 0, 1) := by decide +kernel
theorem dX9_changedValue_4 : decode cX9_changedValue 4 = .ok (.getfield 186, 3) := by decide +kernel
theorem dX9_changedValue_7 : decode cX9_changedValue 7 = .ok (.iconst 1, 1) := by decide +kernel
theorem dX9_changedValue_8 : decode cX9_changedValue 8 = .ok (.isub, 1) := by decide +kernel
theorem dX9_changedValue_9 : decode cX9_changedValue 9 = .ok (.invokestatic 79, 3) := by decide +kernel
theorem dX9_changedValue_12 : decode cX9_changedValue 12 = .ok (.ifCond .eq 7, 3) := by decide +kernel
theorem dX9_changedValue_15 : decode cX9_changedValue 15 = .ok (.iconst 0, 1) := by decide +kernel
theorem dX9_changedValue_16 : decode cX9_changedValue 16 = .ok (.goto 4, 3) := by decide +kernel
theorem dX9_changedValue_19 : decode cX9_changedValue 19 = .ok (.iconst 1, 1) := by decide +kernel
theorem dX9_changedValue_20 : decode cX9_changedValue 20 = .ok (.invokevirtual 129, 3) := by decide +kernel
theorem dX9_changedValue_23 : decode cX9_changedValue 23 = .ok (.ifCond .eq 12, 3) := by decide +kernel
theorem dX9_changedValue_26 : decode cX9_changedValue 26 = .ok (.aload_n 0, 1) := by decide +kernel
theorem dX9_changedValue_27 : decode cX9_changedValue 27 = .ok (.getfield 70, 3) := by decide +kernel
theorem dX9_changedValue_30 : decode cX9_changedValue 30 = .ok (.iload_n 1, 1) := by decide +kernel
theorem dX9_changedValue_31 : decode cX9_changedValue 31 = .ok (.iaload, 1) := by decide +kernel
theorem dX9_changedValue_32 : decode cX9_changedValue 32 = .ok (.goto 4, 3) := by decide +kernel
theorem dX9_changedValue_35 : decode cX9_changedValue 35 = .ok (.iconst 0, 1) := by decide +kernel
theorem dX9_changedValue_36 : decode cX9_changedValue 36 = .ok (.ireturn, 1) := by decide +kernel
theorem dX9_minutes_0 : decode cX9_minutes 0 = .ok (.aload_n 0, 1) := by decide +kernel
theorem dX9_minutes_1 : decode cX9_minutes 1 = .ok (.iconst 0, 1) := by decide +kernel
theorem dX9_minutes_2 : decode cX9_minutes 2 = .ok (.putfield 73, 3) := by decide +kernel
theorem dX9_minutes_5 : decode cX9_minutes 5 = .ok (.lconst 0, 1) := by decide +kernel
theorem dX9_minutes_6 : decode cX9_minutes 6 = .ok (.lstore_n 1, 1) := by decide +kernel
theorem dX9_minutes_7 : decode cX9_minutes 7 = .ok (.iconst 0, 1) := by decide +kernel
theorem dX9_minutes_8 : decode cX9_minutes 8 = .ok (.istore_n 3, 1) := by decide +kernel
theorem dX9_minutes_9 : decode cX9_minutes 9 = .ok (.iload_n 3, 1) := by decide +kernel
theorem dX9_minutes_10 : decode cX9_minutes 10 = .ok (.aload_n 0, 1) := by decide +kernel
theorem dX9_minutes_11 : decode cX9_minutes 11 = .ok (.getfield 76, 3) := by decide +kernel
theorem dX9_minutes_14 : decode cX9_minutes 14 = .ok (.if_icmp .ge 21, 3) := by decide +kernel
theorem dX9_minutes_17 : decode cX9_minutes 17 = .ok (.lload_n 1, 1) := by decide +kernel
theorem dX9_minutes_18 : decode cX9_minutes 18 = .ok (.aload_n 0, 1) := by decide +kernel
theorem dX9_minutes_19 : decode cX9_minutes 19 = .ok (.iload_n 3, 1) := by decide +kernel
theorem dX9_minutes_20 : decode cX9_minutes 20 = .ok (.iconst 0, 1) := by decide +kernel
theorem dX9_minutes_21 : decode cX9_minutes 21 = .ok (.bipush 8, 2) := by decide +kernel
theorem dX9_minutes_23 : decode cX9_minutes 23 = .ok (.invokevirtual 108, 3) := by decide +kernel
theorem dX9_minutes_26 : decode cX9_minutes 26 = .ok (.i2l, 1) := by decide +kernel
theorem dX9_minutes_27 : decode cX9_minutes 27 = .ok (.ladd, 1) := by decide +kernel
theorem dX9_minutes_28 : decode cX9_minutes 28 = .ok (.lstore_n 1, 1) := by decide +kernel
theorem dX9_minutes_29 : decode cX9_minutes 29 = .ok (.iinc 3 1, 3) := by decide +kernel
theorem dX9_minutes_32 : decode cX9_minutes 32 = .ok (.goto (-23), 3) := by decide +kernel
theorem dX9_minutes_35 : decode cX9_minutes 35 = .ok (.lload_n 1, 1) := by decide +kernel
theorem dX9_minutes_36 : decode cX9_minutes 36 = .ok (.lreturn, 1) := by decide +kernel
theorem dX9_workShare_0 : decode cX9_workShare 0 = .ok (.iconst 0, 1) := by decide +kernel
theorem dX9_workShare_1 : decode cX9_workShare 1 = .ok (.istore_n 2, 1) := by decide +kernel
theorem dX9_workShare_2 : decode cX9_workShare 2 = .ok (.iconst 0, 1) := by decide +kernel
theorem dX9_workShare_3 : decode cX9_workShare 3 = .ok (.istore_n 3, 1) := by decide +kernel
theorem dX9_workShare_4 : decode cX9_workShare 4 = .ok (.iload_n 3, 1) := by decide +kernel
theorem dX9_workShare_5 : decode cX9_workShare 5 = .ok (.bipush 8, 2) := by decide +kernel
theorem dX9_workShare_7 : decode cX9_workShare 7 = .ok (.if_icmp .ge 35, 3) := by decide +kernel
theorem dX9_workShare_10 : decode cX9_workShare 10 = .ok (.aload_n 0, 1) := by decide +kernel
theorem dX9_workShare_11 : decode cX9_workShare 11 = .ok (.iload_n 1, 1) := by decide +kernel
theorem dX9_workShare_12 : decode cX9_workShare 12 = .ok (.invokevirtual 135, 3) := by decide +kernel
theorem dX9_workShare_15 : decode cX9_workShare 15 = .ok (.ifCond .eq 27, 3) := by decide +kernel
theorem dX9_workShare_18 : decode cX9_workShare 18 = .ok (.iload_n 2, 1) := by decide +kernel
theorem dX9_workShare_19 : decode cX9_workShare 19 = .ok (.aload_n 0, 1) := by decide +kernel
theorem dX9_workShare_20 : decode cX9_workShare 20 = .ok (.iload_n 1, 1) := by decide +kernel
theorem dX9_workShare_21 : decode cX9_workShare 21 = .ok (.iload_n 3, 1) := by decide +kernel
theorem dX9_workShare_22 : decode cX9_workShare 22 = .ok (.invokevirtual 86, 3) := by decide +kernel
theorem dX9_workShare_25 : decode cX9_workShare 25 = .ok (.iconst (-1), 1) := by decide +kernel
theorem dX9_workShare_26 : decode cX9_workShare 26 = .ok (.if_icmp .ne 7, 3) := by decide +kernel
theorem dX9_workShare_29 : decode cX9_workShare 29 = .ok (.iconst 0, 1) := by decide +kernel
theorem dX9_workShare_30 : decode cX9_workShare 30 = .ok (.goto 4, 3) := by decide +kernel
theorem dX9_workShare_33 : decode cX9_workShare 33 = .ok (.iconst 1, 1) := by decide +kernel
theorem dX9_workShare_34 : decode cX9_workShare 34 = .ok (.iadd, 1) := by decide +kernel
theorem dX9_workShare_35 : decode cX9_workShare 35 = .ok (.istore_n 2, 1) := by decide +kernel
theorem dX9_workShare_36 : decode cX9_workShare 36 = .ok (.iinc 3 1, 3) := by decide +kernel
theorem dX9_workShare_39 : decode cX9_workShare 39 = .ok (.goto (-35), 3) := by decide +kernel
theorem dX9_workShare_42 : decode cX9_workShare 42 = .ok (.aload_n 0, 1) := by decide +kernel
theorem dX9_workShare_43 : decode cX9_workShare 43 = .ok (.aload_n 0, 1) := by decide +kernel
theorem dX9_workShare_44 : decode cX9_workShare 44 = .ok (.iload_n 1, 1) := by decide +kernel
theorem dX9_workShare_45 : decode cX9_workShare 45 = .ok (.invokevirtual 135, 3) := by decide +kernel
theorem dX9_workShare_48 : decode cX9_workShare 48 = .ok (.ifCond .eq 7, 3) := by decide +kernel
theorem dX9_workShare_51 : decode cX9_workShare 51 = .ok (.iconst 0, 1) := by decide +kernel
theorem dX9_workShare_52 : decode cX9_workShare 52 = .ok (.goto 4, 3) := by decide +kernel
theorem dX9_workShare_55 : decode cX9_workShare 55 = .ok (.iconst 1, 1) := by decide +kernel
theorem dX9_workShare_56 : decode cX9_workShare 56 = .ok (.invokevirtual 129, 3) := by decide +kernel
theorem dX9_workShare_59 : decode cX9_workShare 59 = .ok (.ifCond .eq 11, 3) := by decide +kernel
theorem dX9_workShare_62 : decode cX9_workShare 62 = .ok (.iload_n 2, 1) := by decide +kernel
theorem dX9_workShare_63 : decode cX9_workShare 63 = .ok (.i2f, 1) := by decide +kernel
theorem dX9_workShare_64 : decode cX9_workShare 64 = .ok (.ldc 189, 2) := by decide +kernel
theorem dX9_workShare_66 : decode cX9_workShare 66 = .ok (.fdiv, 1) := by decide +kernel
theorem dX9_workShare_67 : decode cX9_workShare 67 = .ok (.goto 4, 3) := by decide +kernel
theorem dX9_workShare_70 : decode cX9_workShare 70 = .ok (.fconst 0, 1) := by decide +kernel
theorem dX9_workShare_71 : decode cX9_workShare 71 = .ok (.freturn, 1) := by decide +kernel
theorem dX9_meanRest_0 : decode cX9_meanRest 0 = .ok (.iconst 0, 1) := by decide +kernel
theorem dX9_meanRest_1 : decode cX9_meanRest 1 = .ok (.istore_n 2, 1) := by decide +kernel
theorem dX9_meanRest_2 : decode cX9_meanRest 2 = .ok (.iconst 0, 1) := by decide +kernel
theorem dX9_meanRest_3 : decode cX9_meanRest 3 = .ok (.istore_n 3, 1) := by decide +kernel
theorem dX9_meanRest_4 : decode cX9_meanRest 4 = .ok (.iconst 0, 1) := by decide +kernel
theorem dX9_meanRest_5 : decode cX9_meanRest 5 = .ok (.istore 4, 2) := by decide +kernel
theorem dX9_meanRest_7 : decode cX9_meanRest 7 = .ok (.iload 4, 2) := by decide +kernel
theorem dX9_meanRest_9 : decode cX9_meanRest 9 = .ok (.bipush 8, 2) := by decide +kernel
theorem dX9_meanRest_11 : decode cX9_meanRest 11 = .ok (.if_icmp .ge 52, 3) := by decide +kernel
theorem dX9_meanRest_14 : decode cX9_meanRest 14 = .ok (.aload_n 0, 1) := by decide +kernel
theorem dX9_meanRest_15 : decode cX9_meanRest 15 = .ok (.iload_n 1, 1) := by decide +kernel
theorem dX9_meanRest_16 : decode cX9_meanRest 16 = .ok (.invokevirtual 135, 3) := by decide +kernel
theorem dX9_meanRest_19 : decode cX9_meanRest 19 = .ok (.ifCond .eq 44, 3) := by decide +kernel
theorem dX9_meanRest_22 : decode cX9_meanRest 22 = .ok (.aload_n 0, 1) := by decide +kernel
theorem dX9_meanRest_23 : decode cX9_meanRest 23 = .ok (.iload_n 1, 1) := by decide +kernel
theorem dX9_meanRest_24 : decode cX9_meanRest 24 = .ok (.iload 4, 2) := by decide +kernel
theorem dX9_meanRest_26 : decode cX9_meanRest 26 = .ok (.invokevirtual 86, 3) := by decide +kernel
theorem dX9_meanRest_29 : decode cX9_meanRest 29 = .ok (.iconst (-1), 1) := by decide +kernel
theorem dX9_meanRest_30 : decode cX9_meanRest 30 = .ok (.if_icmp .eq 27, 3) := by decide +kernel
theorem dX9_meanRest_33 : decode cX9_meanRest 33 = .ok (.aload_n 0, 1) := by decide +kernel
theorem dX9_meanRest_34 : decode cX9_meanRest 34 = .ok (.iload_n 1, 1) := by decide +kernel
theorem dX9_meanRest_35 : decode cX9_meanRest 35 = .ok (.iload 4, 2) := by decide +kernel
theorem dX9_meanRest_37 : decode cX9_meanRest 37 = .ok (.invokevirtual 90, 3) := by decide +kernel
theorem dX9_meanRest_40 : decode cX9_meanRest 40 = .ok (.iconst (-1), 1) := by decide +kernel
theorem dX9_meanRest_41 : decode cX9_meanRest 41 = .ok (.if_icmp .eq 16, 3) := by decide +kernel
theorem dX9_meanRest_44 : decode cX9_meanRest 44 = .ok (.iload_n 2, 1) := by decide +kernel
theorem dX9_meanRest_45 : decode cX9_meanRest 45 = .ok (.aload_n 0, 1) := by decide +kernel
theorem dX9_meanRest_46 : decode cX9_meanRest 46 = .ok (.iload_n 1, 1) := by decide +kernel
theorem dX9_meanRest_47 : decode cX9_meanRest 47 = .ok (.iload 4, 2) := by decide +kernel
theorem dX9_meanRest_49 : decode cX9_meanRest 49 = .ok (.invokevirtual 93, 3) := by decide +kernel
theorem dX9_meanRest_52 : decode cX9_meanRest 52 = .ok (.iadd, 1) := by decide +kernel
theorem dX9_meanRest_53 : decode cX9_meanRest 53 = .ok (.istore_n 2, 1) := by decide +kernel
theorem dX9_meanRest_54 : decode cX9_meanRest 54 = .ok (.iinc 3 1, 3) := by decide +kernel
theorem dX9_meanRest_57 : decode cX9_meanRest 57 = .ok (.iinc 4 1, 3) := by decide +kernel
theorem dX9_meanRest_60 : decode cX9_meanRest 60 = .ok (.goto (-53), 3) := by decide +kernel
theorem dX9_meanRest_63 : decode cX9_meanRest 63 = .ok (.aload_n 0, 1) := by decide +kernel
theorem dX9_meanRest_64 : decode cX9_meanRest 64 = .ok (.aload_n 0, 1) := by decide +kernel
theorem dX9_meanRest_65 : decode cX9_meanRest 65 = .ok (.iload_n 1, 1) := by decide +kernel
theorem dX9_meanRest_66 : decode cX9_meanRest 66 = .ok (.invokevirtual 135, 3) := by decide +kernel
theorem dX9_meanRest_69 : decode cX9_meanRest 69 = .ok (.ifCond .ne 7, 3) := by decide +kernel
theorem dX9_meanRest_72 : decode cX9_meanRest 72 = .ok (.iconst 1, 1) := by decide +kernel
theorem dX9_meanRest_73 : decode cX9_meanRest 73 = .ok (.goto 12, 3) := by decide +kernel
theorem dX9_meanRest_76 : decode cX9_meanRest 76 = .ok (.iload_n 3, 1) := by decide +kernel
theorem dX9_meanRest_77 : decode cX9_meanRest 77 = .ok (.ifCond .ne 7, 3) := by decide +kernel
theorem dX9_meanRest_80 : decode cX9_meanRest 80 = .ok (.iconst 2, 1) := by decide +kernel
theorem dX9_meanRest_81 : decode cX9_meanRest 81 = .ok (.goto 4, 3) := by decide +kernel
theorem dX9_meanRest_84 : decode cX9_meanRest 84 = .ok (.iconst 0, 1) := by decide +kernel
theorem dX9_meanRest_85 : decode cX9_meanRest 85 = .ok (.invokevirtual 129, 3) := by decide +kernel
theorem dX9_meanRest_88 : decode cX9_meanRest 88 = .ok (.ifCond .eq 11, 3) := by decide +kernel
theorem dX9_meanRest_91 : decode cX9_meanRest 91 = .ok (.iload_n 2, 1) := by decide +kernel
theorem dX9_meanRest_92 : decode cX9_meanRest 92 = .ok (.i2d, 1) := by decide +kernel
theorem dX9_meanRest_93 : decode cX9_meanRest 93 = .ok (.iload_n 3, 1) := by decide +kernel
theorem dX9_meanRest_94 : decode cX9_meanRest 94 = .ok (.i2d, 1) := by decide +kernel
theorem dX9_meanRest_95 : decode cX9_meanRest 95 = .ok (.ddiv, 1) := by decide +kernel
theorem dX9_meanRest_96 : decode cX9_meanRest 96 = .ok (.goto 4, 3) := by decide +kernel
theorem dX9_meanRest_99 : decode cX9_meanRest 99 = .ok (.dconst 0, 1) := by decide +kernel
theorem dX9_meanRest_100 : decode cX9_meanRest 100 = .ok (.dreturn, 1) := by decide +kernel
theorem dX9_isSound_0 : decode cX9_isSound 0 = .ok (.aload_n 0, 1) := by decide +kernel
theorem dX9_isSound_1 : decode cX9_isSound 1 = .ok (.iconst 0, 1) := by decide +kernel
theorem dX9_isSound_2 : decode cX9_isSound 2 = .ok (.putfield 73, 3) := by decide +kernel
theorem dX9_isSound_5 : decode cX9_isSound 5 = .ok (.iconst 1, 1) := by decide +kernel
theorem dX9_isSound_6 : decode cX9_isSound 6 = .ok (.ireturn, 1) := by decide +kernel
theorem dJx00060_init_a7421_0 : decode cJx00060_init_a7421 0 = .ok (.aload_n 0, 1) := by decide +kernel
theorem dJx00060_init_a7421_1 : decode cJx00060_init_a7421 1 = .ok (.aload_n 1, 1) := by decide +kernel
theorem dJx00060_init_a7421_2 : decode cJx00060_init_a7421 2 = .ok (.invokespecial 7, 3) := by decide +kernel
theorem dJx00060_init_a7421_5 : decode cJx00060_init_a7421 5 = .ok (.return_, 1) := by decide +kernel
theorem dJ6_bitCount_0f7a4_0 : decode cJ6_bitCount_0f7a4 0 = .ok (.iload_n 0, 1) := by decide +kernel
theorem dJ6_bitCount_0f7a4_1 : decode cJ6_bitCount_0f7a4 1 = .ok (.iload_n 0, 1) := by decide +kernel
theorem dJ6_bitCount_0f7a4_2 : decode cJ6_bitCount_0f7a4 2 = .ok (.iconst 1, 1) := by decide +kernel
theorem dJ6_bitCount_0f7a4_3 : decode cJ6_bitCount_0f7a4 3 = .ok (.iushr, 1) := by decide +kernel
theorem dJ6_bitCount_0f7a4_4 : decode cJ6_bitCount_0f7a4 4 = .ok (.ldc_w 265, 3) := by decide +kernel
theorem dJ6_bitCount_0f7a4_7 : decode cJ6_bitCount_0f7a4 7 = .ok (.iand, 1) := by decide +kernel
theorem dJ6_bitCount_0f7a4_8 : decode cJ6_bitCount_0f7a4 8 = .ok (.isub, 1) := by decide +kernel
theorem dJ6_bitCount_0f7a4_9 : decode cJ6_bitCount_0f7a4 9 = .ok (.istore_n 0, 1) := by decide +kernel
theorem dJ6_bitCount_0f7a4_10 : decode cJ6_bitCount_0f7a4 10 = .ok (.iload_n 0, 1) := by decide +kernel
theorem dJ6_bitCount_0f7a4_11 : decode cJ6_bitCount_0f7a4 11 = .ok (.ldc_w 266, 3) := by decide +kernel
theorem dJ6_bitCount_0f7a4_14 : decode cJ6_bitCount_0f7a4 14 = .ok (.iand, 1) := by decide +kernel
theorem dJ6_bitCount_0f7a4_15 : decode cJ6_bitCount_0f7a4 15 = .ok (.iload_n 0, 1) := by decide +kernel
theorem dJ6_bitCount_0f7a4_16 : decode cJ6_bitCount_0f7a4 16 = .ok (.iconst 2, 1) := by decide +kernel
theorem dJ6_bitCount_0f7a4_17 : decode cJ6_bitCount_0f7a4 17 = .ok (.iushr, 1) := by decide +kernel
theorem dJ6_bitCount_0f7a4_18 : decode cJ6_bitCount_0f7a4 18 = .ok (.ldc_w 266, 3) := by decide +kernel
theorem dJ6_bitCount_0f7a4_21 : decode cJ6_bitCount_0f7a4 21 = .ok (.iand, 1) := by decide +kernel
theorem dJ6_bitCount_0f7a4_22 : decode cJ6_bitCount_0f7a4 22 = .ok (.iadd, 1) := by decide +kernel
theorem dJ6_bitCount_0f7a4_23 : decode cJ6_bitCount_0f7a4 23 = .ok (.istore_n 0, 1) := by decide +kernel
theorem dJ6_bitCount_0f7a4_24 : decode cJ6_bitCount_0f7a4 24 = .ok (.iload_n 0, 1) := by decide +kernel
theorem dJ6_bitCount_0f7a4_25 : decode cJ6_bitCount_0f7a4 25 = .ok (.iload_n 0, 1) := by decide +kernel
theorem dJ6_bitCount_0f7a4_26 : decode cJ6_bitCount_0f7a4 26 = .ok (.iconst 4, 1) := by decide +kernel
theorem dJ6_bitCount_0f7a4_27 : decode cJ6_bitCount_0f7a4 27 = .ok (.iushr, 1) := by decide +kernel
theorem dJ6_bitCount_0f7a4_28 : decode cJ6_bitCount_0f7a4 28 = .ok (.iadd, 1) := by decide +kernel
theorem dJ6_bitCount_0f7a4_29 : decode cJ6_bitCount_0f7a4 29 = .ok (.ldc_w 267, 3) := by decide +kernel
theorem dJ6_bitCount_0f7a4_32 : decode cJ6_bitCount_0f7a4 32 = .ok (.iand, 1) := by decide +kernel
theorem dJ6_bitCount_0f7a4_33 : decode cJ6_bitCount_0f7a4 33 = .ok (.istore_n 0, 1) := by decide +kernel
theorem dJ6_bitCount_0f7a4_34 : decode cJ6_bitCount_0f7a4 34 = .ok (.iload_n 0, 1) := by decide +kernel
theorem dJ6_bitCount_0f7a4_35 : decode cJ6_bitCount_0f7a4 35 = .ok (.iload_n 0, 1) := by decide +kernel
theorem dJ6_bitCount_0f7a4_36 : decode cJ6_bitCount_0f7a4 36 = .ok (.bipush 8, 2) := by decide +kernel
theorem dJ6_bitCount_0f7a4_38 : decode cJ6_bitCount_0f7a4 38 = .ok (.iushr, 1) := by decide +kernel
theorem dJ6_bitCount_0f7a4_39 : decode cJ6_bitCount_0f7a4 39 = .ok (.iadd, 1) := by decide +kernel
theorem dJ6_bitCount_0f7a4_40 : decode cJ6_bitCount_0f7a4 40 = .ok (.istore_n 0, 1) := by decide +kernel
theorem dJ6_bitCount_0f7a4_41 : decode cJ6_bitCount_0f7a4 41 = .ok (.iload_n 0, 1) := by decide +kernel
theorem dJ6_bitCount_0f7a4_42 : decode cJ6_bitCount_0f7a4 42 = .ok (.iload_n 0, 1) := by decide +kernel
theorem dJ6_bitCount_0f7a4_43 : decode cJ6_bitCount_0f7a4 43 = .ok (.bipush 16, 2) := by decide +kernel
theorem dJ6_bitCount_0f7a4_45 : decode cJ6_bitCount_0f7a4 45 = .ok (.iushr, 1) := by decide +kernel
theorem dJ6_bitCount_0f7a4_46 : decode cJ6_bitCount_0f7a4 46 = .ok (.iadd, 1) := by decide +kernel
theorem dJ6_bitCount_0f7a4_47 : decode cJ6_bitCount_0f7a4 47 = .ok (.istore_n 0, 1) := by decide +kernel
theorem dJ6_bitCount_0f7a4_48 : decode cJ6_bitCount_0f7a4 48 = .ok (.iload_n 0, 1) := by decide +kernel
theorem dJ6_bitCount_0f7a4_49 : decode cJ6_bitCount_0f7a4 49 = .ok (.bipush 63, 2) := by decide +kernel
theorem dJ6_bitCount_0f7a4_51 : decode cJ6_bitCount_0f7a4 51 = .ok (.iand, 1) := by decide +kernel
theorem dJ6_bitCount_0f7a4_52 : decode cJ6_bitCount_0f7a4 52 = .ok (.ireturn, 1) := by decide +kernel
theorem dJ13_bitCount_95d88_0 : decode cJ13_bitCount_95d88 0 = .ok (.lload_n 0, 1) := by decide +kernel
theorem dJ13_bitCount_95d88_1 : decode cJ13_bitCount_95d88 1 = .ok (.lload_n 0, 1) := by decide +kernel
theorem dJ13_bitCount_95d88_2 : decode cJ13_bitCount_95d88 2 = .ok (.iconst 1, 1) := by decide +kernel
theorem dJ13_bitCount_95d88_3 : decode cJ13_bitCount_95d88 3 = .ok (.lushr, 1) := by decide +kernel
theorem dJ13_bitCount_95d88_4 : decode cJ13_bitCount_95d88 4 = .ok (.ldc2_w 314, 3) := by decide +kernel
theorem dJ13_bitCount_95d88_7 : decode cJ13_bitCount_95d88 7 = .ok (.land, 1) := by decide +kernel
theorem dJ13_bitCount_95d88_8 : decode cJ13_bitCount_95d88 8 = .ok (.lsub, 1) := by decide +kernel
theorem dJ13_bitCount_95d88_9 : decode cJ13_bitCount_95d88 9 = .ok (.lstore_n 0, 1) := by decide +kernel
theorem dJ13_bitCount_95d88_10 : decode cJ13_bitCount_95d88 10 = .ok (.lload_n 0, 1) := by decide +kernel
theorem dJ13_bitCount_95d88_11 : decode cJ13_bitCount_95d88 11 = .ok (.ldc2_w 316, 3) := by decide +kernel
theorem dJ13_bitCount_95d88_14 : decode cJ13_bitCount_95d88 14 = .ok (.land, 1) := by decide +kernel
theorem dJ13_bitCount_95d88_15 : decode cJ13_bitCount_95d88 15 = .ok (.lload_n 0, 1) := by decide +kernel
theorem dJ13_bitCount_95d88_16 : decode cJ13_bitCount_95d88 16 = .ok (.iconst 2, 1) := by decide +kernel
theorem dJ13_bitCount_95d88_17 : decode cJ13_bitCount_95d88 17 = .ok (.lushr, 1) := by decide +kernel
theorem dJ13_bitCount_95d88_18 : decode cJ13_bitCount_95d88 18 = .ok (.ldc2_w 316, 3) := by decide +kernel
theorem dJ13_bitCount_95d88_21 : decode cJ13_bitCount_95d88 21 = .ok (.land, 1) := by decide +kernel
theorem dJ13_bitCount_95d88_22 : decode cJ13_bitCount_95d88 22 = .ok (.ladd, 1) := by decide +kernel
theorem dJ13_bitCount_95d88_23 : decode cJ13_bitCount_95d88 23 = .ok (.lstore_n 0, 1) := by decide +kernel
theorem dJ13_bitCount_95d88_24 : decode cJ13_bitCount_95d88 24 = .ok (.lload_n 0, 1) := by decide +kernel
theorem dJ13_bitCount_95d88_25 : decode cJ13_bitCount_95d88 25 = .ok (.lload_n 0, 1) := by decide +kernel
theorem dJ13_bitCount_95d88_26 : decode cJ13_bitCount_95d88 26 = .ok (.iconst 4, 1) := by decide +kernel
theorem dJ13_bitCount_95d88_27 : decode cJ13_bitCount_95d88 27 = .ok (.lushr, 1) := by decide +kernel
theorem dJ13_bitCount_95d88_28 : decode cJ13_bitCount_95d88 28 = .ok (.ladd, 1) := by decide +kernel
theorem dJ13_bitCount_95d88_29 : decode cJ13_bitCount_95d88 29 = .ok (.ldc2_w 318, 3) := by decide +kernel
theorem dJ13_bitCount_95d88_32 : decode cJ13_bitCount_95d88 32 = .ok (.land, 1) := by decide +kernel
theorem dJ13_bitCount_95d88_33 : decode cJ13_bitCount_95d88 33 = .ok (.lstore_n 0, 1) := by decide +kernel
theorem dJ13_bitCount_95d88_34 : decode cJ13_bitCount_95d88 34 = .ok (.lload_n 0, 1) := by decide +kernel
theorem dJ13_bitCount_95d88_35 : decode cJ13_bitCount_95d88 35 = .ok (.lload_n 0, 1) := by decide +kernel
theorem dJ13_bitCount_95d88_36 : decode cJ13_bitCount_95d88 36 = .ok (.bipush 8, 2) := by decide +kernel
theorem dJ13_bitCount_95d88_38 : decode cJ13_bitCount_95d88 38 = .ok (.lushr, 1) := by decide +kernel
theorem dJ13_bitCount_95d88_39 : decode cJ13_bitCount_95d88 39 = .ok (.ladd, 1) := by decide +kernel
theorem dJ13_bitCount_95d88_40 : decode cJ13_bitCount_95d88 40 = .ok (.lstore_n 0, 1) := by decide +kernel
theorem dJ13_bitCount_95d88_41 : decode cJ13_bitCount_95d88 41 = .ok (.lload_n 0, 1) := by decide +kernel
theorem dJ13_bitCount_95d88_42 : decode cJ13_bitCount_95d88 42 = .ok (.lload_n 0, 1) := by decide +kernel
theorem dJ13_bitCount_95d88_43 : decode cJ13_bitCount_95d88 43 = .ok (.bipush 16, 2) := by decide +kernel
theorem dJ13_bitCount_95d88_45 : decode cJ13_bitCount_95d88 45 = .ok (.lushr, 1) := by decide +kernel
theorem dJ13_bitCount_95d88_46 : decode cJ13_bitCount_95d88 46 = .ok (.ladd, 1) := by decide +kernel
theorem dJ13_bitCount_95d88_47 : decode cJ13_bitCount_95d88 47 = .ok (.lstore_n 0, 1) := by decide +kernel
theorem dJ13_bitCount_95d88_48 : decode cJ13_bitCount_95d88 48 = .ok (.lload_n 0, 1) := by decide +kernel
theorem dJ13_bitCount_95d88_49 : decode cJ13_bitCount_95d88 49 = .ok (.lload_n 0, 1) := by decide +kernel
theorem dJ13_bitCount_95d88_50 : decode cJ13_bitCount_95d88 50 = .ok (.bipush 32, 2) := by decide +kernel
theorem dJ13_bitCount_95d88_52 : decode cJ13_bitCount_95d88 52 = .ok (.lushr, 1) := by decide +kernel
theorem dJ13_bitCount_95d88_53 : decode cJ13_bitCount_95d88 53 = .ok (.ladd, 1) := by decide +kernel
theorem dJ13_bitCount_95d88_54 : decode cJ13_bitCount_95d88 54 = .ok (.lstore_n 0, 1) := by decide +kernel
theorem dJ13_bitCount_95d88_55 : decode cJ13_bitCount_95d88 55 = .ok (.lload_n 0, 1) := by decide +kernel
theorem dJ13_bitCount_95d88_56 : decode cJ13_bitCount_95d88 56 = .ok (.l2i, 1) := by decide +kernel
theorem dJ13_bitCount_95d88_57 : decode cJ13_bitCount_95d88 57 = .ok (.bipush 127, 2) := by decide +kernel
theorem dJ13_bitCount_95d88_59 : decode cJ13_bitCount_95d88 59 = .ok (.iand, 1) := by decide +kernel
theorem dJ13_bitCount_95d88_60 : decode cJ13_bitCount_95d88 60 = .ok (.ireturn, 1) := by decide +kernel
theorem dJ9_max_7cf53_0 : decode cJ9_max_7cf53 0 = .ok (.iload_n 0, 1) := by decide +kernel
theorem dJ9_max_7cf53_1 : decode cJ9_max_7cf53 1 = .ok (.iload_n 1, 1) := by decide +kernel
theorem dJ9_max_7cf53_2 : decode cJ9_max_7cf53 2 = .ok (.if_icmp .lt 7, 3) := by decide +kernel
theorem dJ9_max_7cf53_5 : decode cJ9_max_7cf53 5 = .ok (.iload_n 0, 1) := by decide +kernel
theorem dJ9_max_7cf53_6 : decode cJ9_max_7cf53 6 = .ok (.goto 4, 3) := by decide +kernel
theorem dJ9_max_7cf53_9 : decode cJ9_max_7cf53 9 = .ok (.iload_n 1, 1) := by decide +kernel
theorem dJ9_max_7cf53_10 : decode cJ9_max_7cf53 10 = .ok (.ireturn, 1) := by decide +kernel
theorem dJ0_length_8abf5_0 : decode cJ0_length_8abf5 0 = .ok (.aload_n 0, 1) := by decide +kernel
theorem dJ0_length_8abf5_1 : decode cJ0_length_8abf5 1 = .ok (.getfield 9, 3) := by decide +kernel
theorem dJ0_length_8abf5_4 : decode cJ0_length_8abf5 4 = .ok (.arraylength, 1) := by decide +kernel
theorem dJ0_length_8abf5_5 : decode cJ0_length_8abf5 5 = .ok (.aload_n 0, 1) := by decide +kernel
theorem dJ0_length_8abf5_6 : decode cJ0_length_8abf5 6 = .ok (.invokevirtual 335, 3) := by decide +kernel
theorem dJ0_length_8abf5_9 : decode cJ0_length_8abf5 9 = .ok (.ishr, 1) := by decide +kernel
theorem dJ0_length_8abf5_10 : decode cJ0_length_8abf5 10 = .ok (.ireturn, 1) := by decide +kernel
theorem dJ0_charAt_5068e_0 : decode cJ0_charAt_5068e 0 = .ok (.aload_n 0, 1) := by decide +kernel
theorem dJ0_charAt_5068e_1 : decode cJ0_charAt_5068e 1 = .ok (.invokevirtual 492, 3) := by decide +kernel
theorem dJ0_charAt_5068e_4 : decode cJ0_charAt_5068e 4 = .ok (.ifCond .eq 12, 3) := by decide +kernel
theorem dJ0_charAt_5068e_7 : decode cJ0_charAt_5068e 7 = .ok (.aload_n 0, 1) := by decide +kernel
theorem dJ0_charAt_5068e_8 : decode cJ0_charAt_5068e 8 = .ok (.getfield 9, 3) := by decide +kernel
theorem dJ0_charAt_5068e_11 : decode cJ0_charAt_5068e 11 = .ok (.iload_n 1, 1) := by decide +kernel
theorem dJ0_charAt_5068e_12 : decode cJ0_charAt_5068e 12 = .ok (.invokestatic 495, 3) := by decide +kernel
theorem dJ0_charAt_5068e_15 : decode cJ0_charAt_5068e 15 = .ok (.ireturn, 1) := by decide +kernel
theorem dJ0_charAt_5068e_16 : decode cJ0_charAt_5068e 16 = .ok (.aload_n 0, 1) := by decide +kernel
theorem dJ0_charAt_5068e_17 : decode cJ0_charAt_5068e 17 = .ok (.getfield 9, 3) := by decide +kernel
theorem dJ0_charAt_5068e_20 : decode cJ0_charAt_5068e 20 = .ok (.iload_n 1, 1) := by decide +kernel
theorem dJ0_charAt_5068e_21 : decode cJ0_charAt_5068e 21 = .ok (.invokestatic 498, 3) := by decide +kernel
theorem dJ0_charAt_5068e_24 : decode cJ0_charAt_5068e 24 = .ok (.ireturn, 1) := by decide +kernel
theorem dJ0_coder_7d493_0 : decode cJ0_coder_7d493 0 = .ok (.getstatic 38, 3) := by decide +kernel
theorem dJ0_coder_7d493_3 : decode cJ0_coder_7d493 3 = .ok (.ifCond .eq 10, 3) := by decide +kernel
theorem dJ0_coder_7d493_6 : decode cJ0_coder_7d493 6 = .ok (.aload_n 0, 1) := by decide +kernel
theorem dJ0_coder_7d493_7 : decode cJ0_coder_7d493 7 = .ok (.getfield 15, 3) := by decide +kernel
theorem dJ0_coder_7d493_10 : decode cJ0_coder_7d493 10 = .ok (.goto 4, 3) := by decide +kernel
theorem dJ0_coder_7d493_13 : decode cJ0_coder_7d493 13 = .ok (.iconst 1, 1) := by decide +kernel
theorem dJ0_coder_7d493_14 : decode cJ0_coder_7d493 14 = .ok (.ireturn, 1) := by decide +kernel
theorem dJ0_isLatin1_aae02_0 : decode cJ0_isLatin1_aae02 0 = .ok (.getstatic 38, 3) := by decide +kernel
theorem dJ0_isLatin1_aae02_3 : decode cJ0_isLatin1_aae02 3 = .ok (.ifCond .eq 14, 3) := by decide +kernel
theorem dJ0_isLatin1_aae02_6 : decode cJ0_isLatin1_aae02 6 = .ok (.aload_n 0, 1) := by decide +kernel
theorem dJ0_isLatin1_aae02_7 : decode cJ0_isLatin1_aae02 7 = .ok (.getfield 15, 3) := by decide +kernel
theorem dJ0_isLatin1_aae02_10 : decode cJ0_isLatin1_aae02 10 = .ok (.ifCond .ne 7, 3) := by decide +kernel
theorem dJ0_isLatin1_aae02_13 : decode cJ0_isLatin1_aae02 13 = .ok (.iconst 1, 1) := by decide +kernel
theorem dJ0_isLatin1_aae02_14 : decode cJ0_isLatin1_aae02 14 = .ok (.goto 4, 3) := by decide +kernel
theorem dJ0_isLatin1_aae02_17 : decode cJ0_isLatin1_aae02 17 = .ok (.iconst 0, 1) := by decide +kernel
theorem dJ0_isLatin1_aae02_18 : decode cJ0_isLatin1_aae02 18 = .ok (.ireturn, 1) := by decide +kernel
theorem dJ0_checkIndex_df160_0 : decode cJ0_checkIndex_df160 0 = .ok (.iload_n 0, 1) := by decide +kernel
theorem dJ0_checkIndex_df160_1 : decode cJ0_checkIndex_df160 1 = .ok (.iload_n 1, 1) := by decide +kernel
theorem dJ0_checkIndex_df160_2 : decode cJ0_checkIndex_df160 2 = .ok (.getstatic 1053, 3) := by decide +kernel
theorem dJ0_checkIndex_df160_5 : decode cJ0_checkIndex_df160 5 = .ok (.invokestatic 1059, 3) := by decide +kernel
theorem dJ0_checkIndex_df160_8 : decode cJ0_checkIndex_df160 8 = .ok (.pop, 1) := by decide +kernel
theorem dJ0_checkIndex_df160_9 : decode cJ0_checkIndex_df160 9 = .ok (.return_, 1) := by decide +kernel
theorem dJ1_charAt_3b067_0 : decode cJ1_charAt_3b067 0 = .ok (.iload_n 1, 1) := by decide +kernel
theorem dJ1_charAt_3b067_1 : decode cJ1_charAt_3b067 1 = .ok (.aload_n 0, 1) := by decide +kernel
theorem dJ1_charAt_3b067_2 : decode cJ1_charAt_3b067 2 = .ok (.arraylength, 1) := by decide +kernel
theorem dJ1_charAt_3b067_3 : decode cJ1_charAt_3b067 3 = .ok (.invokestatic 9, 3) := by decide +kernel
theorem dJ1_charAt_3b067_6 : decode cJ1_charAt_3b067 6 = .ok (.aload_n 0, 1) := by decide +kernel
theorem dJ1_charAt_3b067_7 : decode cJ1_charAt_3b067 7 = .ok (.iload_n 1, 1) := by decide +kernel
theorem dJ1_charAt_3b067_8 : decode cJ1_charAt_3b067 8 = .ok (.baload, 1) := by decide +kernel
theorem dJ1_charAt_3b067_9 : decode cJ1_charAt_3b067 9 = .ok (.sipush 255, 3) := by decide +kernel
theorem dJ1_charAt_3b067_12 : decode cJ1_charAt_3b067 12 = .ok (.iand, 1) := by decide +kernel
theorem dJ1_charAt_3b067_13 : decode cJ1_charAt_3b067 13 = .ok (.i2c, 1) := by decide +kernel
theorem dJ1_charAt_3b067_14 : decode cJ1_charAt_3b067 14 = .ok (.ireturn, 1) := by decide +kernel
theorem dJ2_getChar_3b067_0 : decode cJ2_getChar_3b067 0 = .ok (.getstatic 44, 3) := by decide +kernel
theorem dJ2_getChar_3b067_3 : decode cJ2_getChar_3b067 3 = .ok (.ifCond .ne 25, 3) := by decide +kernel
theorem dJ2_getChar_3b067_6 : decode cJ2_getChar_3b067 6 = .ok (.iload_n 1, 1) := by decide +kernel
theorem dJ2_getChar_3b067_7 : decode cJ2_getChar_3b067 7 = .ok (.ifCond .lt 11, 3) := by decide +kernel
theorem dJ2_getChar_3b067_10 : decode cJ2_getChar_3b067 10 = .ok (.iload_n 1, 1) := by decide +kernel
theorem dJ2_getChar_3b067_11 : decode cJ2_getChar_3b067 11 = .ok (.aload_n 0, 1) := by decide +kernel
theorem dJ2_getChar_3b067_12 : decode cJ2_getChar_3b067 12 = .ok (.invokestatic 48, 3) := by decide +kernel
theorem dJ2_getChar_3b067_15 : decode cJ2_getChar_3b067 15 = .ok (.if_icmp .lt 13, 3) := by decide +kernel
theorem dJ2_getChar_3b067_18 : decode cJ2_getChar_3b067 18 = .ok (.new 52, 3) := by decide +kernel
theorem dJ2_getChar_3b067_21 : decode cJ2_getChar_3b067 21 = .ok (.dup, 1) := by decide +kernel
theorem dJ2_getChar_3b067_22 : decode cJ2_getChar_3b067 22 = .ok (.ldc 54, 2) := by decide +kernel
theorem dJ2_getChar_3b067_24 : decode cJ2_getChar_3b067 24 = .ok (.invokespecial 56, 3) := by decide +kernel
theorem dJ2_getChar_3b067_27 : decode cJ2_getChar_3b067 27 = .ok (.athrow, 1) := by decide +kernel
theorem dJ2_getChar_3b067_28 : decode cJ2_getChar_3b067 28 = .ok (.iload_n 1, 1) := by decide +kernel
theorem dJ2_getChar_3b067_29 : decode cJ2_getChar_3b067 29 = .ok (.iconst 1, 1) := by decide +kernel
theorem dJ2_getChar_3b067_30 : decode cJ2_getChar_3b067 30 = .ok (.ishl, 1) := by decide +kernel
theorem dJ2_getChar_3b067_31 : decode cJ2_getChar_3b067 31 = .ok (.istore_n 1, 1) := by decide +kernel
theorem dJ2_getChar_3b067_32 : decode cJ2_getChar_3b067 32 = .ok (.aload_n 0, 1) := by decide +kernel
theorem dJ2_getChar_3b067_33 : decode cJ2_getChar_3b067 33 = .ok (.iload_n 1, 1) := by decide +kernel
theorem dJ2_getChar_3b067_34 : decode cJ2_getChar_3b067 34 = .ok (.iinc 1 1, 3) := by decide +kernel
theorem dJ2_getChar_3b067_37 : decode cJ2_getChar_3b067 37 = .ok (.baload, 1) := by decide +kernel
theorem dJ2_getChar_3b067_38 : decode cJ2_getChar_3b067 38 = .ok (.sipush 255, 3) := by decide +kernel
theorem dJ2_getChar_3b067_41 : decode cJ2_getChar_3b067 41 = .ok (.iand, 1) := by decide +kernel
theorem dJ2_getChar_3b067_42 : decode cJ2_getChar_3b067 42 = .ok (.getstatic 59, 3) := by decide +kernel
theorem dJ2_getChar_3b067_45 : decode cJ2_getChar_3b067 45 = .ok (.ishl, 1) := by decide +kernel
theorem dJ2_getChar_3b067_46 : decode cJ2_getChar_3b067 46 = .ok (.aload_n 0, 1) := by decide +kernel
theorem dJ2_getChar_3b067_47 : decode cJ2_getChar_3b067 47 = .ok (.iload_n 1, 1) := by decide +kernel
theorem dJ2_getChar_3b067_48 : decode cJ2_getChar_3b067 48 = .ok (.baload, 1) := by decide +kernel
theorem dJ2_getChar_3b067_49 : decode cJ2_getChar_3b067 49 = .ok (.sipush 255, 3) := by decide +kernel
theorem dJ2_getChar_3b067_52 : decode cJ2_getChar_3b067 52 = .ok (.iand, 1) := by decide +kernel
theorem dJ2_getChar_3b067_53 : decode cJ2_getChar_3b067 53 = .ok (.getstatic 63, 3) := by decide +kernel
theorem dJ2_getChar_3b067_56 : decode cJ2_getChar_3b067 56 = .ok (.ishl, 1) := by decide +kernel
theorem dJ2_getChar_3b067_57 : decode cJ2_getChar_3b067 57 = .ok (.ior, 1) := by decide +kernel
theorem dJ2_getChar_3b067_58 : decode cJ2_getChar_3b067 58 = .ok (.i2c, 1) := by decide +kernel
theorem dJ2_getChar_3b067_59 : decode cJ2_getChar_3b067 59 = .ok (.ireturn, 1) := by decide +kernel
theorem dJ2_length_9d52b_0 : decode cJ2_length_9d52b 0 = .ok (.aload_n 0, 1) := by decide +kernel
theorem dJ2_length_9d52b_1 : decode cJ2_length_9d52b 1 = .ok (.arraylength, 1) := by decide +kernel
theorem dJ2_length_9d52b_2 : decode cJ2_length_9d52b 2 = .ok (.iconst 1, 1) := by decide +kernel
theorem dJ2_length_9d52b_3 : decode cJ2_length_9d52b 3 = .ok (.ishr, 1) := by decide +kernel
theorem dJ2_length_9d52b_4 : decode cJ2_length_9d52b 4 = .ok (.ireturn, 1) := by decide +kernel
theorem dJ2_charAt_3b067_0 : decode cJ2_charAt_3b067 0 = .ok (.iload_n 1, 1) := by decide +kernel
theorem dJ2_charAt_3b067_1 : decode cJ2_charAt_3b067 1 = .ok (.aload_n 0, 1) := by decide +kernel
theorem dJ2_charAt_3b067_2 : decode cJ2_charAt_3b067 2 = .ok (.invokestatic 67, 3) := by decide +kernel
theorem dJ2_charAt_3b067_5 : decode cJ2_charAt_3b067 5 = .ok (.aload_n 0, 1) := by decide +kernel
theorem dJ2_charAt_3b067_6 : decode cJ2_charAt_3b067 6 = .ok (.iload_n 1, 1) := by decide +kernel
theorem dJ2_charAt_3b067_7 : decode cJ2_charAt_3b067 7 = .ok (.invokestatic 71, 3) := by decide +kernel
theorem dJ2_charAt_3b067_10 : decode cJ2_charAt_3b067 10 = .ok (.ireturn, 1) := by decide +kernel
theorem dJ2_checkIndex_2214a_0 : decode cJ2_checkIndex_2214a 0 = .ok (.iload_n 0, 1) := by decide +kernel
theorem dJ2_checkIndex_2214a_1 : decode cJ2_checkIndex_2214a 1 = .ok (.aload_n 1, 1) := by decide +kernel
theorem dJ2_checkIndex_2214a_2 : decode cJ2_checkIndex_2214a 2 = .ok (.invokestatic 48, 3) := by decide +kernel
theorem dJ2_checkIndex_2214a_5 : decode cJ2_checkIndex_2214a 5 = .ok (.invokestatic 414, 3) := by decide +kernel
theorem dJ2_checkIndex_2214a_8 : decode cJ2_checkIndex_2214a 8 = .ok (.return_, 1) := by decide +kernel
theorem dJ3_checkIndex_8e157_0 : decode cJ3_checkIndex_8e157 0 = .ok (.iload_n 0, 1) := by decide +kernel
theorem dJ3_checkIndex_8e157_1 : decode cJ3_checkIndex_8e157 1 = .ok (.ifCond .lt 8, 3) := by decide +kernel
theorem dJ3_checkIndex_8e157_4 : decode cJ3_checkIndex_8e157 4 = .ok (.iload_n 0, 1) := by decide +kernel
theorem dJ3_checkIndex_8e157_5 : decode cJ3_checkIndex_8e157 5 = .ok (.iload_n 1, 1) := by decide +kernel
theorem dJ3_checkIndex_8e157_6 : decode cJ3_checkIndex_8e157 6 = .ok (.if_icmp .lt 10, 3) := by decide +kernel
theorem dJ3_checkIndex_8e157_9 : decode cJ3_checkIndex_8e157 9 = .ok (.aload_n 2, 1) := by decide +kernel
theorem dJ3_checkIndex_8e157_10 : decode cJ3_checkIndex_8e157 10 = .ok (.iload_n 0, 1) := by decide +kernel
theorem dJ3_checkIndex_8e157_11 : decode cJ3_checkIndex_8e157 11 = .ok (.iload_n 1, 1) := by decide +kernel
theorem dJ3_checkIndex_8e157_12 : decode cJ3_checkIndex_8e157 12 = .ok (.invokestatic 95, 3) := by decide +kernel
theorem dJ3_checkIndex_8e157_15 : decode cJ3_checkIndex_8e157 15 = .ok (.athrow, 1) := by decide +kernel
theorem dJ3_checkIndex_8e157_16 : decode cJ3_checkIndex_8e157 16 = .ok (.iload_n 0, 1) := by decide +kernel
theorem dJ3_checkIndex_8e157_17 : decode cJ3_checkIndex_8e157 17 = .ok (.ireturn, 1) := by decide +kernel
theorem dL_addPerson_0 : decode cL_addPerson 0 = .ok (.aload_n 1, 1) := by decide +kernel
theorem dL_addPerson_1 : decode cL_addPerson 1 = .ok (.iconst 0, 1) := by decide +kernel
theorem dL_addPerson_2 : decode cL_addPerson 2 = .ok (.aload_n 0, 1) := by decide +kernel
theorem dL_addPerson_3 : decode cL_addPerson 3 = .ok (.invokevirtual 7, 3) := by decide +kernel
theorem dL_addPerson_6 : decode cL_addPerson 6 = .ok (.i2l, 1) := by decide +kernel
theorem dL_addPerson_7 : decode cL_addPerson 7 = .ok (.lastore, 1) := by decide +kernel
theorem dL_addPerson_8 : decode cL_addPerson 8 = .ok (.goto 6, 3) := by decide +kernel
theorem dL_addPerson_11 : decode cL_addPerson 11 = .ok (.astore_n 2, 1) := by decide +kernel
theorem dL_addPerson_12 : decode cL_addPerson 12 = .ok (.iconst 1, 1) := by decide +kernel
theorem dL_addPerson_13 : decode cL_addPerson 13 = .ok (.ireturn, 1) := by decide +kernel
theorem dL_addPerson_14 : decode cL_addPerson 14 = .ok (.iconst 0, 1) := by decide +kernel
theorem dL_addPerson_15 : decode cL_addPerson 15 = .ok (.ireturn, 1) := by decide +kernel
theorem dL_addShift_0 : decode cL_addShift 0 = .ok (.aload_n 3, 1) := by decide +kernel
theorem dL_addShift_1 : decode cL_addShift 1 = .ok (.iconst 0, 1) := by decide +kernel
theorem dL_addShift_2 : decode cL_addShift 2 = .ok (.aload_n 0, 1) := by decide +kernel
theorem dL_addShift_3 : decode cL_addShift 3 = .ok (.iload_n 1, 1) := by decide +kernel
theorem dL_addShift_4 : decode cL_addShift 4 = .ok (.iload_n 2, 1) := by decide +kernel
theorem dL_addShift_5 : decode cL_addShift 5 = .ok (.invokevirtual 15, 3) := by decide +kernel
theorem dL_addShift_8 : decode cL_addShift 8 = .ok (.i2l, 1) := by decide +kernel
theorem dL_addShift_9 : decode cL_addShift 9 = .ok (.lastore, 1) := by decide +kernel
theorem dL_addShift_10 : decode cL_addShift 10 = .ok (.goto 11, 3) := by decide +kernel
theorem dL_addShift_13 : decode cL_addShift 13 = .ok (.astore 4, 2) := by decide +kernel
theorem dL_addShift_15 : decode cL_addShift 15 = .ok (.iconst 1, 1) := by decide +kernel
theorem dL_addShift_16 : decode cL_addShift 16 = .ok (.ireturn, 1) := by decide +kernel
theorem dL_addShift_17 : decode cL_addShift 17 = .ok (.astore 4, 2) := by decide +kernel
theorem dL_addShift_19 : decode cL_addShift 19 = .ok (.iconst 2, 1) := by decide +kernel
theorem dL_addShift_20 : decode cL_addShift 20 = .ok (.ireturn, 1) := by decide +kernel
theorem dL_addShift_21 : decode cL_addShift 21 = .ok (.iconst 0, 1) := by decide +kernel
theorem dL_addShift_22 : decode cL_addShift 22 = .ok (.ireturn, 1) := by decide +kernel
theorem dL_isNight_0 : decode cL_isNight 0 = .ok (.aload_n 2, 1) := by decide +kernel
theorem dL_isNight_1 : decode cL_isNight 1 = .ok (.iconst 0, 1) := by decide +kernel
theorem dL_isNight_2 : decode cL_isNight 2 = .ok (.aload_n 0, 1) := by decide +kernel
theorem dL_isNight_3 : decode cL_isNight 3 = .ok (.iload_n 1, 1) := by decide +kernel
theorem dL_isNight_4 : decode cL_isNight 4 = .ok (.invokevirtual 21, 3) := by decide +kernel
theorem dL_isNight_7 : decode cL_isNight 7 = .ok (.ifCond .eq 7, 3) := by decide +kernel
theorem dL_isNight_10 : decode cL_isNight 10 = .ok (.lconst 1, 1) := by decide +kernel
theorem dL_isNight_11 : decode cL_isNight 11 = .ok (.goto 4, 3) := by decide +kernel
theorem dL_isNight_14 : decode cL_isNight 14 = .ok (.lconst 0, 1) := by decide +kernel
theorem dL_isNight_15 : decode cL_isNight 15 = .ok (.lastore, 1) := by decide +kernel
theorem dL_isNight_16 : decode cL_isNight 16 = .ok (.goto 6, 3) := by decide +kernel
theorem dL_isNight_19 : decode cL_isNight 19 = .ok (.astore_n 3, 1) := by decide +kernel
theorem dL_isNight_20 : decode cL_isNight 20 = .ok (.iconst 1, 1) := by decide +kernel
theorem dL_isNight_21 : decode cL_isNight 21 = .ok (.ireturn, 1) := by decide +kernel
theorem dL_isNight_22 : decode cL_isNight 22 = .ok (.iconst 0, 1) := by decide +kernel
theorem dL_isNight_23 : decode cL_isNight 23 = .ok (.ireturn, 1) := by decide +kernel
theorem dL_teach_0 : decode cL_teach 0 = .ok (.aload_n 3, 1) := by decide +kernel
theorem dL_teach_1 : decode cL_teach 1 = .ok (.iconst 0, 1) := by decide +kernel
theorem dL_teach_2 : decode cL_teach 2 = .ok (.aload_n 0, 1) := by decide +kernel
theorem dL_teach_3 : decode cL_teach 3 = .ok (.iload_n 1, 1) := by decide +kernel
theorem dL_teach_4 : decode cL_teach 4 = .ok (.iload_n 2, 1) := by decide +kernel
theorem dL_teach_5 : decode cL_teach 5 = .ok (.invokevirtual 27, 3) := by decide +kernel
theorem dL_teach_8 : decode cL_teach 8 = .ok (.ifCond .eq 7, 3) := by decide +kernel
theorem dL_teach_11 : decode cL_teach 11 = .ok (.lconst 1, 1) := by decide +kernel
theorem dL_teach_12 : decode cL_teach 12 = .ok (.goto 4, 3) := by decide +kernel
theorem dL_teach_15 : decode cL_teach 15 = .ok (.lconst 0, 1) := by decide +kernel
theorem dL_teach_16 : decode cL_teach 16 = .ok (.lastore, 1) := by decide +kernel
theorem dL_teach_17 : decode cL_teach 17 = .ok (.goto 11, 3) := by decide +kernel
theorem dL_teach_20 : decode cL_teach 20 = .ok (.astore 4, 2) := by decide +kernel
theorem dL_teach_22 : decode cL_teach 22 = .ok (.iconst 1, 1) := by decide +kernel
theorem dL_teach_23 : decode cL_teach 23 = .ok (.ireturn, 1) := by decide +kernel
theorem dL_teach_24 : decode cL_teach 24 = .ok (.astore 4, 2) := by decide +kernel
theorem dL_teach_26 : decode cL_teach 26 = .ok (.iconst 2, 1) := by decide +kernel
theorem dL_teach_27 : decode cL_teach 27 = .ok (.ireturn, 1) := by decide +kernel
theorem dL_teach_28 : decode cL_teach 28 = .ok (.iconst 0, 1) := by decide +kernel
theorem dL_teach_29 : decode cL_teach 29 = .ok (.ireturn, 1) := by decide +kernel
theorem dL_setRest_0 : decode cL_setRest 0 = .ok (.aload_n 2, 1) := by decide +kernel
theorem dL_setRest_1 : decode cL_setRest 1 = .ok (.iconst 0, 1) := by decide +kernel
theorem dL_setRest_2 : decode cL_setRest 2 = .ok (.aload_n 0, 1) := by decide +kernel
theorem dL_setRest_3 : decode cL_setRest 3 = .ok (.iload_n 1, 1) := by decide +kernel
theorem dL_setRest_4 : decode cL_setRest 4 = .ok (.invokevirtual 33, 3) := by decide +kernel
theorem dL_setRest_7 : decode cL_setRest 7 = .ok (.i2l, 1) := by decide +kernel
theorem dL_setRest_8 : decode cL_setRest 8 = .ok (.lastore, 1) := by decide +kernel
theorem dL_setRest_9 : decode cL_setRest 9 = .ok (.goto 6, 3) := by decide +kernel
theorem dL_setRest_12 : decode cL_setRest 12 = .ok (.astore_n 3, 1) := by decide +kernel
theorem dL_setRest_13 : decode cL_setRest 13 = .ok (.iconst 1, 1) := by decide +kernel
theorem dL_setRest_14 : decode cL_setRest 14 = .ok (.ireturn, 1) := by decide +kernel
theorem dL_setRest_15 : decode cL_setRest 15 = .ok (.iconst 0, 1) := by decide +kernel
theorem dL_setRest_16 : decode cL_setRest 16 = .ok (.ireturn, 1) := by decide +kernel
theorem dL_setNights_0 : decode cL_setNights 0 = .ok (.aload_n 2, 1) := by decide +kernel
theorem dL_setNights_1 : decode cL_setNights 1 = .ok (.iconst 0, 1) := by decide +kernel
theorem dL_setNights_2 : decode cL_setNights 2 = .ok (.aload_n 0, 1) := by decide +kernel
theorem dL_setNights_3 : decode cL_setNights 3 = .ok (.iload_n 1, 1) := by decide +kernel
theorem dL_setNights_4 : decode cL_setNights 4 = .ok (.invokevirtual 37, 3) := by decide +kernel
theorem dL_setNights_7 : decode cL_setNights 7 = .ok (.i2l, 1) := by decide +kernel
theorem dL_setNights_8 : decode cL_setNights 8 = .ok (.lastore, 1) := by decide +kernel
theorem dL_setNights_9 : decode cL_setNights 9 = .ok (.goto 6, 3) := by decide +kernel
theorem dL_setNights_12 : decode cL_setNights 12 = .ok (.astore_n 3, 1) := by decide +kernel
theorem dL_setNights_13 : decode cL_setNights 13 = .ok (.iconst 1, 1) := by decide +kernel
theorem dL_setNights_14 : decode cL_setNights 14 = .ok (.ireturn, 1) := by decide +kernel
theorem dL_setNights_15 : decode cL_setNights 15 = .ok (.iconst 0, 1) := by decide +kernel
theorem dL_setNights_16 : decode cL_setNights 16 = .ok (.ireturn, 1) := by decide +kernel
theorem dL_setRun_0 : decode cL_setRun 0 = .ok (.aload_n 2, 1) := by decide +kernel
theorem dL_setRun_1 : decode cL_setRun 1 = .ok (.iconst 0, 1) := by decide +kernel
theorem dL_setRun_2 : decode cL_setRun 2 = .ok (.aload_n 0, 1) := by decide +kernel
theorem dL_setRun_3 : decode cL_setRun 3 = .ok (.iload_n 1, 1) := by decide +kernel
theorem dL_setRun_4 : decode cL_setRun 4 = .ok (.invokevirtual 40, 3) := by decide +kernel
theorem dL_setRun_7 : decode cL_setRun 7 = .ok (.i2l, 1) := by decide +kernel
theorem dL_setRun_8 : decode cL_setRun 8 = .ok (.lastore, 1) := by decide +kernel
theorem dL_setRun_9 : decode cL_setRun 9 = .ok (.goto 6, 3) := by decide +kernel
theorem dL_setRun_12 : decode cL_setRun 12 = .ok (.astore_n 3, 1) := by decide +kernel
theorem dL_setRun_13 : decode cL_setRun 13 = .ok (.iconst 1, 1) := by decide +kernel
theorem dL_setRun_14 : decode cL_setRun 14 = .ok (.ireturn, 1) := by decide +kernel
theorem dL_setRun_15 : decode cL_setRun 15 = .ok (.iconst 0, 1) := by decide +kernel
theorem dL_setRun_16 : decode cL_setRun 16 = .ok (.ireturn, 1) := by decide +kernel
theorem dL_setHours_0 : decode cL_setHours 0 = .ok (.aload_n 3, 1) := by decide +kernel
theorem dL_setHours_1 : decode cL_setHours 1 = .ok (.iconst 0, 1) := by decide +kernel
theorem dL_setHours_2 : decode cL_setHours 2 = .ok (.aload_n 0, 1) := by decide +kernel
theorem dL_setHours_3 : decode cL_setHours 3 = .ok (.iload_n 1, 1) := by decide +kernel
theorem dL_setHours_4 : decode cL_setHours 4 = .ok (.iload_n 2, 1) := by decide +kernel
theorem dL_setHours_5 : decode cL_setHours 5 = .ok (.invokevirtual 43, 3) := by decide +kernel
theorem dL_setHours_8 : decode cL_setHours 8 = .ok (.i2l, 1) := by decide +kernel
theorem dL_setHours_9 : decode cL_setHours 9 = .ok (.lastore, 1) := by decide +kernel
theorem dL_setHours_10 : decode cL_setHours 10 = .ok (.goto 7, 3) := by decide +kernel
theorem dL_setHours_13 : decode cL_setHours 13 = .ok (.astore 4, 2) := by decide +kernel
theorem dL_setHours_15 : decode cL_setHours 15 = .ok (.iconst 1, 1) := by decide +kernel
theorem dL_setHours_16 : decode cL_setHours 16 = .ok (.ireturn, 1) := by decide +kernel
theorem dL_setHours_17 : decode cL_setHours 17 = .ok (.iconst 0, 1) := by decide +kernel
theorem dL_setHours_18 : decode cL_setHours 18 = .ok (.ireturn, 1) := by decide +kernel
theorem dL_setDemand_0 : decode cL_setDemand 0 = .ok (.aload 4, 2) := by decide +kernel
theorem dL_setDemand_2 : decode cL_setDemand 2 = .ok (.iconst 0, 1) := by decide +kernel
theorem dL_setDemand_3 : decode cL_setDemand 3 = .ok (.aload_n 0, 1) := by decide +kernel
theorem dL_setDemand_4 : decode cL_setDemand 4 = .ok (.iload_n 1, 1) := by decide +kernel
theorem dL_setDemand_5 : decode cL_setDemand 5 = .ok (.iload_n 2, 1) := by decide +kernel
theorem dL_setDemand_6 : decode cL_setDemand 6 = .ok (.iload_n 3, 1) := by decide +kernel
theorem dL_setDemand_7 : decode cL_setDemand 7 = .ok (.invokevirtual 46, 3) := by decide +kernel
theorem dL_setDemand_10 : decode cL_setDemand 10 = .ok (.i2l, 1) := by decide +kernel
theorem dL_setDemand_11 : decode cL_setDemand 11 = .ok (.lastore, 1) := by decide +kernel
theorem dL_setDemand_12 : decode cL_setDemand 12 = .ok (.goto 15, 3) := by decide +kernel
theorem dL_setDemand_15 : decode cL_setDemand 15 = .ok (.astore 5, 2) := by decide +kernel
theorem dL_setDemand_17 : decode cL_setDemand 17 = .ok (.iconst 1, 1) := by decide +kernel
theorem dL_setDemand_18 : decode cL_setDemand 18 = .ok (.ireturn, 1) := by decide +kernel
theorem dL_setDemand_19 : decode cL_setDemand 19 = .ok (.astore 5, 2) := by decide +kernel
theorem dL_setDemand_21 : decode cL_setDemand 21 = .ok (.iconst 2, 1) := by decide +kernel
theorem dL_setDemand_22 : decode cL_setDemand 22 = .ok (.ireturn, 1) := by decide +kernel
theorem dL_setDemand_23 : decode cL_setDemand 23 = .ok (.astore 5, 2) := by decide +kernel
theorem dL_setDemand_25 : decode cL_setDemand 25 = .ok (.iconst 3, 1) := by decide +kernel
theorem dL_setDemand_26 : decode cL_setDemand 26 = .ok (.ireturn, 1) := by decide +kernel
theorem dL_setDemand_27 : decode cL_setDemand 27 = .ok (.iconst 0, 1) := by decide +kernel
theorem dL_setDemand_28 : decode cL_setDemand 28 = .ok (.ireturn, 1) := by decide +kernel
theorem dL_assign_0 : decode cL_assign 0 = .ok (.aload 4, 2) := by decide +kernel
theorem dL_assign_2 : decode cL_assign 2 = .ok (.iconst 0, 1) := by decide +kernel
theorem dL_assign_3 : decode cL_assign 3 = .ok (.aload_n 0, 1) := by decide +kernel
theorem dL_assign_4 : decode cL_assign 4 = .ok (.iload_n 1, 1) := by decide +kernel
theorem dL_assign_5 : decode cL_assign 5 = .ok (.iload_n 2, 1) := by decide +kernel
theorem dL_assign_6 : decode cL_assign 6 = .ok (.iload_n 3, 1) := by decide +kernel
theorem dL_assign_7 : decode cL_assign 7 = .ok (.invokevirtual 50, 3) := by decide +kernel
theorem dL_assign_10 : decode cL_assign 10 = .ok (.i2l, 1) := by decide +kernel
theorem dL_assign_11 : decode cL_assign 11 = .ok (.lastore, 1) := by decide +kernel
theorem dL_assign_12 : decode cL_assign 12 = .ok (.goto 11, 3) := by decide +kernel
theorem dL_assign_15 : decode cL_assign 15 = .ok (.astore 5, 2) := by decide +kernel
theorem dL_assign_17 : decode cL_assign 17 = .ok (.iconst 1, 1) := by decide +kernel
theorem dL_assign_18 : decode cL_assign 18 = .ok (.ireturn, 1) := by decide +kernel
theorem dL_assign_19 : decode cL_assign 19 = .ok (.astore 5, 2) := by decide +kernel
theorem dL_assign_21 : decode cL_assign 21 = .ok (.iconst 2, 1) := by decide +kernel
theorem dL_assign_22 : decode cL_assign 22 = .ok (.ireturn, 1) := by decide +kernel
theorem dL_assign_23 : decode cL_assign 23 = .ok (.iconst 0, 1) := by decide +kernel
theorem dL_assign_24 : decode cL_assign 24 = .ok (.ireturn, 1) := by decide +kernel
theorem dL_free_0 : decode cL_free 0 = .ok (.aload_n 3, 1) := by decide +kernel
theorem dL_free_1 : decode cL_free 1 = .ok (.iconst 0, 1) := by decide +kernel
theorem dL_free_2 : decode cL_free 2 = .ok (.aload_n 0, 1) := by decide +kernel
theorem dL_free_3 : decode cL_free 3 = .ok (.iload_n 1, 1) := by decide +kernel
theorem dL_free_4 : decode cL_free 4 = .ok (.iload_n 2, 1) := by decide +kernel
theorem dL_free_5 : decode cL_free 5 = .ok (.invokevirtual 53, 3) := by decide +kernel
theorem dL_free_8 : decode cL_free 8 = .ok (.i2l, 1) := by decide +kernel
theorem dL_free_9 : decode cL_free 9 = .ok (.lastore, 1) := by decide +kernel
theorem dL_free_10 : decode cL_free 10 = .ok (.goto 11, 3) := by decide +kernel
theorem dL_free_13 : decode cL_free 13 = .ok (.astore 4, 2) := by decide +kernel
theorem dL_free_15 : decode cL_free 15 = .ok (.iconst 1, 1) := by decide +kernel
theorem dL_free_16 : decode cL_free 16 = .ok (.ireturn, 1) := by decide +kernel
theorem dL_free_17 : decode cL_free 17 = .ok (.astore 4, 2) := by decide +kernel
theorem dL_free_19 : decode cL_free 19 = .ok (.iconst 2, 1) := by decide +kernel
theorem dL_free_20 : decode cL_free 20 = .ok (.ireturn, 1) := by decide +kernel
theorem dL_free_21 : decode cL_free 21 = .ok (.iconst 0, 1) := by decide +kernel
theorem dL_free_22 : decode cL_free 22 = .ok (.ireturn, 1) := by decide +kernel
theorem dL_setAbsent_0 : decode cL_setAbsent 0 = .ok (.aload 4, 2) := by decide +kernel
theorem dL_setAbsent_2 : decode cL_setAbsent 2 = .ok (.iconst 0, 1) := by decide +kernel
theorem dL_setAbsent_3 : decode cL_setAbsent 3 = .ok (.aload_n 0, 1) := by decide +kernel
theorem dL_setAbsent_4 : decode cL_setAbsent 4 = .ok (.iload_n 1, 1) := by decide +kernel
theorem dL_setAbsent_5 : decode cL_setAbsent 5 = .ok (.iload_n 2, 1) := by decide +kernel
theorem dL_setAbsent_6 : decode cL_setAbsent 6 = .ok (.iload_n 3, 1) := by decide +kernel
theorem dL_setAbsent_7 : decode cL_setAbsent 7 = .ok (.invokevirtual 56, 3) := by decide +kernel
theorem dL_setAbsent_10 : decode cL_setAbsent 10 = .ok (.ifCond .eq 7, 3) := by decide +kernel
theorem dL_setAbsent_13 : decode cL_setAbsent 13 = .ok (.lconst 1, 1) := by decide +kernel
theorem dL_setAbsent_14 : decode cL_setAbsent 14 = .ok (.goto 4, 3) := by decide +kernel
theorem dL_setAbsent_17 : decode cL_setAbsent 17 = .ok (.lconst 0, 1) := by decide +kernel
theorem dL_setAbsent_18 : decode cL_setAbsent 18 = .ok (.lastore, 1) := by decide +kernel
theorem dL_setAbsent_19 : decode cL_setAbsent 19 = .ok (.goto 7, 3) := by decide +kernel
theorem dL_setAbsent_22 : decode cL_setAbsent 22 = .ok (.astore 5, 2) := by decide +kernel
theorem dL_setAbsent_24 : decode cL_setAbsent 24 = .ok (.iconst 1, 1) := by decide +kernel
theorem dL_setAbsent_25 : decode cL_setAbsent 25 = .ok (.ireturn, 1) := by decide +kernel
theorem dL_setAbsent_26 : decode cL_setAbsent 26 = .ok (.iconst 0, 1) := by decide +kernel
theorem dL_setAbsent_27 : decode cL_setAbsent 27 = .ok (.ireturn, 1) := by decide +kernel
theorem dL_shiftOf_0 : decode cL_shiftOf 0 = .ok (.aload_n 3, 1) := by decide +kernel
theorem dL_shiftOf_1 : decode cL_shiftOf 1 = .ok (.iconst 0, 1) := by decide +kernel
theorem dL_shiftOf_2 : decode cL_shiftOf 2 = .ok (.aload_n 0, 1) := by decide +kernel
theorem dL_shiftOf_3 : decode cL_shiftOf 3 = .ok (.iload_n 1, 1) := by decide +kernel
theorem dL_shiftOf_4 : decode cL_shiftOf 4 = .ok (.iload_n 2, 1) := by decide +kernel
theorem dL_shiftOf_5 : decode cL_shiftOf 5 = .ok (.invokevirtual 60, 3) := by decide +kernel
theorem dL_shiftOf_8 : decode cL_shiftOf 8 = .ok (.i2l, 1) := by decide +kernel
theorem dL_shiftOf_9 : decode cL_shiftOf 9 = .ok (.lastore, 1) := by decide +kernel
theorem dL_shiftOf_10 : decode cL_shiftOf 10 = .ok (.goto 7, 3) := by decide +kernel
theorem dL_shiftOf_13 : decode cL_shiftOf 13 = .ok (.astore 4, 2) := by decide +kernel
theorem dL_shiftOf_15 : decode cL_shiftOf 15 = .ok (.iconst 1, 1) := by decide +kernel
theorem dL_shiftOf_16 : decode cL_shiftOf 16 = .ok (.ireturn, 1) := by decide +kernel
theorem dL_shiftOf_17 : decode cL_shiftOf 17 = .ok (.iconst 0, 1) := by decide +kernel
theorem dL_shiftOf_18 : decode cL_shiftOf 18 = .ok (.ireturn, 1) := by decide +kernel
theorem dL_restBefore_0 : decode cL_restBefore 0 = .ok (.aload_n 3, 1) := by decide +kernel
theorem dL_restBefore_1 : decode cL_restBefore 1 = .ok (.iconst 0, 1) := by decide +kernel
theorem dL_restBefore_2 : decode cL_restBefore 2 = .ok (.aload_n 0, 1) := by decide +kernel
theorem dL_restBefore_3 : decode cL_restBefore 3 = .ok (.iload_n 1, 1) := by decide +kernel
theorem dL_restBefore_4 : decode cL_restBefore 4 = .ok (.iload_n 2, 1) := by decide +kernel
theorem dL_restBefore_5 : decode cL_restBefore 5 = .ok (.invokevirtual 63, 3) := by decide +kernel
theorem dL_restBefore_8 : decode cL_restBefore 8 = .ok (.i2l, 1) := by decide +kernel
theorem dL_restBefore_9 : decode cL_restBefore 9 = .ok (.lastore, 1) := by decide +kernel
theorem dL_restBefore_10 : decode cL_restBefore 10 = .ok (.goto 11, 3) := by decide +kernel
theorem dL_restBefore_13 : decode cL_restBefore 13 = .ok (.astore 4, 2) := by decide +kernel
theorem dL_restBefore_15 : decode cL_restBefore 15 = .ok (.iconst 1, 1) := by decide +kernel
theorem dL_restBefore_16 : decode cL_restBefore 16 = .ok (.ireturn, 1) := by decide +kernel
theorem dL_restBefore_17 : decode cL_restBefore 17 = .ok (.astore 4, 2) := by decide +kernel
theorem dL_restBefore_19 : decode cL_restBefore 19 = .ok (.iconst 2, 1) := by decide +kernel
theorem dL_restBefore_20 : decode cL_restBefore 20 = .ok (.ireturn, 1) := by decide +kernel
theorem dL_restBefore_21 : decode cL_restBefore 21 = .ok (.iconst 0, 1) := by decide +kernel
theorem dL_restBefore_22 : decode cL_restBefore 22 = .ok (.ireturn, 1) := by decide +kernel
theorem dL_longestNights_0 : decode cL_longestNights 0 = .ok (.aload_n 2, 1) := by decide +kernel
theorem dL_longestNights_1 : decode cL_longestNights 1 = .ok (.iconst 0, 1) := by decide +kernel
theorem dL_longestNights_2 : decode cL_longestNights 2 = .ok (.aload_n 0, 1) := by decide +kernel
theorem dL_longestNights_3 : decode cL_longestNights 3 = .ok (.iload_n 1, 1) := by decide +kernel
theorem dL_longestNights_4 : decode cL_longestNights 4 = .ok (.invokevirtual 66, 3) := by decide +kernel
theorem dL_longestNights_7 : decode cL_longestNights 7 = .ok (.i2l, 1) := by decide +kernel
theorem dL_longestNights_8 : decode cL_longestNights 8 = .ok (.lastore, 1) := by decide +kernel
theorem dL_longestNights_9 : decode cL_longestNights 9 = .ok (.goto 6, 3) := by decide +kernel
theorem dL_longestNights_12 : decode cL_longestNights 12 = .ok (.astore_n 3, 1) := by decide +kernel
theorem dL_longestNights_13 : decode cL_longestNights 13 = .ok (.iconst 1, 1) := by decide +kernel
theorem dL_longestNights_14 : decode cL_longestNights 14 = .ok (.ireturn, 1) := by decide +kernel
theorem dL_longestNights_15 : decode cL_longestNights 15 = .ok (.iconst 0, 1) := by decide +kernel
theorem dL_longestNights_16 : decode cL_longestNights 16 = .ok (.ireturn, 1) := by decide +kernel
theorem dL_longestByRows_0 : decode cL_longestByRows 0 = .ok (.aload_n 2, 1) := by decide +kernel
theorem dL_longestByRows_1 : decode cL_longestByRows 1 = .ok (.iconst 0, 1) := by decide +kernel
theorem dL_longestByRows_2 : decode cL_longestByRows 2 = .ok (.aload_n 0, 1) := by decide +kernel
theorem dL_longestByRows_3 : decode cL_longestByRows 3 = .ok (.iload_n 1, 1) := by decide +kernel
theorem dL_longestByRows_4 : decode cL_longestByRows 4 = .ok (.invokevirtual 69, 3) := by decide +kernel
theorem dL_longestByRows_7 : decode cL_longestByRows 7 = .ok (.i2l, 1) := by decide +kernel
theorem dL_longestByRows_8 : decode cL_longestByRows 8 = .ok (.lastore, 1) := by decide +kernel
theorem dL_longestByRows_9 : decode cL_longestByRows 9 = .ok (.goto 6, 3) := by decide +kernel
theorem dL_longestByRows_12 : decode cL_longestByRows 12 = .ok (.astore_n 3, 1) := by decide +kernel
theorem dL_longestByRows_13 : decode cL_longestByRows 13 = .ok (.iconst 1, 1) := by decide +kernel
theorem dL_longestByRows_14 : decode cL_longestByRows 14 = .ok (.ireturn, 1) := by decide +kernel
theorem dL_longestByRows_15 : decode cL_longestByRows 15 = .ok (.iconst 0, 1) := by decide +kernel
theorem dL_longestByRows_16 : decode cL_longestByRows 16 = .ok (.ireturn, 1) := by decide +kernel
theorem dL_peak_0 : decode cL_peak 0 = .ok (.aload_n 2, 1) := by decide +kernel
theorem dL_peak_1 : decode cL_peak 1 = .ok (.iconst 0, 1) := by decide +kernel
theorem dL_peak_2 : decode cL_peak 2 = .ok (.aload_n 0, 1) := by decide +kernel
theorem dL_peak_3 : decode cL_peak 3 = .ok (.iload_n 1, 1) := by decide +kernel
theorem dL_peak_4 : decode cL_peak 4 = .ok (.invokevirtual 72, 3) := by decide +kernel
theorem dL_peak_7 : decode cL_peak 7 = .ok (.i2l, 1) := by decide +kernel
theorem dL_peak_8 : decode cL_peak 8 = .ok (.lastore, 1) := by decide +kernel
theorem dL_peak_9 : decode cL_peak 9 = .ok (.goto 6, 3) := by decide +kernel
theorem dL_peak_12 : decode cL_peak 12 = .ok (.astore_n 3, 1) := by decide +kernel
theorem dL_peak_13 : decode cL_peak 13 = .ok (.iconst 1, 1) := by decide +kernel
theorem dL_peak_14 : decode cL_peak 14 = .ok (.ireturn, 1) := by decide +kernel
theorem dL_peak_15 : decode cL_peak 15 = .ok (.iconst 0, 1) := by decide +kernel
theorem dL_peak_16 : decode cL_peak 16 = .ok (.ireturn, 1) := by decide +kernel
theorem dL_peakByAdding_0 : decode cL_peakByAdding 0 = .ok (.aload_n 2, 1) := by decide +kernel
theorem dL_peakByAdding_1 : decode cL_peakByAdding 1 = .ok (.iconst 0, 1) := by decide +kernel
theorem dL_peakByAdding_2 : decode cL_peakByAdding 2 = .ok (.aload_n 0, 1) := by decide +kernel
theorem dL_peakByAdding_3 : decode cL_peakByAdding 3 = .ok (.iload_n 1, 1) := by decide +kernel
theorem dL_peakByAdding_4 : decode cL_peakByAdding 4 = .ok (.invokevirtual 75, 3) := by decide +kernel
theorem dL_peakByAdding_7 : decode cL_peakByAdding 7 = .ok (.i2l, 1) := by decide +kernel
theorem dL_peakByAdding_8 : decode cL_peakByAdding 8 = .ok (.lastore, 1) := by decide +kernel
theorem dL_peakByAdding_9 : decode cL_peakByAdding 9 = .ok (.goto 6, 3) := by decide +kernel
theorem dL_peakByAdding_12 : decode cL_peakByAdding 12 = .ok (.astore_n 3, 1) := by decide +kernel
theorem dL_peakByAdding_13 : decode cL_peakByAdding 13 = .ok (.iconst 1, 1) := by decide +kernel
theorem dL_peakByAdding_14 : decode cL_peakByAdding 14 = .ok (.ireturn, 1) := by decide +kernel
theorem dL_peakByAdding_15 : decode cL_peakByAdding 15 = .ok (.iconst 0, 1) := by decide +kernel
theorem dL_peakByAdding_16 : decode cL_peakByAdding 16 = .ok (.ireturn, 1) := by decide +kernel
theorem dL_breachKind_0 : decode cL_breachKind 0 = .ok (.aload_n 2, 1) := by decide +kernel
theorem dL_breachKind_1 : decode cL_breachKind 1 = .ok (.iconst 0, 1) := by decide +kernel
theorem dL_breachKind_2 : decode cL_breachKind 2 = .ok (.aload_n 0, 1) := by decide +kernel
theorem dL_breachKind_3 : decode cL_breachKind 3 = .ok (.iload_n 1, 1) := by decide +kernel
theorem dL_breachKind_4 : decode cL_breachKind 4 = .ok (.invokevirtual 78, 3) := by decide +kernel
theorem dL_breachKind_7 : decode cL_breachKind 7 = .ok (.i2l, 1) := by decide +kernel
theorem dL_breachKind_8 : decode cL_breachKind 8 = .ok (.lastore, 1) := by decide +kernel
theorem dL_breachKind_9 : decode cL_breachKind 9 = .ok (.goto 6, 3) := by decide +kernel
theorem dL_breachKind_12 : decode cL_breachKind 12 = .ok (.astore_n 3, 1) := by decide +kernel
theorem dL_breachKind_13 : decode cL_breachKind 13 = .ok (.iconst 1, 1) := by decide +kernel
theorem dL_breachKind_14 : decode cL_breachKind 14 = .ok (.ireturn, 1) := by decide +kernel
theorem dL_breachKind_15 : decode cL_breachKind 15 = .ok (.iconst 0, 1) := by decide +kernel
theorem dL_breachKind_16 : decode cL_breachKind 16 = .ok (.ireturn, 1) := by decide +kernel
theorem dL_breachPerson_0 : decode cL_breachPerson 0 = .ok (.aload_n 2, 1) := by decide +kernel
theorem dL_breachPerson_1 : decode cL_breachPerson 1 = .ok (.iconst 0, 1) := by decide +kernel
theorem dL_breachPerson_2 : decode cL_breachPerson 2 = .ok (.aload_n 0, 1) := by decide +kernel
theorem dL_breachPerson_3 : decode cL_breachPerson 3 = .ok (.iload_n 1, 1) := by decide +kernel
theorem dL_breachPerson_4 : decode cL_breachPerson 4 = .ok (.invokevirtual 82, 3) := by decide +kernel
theorem dL_breachPerson_7 : decode cL_breachPerson 7 = .ok (.i2l, 1) := by decide +kernel
theorem dL_breachPerson_8 : decode cL_breachPerson 8 = .ok (.lastore, 1) := by decide +kernel
theorem dL_breachPerson_9 : decode cL_breachPerson 9 = .ok (.goto 6, 3) := by decide +kernel
theorem dL_breachPerson_12 : decode cL_breachPerson 12 = .ok (.astore_n 3, 1) := by decide +kernel
theorem dL_breachPerson_13 : decode cL_breachPerson 13 = .ok (.iconst 1, 1) := by decide +kernel
theorem dL_breachPerson_14 : decode cL_breachPerson 14 = .ok (.ireturn, 1) := by decide +kernel
theorem dL_breachPerson_15 : decode cL_breachPerson 15 = .ok (.iconst 0, 1) := by decide +kernel
theorem dL_breachPerson_16 : decode cL_breachPerson 16 = .ok (.ireturn, 1) := by decide +kernel
theorem dL_breachDay_0 : decode cL_breachDay 0 = .ok (.aload_n 2, 1) := by decide +kernel
theorem dL_breachDay_1 : decode cL_breachDay 1 = .ok (.iconst 0, 1) := by decide +kernel
theorem dL_breachDay_2 : decode cL_breachDay 2 = .ok (.aload_n 0, 1) := by decide +kernel
theorem dL_breachDay_3 : decode cL_breachDay 3 = .ok (.iload_n 1, 1) := by decide +kernel
theorem dL_breachDay_4 : decode cL_breachDay 4 = .ok (.invokevirtual 85, 3) := by decide +kernel
theorem dL_breachDay_7 : decode cL_breachDay 7 = .ok (.i2l, 1) := by decide +kernel
theorem dL_breachDay_8 : decode cL_breachDay 8 = .ok (.lastore, 1) := by decide +kernel
theorem dL_breachDay_9 : decode cL_breachDay 9 = .ok (.goto 6, 3) := by decide +kernel
theorem dL_breachDay_12 : decode cL_breachDay 12 = .ok (.astore_n 3, 1) := by decide +kernel
theorem dL_breachDay_13 : decode cL_breachDay 13 = .ok (.iconst 1, 1) := by decide +kernel
theorem dL_breachDay_14 : decode cL_breachDay 14 = .ok (.ireturn, 1) := by decide +kernel
theorem dL_breachDay_15 : decode cL_breachDay 15 = .ok (.iconst 0, 1) := by decide +kernel
theorem dL_breachDay_16 : decode cL_breachDay 16 = .ok (.ireturn, 1) := by decide +kernel
theorem dL_breachShift_0 : decode cL_breachShift 0 = .ok (.aload_n 2, 1) := by decide +kernel
theorem dL_breachShift_1 : decode cL_breachShift 1 = .ok (.iconst 0, 1) := by decide +kernel
theorem dL_breachShift_2 : decode cL_breachShift 2 = .ok (.aload_n 0, 1) := by decide +kernel
theorem dL_breachShift_3 : decode cL_breachShift 3 = .ok (.iload_n 1, 1) := by decide +kernel
theorem dL_breachShift_4 : decode cL_breachShift 4 = .ok (.invokevirtual 88, 3) := by decide +kernel
theorem dL_breachShift_7 : decode cL_breachShift 7 = .ok (.i2l, 1) := by decide +kernel
theorem dL_breachShift_8 : decode cL_breachShift 8 = .ok (.lastore, 1) := by decide +kernel
theorem dL_breachShift_9 : decode cL_breachShift 9 = .ok (.goto 6, 3) := by decide +kernel
theorem dL_breachShift_12 : decode cL_breachShift 12 = .ok (.astore_n 3, 1) := by decide +kernel
theorem dL_breachShift_13 : decode cL_breachShift 13 = .ok (.iconst 1, 1) := by decide +kernel
theorem dL_breachShift_14 : decode cL_breachShift 14 = .ok (.ireturn, 1) := by decide +kernel
theorem dL_breachShift_15 : decode cL_breachShift 15 = .ok (.iconst 0, 1) := by decide +kernel
theorem dL_breachShift_16 : decode cL_breachShift 16 = .ok (.ireturn, 1) := by decide +kernel
theorem dL_mostBreaches_0 : decode cL_mostBreaches 0 = .ok (.aload_n 1, 1) := by decide +kernel
theorem dL_mostBreaches_1 : decode cL_mostBreaches 1 = .ok (.iconst 0, 1) := by decide +kernel
theorem dL_mostBreaches_2 : decode cL_mostBreaches 2 = .ok (.aload_n 0, 1) := by decide +kernel
theorem dL_mostBreaches_3 : decode cL_mostBreaches 3 = .ok (.invokevirtual 91, 3) := by decide +kernel
theorem dL_mostBreaches_6 : decode cL_mostBreaches 6 = .ok (.i2l, 1) := by decide +kernel
theorem dL_mostBreaches_7 : decode cL_mostBreaches 7 = .ok (.lastore, 1) := by decide +kernel
theorem dL_mostBreaches_8 : decode cL_mostBreaches 8 = .ok (.goto 6, 3) := by decide +kernel
theorem dL_mostBreaches_11 : decode cL_mostBreaches 11 = .ok (.astore_n 2, 1) := by decide +kernel
theorem dL_mostBreaches_12 : decode cL_mostBreaches 12 = .ok (.iconst 1, 1) := by decide +kernel
theorem dL_mostBreaches_13 : decode cL_mostBreaches 13 = .ok (.ireturn, 1) := by decide +kernel
theorem dL_mostBreaches_14 : decode cL_mostBreaches 14 = .ok (.iconst 0, 1) := by decide +kernel
theorem dL_mostBreaches_15 : decode cL_mostBreaches 15 = .ok (.ireturn, 1) := by decide +kernel
theorem dL_swap_0 : decode cL_swap 0 = .ok (.aload 4, 2) := by decide +kernel
theorem dL_swap_2 : decode cL_swap 2 = .ok (.iconst 0, 1) := by decide +kernel
theorem dL_swap_3 : decode cL_swap 3 = .ok (.aload_n 0, 1) := by decide +kernel
theorem dL_swap_4 : decode cL_swap 4 = .ok (.iload_n 1, 1) := by decide +kernel
theorem dL_swap_5 : decode cL_swap 5 = .ok (.iload_n 2, 1) := by decide +kernel
theorem dL_swap_6 : decode cL_swap 6 = .ok (.iload_n 3, 1) := by decide +kernel
theorem dL_swap_7 : decode cL_swap 7 = .ok (.invokevirtual 94, 3) := by decide +kernel
theorem dL_swap_10 : decode cL_swap 10 = .ok (.i2l, 1) := by decide +kernel
theorem dL_swap_11 : decode cL_swap 11 = .ok (.lastore, 1) := by decide +kernel
theorem dL_swap_12 : decode cL_swap 12 = .ok (.goto 15, 3) := by decide +kernel
theorem dL_swap_15 : decode cL_swap 15 = .ok (.astore 5, 2) := by decide +kernel
theorem dL_swap_17 : decode cL_swap 17 = .ok (.iconst 1, 1) := by decide +kernel
theorem dL_swap_18 : decode cL_swap 18 = .ok (.ireturn, 1) := by decide +kernel
theorem dL_swap_19 : decode cL_swap 19 = .ok (.astore 5, 2) := by decide +kernel
theorem dL_swap_21 : decode cL_swap 21 = .ok (.iconst 2, 1) := by decide +kernel
theorem dL_swap_22 : decode cL_swap 22 = .ok (.ireturn, 1) := by decide +kernel
theorem dL_swap_23 : decode cL_swap 23 = .ok (.astore 5, 2) := by decide +kernel
theorem dL_swap_25 : decode cL_swap 25 = .ok (.iconst 3, 1) := by decide +kernel
theorem dL_swap_26 : decode cL_swap 26 = .ok (.ireturn, 1) := by decide +kernel
theorem dL_swap_27 : decode cL_swap 27 = .ok (.iconst 0, 1) := by decide +kernel
theorem dL_swap_28 : decode cL_swap 28 = .ok (.ireturn, 1) := by decide +kernel
theorem dL_partner_0 : decode cL_partner 0 = .ok (.aload_n 3, 1) := by decide +kernel
theorem dL_partner_1 : decode cL_partner 1 = .ok (.iconst 0, 1) := by decide +kernel
theorem dL_partner_2 : decode cL_partner 2 = .ok (.aload_n 0, 1) := by decide +kernel
theorem dL_partner_3 : decode cL_partner 3 = .ok (.iload_n 1, 1) := by decide +kernel
theorem dL_partner_4 : decode cL_partner 4 = .ok (.iload_n 2, 1) := by decide +kernel
theorem dL_partner_5 : decode cL_partner 5 = .ok (.invokevirtual 99, 3) := by decide +kernel
theorem dL_partner_8 : decode cL_partner 8 = .ok (.i2l, 1) := by decide +kernel
theorem dL_partner_9 : decode cL_partner 9 = .ok (.lastore, 1) := by decide +kernel
theorem dL_partner_10 : decode cL_partner 10 = .ok (.goto 11, 3) := by decide +kernel
theorem dL_partner_13 : decode cL_partner 13 = .ok (.astore 4, 2) := by decide +kernel
theorem dL_partner_15 : decode cL_partner 15 = .ok (.iconst 1, 1) := by decide +kernel
theorem dL_partner_16 : decode cL_partner 16 = .ok (.ireturn, 1) := by decide +kernel
theorem dL_partner_17 : decode cL_partner 17 = .ok (.astore 4, 2) := by decide +kernel
theorem dL_partner_19 : decode cL_partner 19 = .ok (.iconst 2, 1) := by decide +kernel
theorem dL_partner_20 : decode cL_partner 20 = .ok (.ireturn, 1) := by decide +kernel
theorem dL_partner_21 : decode cL_partner 21 = .ok (.iconst 0, 1) := by decide +kernel
theorem dL_partner_22 : decode cL_partner 22 = .ok (.ireturn, 1) := by decide +kernel
theorem dL_leastChanges_0 : decode cL_leastChanges 0 = .ok (.aload_n 1, 1) := by decide +kernel
theorem dL_leastChanges_1 : decode cL_leastChanges 1 = .ok (.iconst 0, 1) := by decide +kernel
theorem dL_leastChanges_2 : decode cL_leastChanges 2 = .ok (.aload_n 0, 1) := by decide +kernel
theorem dL_leastChanges_3 : decode cL_leastChanges 3 = .ok (.invokevirtual 102, 3) := by decide +kernel
theorem dL_leastChanges_6 : decode cL_leastChanges 6 = .ok (.i2l, 1) := by decide +kernel
theorem dL_leastChanges_7 : decode cL_leastChanges 7 = .ok (.lastore, 1) := by decide +kernel
theorem dL_leastChanges_8 : decode cL_leastChanges 8 = .ok (.goto 6, 3) := by decide +kernel
theorem dL_leastChanges_11 : decode cL_leastChanges 11 = .ok (.astore_n 2, 1) := by decide +kernel
theorem dL_leastChanges_12 : decode cL_leastChanges 12 = .ok (.iconst 1, 1) := by decide +kernel
theorem dL_leastChanges_13 : decode cL_leastChanges 13 = .ok (.ireturn, 1) := by decide +kernel
theorem dL_leastChanges_14 : decode cL_leastChanges 14 = .ok (.iconst 0, 1) := by decide +kernel
theorem dL_leastChanges_15 : decode cL_leastChanges 15 = .ok (.ireturn, 1) := by decide +kernel
theorem dL_leastByTrial_0 : decode cL_leastByTrial 0 = .ok (.aload_n 1, 1) := by decide +kernel
theorem dL_leastByTrial_1 : decode cL_leastByTrial 1 = .ok (.iconst 0, 1) := by decide +kernel
theorem dL_leastByTrial_2 : decode cL_leastByTrial 2 = .ok (.aload_n 0, 1) := by decide +kernel
theorem dL_leastByTrial_3 : decode cL_leastByTrial 3 = .ok (.invokevirtual 105, 3) := by decide +kernel
theorem dL_leastByTrial_6 : decode cL_leastByTrial 6 = .ok (.i2l, 1) := by decide +kernel
theorem dL_leastByTrial_7 : decode cL_leastByTrial 7 = .ok (.lastore, 1) := by decide +kernel
theorem dL_leastByTrial_8 : decode cL_leastByTrial 8 = .ok (.goto 6, 3) := by decide +kernel
theorem dL_leastByTrial_11 : decode cL_leastByTrial 11 = .ok (.astore_n 2, 1) := by decide +kernel
theorem dL_leastByTrial_12 : decode cL_leastByTrial 12 = .ok (.iconst 1, 1) := by decide +kernel
theorem dL_leastByTrial_13 : decode cL_leastByTrial 13 = .ok (.ireturn, 1) := by decide +kernel
theorem dL_leastByTrial_14 : decode cL_leastByTrial 14 = .ok (.iconst 0, 1) := by decide +kernel
theorem dL_leastByTrial_15 : decode cL_leastByTrial 15 = .ok (.ireturn, 1) := by decide +kernel
theorem dL_mend_0 : decode cL_mend 0 = .ok (.aload_n 1, 1) := by decide +kernel
theorem dL_mend_1 : decode cL_mend 1 = .ok (.iconst 0, 1) := by decide +kernel
theorem dL_mend_2 : decode cL_mend 2 = .ok (.aload_n 0, 1) := by decide +kernel
theorem dL_mend_3 : decode cL_mend 3 = .ok (.invokevirtual 108, 3) := by decide +kernel
theorem dL_mend_6 : decode cL_mend 6 = .ok (.i2l, 1) := by decide +kernel
theorem dL_mend_7 : decode cL_mend 7 = .ok (.lastore, 1) := by decide +kernel
theorem dL_mend_8 : decode cL_mend 8 = .ok (.goto 6, 3) := by decide +kernel
theorem dL_mend_11 : decode cL_mend 11 = .ok (.astore_n 2, 1) := by decide +kernel
theorem dL_mend_12 : decode cL_mend 12 = .ok (.iconst 1, 1) := by decide +kernel
theorem dL_mend_13 : decode cL_mend 13 = .ok (.ireturn, 1) := by decide +kernel
theorem dL_mend_14 : decode cL_mend 14 = .ok (.iconst 0, 1) := by decide +kernel
theorem dL_mend_15 : decode cL_mend 15 = .ok (.ireturn, 1) := by decide +kernel
theorem dL_changedCell_0 : decode cL_changedCell 0 = .ok (.aload_n 2, 1) := by decide +kernel
theorem dL_changedCell_1 : decode cL_changedCell 1 = .ok (.iconst 0, 1) := by decide +kernel
theorem dL_changedCell_2 : decode cL_changedCell 2 = .ok (.aload_n 0, 1) := by decide +kernel
theorem dL_changedCell_3 : decode cL_changedCell 3 = .ok (.iload_n 1, 1) := by decide +kernel
theorem dL_changedCell_4 : decode cL_changedCell 4 = .ok (.invokevirtual 111, 3) := by decide +kernel
theorem dL_changedCell_7 : decode cL_changedCell 7 = .ok (.i2l, 1) := by decide +kernel
theorem dL_changedCell_8 : decode cL_changedCell 8 = .ok (.lastore, 1) := by decide +kernel
theorem dL_changedCell_9 : decode cL_changedCell 9 = .ok (.goto 6, 3) := by decide +kernel
theorem dL_changedCell_12 : decode cL_changedCell 12 = .ok (.astore_n 3, 1) := by decide +kernel
theorem dL_changedCell_13 : decode cL_changedCell 13 = .ok (.iconst 1, 1) := by decide +kernel
theorem dL_changedCell_14 : decode cL_changedCell 14 = .ok (.ireturn, 1) := by decide +kernel
theorem dL_changedCell_15 : decode cL_changedCell 15 = .ok (.iconst 0, 1) := by decide +kernel
theorem dL_changedCell_16 : decode cL_changedCell 16 = .ok (.ireturn, 1) := by decide +kernel
theorem dL_changedValue_0 : decode cL_changedValue 0 = .ok (.aload_n 2, 1) := by decide +kernel
theorem dL_changedValue_1 : decode cL_changedValue 1 = .ok (.iconst 0, 1) := by decide +kernel
theorem dL_changedValue_2 : decode cL_changedValue 2 = .ok (.aload_n 0, 1) := by decide +kernel
theorem dL_changedValue_3 : decode cL_changedValue 3 = .ok (.iload_n 1, 1) := by decide +kernel
theorem dL_changedValue_4 : decode cL_changedValue 4 = .ok (.invokevirtual 114, 3) := by decide +kernel
theorem dL_changedValue_7 : decode cL_changedValue 7 = .ok (.i2l, 1) := by decide +kernel
theorem dL_changedValue_8 : decode cL_changedValue 8 = .ok (.lastore, 1) := by decide +kernel
theorem dL_changedValue_9 : decode cL_changedValue 9 = .ok (.goto 6, 3) := by decide +kernel
theorem dL_changedValue_12 : decode cL_changedValue 12 = .ok (.astore_n 3, 1) := by decide +kernel
theorem dL_changedValue_13 : decode cL_changedValue 13 = .ok (.iconst 1, 1) := by decide +kernel
theorem dL_changedValue_14 : decode cL_changedValue 14 = .ok (.ireturn, 1) := by decide +kernel
theorem dL_changedValue_15 : decode cL_changedValue 15 = .ok (.iconst 0, 1) := by decide +kernel
theorem dL_changedValue_16 : decode cL_changedValue 16 = .ok (.ireturn, 1) := by decide +kernel
theorem dL_workShare_0 : decode cL_workShare 0 = .ok (.aload_n 2, 1) := by decide +kernel
theorem dL_workShare_1 : decode cL_workShare 1 = .ok (.iconst 0, 1) := by decide +kernel
theorem dL_workShare_2 : decode cL_workShare 2 = .ok (.aload_n 0, 1) := by decide +kernel
theorem dL_workShare_3 : decode cL_workShare 3 = .ok (.iload_n 1, 1) := by decide +kernel
theorem dL_workShare_4 : decode cL_workShare 4 = .ok (.invokevirtual 117, 3) := by decide +kernel
theorem dL_workShare_7 : decode cL_workShare 7 = .ok (.f2d, 1) := by decide +kernel
theorem dL_workShare_8 : decode cL_workShare 8 = .ok (.dastore, 1) := by decide +kernel
theorem dL_workShare_9 : decode cL_workShare 9 = .ok (.goto 6, 3) := by decide +kernel
theorem dL_workShare_12 : decode cL_workShare 12 = .ok (.astore_n 3, 1) := by decide +kernel
theorem dL_workShare_13 : decode cL_workShare 13 = .ok (.iconst 1, 1) := by decide +kernel
theorem dL_workShare_14 : decode cL_workShare 14 = .ok (.ireturn, 1) := by decide +kernel
theorem dL_workShare_15 : decode cL_workShare 15 = .ok (.iconst 0, 1) := by decide +kernel
theorem dL_workShare_16 : decode cL_workShare 16 = .ok (.ireturn, 1) := by decide +kernel
theorem dL_meanRest_0 : decode cL_meanRest 0 = .ok (.aload_n 2, 1) := by decide +kernel
theorem dL_meanRest_1 : decode cL_meanRest 1 = .ok (.iconst 0, 1) := by decide +kernel
theorem dL_meanRest_2 : decode cL_meanRest 2 = .ok (.aload_n 0, 1) := by decide +kernel
theorem dL_meanRest_3 : decode cL_meanRest 3 = .ok (.iload_n 1, 1) := by decide +kernel
theorem dL_meanRest_4 : decode cL_meanRest 4 = .ok (.invokevirtual 121, 3) := by decide +kernel
theorem dL_meanRest_7 : decode cL_meanRest 7 = .ok (.dastore, 1) := by decide +kernel
theorem dL_meanRest_8 : decode cL_meanRest 8 = .ok (.goto 9, 3) := by decide +kernel
theorem dL_meanRest_11 : decode cL_meanRest 11 = .ok (.astore_n 3, 1) := by decide +kernel
theorem dL_meanRest_12 : decode cL_meanRest 12 = .ok (.iconst 1, 1) := by decide +kernel
theorem dL_meanRest_13 : decode cL_meanRest 13 = .ok (.ireturn, 1) := by decide +kernel
theorem dL_meanRest_14 : decode cL_meanRest 14 = .ok (.astore_n 3, 1) := by decide +kernel
theorem dL_meanRest_15 : decode cL_meanRest 15 = .ok (.iconst 2, 1) := by decide +kernel
theorem dL_meanRest_16 : decode cL_meanRest 16 = .ok (.ireturn, 1) := by decide +kernel
theorem dL_meanRest_17 : decode cL_meanRest 17 = .ok (.iconst 0, 1) := by decide +kernel
theorem dL_meanRest_18 : decode cL_meanRest 18 = .ok (.ireturn, 1) := by decide +kernel
end
section
/-! what the tables say of the texts that are thrown, and of the classes that are not caught where another is -/
def rv_texts : List (String × Nat × String) := []
def rv_nocast : List (String × String) := []
/-! the judgement rv_V: the kit's W with everything put away that stays the same in a method; a row an instruction -/
def rv_nest : Cond → Bool
  | .methodLinkNest .. => true
  | .fieldLinkNest .. => true
  | .castable .. => true
  | _ => false
def AW : List Cond := lw_tbl.filter goodWord
def NW : List Cond := tables_1.filter rv_nest
theorem AW_in {w : Cond} (i : Nat) (h : tables_1[i]? = some w) (g : goodWord w = true) : w ∈ AW := List.mem_filter.mpr ⟨List.mem_append_right _ (List.mem_of_getElem? h), g⟩
theorem AW_sel {y : MethodName} {n : Nat} (i : Nat) (h : lw_privs[i]? = some (y, n)) (g : goodWord (Cond.selects y.cls y y) = true) : Cond.selects y.cls y y ∈ AW := List.mem_filter.mpr ⟨List.mem_append_left _ (List.mem_map.mpr ⟨(y, n), List.mem_of_getElem? h, rfl⟩), g⟩
theorem AW_good {w : Cond} (h : w ∈ AW) : goodWord w = true := (List.mem_filter.mp h).2
theorem NW_in {w : Cond} (i : Nat) (h : tables_1[i]? = some w) (g : rv_nest w = true) : w ∈ NW := List.mem_filter.mpr ⟨List.mem_of_getElem? h, g⟩
theorem AW_GI {ws : List Cond} (h : ∀ w ∈ ws, w ∈ AW) : GoodIn AW ws := fun w hw => ⟨h w hw, good_of_word (AW_good (h w hw))⟩
theorem AW_GIc {c : Cond} (h : c ∈ AW) : GoodIn AW (c :: AW) := AW_GI (fun _ hw => (List.mem_cons.mp hw).elim (fun e => e ▸ h) id)
def rv_SN (U : State) : Prop := ∀ w ∈ NW, va_Nw w U
theorem rv_SN.warm {s U : State} (hW : s.WarmedH U.vm) (h : rv_SN s) : rv_SN U := by
  intro w hw
  have h1 := h w hw
  have h2 := (List.mem_filter.mp hw).2
  cases w <;> first | exact va_Nw.warmF hW h1 | exact va_Nw.warmM hW h1 | exact va_Nw.warmC hW h1 | (exact absurd h2 (by simp [rv_nest]))
def rv_SS (U : State) : Prop := ∀ q ∈ rv_texts, ∃ sa : Nat, vk_R q.1 q.2.1 q.2.2 sa U
theorem rv_SS.warm {s U : State} (hW : s.WarmedH U.vm) (h : rv_SS s) : rv_SS U := fun q hq => (h q hq).imp fun _ k => k.warm hW
def rv_SC (U : State) : Prop := ∀ q ∈ rv_nocast, va_Nc q.1 q.2 U
theorem rv_SC.warm {s U : State} (hW : s.WarmedH U.vm) (h : rv_SC s) : rv_SC U := fun q hq => (h q hq).moved hW.alike
def rv_Z (A : Nat → Prop) (U : State) (H : Heap) : Prop := vx_Zq Bundle.tN "UNASSIGNED_STACK" Bundle.steD A U H ∧ vx_Zq Bundle.tN "SUPPRESSED_SENTINEL" Bundle.listD A U H
/-- what every method may ask of the state that it is called in, beside its world -/
def rv_Sys (A : Nat → Prop) (U : State) : Prop := rv_SN U ∧ rv_SS U ∧ rv_SC U ∧ rv_Z A U U.heap
theorem rv_Sys.blind {A : Nat → Prop} {U : State} {g : JFrame} {mk : MethodId} {a : Array Value} (h : rv_Sys A U) : rv_Sys A (U.calling g mk a) := by
  have hW : U.WarmedH (U.calling g mk a).vm := State.WarmedH.refl U
  exact ⟨h.1.warm hW, h.2.1.warm hW, h.2.2.1.warm hW, h.2.2.2.1.moved (u := U) (U := U.calling g mk a) (Vm.Alike.refl U.vm), h.2.2.2.2.moved (u := U) (U := U.calling g mk a) (Vm.Alike.refl U.vm)⟩
theorem rv_Sys.call {A0 A1 : Nat → Prop} {s U : State} {H : Heap} {locs : List Loc} (h : rv_Sys A0 s) (hS : va_S A0 s.heap H locs) (hU : U.heap = H) (hW : s.WarmedH U.vm) (hF : ∀ q, A1 q → A0 q) : rv_Sys A1 U := by
  refine ⟨h.1.warm hW, h.2.1.warm hW, h.2.2.1.warm hW, ?_, ?_⟩
  · rw [hU]; exact (vx_Zq.moved hW.alike (h.2.2.2.1.kept hS.2.1)).narrow hF
  · rw [hU]; exact (vx_Zq.moved hW.alike (h.2.2.2.2.kept hS.2.1)).narrow hF
/-- a method's start: its world, the tables' classes, the rest -/
def rv_Pre (D : va_G) (tys : List (ClassId × FieldType)) (ws : va_W) (sz : Nat) (U : State) : Prop := U.heap.size = sz ∧ va_P D vwCl ws U.heap ∧ va_K D vwCl tys U ∧ va_D (fun _ => True) ws ∧ rv_Sys (va_A ws sz) U
theorem rv_Pre.blind {D : va_G} {tys : List (ClassId × FieldType)} {ws : va_W} {sz : Nat} {av : List Value} : FrameBlind (va_Pc av (rv_Pre D tys ws sz)) := by
  intro a U g mk h
  obtain ⟨e, h1, h2, h3, h4, h5⟩ := h
  exact ⟨e, h1, h2, va_K.moved (u := U) (U := U.calling g mk a) (Vm.Alike.refl U.vm) h3, h4, h5.blind⟩
/-- a method's end -/
def rv_Q (D : va_G) (A : Nat → Prop) (F : Option Value → va_W → Prop) : Array Value → State → Outcome → State → Prop := fun _ st oc t => (∃ (v : Option Value) (ws : va_W), oc = .returned v ∧ F v ws ∧ va_P D vwCl ws t.heap ∧ va_D A ws) ∧ va_F A st t
def rv_XC (D : va_G) (A : Nat → Prop) (G : String → va_W → Prop) : String → State → State → Prop := fun E st t => (∃ ws : va_W, G E ws ∧ va_P D vwCl ws t.heap ∧ va_D A ws) ∧ va_F A st t
def rv_rm (d mc ms : Nat) : Room := { frames := 20 * d, cells := mc, slots := ms, locals := 200 * d }
/-- the contract of a method that doesn't throw; of one that may -/
def rv_C (l : Launch) (D : va_G) (tys : List (ClassId × FieldType)) (y : MethodName) (cc : ByteArray) (nL : Nat) (ret : Option FieldType) (d mc ms : Nat) (av : List Value) (ws : va_W) (F : Option Value → va_W → Prop) : Prop :=
  ∀ sz : Nat, Met l y (Cond.code y cc nL ret :: AW) (rv_rm d mc ms) (va_Pc av (rv_Pre D tys ws sz)) (rv_Q D (va_A ws sz) F) mc ms (va_A ws sz)
def rv_CX (l : Launch) (D : va_G) (tys : List (ClassId × FieldType)) (y : MethodName) (cc : ByteArray) (nL : Nat) (ret : Option FieldType) (d mc ms : Nat) (av : List Value) (ws : va_W) (F : Option Value → va_W → Prop) (G : String → va_W → Prop) : Prop :=
  ∀ sz : Nat, vx_Met l y (Cond.code y cc nL ret :: AW) (rv_rm d mc ms) (va_Pc av (rv_Pre D tys ws sz)) (rv_Q D (va_A ws sz) F) (rv_XC D (va_A ws sz) G) mc ms (va_A ws sz)
abbrev rv_Phi : Type := List Frame → Array Value → State → (Nat → Prop) → State → Prop
def rv_M (D : va_G) (F : Option Value → va_W → Prop) (mc ms : Nat) : rv_Phi := fun below args s A => MQ below (rv_Q D A F) args s mc ms A
def rv_X (D : va_G) (F : Option Value → va_W → Prop) (G : String → va_W → Prop) (mc ms : Nat) : rv_Phi := fun below args s A => vx_MQ below (rv_Q D A F) (rv_XC D A G) args s mc ms A
def rv_ok (D : va_G) (tys : List (ClassId × FieldType)) (own : String) (cc : ByteArray) (nL : Nat) (ret : Option FieldType) (hh : List ExceptionTableEntry) (p : Program) (s : State) (m : MethodId) (args : Array Value) (meth : Method) (c : Code) (A : Nat → Prop) : Prop :=
  p.tables.exec = Jvm.exec ∧ c.code = cc ∧ c.maxLocals = nL ∧ s.vm.findClass own = some m.cls ∧ (∀ w ∈ AW, w.before args s = true) ∧ meth.sig.returnType = ret ∧ meth.locks = false ∧ va_K D vwCl tys s ∧ (∀ q : Nat, s.heap.size ≤ q → A q) ∧ rv_Sys A s ∧ c.exceptionTable.toList = hh
/-- from pc, with these locals and this stack, the world ws in the heap: the method comes to an end as Phi has it -/
def rv_V (l : Launch) (D : va_G) (tys : List (ClassId × FieldType)) (own : String) (cc : ByteArray) (nL : Nat) (ret : Option FieldType) (hh : List ExceptionTableEntry) (R : Room) (Phi : rv_Phi) (cu su : Nat) (ws : va_W) (pc : Nat) (lv : List (Nat × Value)) (st : List Value) : Prop :=
  ∀ (p : Program) (e : Env) (s : State) (m : MethodId) (args : Array Value) (below : List Frame) (meth : Method) (c : Code) (A : Nat → Prop) (H : Heap) (locs : List Loc) (ls : Array Slot),
    rv_ok D tys own cc nL ret hh p s m args meth c A → va_P D vwCl ws H → va_D A ws → va_S A s.heap H locs → lv_has ls nL lv →
    W p l e R s m args below meth c H locs cu su (Phi below args s A) (F0 m pc ls st)
/-- the frame of pc with q thrown over it -/
def rv_VT (l : Launch) (D : va_G) (tys : List (ClassId × FieldType)) (own : String) (cc : ByteArray) (nL : Nat) (ret : Option FieldType) (hh : List ExceptionTableEntry) (R : Room) (Phi : rv_Phi) (cu su : Nat) (E : String) (ws : va_W) (pc : Nat) (lv : List (Nat × Value)) (rest : List Value) : Prop :=
  ∀ (p : Program) (e : Env) (s : State) (m : MethodId) (args : Array Value) (below : List Frame) (meth : Method) (c : Code) (A : Nat → Prop) (H : Heap) (locs : List Loc) (ls : Array Slot) (q : Nat) (ce : Cell),
    rv_ok D tys own cc nL ret hh p s m args meth c A → va_P D vwCl ws H → va_D A ws → va_S A s.heap H locs → lv_has ls nL lv → H[q]? = some ce → ce.vm = .none → s.vm.findClass E = some ce.cls →
    vx_W p l e R s m args below meth c H locs cu su (Phi below args s A) (F0 m pc ls rest) q
section RV
variable {l : Launch} {D : va_G} {tys : List (ClassId × FieldType)} {own : String} {cc : ByteArray} {nL : Nat} {ret : Option FieldType} {hh : List ExceptionTableEntry} {R : Room} {Phi : rv_Phi} {cu su mc ms : Nat} {ws ws2 : va_W} {pc : Nat} {lv lv2 : List (Nat × Value)} {st rest : List Value} {F : Option Value → va_W → Prop} {G : String → va_W → Prop}
theorem rv_sub (is : List Nat) (h : lv_pick lv is = lv2) (k : rv_V l D tys own cc nL ret hh R Phi cu su ws pc lv2 st) : rv_V l D tys own cc nL ret hh R Phi cu su ws pc lv st := by
  intro p e s m args below meth c A H locs ls ok hP hD hS hl
  exact k p e s m args below meth c A H locs ls ok hP hD hS (lv_sub hl is h)
theorem rv_ws (h : ws = ws2) (k : rv_V l D tys own cc nL ret hh R Phi cu su ws2 pc lv st) : rv_V l D tys own cc nL ret hh R Phi cu su ws pc lv st := h ▸ k
theorem rv_Cof {y : MethodName} {d : Nat} {av : List Value} (hy : plainName y.cls = true) (hl : (lg_sl av).length ≤ nL) (k : rv_V l D tys y.cls cc nL ret [] (rv_rm d mc ms) (rv_M D F mc ms) 0 0 ws 0 (lv_args 0 av) []) : rv_C l D tys y cc nL ret d mc ms av ws F := by
  intro sz
  refine Met.ofW (cc := cc) (maxL := nL) (ret := ret) hy rfl ?_
  intro p e s m args below meth c s₁ B hml hv
  obtain ⟨rfl, hsz, hP, hK, hD, hy2⟩ := hv
  have hts := atoms_spec (ws := Cond.code y cc nL ret :: AW) B.pre
  have ht : c.exceptionTable.toList = [] := by
    obtain ⟨meth9, c9, h1, h2, -, -, -, -, h7, -⟩ := Cond.code_spec B.named (hts _ List.mem_cons_self)
    cases Option.some.inj (h1.symm.trans B.method)
    cases Option.some.inj (h2.symm.trans (Stand.of_body B).code)
    rw [Array.isEmpty_iff.mp h7]
  have hle := lv_entry av (n := nL) hl
  rw [lg_entry_eq]
  subst hsz
  exact k p e s m av.toArray below meth c (va_A ws s.heap.size) s.heap [] _ ⟨B.exec, B.bytes, hml, findClass_of_methodNamed B.named, fun w hw => hts w (List.mem_cons_of_mem _ hw), B.returns, B.notSynchronized, hK, fun q hq => Or.inr hq, hy2, ht⟩ hP hD.self va_S.rf hle
theorem rv_CXof {y : MethodName} {d : Nat} {av : List Value} (hy : plainName y.cls = true) (hl : (lg_sl av).length ≤ nL) (k : rv_V l D tys y.cls cc nL ret [] (rv_rm d mc ms) (rv_X D F G mc ms) 0 0 ws 0 (lv_args 0 av) []) : rv_CX l D tys y cc nL ret d mc ms av ws F G := by
  intro sz
  refine vx_ofW (cc := cc) (maxL := nL) (ret := ret) hy rfl ?_
  intro p e s m args below meth c s₁ B hml ht hv
  obtain ⟨rfl, hsz, hP, hK, hD, hy2⟩ := hv
  have hts := atoms_spec (ws := Cond.code y cc nL ret :: AW) B.pre
  have ht : c.exceptionTable.toList = [] := by
    obtain ⟨meth9, c9, h1, h2, -, -, -, -, h7, -⟩ := Cond.code_spec B.named (hts _ List.mem_cons_self)
    cases Option.some.inj (h1.symm.trans B.method)
    cases Option.some.inj (h2.symm.trans (Stand.of_body B).code)
    rw [Array.isEmpty_iff.mp h7]
  have hle := lv_entry av (n := nL) hl
  rw [lg_entry_eq]
  subst hsz
  exact k p e s m av.toArray below meth c (va_A ws s.heap.size) s.heap [] _ ⟨B.exec, B.bytes, hml, findClass_of_methodNamed B.named, fun w hw => hts w (List.mem_cons_of_mem _ hw), B.returns, B.notSynchronized, hK, fun q hq => Or.inr hq, hy2, ht⟩ hP hD.self va_S.rf hle
theorem rv_iconst {n : Int} {v : Int32} (hdg : decode cc pc = .ok (.iconst n, 1)) (hv : Int32.ofInt n = v) (k : rv_V l D tys own cc nL ret hh R Phi cu su ws (pc + 1) lv (.int v :: rest)) : rv_V l D tys own cc nL ret hh R Phi cu su ws pc lv (rest) := by
  intro p e s m args below meth c A H locs ls ok hP hD hS hl
  exact lv_iconst ok.1 ok.2.1 hdg hv (k p e s m args below meth c A H locs ls ok hP hD hS hl)
theorem rv_bipush {n : Int} {v : Int32} (hdg : decode cc pc = .ok (.bipush n, 2)) (hv : (Int8.ofInt n).toInt32 = v) (k : rv_V l D tys own cc nL ret hh R Phi cu su ws (pc + 2) lv (.int v :: rest)) : rv_V l D tys own cc nL ret hh R Phi cu su ws pc lv (rest) := by
  intro p e s m args below meth c A H locs ls ok hP hD hS hl
  exact lv_bipush ok.1 ok.2.1 hdg hv (k p e s m args below meth c A H locs ls ok hP hD hS hl)
theorem rv_sipush {n : Int} {v : Int32} (hdg : decode cc pc = .ok (.sipush n, 3)) (hv : (Int16.ofInt n).toInt32 = v) (k : rv_V l D tys own cc nL ret hh R Phi cu su ws (pc + 3) lv (.int v :: rest)) : rv_V l D tys own cc nL ret hh R Phi cu su ws pc lv (rest) := by
  intro p e s m args below meth c A H locs ls ok hP hD hS hl
  exact lv_sipush ok.1 ok.2.1 hdg hv (k p e s m args below meth c A H locs ls ok hP hD hS hl)
theorem rv_lconst {n : Fin 2} {v : Int64} (hdg : decode cc pc = .ok (.lconst n, 1)) (hv : Int64.ofNat (n : Nat) = v) (k : rv_V l D tys own cc nL ret hh R Phi cu su ws (pc + 1) lv (.long v :: rest)) : rv_V l D tys own cc nL ret hh R Phi cu su ws pc lv (rest) := by
  intro p e s m args below meth c A H locs ls ok hP hD hS hl
  exact lv_lconst ok.1 ok.2.1 hdg hv (k p e s m args below meth c A H locs ls ok hP hD hS hl)
theorem rv_fconst0  (hdg : decode cc pc = .ok (.fconst 0, 1)) (k : rv_V l D tys own cc nL ret hh R Phi cu su ws (pc + 1) lv (.float FP.fconst0 :: rest)) : rv_V l D tys own cc nL ret hh R Phi cu su ws pc lv (rest) := by
  intro p e s m args below meth c A H locs ls ok hP hD hS hl
  exact lv_fconst0 ok.1 ok.2.1 hdg (k p e s m args below meth c A H locs ls ok hP hD hS hl)
theorem rv_dconst0  (hdg : decode cc pc = .ok (.dconst 0, 1)) (k : rv_V l D tys own cc nL ret hh R Phi cu su ws (pc + 1) lv (.double FP.dconst0 :: rest)) : rv_V l D tys own cc nL ret hh R Phi cu su ws pc lv (rest) := by
  intro p e s m args below meth c A H locs ls ok hP hD hS hl
  exact lv_dconst0 ok.1 ok.2.1 hdg (k p e s m args below meth c A H locs ls ok hP hD hS hl)
theorem rv_iload_n {i : Nat} {kf : Fin 4} {x : Int32} (hdg : decode cc pc = .ok (.iload_n kf, 1)) (hi : (kf : Nat) = i) (q : Nat) (hq : lv[q]? = some (i, .int x)) (k : rv_V l D tys own cc nL ret hh R Phi cu su ws (pc + 1) lv (.int x :: rest)) : rv_V l D tys own cc nL ret hh R Phi cu su ws pc lv rest := by
  intro p e s m args below meth c A H locs ls ok hP hD hS hl
  exact lv_iload_n ok.1 ok.2.1 hdg hi (lv_at hl q hq) (k p e s m args below meth c A H locs ls ok hP hD hS hl)
theorem rv_iload {i : Nat} {x : Int32} (hdg : decode cc pc = .ok (.iload i, 2)) (q : Nat) (hq : lv[q]? = some (i, .int x)) (k : rv_V l D tys own cc nL ret hh R Phi cu su ws (pc + 2) lv (.int x :: rest)) : rv_V l D tys own cc nL ret hh R Phi cu su ws pc lv rest := by
  intro p e s m args below meth c A H locs ls ok hP hD hS hl
  exact lv_iload ok.1 ok.2.1 hdg (lv_at hl q hq) (k p e s m args below meth c A H locs ls ok hP hD hS hl)
theorem rv_lload_n {i : Nat} {kf : Fin 4} {x : Int64} (hdg : decode cc pc = .ok (.lload_n kf, 1)) (hi : (kf : Nat) = i) (q : Nat) (hq : lv[q]? = some (i, .long x)) (k : rv_V l D tys own cc nL ret hh R Phi cu su ws (pc + 1) lv (.long x :: rest)) : rv_V l D tys own cc nL ret hh R Phi cu su ws pc lv rest := by
  intro p e s m args below meth c A H locs ls ok hP hD hS hl
  exact lv_lload_n ok.1 ok.2.1 hdg hi (lv_at hl q hq) (k p e s m args below meth c A H locs ls ok hP hD hS hl)
theorem rv_lload {i : Nat} {x : Int64} (hdg : decode cc pc = .ok (.lload i, 2)) (q : Nat) (hq : lv[q]? = some (i, .long x)) (k : rv_V l D tys own cc nL ret hh R Phi cu su ws (pc + 2) lv (.long x :: rest)) : rv_V l D tys own cc nL ret hh R Phi cu su ws pc lv rest := by
  intro p e s m args below meth c A H locs ls ok hP hD hS hl
  exact lv_lload ok.1 ok.2.1 hdg (lv_at hl q hq) (k p e s m args below meth c A H locs ls ok hP hD hS hl)
theorem rv_aload_n {i : Nat} {kf : Fin 4} {x : Nat} (hdg : decode cc pc = .ok (.aload_n kf, 1)) (hi : (kf : Nat) = i) (q : Nat) (hq : lv[q]? = some (i, .ref x)) (k : rv_V l D tys own cc nL ret hh R Phi cu su ws (pc + 1) lv (.ref x :: rest)) : rv_V l D tys own cc nL ret hh R Phi cu su ws pc lv rest := by
  intro p e s m args below meth c A H locs ls ok hP hD hS hl
  exact lv_aload_n ok.1 ok.2.1 hdg hi (lv_at hl q hq) (k p e s m args below meth c A H locs ls ok hP hD hS hl)
theorem rv_aload {i : Nat} {x : Nat} (hdg : decode cc pc = .ok (.aload i, 2)) (q : Nat) (hq : lv[q]? = some (i, .ref x)) (k : rv_V l D tys own cc nL ret hh R Phi cu su ws (pc + 2) lv (.ref x :: rest)) : rv_V l D tys own cc nL ret hh R Phi cu su ws pc lv rest := by
  intro p e s m args below meth c A H locs ls ok hP hD hS hl
  exact lv_aload ok.1 ok.2.1 hdg (lv_at hl q hq) (k p e s m args below meth c A H locs ls ok hP hD hS hl)
theorem rv_fload_n {i : Nat} {kf : Fin 4} {x : UInt32} (hdg : decode cc pc = .ok (.fload_n kf, 1)) (hi : (kf : Nat) = i) (q : Nat) (hq : lv[q]? = some (i, .float x)) (k : rv_V l D tys own cc nL ret hh R Phi cu su ws (pc + 1) lv (.float x :: rest)) : rv_V l D tys own cc nL ret hh R Phi cu su ws pc lv rest := by
  intro p e s m args below meth c A H locs ls ok hP hD hS hl
  exact lv_fload_n ok.1 ok.2.1 hdg hi (lv_at hl q hq) (k p e s m args below meth c A H locs ls ok hP hD hS hl)
theorem rv_fload {i : Nat} {x : UInt32} (hdg : decode cc pc = .ok (.fload i, 2)) (q : Nat) (hq : lv[q]? = some (i, .float x)) (k : rv_V l D tys own cc nL ret hh R Phi cu su ws (pc + 2) lv (.float x :: rest)) : rv_V l D tys own cc nL ret hh R Phi cu su ws pc lv rest := by
  intro p e s m args below meth c A H locs ls ok hP hD hS hl
  exact lv_fload ok.1 ok.2.1 hdg (lv_at hl q hq) (k p e s m args below meth c A H locs ls ok hP hD hS hl)
theorem rv_dload_n {i : Nat} {kf : Fin 4} {x : UInt64} (hdg : decode cc pc = .ok (.dload_n kf, 1)) (hi : (kf : Nat) = i) (q : Nat) (hq : lv[q]? = some (i, .double x)) (k : rv_V l D tys own cc nL ret hh R Phi cu su ws (pc + 1) lv (.double x :: rest)) : rv_V l D tys own cc nL ret hh R Phi cu su ws pc lv rest := by
  intro p e s m args below meth c A H locs ls ok hP hD hS hl
  exact lv_dload_n ok.1 ok.2.1 hdg hi (lv_at hl q hq) (k p e s m args below meth c A H locs ls ok hP hD hS hl)
theorem rv_dload {i : Nat} {x : UInt64} (hdg : decode cc pc = .ok (.dload i, 2)) (q : Nat) (hq : lv[q]? = some (i, .double x)) (k : rv_V l D tys own cc nL ret hh R Phi cu su ws (pc + 2) lv (.double x :: rest)) : rv_V l D tys own cc nL ret hh R Phi cu su ws pc lv rest := by
  intro p e s m args below meth c A H locs ls ok hP hD hS hl
  exact lv_dload ok.1 ok.2.1 hdg (lv_at hl q hq) (k p e s m args below meth c A H locs ls ok hP hD hS hl)
theorem rv_istore_n {i : Nat} {kf : Fin 4} {x : Int32} (hdg : decode cc pc = .ok (.istore_n kf, 1)) (hi : (kf : Nat) = i) (hn : i < nL) (he : (i, Value.int x) :: lv.filter (fun q => !(q.1 == i) && !(q.1 + 1 == i && q.2.category == 2)) = lv2) (k : rv_V l D tys own cc nL ret hh R Phi cu su ws (pc + 1) lv2 rest) : rv_V l D tys own cc nL ret hh R Phi cu su ws pc lv (.int x :: rest) := by
  intro p e s m args below meth c A H locs ls ok hP hD hS hl
  exact lv_istore_n ok.1 ok.2.1 hdg hi hl hn he (fun ls2 hl2 => k p e s m args below meth c A H locs ls2 ok hP hD hS hl2)
theorem rv_istore {i : Nat} {x : Int32} (hdg : decode cc pc = .ok (.istore i, 2)) (hn : i < nL) (he : (i, Value.int x) :: lv.filter (fun q => !(q.1 == i) && !(q.1 + 1 == i && q.2.category == 2)) = lv2) (k : rv_V l D tys own cc nL ret hh R Phi cu su ws (pc + 2) lv2 rest) : rv_V l D tys own cc nL ret hh R Phi cu su ws pc lv (.int x :: rest) := by
  intro p e s m args below meth c A H locs ls ok hP hD hS hl
  exact lv_istore ok.1 ok.2.1 hdg hl hn he (fun ls2 hl2 => k p e s m args below meth c A H locs ls2 ok hP hD hS hl2)
theorem rv_lstore_n {i : Nat} {kf : Fin 4} {x : Int64} (hdg : decode cc pc = .ok (.lstore_n kf, 1)) (hi : (kf : Nat) = i) (hn : i + 1 < nL) (he : (i, Value.long x) :: lv.filter (fun q => !(q.1 == i) && (!(q.1 == i + 1) && !(q.1 + 1 == i && q.2.category == 2))) = lv2) (k : rv_V l D tys own cc nL ret hh R Phi cu su ws (pc + 1) lv2 rest) : rv_V l D tys own cc nL ret hh R Phi cu su ws pc lv (.long x :: rest) := by
  intro p e s m args below meth c A H locs ls ok hP hD hS hl
  exact lv_lstore_n ok.1 ok.2.1 hdg hi hl hn he (fun ls2 hl2 => k p e s m args below meth c A H locs ls2 ok hP hD hS hl2)
theorem rv_lstore {i : Nat} {x : Int64} (hdg : decode cc pc = .ok (.lstore i, 2)) (hn : i + 1 < nL) (he : (i, Value.long x) :: lv.filter (fun q => !(q.1 == i) && (!(q.1 == i + 1) && !(q.1 + 1 == i && q.2.category == 2))) = lv2) (k : rv_V l D tys own cc nL ret hh R Phi cu su ws (pc + 2) lv2 rest) : rv_V l D tys own cc nL ret hh R Phi cu su ws pc lv (.long x :: rest) := by
  intro p e s m args below meth c A H locs ls ok hP hD hS hl
  exact lv_lstore ok.1 ok.2.1 hdg hl hn he (fun ls2 hl2 => k p e s m args below meth c A H locs ls2 ok hP hD hS hl2)
theorem rv_astore_n {i : Nat} {kf : Fin 4} {x : Nat} (hdg : decode cc pc = .ok (.astore_n kf, 1)) (hi : (kf : Nat) = i) (hn : i < nL) (he : (i, Value.ref x) :: lv.filter (fun q => !(q.1 == i) && !(q.1 + 1 == i && q.2.category == 2)) = lv2) (k : rv_V l D tys own cc nL ret hh R Phi cu su ws (pc + 1) lv2 rest) : rv_V l D tys own cc nL ret hh R Phi cu su ws pc lv (.ref x :: rest) := by
  intro p e s m args below meth c A H locs ls ok hP hD hS hl
  exact lv_astore_n ok.1 ok.2.1 hdg hi hl hn he (fun ls2 hl2 => k p e s m args below meth c A H locs ls2 ok hP hD hS hl2)
theorem rv_astore {i : Nat} {x : Nat} (hdg : decode cc pc = .ok (.astore i, 2)) (hn : i < nL) (he : (i, Value.ref x) :: lv.filter (fun q => !(q.1 == i) && !(q.1 + 1 == i && q.2.category == 2)) = lv2) (k : rv_V l D tys own cc nL ret hh R Phi cu su ws (pc + 2) lv2 rest) : rv_V l D tys own cc nL ret hh R Phi cu su ws pc lv (.ref x :: rest) := by
  intro p e s m args below meth c A H locs ls ok hP hD hS hl
  exact lv_astore ok.1 ok.2.1 hdg hl hn he (fun ls2 hl2 => k p e s m args below meth c A H locs ls2 ok hP hD hS hl2)
theorem rv_fstore_n {i : Nat} {kf : Fin 4} {x : UInt32} (hdg : decode cc pc = .ok (.fstore_n kf, 1)) (hi : (kf : Nat) = i) (hn : i < nL) (he : (i, Value.float x) :: lv.filter (fun q => !(q.1 == i) && !(q.1 + 1 == i && q.2.category == 2)) = lv2) (k : rv_V l D tys own cc nL ret hh R Phi cu su ws (pc + 1) lv2 rest) : rv_V l D tys own cc nL ret hh R Phi cu su ws pc lv (.float x :: rest) := by
  intro p e s m args below meth c A H locs ls ok hP hD hS hl
  exact lv_fstore_n ok.1 ok.2.1 hdg hi hl hn he (fun ls2 hl2 => k p e s m args below meth c A H locs ls2 ok hP hD hS hl2)
theorem rv_fstore {i : Nat} {x : UInt32} (hdg : decode cc pc = .ok (.fstore i, 2)) (hn : i < nL) (he : (i, Value.float x) :: lv.filter (fun q => !(q.1 == i) && !(q.1 + 1 == i && q.2.category == 2)) = lv2) (k : rv_V l D tys own cc nL ret hh R Phi cu su ws (pc + 2) lv2 rest) : rv_V l D tys own cc nL ret hh R Phi cu su ws pc lv (.float x :: rest) := by
  intro p e s m args below meth c A H locs ls ok hP hD hS hl
  exact lv_fstore ok.1 ok.2.1 hdg hl hn he (fun ls2 hl2 => k p e s m args below meth c A H locs ls2 ok hP hD hS hl2)
theorem rv_dstore_n {i : Nat} {kf : Fin 4} {x : UInt64} (hdg : decode cc pc = .ok (.dstore_n kf, 1)) (hi : (kf : Nat) = i) (hn : i + 1 < nL) (he : (i, Value.double x) :: lv.filter (fun q => !(q.1 == i) && (!(q.1 == i + 1) && !(q.1 + 1 == i && q.2.category == 2))) = lv2) (k : rv_V l D tys own cc nL ret hh R Phi cu su ws (pc + 1) lv2 rest) : rv_V l D tys own cc nL ret hh R Phi cu su ws pc lv (.double x :: rest) := by
  intro p e s m args below meth c A H locs ls ok hP hD hS hl
  exact lv_dstore_n ok.1 ok.2.1 hdg hi hl hn he (fun ls2 hl2 => k p e s m args below meth c A H locs ls2 ok hP hD hS hl2)
theorem rv_dstore {i : Nat} {x : UInt64} (hdg : decode cc pc = .ok (.dstore i, 2)) (hn : i + 1 < nL) (he : (i, Value.double x) :: lv.filter (fun q => !(q.1 == i) && (!(q.1 == i + 1) && !(q.1 + 1 == i && q.2.category == 2))) = lv2) (k : rv_V l D tys own cc nL ret hh R Phi cu su ws (pc + 2) lv2 rest) : rv_V l D tys own cc nL ret hh R Phi cu su ws pc lv (.double x :: rest) := by
  intro p e s m args below meth c A H locs ls ok hP hD hS hl
  exact lv_dstore ok.1 ok.2.1 hdg hl hn he (fun ls2 hl2 => k p e s m args below meth c A H locs ls2 ok hP hD hS hl2)
theorem rv_iinc {i : Nat} {n : Int} {x v : Int32} (hdg : decode cc pc = .ok (.iinc i n, 3)) (q : Nat) (hq : lv[q]? = some (i, .int x)) (hv : x + Int32.ofInt n = v) (hn : i < nL) (he : (i, Value.int v) :: lv.filter (fun q => !(q.1 == i) && !(q.1 + 1 == i && q.2.category == 2)) = lv2) (k : rv_V l D tys own cc nL ret hh R Phi cu su ws (pc + 3) lv2 rest) : rv_V l D tys own cc nL ret hh R Phi cu su ws pc lv rest := by
  intro p e s m args below meth c A H locs ls ok hP hD hS hl
  exact lv_iinc ok.1 ok.2.1 hdg hl hq hv hn he (fun ls2 hl2 => k p e s m args below meth c A H locs ls2 ok hP hD hS hl2)
theorem rv_iadd {x y : Int32} (hdg : decode cc pc = .ok (.iadd, 1)) (k : rv_V l D tys own cc nL ret hh R Phi cu su ws (pc + 1) lv (.int (x + y) :: rest)) : rv_V l D tys own cc nL ret hh R Phi cu su ws pc lv (.int y :: .int x :: rest) := by
  intro p e s m args below meth c A H locs ls ok hP hD hS hl
  exact lv_iadd ok.1 ok.2.1 hdg (k p e s m args below meth c A H locs ls ok hP hD hS hl)
theorem rv_isub {x y : Int32} (hdg : decode cc pc = .ok (.isub, 1)) (k : rv_V l D tys own cc nL ret hh R Phi cu su ws (pc + 1) lv (.int (x - y) :: rest)) : rv_V l D tys own cc nL ret hh R Phi cu su ws pc lv (.int y :: .int x :: rest) := by
  intro p e s m args below meth c A H locs ls ok hP hD hS hl
  exact lv_isub ok.1 ok.2.1 hdg (k p e s m args below meth c A H locs ls ok hP hD hS hl)
theorem rv_imul {x y : Int32} (hdg : decode cc pc = .ok (.imul, 1)) (k : rv_V l D tys own cc nL ret hh R Phi cu su ws (pc + 1) lv (.int (x * y) :: rest)) : rv_V l D tys own cc nL ret hh R Phi cu su ws pc lv (.int y :: .int x :: rest) := by
  intro p e s m args below meth c A H locs ls ok hP hD hS hl
  exact lv_imul ok.1 ok.2.1 hdg (k p e s m args below meth c A H locs ls ok hP hD hS hl)
theorem rv_iand {x y : Int32} (hdg : decode cc pc = .ok (.iand, 1)) (k : rv_V l D tys own cc nL ret hh R Phi cu su ws (pc + 1) lv (.int (x &&& y) :: rest)) : rv_V l D tys own cc nL ret hh R Phi cu su ws pc lv (.int y :: .int x :: rest) := by
  intro p e s m args below meth c A H locs ls ok hP hD hS hl
  exact lv_iand ok.1 ok.2.1 hdg (k p e s m args below meth c A H locs ls ok hP hD hS hl)
theorem rv_ior {x y : Int32} (hdg : decode cc pc = .ok (.ior, 1)) (k : rv_V l D tys own cc nL ret hh R Phi cu su ws (pc + 1) lv (.int (x ||| y) :: rest)) : rv_V l D tys own cc nL ret hh R Phi cu su ws pc lv (.int y :: .int x :: rest) := by
  intro p e s m args below meth c A H locs ls ok hP hD hS hl
  exact lv_ior ok.1 ok.2.1 hdg (k p e s m args below meth c A H locs ls ok hP hD hS hl)
theorem rv_ixor {x y : Int32} (hdg : decode cc pc = .ok (.ixor, 1)) (k : rv_V l D tys own cc nL ret hh R Phi cu su ws (pc + 1) lv (.int (x ^^^ y) :: rest)) : rv_V l D tys own cc nL ret hh R Phi cu su ws pc lv (.int y :: .int x :: rest) := by
  intro p e s m args below meth c A H locs ls ok hP hD hS hl
  exact lv_ixor ok.1 ok.2.1 hdg (k p e s m args below meth c A H locs ls ok hP hD hS hl)
theorem rv_ishl {x y : Int32} (hdg : decode cc pc = .ok (.ishl, 1)) (k : rv_V l D tys own cc nL ret hh R Phi cu su ws (pc + 1) lv (.int (x <<< (y &&& 31)) :: rest)) : rv_V l D tys own cc nL ret hh R Phi cu su ws pc lv (.int y :: .int x :: rest) := by
  intro p e s m args below meth c A H locs ls ok hP hD hS hl
  exact lv_ishl ok.1 ok.2.1 hdg (k p e s m args below meth c A H locs ls ok hP hD hS hl)
theorem rv_ishr {x y : Int32} (hdg : decode cc pc = .ok (.ishr, 1)) (k : rv_V l D tys own cc nL ret hh R Phi cu su ws (pc + 1) lv (.int (x >>> (y &&& 31)) :: rest)) : rv_V l D tys own cc nL ret hh R Phi cu su ws pc lv (.int y :: .int x :: rest) := by
  intro p e s m args below meth c A H locs ls ok hP hD hS hl
  exact lv_ishr ok.1 ok.2.1 hdg (k p e s m args below meth c A H locs ls ok hP hD hS hl)
theorem rv_idiv {x y : Int32} (hdg : decode cc pc = .ok (.idiv, 1)) (hne : ¬ y = 0) (k : rv_V l D tys own cc nL ret hh R Phi cu su ws (pc + 1) lv (.int (x / y) :: rest)) : rv_V l D tys own cc nL ret hh R Phi cu su ws pc lv (.int y :: .int x :: rest) := by
  intro p e s m args below meth c A H locs ls ok hP hD hS hl
  exact lv_idiv ok.1 ok.2.1 hdg hne (k p e s m args below meth c A H locs ls ok hP hD hS hl)
theorem rv_irem {x y : Int32} (hdg : decode cc pc = .ok (.irem, 1)) (hne : ¬ y = 0) (k : rv_V l D tys own cc nL ret hh R Phi cu su ws (pc + 1) lv (.int (x - x / y * y) :: rest)) : rv_V l D tys own cc nL ret hh R Phi cu su ws pc lv (.int y :: .int x :: rest) := by
  intro p e s m args below meth c A H locs ls ok hP hD hS hl
  exact lv_irem ok.1 ok.2.1 hdg hne (k p e s m args below meth c A H locs ls ok hP hD hS hl)
theorem rv_ineg {x : Int32} (hdg : decode cc pc = .ok (.ineg, 1)) (k : rv_V l D tys own cc nL ret hh R Phi cu su ws (pc + 1) lv (.int (-x) :: rest)) : rv_V l D tys own cc nL ret hh R Phi cu su ws pc lv (.int x :: rest) := by
  intro p e s m args below meth c A H locs ls ok hP hD hS hl
  exact lv_ineg ok.1 ok.2.1 hdg (k p e s m args below meth c A H locs ls ok hP hD hS hl)
theorem rv_ladd {x y : Int64} (hdg : decode cc pc = .ok (.ladd, 1)) (k : rv_V l D tys own cc nL ret hh R Phi cu su ws (pc + 1) lv (.long (x + y) :: rest)) : rv_V l D tys own cc nL ret hh R Phi cu su ws pc lv (.long y :: .long x :: rest) := by
  intro p e s m args below meth c A H locs ls ok hP hD hS hl
  exact lv_ladd ok.1 ok.2.1 hdg (k p e s m args below meth c A H locs ls ok hP hD hS hl)
theorem rv_lsub {x y : Int64} (hdg : decode cc pc = .ok (.lsub, 1)) (k : rv_V l D tys own cc nL ret hh R Phi cu su ws (pc + 1) lv (.long (x - y) :: rest)) : rv_V l D tys own cc nL ret hh R Phi cu su ws pc lv (.long y :: .long x :: rest) := by
  intro p e s m args below meth c A H locs ls ok hP hD hS hl
  exact lv_lsub ok.1 ok.2.1 hdg (k p e s m args below meth c A H locs ls ok hP hD hS hl)
theorem rv_land {x y : Int64} (hdg : decode cc pc = .ok (.land, 1)) (k : rv_V l D tys own cc nL ret hh R Phi cu su ws (pc + 1) lv (.long (x &&& y) :: rest)) : rv_V l D tys own cc nL ret hh R Phi cu su ws pc lv (.long y :: .long x :: rest) := by
  intro p e s m args below meth c A H locs ls ok hP hD hS hl
  exact lv_land ok.1 ok.2.1 hdg (k p e s m args below meth c A H locs ls ok hP hD hS hl)
theorem rv_lor {x y : Int64} (hdg : decode cc pc = .ok (.lor, 1)) (k : rv_V l D tys own cc nL ret hh R Phi cu su ws (pc + 1) lv (.long (x ||| y) :: rest)) : rv_V l D tys own cc nL ret hh R Phi cu su ws pc lv (.long y :: .long x :: rest) := by
  intro p e s m args below meth c A H locs ls ok hP hD hS hl
  exact lv_lor ok.1 ok.2.1 hdg (k p e s m args below meth c A H locs ls ok hP hD hS hl)
theorem rv_lxor {x y : Int64} (hdg : decode cc pc = .ok (.lxor, 1)) (k : rv_V l D tys own cc nL ret hh R Phi cu su ws (pc + 1) lv (.long (x ^^^ y) :: rest)) : rv_V l D tys own cc nL ret hh R Phi cu su ws pc lv (.long y :: .long x :: rest) := by
  intro p e s m args below meth c A H locs ls ok hP hD hS hl
  exact lv_lxor ok.1 ok.2.1 hdg (k p e s m args below meth c A H locs ls ok hP hD hS hl)
theorem rv_iushr {x y v : Int32} (hdg : decode cc pc = .ok (.iushr, 1)) (hv : (x.toUInt32 >>> (y.toUInt32 &&& Int32.toUInt32 31)).toInt32 = v) (k : rv_V l D tys own cc nL ret hh R Phi cu su ws (pc + 1) lv (.int v :: rest)) : rv_V l D tys own cc nL ret hh R Phi cu su ws pc lv (.int y :: .int x :: rest) := by
  intro p e s m args below meth c A H locs ls ok hP hD hS hl
  exact lv_iushr ok.1 ok.2.1 hdg hv (k p e s m args below meth c A H locs ls ok hP hD hS hl)
theorem rv_lushr {x v : Int64} {y : Int32} (hdg : decode cc pc = .ok (.lushr, 1)) (hv : (x.toUInt64 >>> (y.toInt64.toUInt64 &&& Int64.toUInt64 63)).toInt64 = v) (k : rv_V l D tys own cc nL ret hh R Phi cu su ws (pc + 1) lv (.long v :: rest)) : rv_V l D tys own cc nL ret hh R Phi cu su ws pc lv (.int y :: .long x :: rest) := by
  intro p e s m args below meth c A H locs ls ok hP hD hS hl
  exact lv_lushr ok.1 ok.2.1 hdg hv (k p e s m args below meth c A H locs ls ok hP hD hS hl)
theorem rv_lshl {x v : Int64} {y : Int32} (hdg : decode cc pc = .ok (.lshl, 1)) (hv : x <<< (y.toInt64 &&& 63) = v) (k : rv_V l D tys own cc nL ret hh R Phi cu su ws (pc + 1) lv (.long v :: rest)) : rv_V l D tys own cc nL ret hh R Phi cu su ws pc lv (.int y :: .long x :: rest) := by
  intro p e s m args below meth c A H locs ls ok hP hD hS hl
  exact lv_lshl ok.1 ok.2.1 hdg hv (k p e s m args below meth c A H locs ls ok hP hD hS hl)
theorem rv_lcmp {x y : Int64} (hdg : decode cc pc = .ok (.lcmp, 1)) (k : rv_V l D tys own cc nL ret hh R Phi cu su ws (pc + 1) lv (.int (lg_cmp x y) :: rest)) : rv_V l D tys own cc nL ret hh R Phi cu su ws pc lv (.long y :: .long x :: rest) := by
  intro p e s m args below meth c A H locs ls ok hP hD hS hl
  exact W.lcmp ok.1 ok.2.1 hdg (k p e s m args below meth c A H locs ls ok hP hD hS hl)
theorem rv_i2l {x : Int32} {v : Int64} (hdg : decode cc pc = .ok (.i2l, 1)) (hv : x.toInt64 = v) (k : rv_V l D tys own cc nL ret hh R Phi cu su ws (pc + 1) lv (.long v :: rest)) : rv_V l D tys own cc nL ret hh R Phi cu su ws pc lv (.int x :: rest) := by
  intro p e s m args below meth c A H locs ls ok hP hD hS hl
  exact lv_i2l ok.1 ok.2.1 hdg hv (k p e s m args below meth c A H locs ls ok hP hD hS hl)
theorem rv_l2i {x : Int64} {v : Int32} (hdg : decode cc pc = .ok (.l2i, 1)) (hv : x.toInt32 = v) (k : rv_V l D tys own cc nL ret hh R Phi cu su ws (pc + 1) lv (.int v :: rest)) : rv_V l D tys own cc nL ret hh R Phi cu su ws pc lv (.long x :: rest) := by
  intro p e s m args below meth c A H locs ls ok hP hD hS hl
  exact lv_l2i ok.1 ok.2.1 hdg hv (k p e s m args below meth c A H locs ls ok hP hD hS hl)
theorem rv_i2c {x v : Int32} (hdg : decode cc pc = .ok (.i2c, 1)) (hv : (x.toUInt32 % 65536).toInt32 = v) (k : rv_V l D tys own cc nL ret hh R Phi cu su ws (pc + 1) lv (.int v :: rest)) : rv_V l D tys own cc nL ret hh R Phi cu su ws pc lv (.int x :: rest) := by
  intro p e s m args below meth c A H locs ls ok hP hD hS hl
  exact lv_i2c ok.1 ok.2.1 hdg hv (k p e s m args below meth c A H locs ls ok hP hD hS hl)
theorem rv_i2f {x : Int32} (hdg : decode cc pc = .ok (.i2f, 1)) (k : rv_V l D tys own cc nL ret hh R Phi cu su ws (pc + 1) lv (.float (FP.i2f x) :: rest)) : rv_V l D tys own cc nL ret hh R Phi cu su ws pc lv (.int x :: rest) := by
  intro p e s m args below meth c A H locs ls ok hP hD hS hl
  exact lv_i2f ok.1 ok.2.1 hdg (k p e s m args below meth c A H locs ls ok hP hD hS hl)
theorem rv_i2d {x : Int32} (hdg : decode cc pc = .ok (.i2d, 1)) (k : rv_V l D tys own cc nL ret hh R Phi cu su ws (pc + 1) lv (.double (FP.i2d x) :: rest)) : rv_V l D tys own cc nL ret hh R Phi cu su ws pc lv (.int x :: rest) := by
  intro p e s m args below meth c A H locs ls ok hP hD hS hl
  exact lv_i2d ok.1 ok.2.1 hdg (k p e s m args below meth c A H locs ls ok hP hD hS hl)
theorem rv_f2d {x : UInt32} (hdg : decode cc pc = .ok (.f2d, 1)) (hne : vf_n64 (FP.f2d x)) (k : rv_V l D tys own cc nL ret hh R Phi cu su ws (pc + 1) lv (.double (FP.f2d x) :: rest)) : rv_V l D tys own cc nL ret hh R Phi cu su ws pc lv (.float x :: rest) := by
  intro p e s m args below meth c A H locs ls ok hP hD hS hl
  exact lv_f2d ok.1 ok.2.1 hdg hne (k p e s m args below meth c A H locs ls ok hP hD hS hl)
theorem rv_fdiv {x y : UInt32} (hdg : decode cc pc = .ok (.fdiv, 1)) (hne : vf_n32 (FP.fdiv x y)) (k : rv_V l D tys own cc nL ret hh R Phi cu su ws (pc + 1) lv (.float (FP.fdiv x y) :: rest)) : rv_V l D tys own cc nL ret hh R Phi cu su ws pc lv (.float y :: .float x :: rest) := by
  intro p e s m args below meth c A H locs ls ok hP hD hS hl
  exact lv_fdiv ok.1 ok.2.1 hdg hne (k p e s m args below meth c A H locs ls ok hP hD hS hl)
theorem rv_ddiv {x y : UInt64} (hdg : decode cc pc = .ok (.ddiv, 1)) (hne : vf_n64 (FP.ddiv x y)) (k : rv_V l D tys own cc nL ret hh R Phi cu su ws (pc + 1) lv (.double (FP.ddiv x y) :: rest)) : rv_V l D tys own cc nL ret hh R Phi cu su ws pc lv (.double y :: .double x :: rest) := by
  intro p e s m args below meth c A H locs ls ok hP hD hS hl
  exact lv_ddiv ok.1 ok.2.1 hdg hne (k p e s m args below meth c A H locs ls ok hP hD hS hl)
theorem rv_dcmp {x y : UInt64} {op : CmpOp} (hdg : decode cc pc = .ok (.dcmp op, 1)) (k : rv_V l D tys own cc nL ret hh R Phi cu su ws (pc + 1) lv (.int (Op.cmpValue (FP.dcmp x y) op) :: rest)) : rv_V l D tys own cc nL ret hh R Phi cu su ws pc lv (.double y :: .double x :: rest) := by
  intro p e s m args below meth c A H locs ls ok hP hD hS hl
  exact lv_dcmp ok.1 ok.2.1 hdg (k p e s m args below meth c A H locs ls ok hP hD hS hl)
theorem rv_fcmp {x y : UInt32} {op : CmpOp} (hdg : decode cc pc = .ok (.fcmp op, 1)) (k : rv_V l D tys own cc nL ret hh R Phi cu su ws (pc + 1) lv (.int (Op.cmpValue (FP.fcmp x y) op) :: rest)) : rv_V l D tys own cc nL ret hh R Phi cu su ws pc lv (.float y :: .float x :: rest) := by
  intro p e s m args below meth c A H locs ls ok hP hD hS hl
  exact lv_fcmp ok.1 ok.2.1 hdg (k p e s m args below meth c A H locs ls ok hP hD hS hl)
theorem rv_dup {va : Value} (hdg : decode cc pc = .ok (.dup, 1)) (hva : va.category = 1) (k : rv_V l D tys own cc nL ret hh R Phi cu su ws (pc + 1) lv (va :: va :: rest)) : rv_V l D tys own cc nL ret hh R Phi cu su ws pc lv (va :: rest) := by
  intro p e s m args below meth c A H locs ls ok hP hD hS hl
  exact lv_dup ok.1 ok.2.1 hdg hva (k p e s m args below meth c A H locs ls ok hP hD hS hl)
theorem rv_pop {va : Value} (hdg : decode cc pc = .ok (.pop, 1)) (hva : va.category = 1) (k : rv_V l D tys own cc nL ret hh R Phi cu su ws (pc + 1) lv (rest)) : rv_V l D tys own cc nL ret hh R Phi cu su ws pc lv (va :: rest) := by
  intro p e s m args below meth c A H locs ls ok hP hD hS hl
  exact lv_pop ok.1 ok.2.1 hdg hva (k p e s m args below meth c A H locs ls ok hP hD hS hl)
theorem rv_dup2 {va vb : Value} (hdg : decode cc pc = .ok (.dup2, 1)) (hva : va.category = 1) (hvb : vb.category = 1) (k : rv_V l D tys own cc nL ret hh R Phi cu su ws (pc + 1) lv (va :: vb :: va :: vb :: rest)) : rv_V l D tys own cc nL ret hh R Phi cu su ws pc lv (va :: vb :: rest) := by
  intro p e s m args below meth c A H locs ls ok hP hD hS hl
  exact lv_dup2_11 ok.1 ok.2.1 hdg hva hvb (k p e s m args below meth c A H locs ls ok hP hD hS hl)
theorem rv_if_eq {x : Int32} {off : Int} {tgt : Nat} (hdg : decode cc pc = .ok (.ifCond .eq off, 3)) (ht : (pc : Int) + off = (tgt : Int)) (kt : x = 0 → rv_V l D tys own cc nL ret hh R Phi cu su ws tgt lv rest) (kf : ¬ x = 0 → rv_V l D tys own cc nL ret hh R Phi cu su ws (pc + 3) lv rest) : rv_V l D tys own cc nL ret hh R Phi cu su ws pc lv (.int x :: rest) := by
  intro p e s m args below meth c A H locs ls ok hP hD hS hl
  exact lv_if_eq ok.1 ok.2.1 hdg ht (fun h => kt h p e s m args below meth c A H locs ls ok hP hD hS hl) (fun h => kf h p e s m args below meth c A H locs ls ok hP hD hS hl)
theorem rv_if_ne {x : Int32} {off : Int} {tgt : Nat} (hdg : decode cc pc = .ok (.ifCond .ne off, 3)) (ht : (pc : Int) + off = (tgt : Int)) (kt : ¬ x = 0 → rv_V l D tys own cc nL ret hh R Phi cu su ws tgt lv rest) (kf : x = 0 → rv_V l D tys own cc nL ret hh R Phi cu su ws (pc + 3) lv rest) : rv_V l D tys own cc nL ret hh R Phi cu su ws pc lv (.int x :: rest) := by
  intro p e s m args below meth c A H locs ls ok hP hD hS hl
  exact lv_if_ne ok.1 ok.2.1 hdg ht (fun h => kt h p e s m args below meth c A H locs ls ok hP hD hS hl) (fun h => kf h p e s m args below meth c A H locs ls ok hP hD hS hl)
theorem rv_if_lt {x : Int32} {off : Int} {tgt : Nat} (hdg : decode cc pc = .ok (.ifCond .lt off, 3)) (ht : (pc : Int) + off = (tgt : Int)) (kt : x < 0 → rv_V l D tys own cc nL ret hh R Phi cu su ws tgt lv rest) (kf : ¬ x < 0 → rv_V l D tys own cc nL ret hh R Phi cu su ws (pc + 3) lv rest) : rv_V l D tys own cc nL ret hh R Phi cu su ws pc lv (.int x :: rest) := by
  intro p e s m args below meth c A H locs ls ok hP hD hS hl
  exact lv_if_lt ok.1 ok.2.1 hdg ht (fun h => kt h p e s m args below meth c A H locs ls ok hP hD hS hl) (fun h => kf h p e s m args below meth c A H locs ls ok hP hD hS hl)
theorem rv_if_ge {x : Int32} {off : Int} {tgt : Nat} (hdg : decode cc pc = .ok (.ifCond .ge off, 3)) (ht : (pc : Int) + off = (tgt : Int)) (kt : 0 ≤ x → rv_V l D tys own cc nL ret hh R Phi cu su ws tgt lv rest) (kf : ¬ 0 ≤ x → rv_V l D tys own cc nL ret hh R Phi cu su ws (pc + 3) lv rest) : rv_V l D tys own cc nL ret hh R Phi cu su ws pc lv (.int x :: rest) := by
  intro p e s m args below meth c A H locs ls ok hP hD hS hl
  exact lv_if_ge ok.1 ok.2.1 hdg ht (fun h => kt h p e s m args below meth c A H locs ls ok hP hD hS hl) (fun h => kf h p e s m args below meth c A H locs ls ok hP hD hS hl)
theorem rv_if_gt {x : Int32} {off : Int} {tgt : Nat} (hdg : decode cc pc = .ok (.ifCond .gt off, 3)) (ht : (pc : Int) + off = (tgt : Int)) (kt : 0 < x → rv_V l D tys own cc nL ret hh R Phi cu su ws tgt lv rest) (kf : ¬ 0 < x → rv_V l D tys own cc nL ret hh R Phi cu su ws (pc + 3) lv rest) : rv_V l D tys own cc nL ret hh R Phi cu su ws pc lv (.int x :: rest) := by
  intro p e s m args below meth c A H locs ls ok hP hD hS hl
  exact lv_if_gt ok.1 ok.2.1 hdg ht (fun h => kt h p e s m args below meth c A H locs ls ok hP hD hS hl) (fun h => kf h p e s m args below meth c A H locs ls ok hP hD hS hl)
theorem rv_if_le {x : Int32} {off : Int} {tgt : Nat} (hdg : decode cc pc = .ok (.ifCond .le off, 3)) (ht : (pc : Int) + off = (tgt : Int)) (kt : x ≤ 0 → rv_V l D tys own cc nL ret hh R Phi cu su ws tgt lv rest) (kf : ¬ x ≤ 0 → rv_V l D tys own cc nL ret hh R Phi cu su ws (pc + 3) lv rest) : rv_V l D tys own cc nL ret hh R Phi cu su ws pc lv (.int x :: rest) := by
  intro p e s m args below meth c A H locs ls ok hP hD hS hl
  exact lv_if_le ok.1 ok.2.1 hdg ht (fun h => kt h p e s m args below meth c A H locs ls ok hP hD hS hl) (fun h => kf h p e s m args below meth c A H locs ls ok hP hD hS hl)
theorem rv_icmp_eq {x y : Int32} {off : Int} {tgt : Nat} (hdg : decode cc pc = .ok (.if_icmp .eq off, 3)) (ht : (pc : Int) + off = (tgt : Int)) (kt : x = y → rv_V l D tys own cc nL ret hh R Phi cu su ws tgt lv rest) (kf : ¬ x = y → rv_V l D tys own cc nL ret hh R Phi cu su ws (pc + 3) lv rest) : rv_V l D tys own cc nL ret hh R Phi cu su ws pc lv (.int y :: .int x :: rest) := by
  intro p e s m args below meth c A H locs ls ok hP hD hS hl
  exact lv_icmp_eq ok.1 ok.2.1 hdg ht (fun h => kt h p e s m args below meth c A H locs ls ok hP hD hS hl) (fun h => kf h p e s m args below meth c A H locs ls ok hP hD hS hl)
theorem rv_icmp_ne {x y : Int32} {off : Int} {tgt : Nat} (hdg : decode cc pc = .ok (.if_icmp .ne off, 3)) (ht : (pc : Int) + off = (tgt : Int)) (kt : ¬ x = y → rv_V l D tys own cc nL ret hh R Phi cu su ws tgt lv rest) (kf : x = y → rv_V l D tys own cc nL ret hh R Phi cu su ws (pc + 3) lv rest) : rv_V l D tys own cc nL ret hh R Phi cu su ws pc lv (.int y :: .int x :: rest) := by
  intro p e s m args below meth c A H locs ls ok hP hD hS hl
  exact lv_icmp_ne ok.1 ok.2.1 hdg ht (fun h => kt h p e s m args below meth c A H locs ls ok hP hD hS hl) (fun h => kf h p e s m args below meth c A H locs ls ok hP hD hS hl)
theorem rv_icmp_lt {x y : Int32} {off : Int} {tgt : Nat} (hdg : decode cc pc = .ok (.if_icmp .lt off, 3)) (ht : (pc : Int) + off = (tgt : Int)) (kt : x < y → rv_V l D tys own cc nL ret hh R Phi cu su ws tgt lv rest) (kf : ¬ x < y → rv_V l D tys own cc nL ret hh R Phi cu su ws (pc + 3) lv rest) : rv_V l D tys own cc nL ret hh R Phi cu su ws pc lv (.int y :: .int x :: rest) := by
  intro p e s m args below meth c A H locs ls ok hP hD hS hl
  exact lv_icmp_lt ok.1 ok.2.1 hdg ht (fun h => kt h p e s m args below meth c A H locs ls ok hP hD hS hl) (fun h => kf h p e s m args below meth c A H locs ls ok hP hD hS hl)
theorem rv_icmp_ge {x y : Int32} {off : Int} {tgt : Nat} (hdg : decode cc pc = .ok (.if_icmp .ge off, 3)) (ht : (pc : Int) + off = (tgt : Int)) (kt : y ≤ x → rv_V l D tys own cc nL ret hh R Phi cu su ws tgt lv rest) (kf : ¬ y ≤ x → rv_V l D tys own cc nL ret hh R Phi cu su ws (pc + 3) lv rest) : rv_V l D tys own cc nL ret hh R Phi cu su ws pc lv (.int y :: .int x :: rest) := by
  intro p e s m args below meth c A H locs ls ok hP hD hS hl
  exact lv_icmp_ge ok.1 ok.2.1 hdg ht (fun h => kt h p e s m args below meth c A H locs ls ok hP hD hS hl) (fun h => kf h p e s m args below meth c A H locs ls ok hP hD hS hl)
theorem rv_icmp_gt {x y : Int32} {off : Int} {tgt : Nat} (hdg : decode cc pc = .ok (.if_icmp .gt off, 3)) (ht : (pc : Int) + off = (tgt : Int)) (kt : y < x → rv_V l D tys own cc nL ret hh R Phi cu su ws tgt lv rest) (kf : ¬ y < x → rv_V l D tys own cc nL ret hh R Phi cu su ws (pc + 3) lv rest) : rv_V l D tys own cc nL ret hh R Phi cu su ws pc lv (.int y :: .int x :: rest) := by
  intro p e s m args below meth c A H locs ls ok hP hD hS hl
  exact lv_icmp_gt ok.1 ok.2.1 hdg ht (fun h => kt h p e s m args below meth c A H locs ls ok hP hD hS hl) (fun h => kf h p e s m args below meth c A H locs ls ok hP hD hS hl)
theorem rv_icmp_le {x y : Int32} {off : Int} {tgt : Nat} (hdg : decode cc pc = .ok (.if_icmp .le off, 3)) (ht : (pc : Int) + off = (tgt : Int)) (kt : x ≤ y → rv_V l D tys own cc nL ret hh R Phi cu su ws tgt lv rest) (kf : ¬ x ≤ y → rv_V l D tys own cc nL ret hh R Phi cu su ws (pc + 3) lv rest) : rv_V l D tys own cc nL ret hh R Phi cu su ws pc lv (.int y :: .int x :: rest) := by
  intro p e s m args below meth c A H locs ls ok hP hD hS hl
  exact lv_icmp_le ok.1 ok.2.1 hdg ht (fun h => kt h p e s m args below meth c A H locs ls ok hP hD hS hl) (fun h => kf h p e s m args below meth c A H locs ls ok hP hD hS hl)
theorem rv_goto {off : Int} {tgt : Nat} (hdg : decode cc pc = .ok (.goto off, 3)) (ht : (pc : Int) + off = (tgt : Int)) (k : rv_V l D tys own cc nL ret hh R Phi cu su ws tgt lv rest) : rv_V l D tys own cc nL ret hh R Phi cu su ws pc lv rest := by
  intro p e s m args below meth c A H locs ls ok hP hD hS hl
  exact lv_goto ok.1 ok.2.1 hdg ht (k p e s m args below meth c A H locs ls ok hP hD hS hl)
theorem rv_get {a ci N index : Nat} {C : String} {T : u_T} {fs : List Value} {v : Value} (hin : ∀ w ∈ u_ws C T N, w ∈ AW) (hc : vwCl[ci]? = some (C, T, N)) (kf : Nat) (hk : kf < N) (hlink : Cond.fieldLink own index (T kf).1 (T kf).2.1 (T kf).2.2.1 ∈ AW) (hdg : decode cc pc = .ok (.getfield index, 3)) (q0 : Nat) (he : ws[q0]? = some (a, .inr (ci, fs))) (hv : fs[kf]? = some v) (k : rv_V l D tys own cc nL ret hh R Phi cu su ws (pc + 3) lv (v :: rest)) : rv_V l D tys own cc nL ret hh R Phi cu su ws pc lv (.ref a :: rest) := by
  intro p e s m args below meth c A H locs ls ok hP hD hS hl
  exact va_get ok.1 ok.2.1 ok.2.2.2.2.1 hin ok.2.2.2.1 ok.2.2.2.2.2.2.2.1 hP q0 he hc kf hk (ok.2.2.2.2.1 _ hlink) (fun _ h => h) hv hdg (k p e s m args below meth c A H locs ls ok hP hD hS hl)
theorem rv_put {a ci N index : Nat} {C : String} {T : u_T} {fs : List Value} {v : Value} {ty : FieldType} (hin : ∀ w ∈ u_ws C T N, w ∈ AW) (hc : vwCl[ci]? = some (C, T, N)) (kf : Nat) (hk : kf < N) (hlink : Cond.fieldLink own index (T kf).1 (T kf).2.1 (T kf).2.2.1 ∈ AW) (ty0 : Nat → FieldType) (hty : ∀ k, k < N → parseFieldDescriptor (T k).2.2.1 = some (ty0 k)) (hnm : ∀ a, a < N → ∀ b, b < N → a ≠ b → (T a).2.1 ≠ (T b).2.1) (hfin : (T kf).2.2.2 = false) (hd : parseFieldDescriptor (T kf).2.2.1 = some ty) (hn : narrow ty v = v) (hfit : fits ty v = true) (hdg : decode cc pc = .ok (.putfield index, 3)) (q0 : Nat) (he : ws[q0]? = some (a, .inr (ci, fs))) (hl2 : kf < fs.length) (hw : ws.set q0 (a, .inr (ci, fs.set kf v)) = ws2) (k : rv_V l D tys own cc nL ret hh R Phi cu su ws2 (pc + 3) lv rest) : rv_V l D tys own cc nL ret hh R Phi cu su ws pc lv (v :: .ref a :: rest) := by
  intro p e s m args below meth c A H locs ls ok hP hD hS hl
  subst hw
  exact va_put ok.1 ok.2.1 ok.2.2.2.2.1 hin ty0 hty hnm ok.2.2.2.1 ok.2.2.2.2.2.2.2.1 hP hD hS q0 he hc kf hk (ok.2.2.2.2.1 _ hlink) (fun _ h => h) hfin hd hn hfit hl2 hdg (fun H2 locs2 hP2 hD2 hS2 => k p e s m args below meth c A H2 locs2 ls ok hP2 hD2 hS2 hl)
theorem rv_getN {a ci N index : Nat} {C : String} {T : u_T} {fs : List Value} {v : Value} (hin : ∀ w ∈ u_ws C T N, w ∈ AW) (hc : vwCl[ci]? = some (C, T, N)) (kf : Nat) (hk : kf < N) (host : String) (hlink : Cond.fieldLinkNest own index (T kf).1 (T kf).2.1 (T kf).2.2.1 host ∈ NW) (hdg : decode cc pc = .ok (.getfield index, 3)) (q0 : Nat) (he : ws[q0]? = some (a, .inr (ci, fs))) (hv : fs[kf]? = some v) (k : rv_V l D tys own cc nL ret hh R Phi cu su ws (pc + 3) lv (v :: rest)) : rv_V l D tys own cc nL ret hh R Phi cu su ws pc lv (.ref a :: rest) := by
  intro p e s m args below meth c A H locs ls ok hP hD hS hl
  exact va_getN ok.1 ok.2.1 ok.2.2.2.2.1 hin ok.2.2.2.1 ok.2.2.2.2.2.2.2.1 hP q0 he hc kf hk (va_Nw.use rfl (ok.2.2.2.2.2.2.2.2.2.1.1 _ hlink)) (fun _ h => h) hv hdg (k p e s m args below meth c A H locs ls ok hP hD hS hl)
theorem rv_putN {a ci N index : Nat} {C : String} {T : u_T} {fs : List Value} {v : Value} {ty : FieldType} (hin : ∀ w ∈ u_ws C T N, w ∈ AW) (hc : vwCl[ci]? = some (C, T, N)) (kf : Nat) (hk : kf < N) (host : String) (hlink : Cond.fieldLinkNest own index (T kf).1 (T kf).2.1 (T kf).2.2.1 host ∈ NW) (ty0 : Nat → FieldType) (hty : ∀ k, k < N → parseFieldDescriptor (T k).2.2.1 = some (ty0 k)) (hnm : ∀ a, a < N → ∀ b, b < N → a ≠ b → (T a).2.1 ≠ (T b).2.1) (hfin : (T kf).2.2.2 = false) (hd : parseFieldDescriptor (T kf).2.2.1 = some ty) (hn : narrow ty v = v) (hfit : fits ty v = true) (hdg : decode cc pc = .ok (.putfield index, 3)) (q0 : Nat) (he : ws[q0]? = some (a, .inr (ci, fs))) (hl2 : kf < fs.length) (hw : ws.set q0 (a, .inr (ci, fs.set kf v)) = ws2) (k : rv_V l D tys own cc nL ret hh R Phi cu su ws2 (pc + 3) lv rest) : rv_V l D tys own cc nL ret hh R Phi cu su ws pc lv (v :: .ref a :: rest) := by
  intro p e s m args below meth c A H locs ls ok hP hD hS hl
  subst hw
  exact va_putN ok.1 ok.2.1 ok.2.2.2.2.1 hin ty0 hty hnm ok.2.2.2.1 ok.2.2.2.2.2.2.2.1 hP hD hS q0 he hc kf hk (va_Nw.use rfl (ok.2.2.2.2.2.2.2.2.2.1.1 _ hlink)) (fun _ h => h) hfin hd hn hfit hl2 hdg (fun H2 locs2 hP2 hD2 hS2 => k p e s m args below meth c A H2 locs2 ls ok hP2 hD2 hS2 hl)
theorem rv_iald {a n : Nat} {cA : ClassId} {f : Nat → Int32} {i : Int32} (hdg : decode cc pc = .ok (.iaload, 1)) (t0 : Nat) (ht : tys[t0]? = some (cA, .int)) (q0 : Nat) (ha : ws[q0]? = some (a, .inl (cA, n, .inl f))) (hi : vp_in i n) (k : rv_V l D tys own cc nL ret hh R Phi cu su ws (pc + 1) lv (.int (f i.toNatClampNeg) :: rest)) : rv_V l D tys own cc nL ret hh R Phi cu su ws pc lv (.int i :: .ref a :: rest) := by
  intro p e s m args below meth c A H locs ls ok hP hD hS hl
  exact va_iald ok.1 ok.2.1 ok.2.2.2.2.2.2.2.1 hP q0 t0 ha ht hi hdg (k p e s m args below meth c A H locs ls ok hP hD hS hl)
theorem rv_iast {a n : Nat} {cA : ClassId} {f : Nat → Int32} {i : Int32} {x : Int32} (hdg : decode cc pc = .ok (.iastore, 1)) (t0 : Nat) (ht : tys[t0]? = some (cA, .int)) (q0 : Nat) (ha : ws[q0]? = some (a, .inl (cA, n, .inl f))) (hi : vp_in i n) (hw : ws.set q0 (a, .inl (cA, n, .inl (upd f i.toNatClampNeg x))) = ws2) (k : rv_V l D tys own cc nL ret hh R Phi cu su ws2 (pc + 1) lv rest) : rv_V l D tys own cc nL ret hh R Phi cu su ws pc lv (.int x :: .int i :: .ref a :: rest) := by
  intro p e s m args below meth c A H locs ls ok hP hD hS hl
  subst hw
  exact va_iast ok.1 ok.2.1 ok.2.2.2.2.2.2.2.1 hP hD hS q0 t0 ha ht hi hdg (fun H2 locs2 hP2 hD2 hS2 => k p e s m args below meth c A H2 locs2 ls ok hP2 hD2 hS2 hl)
theorem rv_zald {a n : Nat} {cA : ClassId} {f : Nat → Int32} {i : Int32} (hdg : decode cc pc = .ok (.baload, 1)) (t0 : Nat) (ht : tys[t0]? = some (cA, .boolean)) (q0 : Nat) (ha : ws[q0]? = some (a, .inl (cA, n, .inl f))) (hi : vp_in i n) (k : rv_V l D tys own cc nL ret hh R Phi cu su ws (pc + 1) lv (.int (f i.toNatClampNeg) :: rest)) : rv_V l D tys own cc nL ret hh R Phi cu su ws pc lv (.int i :: .ref a :: rest) := by
  intro p e s m args below meth c A H locs ls ok hP hD hS hl
  exact va_zald ok.1 ok.2.1 ok.2.2.2.2.2.2.2.1 hP q0 t0 ha ht hi hdg (k p e s m args below meth c A H locs ls ok hP hD hS hl)
theorem rv_zast {a n : Nat} {cA : ClassId} {f : Nat → Int32} {i : Int32} {x : Int32} (hdg : decode cc pc = .ok (.bastore, 1)) (t0 : Nat) (ht : tys[t0]? = some (cA, .boolean)) (q0 : Nat) (ha : ws[q0]? = some (a, .inl (cA, n, .inl f))) (hi : vp_in i n) (hw : ws.set q0 (a, .inl (cA, n, .inl (upd f i.toNatClampNeg (vp_nar .boolean x)))) = ws2) (k : rv_V l D tys own cc nL ret hh R Phi cu su ws2 (pc + 1) lv rest) : rv_V l D tys own cc nL ret hh R Phi cu su ws pc lv (.int x :: .int i :: .ref a :: rest) := by
  intro p e s m args below meth c A H locs ls ok hP hD hS hl
  subst hw
  exact va_zast ok.1 ok.2.1 ok.2.2.2.2.2.2.2.1 hP hD hS q0 t0 ha ht hi hdg (fun H2 locs2 hP2 hD2 hS2 => k p e s m args below meth c A H2 locs2 ls ok hP2 hD2 hS2 hl)
theorem rv_cald {a n : Nat} {cA : ClassId} {f : Nat → Int32} {i : Int32} (hdg : decode cc pc = .ok (.caload, 1)) (t0 : Nat) (ht : tys[t0]? = some (cA, .char)) (q0 : Nat) (ha : ws[q0]? = some (a, .inl (cA, n, .inl f))) (hi : vp_in i n) (k : rv_V l D tys own cc nL ret hh R Phi cu su ws (pc + 1) lv (.int (f i.toNatClampNeg) :: rest)) : rv_V l D tys own cc nL ret hh R Phi cu su ws pc lv (.int i :: .ref a :: rest) := by
  intro p e s m args below meth c A H locs ls ok hP hD hS hl
  exact va_cald ok.1 ok.2.1 ok.2.2.2.2.2.2.2.1 hP q0 t0 ha ht hi hdg (k p e s m args below meth c A H locs ls ok hP hD hS hl)
theorem rv_cast {a n : Nat} {cA : ClassId} {f : Nat → Int32} {i : Int32} {x : Int32} (hdg : decode cc pc = .ok (.castore, 1)) (t0 : Nat) (ht : tys[t0]? = some (cA, .char)) (q0 : Nat) (ha : ws[q0]? = some (a, .inl (cA, n, .inl f))) (hi : vp_in i n) (hw : ws.set q0 (a, .inl (cA, n, .inl (upd f i.toNatClampNeg (vp_nar .char x)))) = ws2) (k : rv_V l D tys own cc nL ret hh R Phi cu su ws2 (pc + 1) lv rest) : rv_V l D tys own cc nL ret hh R Phi cu su ws pc lv (.int x :: .int i :: .ref a :: rest) := by
  intro p e s m args below meth c A H locs ls ok hP hD hS hl
  subst hw
  exact va_cast ok.1 ok.2.1 ok.2.2.2.2.2.2.2.1 hP hD hS q0 t0 ha ht hi hdg (fun H2 locs2 hP2 hD2 hS2 => k p e s m args below meth c A H2 locs2 ls ok hP2 hD2 hS2 hl)
theorem rv_lald {a n : Nat} {cA : ClassId} {f : Nat → Int64} {i : Int32} (hdg : decode cc pc = .ok (.laload, 1)) (t0 : Nat) (ht : tys[t0]? = some (cA, .long)) (q0 : Nat) (ha : ws[q0]? = some (a, .inl (cA, n, .inr (.inl f)))) (hi : vp_in i n) (k : rv_V l D tys own cc nL ret hh R Phi cu su ws (pc + 1) lv (.long (f i.toNatClampNeg) :: rest)) : rv_V l D tys own cc nL ret hh R Phi cu su ws pc lv (.int i :: .ref a :: rest) := by
  intro p e s m args below meth c A H locs ls ok hP hD hS hl
  exact va_lald ok.1 ok.2.1 ok.2.2.2.2.2.2.2.1 hP q0 t0 ha ht hi hdg (k p e s m args below meth c A H locs ls ok hP hD hS hl)
theorem rv_last {a n : Nat} {cA : ClassId} {f : Nat → Int64} {i : Int32} {x : Int64} (hdg : decode cc pc = .ok (.lastore, 1)) (t0 : Nat) (ht : tys[t0]? = some (cA, .long)) (q0 : Nat) (ha : ws[q0]? = some (a, .inl (cA, n, .inr (.inl f)))) (hi : vp_in i n) (hw : ws.set q0 (a, .inl (cA, n, .inr (.inl (vp_updL f i.toNatClampNeg x)))) = ws2) (k : rv_V l D tys own cc nL ret hh R Phi cu su ws2 (pc + 1) lv rest) : rv_V l D tys own cc nL ret hh R Phi cu su ws pc lv (.long x :: .int i :: .ref a :: rest) := by
  intro p e s m args below meth c A H locs ls ok hP hD hS hl
  subst hw
  exact va_last ok.1 ok.2.1 ok.2.2.2.2.2.2.2.1 hP hD hS q0 t0 ha ht hi hdg (fun H2 locs2 hP2 hD2 hS2 => k p e s m args below meth c A H2 locs2 ls ok hP2 hD2 hS2 hl)
theorem rv_dald {a n : Nat} {cA : ClassId} {f : Nat → UInt64} {i : Int32} (hdg : decode cc pc = .ok (.daload, 1)) (t0 : Nat) (ht : tys[t0]? = some (cA, .double)) (q0 : Nat) (ha : ws[q0]? = some (a, .inl (cA, n, .inr (.inr (.inr (.inl f)))))) (hi : vp_in i n) (k : rv_V l D tys own cc nL ret hh R Phi cu su ws (pc + 1) lv (.double (f i.toNatClampNeg) :: rest)) : rv_V l D tys own cc nL ret hh R Phi cu su ws pc lv (.int i :: .ref a :: rest) := by
  intro p e s m args below meth c A H locs ls ok hP hD hS hl
  exact va_dald ok.1 ok.2.1 ok.2.2.2.2.2.2.2.1 hP q0 t0 ha ht hi hdg (k p e s m args below meth c A H locs ls ok hP hD hS hl)
theorem rv_dast {a n : Nat} {cA : ClassId} {f : Nat → UInt64} {i : Int32} {x : UInt64} (hdg : decode cc pc = .ok (.dastore, 1)) (t0 : Nat) (ht : tys[t0]? = some (cA, .double)) (q0 : Nat) (ha : ws[q0]? = some (a, .inl (cA, n, .inr (.inr (.inr (.inl f)))))) (hi : vp_in i n) (hw : ws.set q0 (a, .inl (cA, n, .inr (.inr (.inr (.inl (vf_upd f i.toNatClampNeg x)))))) = ws2) (k : rv_V l D tys own cc nL ret hh R Phi cu su ws2 (pc + 1) lv rest) : rv_V l D tys own cc nL ret hh R Phi cu su ws pc lv (.double x :: .int i :: .ref a :: rest) := by
  intro p e s m args below meth c A H locs ls ok hP hD hS hl
  subst hw
  exact va_dast ok.1 ok.2.1 ok.2.2.2.2.2.2.2.1 hP hD hS q0 t0 ha ht hi hdg (fun H2 locs2 hP2 hD2 hS2 => k p e s m args below meth c A H2 locs2 ls ok hP2 hD2 hS2 hl)
theorem rv_alen {a : Nat} {cA : ClassId} {x : vp_A} {ty : FieldType} {v : Int32} (hdg : decode cc pc = .ok (.arraylength, 1)) (t0 : Nat) (ht : tys[t0]? = some (cA, ty)) (q0 : Nat) (ha : ws[q0]? = some (a, .inl (cA, x))) (hv : Int32.ofNat x.1 = v) (k : rv_V l D tys own cc nL ret hh R Phi cu su ws (pc + 1) lv (.int v :: rest)) : rv_V l D tys own cc nL ret hh R Phi cu su ws pc lv (.ref a :: rest) := by
  intro p e s m args below meth c A H locs ls ok hP hD hS hl
  exact va_alen ok.1 ok.2.1 ok.2.2.2.2.2.2.2.1 hP q0 t0 ha ht hv hdg (k p e s m args below meth c A H locs ls ok hP hD hS hl)
theorem rv_ldc {index : Nat} {v : Int32} (hc : Cond.constant own index v ∈ AW) (hdg : decode cc pc = .ok (.ldc index, 2)) (k : rv_V l D tys own cc nL ret hh R Phi cu su ws (pc + 2) lv (.int v :: rest)) : rv_V l D tys own cc nL ret hh R Phi cu su ws pc lv rest := by
  intro p e s m args below meth c A H locs ls ok hP hD hS hl
  exact lv_ldc ok.1 ok.2.1 ok.2.2.2.1 (ok.2.2.2.2.1 _ hc) hdg (k p e s m args below meth c A H locs ls ok hP hD hS hl)
theorem rv_ldc2 {index : Nat} {v : Int64} (hc : Cond.constantLong own index v ∈ AW) (hdg : decode cc pc = .ok (.ldc2_w index, 3)) (k : rv_V l D tys own cc nL ret hh R Phi cu su ws (pc + 3) lv (.long v :: rest)) : rv_V l D tys own cc nL ret hh R Phi cu su ws pc lv rest := by
  intro p e s m args below meth c A H locs ls ok hP hD hS hl
  exact lv_ldc2 ok.1 ok.2.1 ok.2.2.2.1 (ok.2.2.2.2.1 _ hc) hdg (k p e s m args below meth c A H locs ls ok hP hD hS hl)
theorem rv_mmax {index : Nat} {x y : Int32} (h1 : Cond.methodLink own index Lib.Math.max.name ∈ AW) (h2 : Cond.static Lib.Math.max.name ∈ AW) (h3 : Cond.initialized "java/lang/Math" ∈ AW) (h4 : Cond.code Lib.Math.max.name Lib.Math.max.code 2 (some .int) ∈ AW) (hf : 1 ≤ R.frames) (hlo : (rest.map fun v => v.category).sum + 13 ≤ R.locals) (hcu : cu ≤ R.cells) (hsu : su ≤ R.slots) (hdg : decode cc pc = .ok (.invokestatic index, 3)) (k : rv_V l D tys own cc nL ret hh R Phi cu su ws (pc + 3) lv (.int (if x < y then y else x) :: rest)) : rv_V l D tys own cc nL ret hh R Phi cu su ws pc lv (.int y :: .int x :: rest) := by
  intro p e s m args below meth c A H locs ls ok hP hD hS hl
  have hts := ok.2.2.2.2.1
  exact va_mmax ok.1 ok.2.1 (ok.2.2.1.trans hl.1.symm) ok.2.2.2.1 (hts _ h1) (hts _ h2) (hts _ h3) (hts _ h4) hf hlo hcu hsu hdg (k p e s m args below meth c A H locs ls ok hP hD hS hl)
theorem rv_iret {v : Int32} (hr : ret = some .int) (hdg : decode cc pc = .ok (.ireturn, 1)) (hc : cu ≤ mc) (hs : su ≤ ms) (hF : F (some (.int v)) ws) : rv_V l D tys own cc nL ret hh R (rv_M D F mc ms) cu su ws pc lv [.int v] := by
  intro p e s m args below meth c A H locs ls ok hP hD hS hl
  obtain ⟨hx, hb, hml, hown, hts, hrt, hlk, hK, hA, hy, ht⟩ := ok
  refine W.widen (k := mc) (n := ms) hc hs ?_
  exact W.iret hx hb (hrt.trans hr) (fun t ht hW => ⟨⟨_, ws, rfl, hF, by rw [ht]; exact hP, hD⟩, hS.F ht⟩) hS.2.2 hdg (hlocks := hlk)
theorem rv_iretX {v : Int32} (hr : ret = some .int) (hdg : decode cc pc = .ok (.ireturn, 1)) (hc : cu ≤ mc) (hs : su ≤ ms) (hF : F (some (.int v)) ws) : rv_V l D tys own cc nL ret hh R (rv_X D F G mc ms) cu su ws pc lv [.int v] := by
  intro p e s m args below meth c A H locs ls ok hP hD hS hl
  obtain ⟨hx, hb, hml, hown, hts, hrt, hlk, hK, hA, hy, ht⟩ := ok
  refine W.widen (k := mc) (n := ms) hc hs ?_
  refine vx_ret ?_
  exact W.iret hx hb (hrt.trans hr) (fun t ht hW => ⟨⟨_, ws, rfl, hF, by rw [ht]; exact hP, hD⟩, hS.F ht⟩) hS.2.2 hdg (hlocks := hlk)
theorem rv_lret {v : Int64} (hr : ret = some .long) (hdg : decode cc pc = .ok (.lreturn, 1)) (hc : cu ≤ mc) (hs : su ≤ ms) (hF : F (some (.long v)) ws) : rv_V l D tys own cc nL ret hh R (rv_M D F mc ms) cu su ws pc lv [.long v] := by
  intro p e s m args below meth c A H locs ls ok hP hD hS hl
  obtain ⟨hx, hb, hml, hown, hts, hrt, hlk, hK, hA, hy, ht⟩ := ok
  refine W.widen (k := mc) (n := ms) hc hs ?_
  exact W.lret hx hb (hrt.trans hr) (fun t ht hW => ⟨⟨_, ws, rfl, hF, by rw [ht]; exact hP, hD⟩, hS.F ht⟩) hS.2.2 hdg (hlocks := hlk)
theorem rv_lretX {v : Int64} (hr : ret = some .long) (hdg : decode cc pc = .ok (.lreturn, 1)) (hc : cu ≤ mc) (hs : su ≤ ms) (hF : F (some (.long v)) ws) : rv_V l D tys own cc nL ret hh R (rv_X D F G mc ms) cu su ws pc lv [.long v] := by
  intro p e s m args below meth c A H locs ls ok hP hD hS hl
  obtain ⟨hx, hb, hml, hown, hts, hrt, hlk, hK, hA, hy, ht⟩ := ok
  refine W.widen (k := mc) (n := ms) hc hs ?_
  refine vx_ret ?_
  exact W.lret hx hb (hrt.trans hr) (fun t ht hW => ⟨⟨_, ws, rfl, hF, by rw [ht]; exact hP, hD⟩, hS.F ht⟩) hS.2.2 hdg (hlocks := hlk)
theorem rv_fret {v : UInt32} (hr : ret = some .float) (hdg : decode cc pc = .ok (.freturn, 1)) (hc : cu ≤ mc) (hs : su ≤ ms) (hF : F (some (.float v)) ws) : rv_V l D tys own cc nL ret hh R (rv_M D F mc ms) cu su ws pc lv [.float v] := by
  intro p e s m args below meth c A H locs ls ok hP hD hS hl
  obtain ⟨hx, hb, hml, hown, hts, hrt, hlk, hK, hA, hy, ht⟩ := ok
  refine W.widen (k := mc) (n := ms) hc hs ?_
  exact W.fret hx hb (hrt.trans hr) (fun t ht hW => ⟨⟨_, ws, rfl, hF, by rw [ht]; exact hP, hD⟩, hS.F ht⟩) hS.2.2 hdg (hlocks := hlk)
theorem rv_fretX {v : UInt32} (hr : ret = some .float) (hdg : decode cc pc = .ok (.freturn, 1)) (hc : cu ≤ mc) (hs : su ≤ ms) (hF : F (some (.float v)) ws) : rv_V l D tys own cc nL ret hh R (rv_X D F G mc ms) cu su ws pc lv [.float v] := by
  intro p e s m args below meth c A H locs ls ok hP hD hS hl
  obtain ⟨hx, hb, hml, hown, hts, hrt, hlk, hK, hA, hy, ht⟩ := ok
  refine W.widen (k := mc) (n := ms) hc hs ?_
  refine vx_ret ?_
  exact W.fret hx hb (hrt.trans hr) (fun t ht hW => ⟨⟨_, ws, rfl, hF, by rw [ht]; exact hP, hD⟩, hS.F ht⟩) hS.2.2 hdg (hlocks := hlk)
theorem rv_dret {v : UInt64} (hr : ret = some .double) (hdg : decode cc pc = .ok (.dreturn, 1)) (hc : cu ≤ mc) (hs : su ≤ ms) (hF : F (some (.double v)) ws) : rv_V l D tys own cc nL ret hh R (rv_M D F mc ms) cu su ws pc lv [.double v] := by
  intro p e s m args below meth c A H locs ls ok hP hD hS hl
  obtain ⟨hx, hb, hml, hown, hts, hrt, hlk, hK, hA, hy, ht⟩ := ok
  refine W.widen (k := mc) (n := ms) hc hs ?_
  exact W.dret hx hb (hrt.trans hr) (fun t ht hW => ⟨⟨_, ws, rfl, hF, by rw [ht]; exact hP, hD⟩, hS.F ht⟩) hS.2.2 hdg (hlocks := hlk)
theorem rv_dretX {v : UInt64} (hr : ret = some .double) (hdg : decode cc pc = .ok (.dreturn, 1)) (hc : cu ≤ mc) (hs : su ≤ ms) (hF : F (some (.double v)) ws) : rv_V l D tys own cc nL ret hh R (rv_X D F G mc ms) cu su ws pc lv [.double v] := by
  intro p e s m args below meth c A H locs ls ok hP hD hS hl
  obtain ⟨hx, hb, hml, hown, hts, hrt, hlk, hK, hA, hy, ht⟩ := ok
  refine W.widen (k := mc) (n := ms) hc hs ?_
  refine vx_ret ?_
  exact W.dret hx hb (hrt.trans hr) (fun t ht hW => ⟨⟨_, ws, rfl, hF, by rw [ht]; exact hP, hD⟩, hS.F ht⟩) hS.2.2 hdg (hlocks := hlk)
theorem rv_vret (hr : ret = none) (hdg : decode cc pc = .ok (.return_, 1)) (hc : cu ≤ mc) (hs : su ≤ ms) (hF : F (none) ws) : rv_V l D tys own cc nL ret hh R (rv_M D F mc ms) cu su ws pc lv [] := by
  intro p e s m args below meth c A H locs ls ok hP hD hS hl
  obtain ⟨hx, hb, hml, hown, hts, hrt, hlk, hK, hA, hy, ht⟩ := ok
  refine W.widen (k := mc) (n := ms) hc hs ?_
  exact W.vret hx hb (hrt.trans hr) (fun t ht hW => ⟨⟨_, ws, rfl, hF, by rw [ht]; exact hP, hD⟩, hS.F ht⟩) hS.2.2 hdg (hlocks := hlk)
theorem rv_vretX (hr : ret = none) (hdg : decode cc pc = .ok (.return_, 1)) (hc : cu ≤ mc) (hs : su ≤ ms) (hF : F (none) ws) : rv_V l D tys own cc nL ret hh R (rv_X D F G mc ms) cu su ws pc lv [] := by
  intro p e s m args below meth c A H locs ls ok hP hD hS hl
  obtain ⟨hx, hb, hml, hown, hts, hrt, hlk, hK, hA, hy, ht⟩ := ok
  refine W.widen (k := mc) (n := ms) hc hs ?_
  refine vx_ret ?_
  exact W.vret hx hb (hrt.trans hr) (fun t ht hW => ⟨⟨_, ws, rfl, hF, by rw [ht]; exact hP, hD⟩, hS.F ht⟩) hS.2.2 hdg (hlocks := hlk)
theorem rv_zret {v : Int32} {ty : FieldType} (hr : ret = some ty) (hn : narrow ty (.int v) = .int v) (hdg : decode cc pc = .ok (.ireturn, 1)) (hc : cu ≤ mc) (hs : su ≤ ms) (hF : F (some (.int v)) ws) : rv_V l D tys own cc nL ret hh R (rv_M D F mc ms) cu su ws pc lv [.int v] := by
  intro p e s m args below meth c A H locs ls ok hP hD hS hl
  obtain ⟨hx, hb, hml, hown, hts, hrt, hlk, hK, hA, hy, ht⟩ := ok
  refine W.widen (k := mc) (n := ms) hc hs ?_
  exact W.zret hx hb (hrt.trans hr) hn (fun t ht hW => ⟨⟨_, ws, rfl, hF, by rw [ht]; exact hP, hD⟩, hS.F ht⟩) hS.2.2 hdg (hlocks := hlk)
theorem rv_zretX {v : Int32} {ty : FieldType} (hr : ret = some ty) (hn : narrow ty (.int v) = .int v) (hdg : decode cc pc = .ok (.ireturn, 1)) (hc : cu ≤ mc) (hs : su ≤ ms) (hF : F (some (.int v)) ws) : rv_V l D tys own cc nL ret hh R (rv_X D F G mc ms) cu su ws pc lv [.int v] := by
  intro p e s m args below meth c A H locs ls ok hP hD hS hl
  obtain ⟨hx, hb, hml, hown, hts, hrt, hlk, hK, hA, hy, ht⟩ := ok
  refine W.widen (k := mc) (n := ms) hc hs ?_
  refine vx_ret ?_
  exact W.zret hx hb (hrt.trans hr) hn (fun t ht hW => ⟨⟨_, ws, rfl, hF, by rw [ht]; exact hP, hD⟩, hS.F ht⟩) hS.2.2 hdg (hlocks := hlk)
theorem rv_callV {y : MethodName} {b : Nat} {As : List Value} {cy : ByteArray} {nc dc mcc msc index : Nat} {rc : Option FieldType} {C : String} {T : u_T} {N ci : Nat} {fs : List Value} {F2 : Option Value → va_W → Prop} (hC : rv_C l D tys y cy nc rc dc mcc msc (.ref b :: As) ws F2) (hlink : Cond.methodLink own index y ∈ AW) (hinst : Cond.instanceMethod y ∈ AW) (hsel : Cond.selects C y y ∈ AW) (hcode : Cond.code y cy nc rc ∈ AW) (hini : Cond.initialized y.cls ∈ AW) (hcl : y.cls = C) (hnp : y.cls ≠ "java/lang/invoke/MethodHandle" ∧ y.cls ≠ "java/lang/invoke/VarHandle" ∧ (parseMethodDescriptor y.desc).map (fun d => d.parameters.length) = some As.length) (hf : cu + mcc ≤ R.cells ∧ su + msc ≤ R.slots) (hR : 20 * dc + 1 ≤ R.frames ∧ 8 + (nc + 11) + 200 * dc ≤ R.locals) (hdg : decode cc pc = .ok (.invokevirtual index, 3)) (hst : st = As.reverse ++ .ref b :: rest) (hrest : (rest.map fun v => v.category).sum ≤ 8) (q0 : Nat) (hrc : ws[q0]? = some (b, .inr (ci, fs))) (hcc : vwCl[ci]? = some (C, T, N))
    (k : ∀ (v : Option Value) (ws3 : va_W), F2 v ws3 → rv_V l D tys own cc nL ret hh R Phi (cu + mcc) (su + msc) ws3 (pc + 3) lv (v.toList ++ rest)) : rv_V l D tys own cc nL ret hh R Phi cu su ws pc lv st := by
  intro p e s m args below meth c A H locs ls ok hP hD hS hl
  obtain ⟨hx, hb, hml, hown, hts, hrt, hlk, hK, hA, hy, ht⟩ := id ok
  subst hst
  have hF0 : ∀ q, va_A ws H.size q → A q := fun q h => h.elim (fun ⟨k9, e9, h9⟩ => hD.2 k9 (q, e9) h9) (fun h => hA q (Nat.le_trans hS.1 h))
  have hcw : CallW R s args own C index y cy nc rc (Cond.code y cy nc rc :: AW) (rv_rm dc mcc msc) mcc msc As.length := ⟨callB_of As.length hts (AW_GIc hcode) rfl rfl rfl (hts _ hini) (hts _ hlink) hnp hR, hts _ hinst, hts _ hsel⟩
  have hr := va_runV (g := F0 m pc ls (As.reverse ++ .ref b :: rest)) (As := As) (rest := rest) (locs := locs) (cells := cu) (slots := su) (e := e) (below := below) (meth := meth) ⟨hx, hb, hml, hown, hts⟩ (hC H.size) hcw ⟨rv_Pre.blind, va_recv hK hP hcc hrc, (fun U hU hW => ⟨rfl, by rw [hU], by rw [hU]; exact hP, va_K.moved hW.alike hK, hD.weaken (fun _ _ _ _ => trivial), hy.call hS hU hW hF0⟩)⟩ rfl rfl hl.1 rfl (lv_room hrest) hdg hf
  intro T hT X
  obtain ⟨v, st₀, t, T2, L, h0, X2, hL, e1, e2, ⟨⟨v2, ws3, hv, hF2, hP2, hD2⟩, hz, hk⟩, st2⟩ := hr T hT X
  cases hv
  rw [h0] at hz hk
  obtain ⟨t3, a1, b1⟩ := k v ws3 hF2 p e s m args below meth c A T2.heap (locs ++ L) ls ok (by rw [e1]; exact hP2) (hD2.weaken (fun _ q _ h => hF0 q.1 h)) ⟨Nat.le_trans hS.1 (by rw [e1]; exact hz), fun q h1 h2 => by rw [e1, hk q (Nat.lt_of_lt_of_le h1 hS.1) (fun z => h2 (hF0 q z))]; exact hS.2.1 q h1 h2, fun q hq => (List.mem_append.mp hq).elim (hS.2.2 q) (fun h => hF0 _ (hL q h))⟩ hl T2 rfl X2
  exact ⟨t3, st2 t3 a1, b1⟩
theorem rv_callVN {y : MethodName} {b : Nat} {As : List Value} {cy : ByteArray} {nc dc mcc msc index : Nat} {rc : Option FieldType} {C : String} {T : u_T} {N ci : Nat} {fs : List Value} {F2 : Option Value → va_W → Prop} (hC : rv_C l D tys y cy nc rc dc mcc msc (.ref b :: As) ws F2) {host : String} (hlink : Cond.methodLinkNest own index y host ∈ NW) (hinst : Cond.instanceMethod y ∈ AW) (hsel : Cond.selects C y y ∈ AW) (hcode : Cond.code y cy nc rc ∈ AW) (hini : Cond.initialized y.cls ∈ AW) (hcl : y.cls = C) (hnp : y.cls ≠ "java/lang/invoke/MethodHandle" ∧ y.cls ≠ "java/lang/invoke/VarHandle" ∧ (parseMethodDescriptor y.desc).map (fun d => d.parameters.length) = some As.length) (hf : cu + mcc ≤ R.cells ∧ su + msc ≤ R.slots) (hR : 20 * dc + 1 ≤ R.frames ∧ 8 + (nc + 11) + 200 * dc ≤ R.locals) (hdg : decode cc pc = .ok (.invokevirtual index, 3)) (hst : st = As.reverse ++ .ref b :: rest) (hrest : (rest.map fun v => v.category).sum ≤ 8) (q0 : Nat) (hrc : ws[q0]? = some (b, .inr (ci, fs))) (hcc : vwCl[ci]? = some (C, T, N))
    (k : ∀ (v : Option Value) (ws3 : va_W), F2 v ws3 → rv_V l D tys own cc nL ret hh R Phi (cu + mcc) (su + msc) ws3 (pc + 3) lv (v.toList ++ rest)) : rv_V l D tys own cc nL ret hh R Phi cu su ws pc lv st := by
  intro p e s m args below meth c A H locs ls ok hP hD hS hl
  obtain ⟨hx, hb, hml, hown, hts, hrt, hlk, hK, hA, hy, ht⟩ := id ok
  subst hst
  have hF0 : ∀ q, va_A ws H.size q → A q := fun q h => h.elim (fun ⟨k9, e9, h9⟩ => hD.2 k9 (q, e9) h9) (fun h => hA q (Nat.le_trans hS.1 h))
  have hcw : va_CN R s args own index y host cy nc rc (Cond.code y cy nc rc :: AW) (rv_rm dc mcc msc) mcc msc As.length := va_cnB As.length hts (AW_GIc hcode) rfl rfl rfl (hy.1 _ hlink) (hts _ hini) hnp hR
  have hr := va_runVN (g := F0 m pc ls (As.reverse ++ .ref b :: rest)) (As := As) (rest := rest) (locs := locs) (cells := cu) (slots := su) (e := e) (below := below) (meth := meth) ⟨hx, hb, hml, hown, hts⟩ (hC H.size) ⟨hcw, hts _ hinst, hts _ hsel⟩ ⟨rv_Pre.blind, va_recv hK hP hcc hrc, (fun U hU hW => ⟨rfl, by rw [hU], by rw [hU]; exact hP, va_K.moved hW.alike hK, hD.weaken (fun _ _ _ _ => trivial), hy.call hS hU hW hF0⟩)⟩ rfl rfl hl.1 rfl (lv_room hrest) hdg hf
  intro T hT X
  obtain ⟨v, st₀, t, T2, L, h0, X2, hL, e1, e2, ⟨⟨v2, ws3, hv, hF2, hP2, hD2⟩, hz, hk⟩, st2⟩ := hr T hT X
  cases hv
  rw [h0] at hz hk
  obtain ⟨t3, a1, b1⟩ := k v ws3 hF2 p e s m args below meth c A T2.heap (locs ++ L) ls ok (by rw [e1]; exact hP2) (hD2.weaken (fun _ q _ h => hF0 q.1 h)) ⟨Nat.le_trans hS.1 (by rw [e1]; exact hz), fun q h1 h2 => by rw [e1, hk q (Nat.lt_of_lt_of_le h1 hS.1) (fun z => h2 (hF0 q z))]; exact hS.2.1 q h1 h2, fun q hq => (List.mem_append.mp hq).elim (hS.2.2 q) (fun h => hF0 _ (hL q h))⟩ hl T2 rfl X2
  exact ⟨t3, st2 t3 a1, b1⟩
theorem rv_callS {y : MethodName} {As : List Value} {cy : ByteArray} {nc dc mcc msc index : Nat} {rc : Option FieldType} {F2 : Option Value → va_W → Prop} (hC : rv_C l D tys y cy nc rc dc mcc msc As ws F2) (hlink : Cond.methodLink own index y ∈ AW) (hstat : Cond.static y ∈ AW) (hcode : Cond.code y cy nc rc ∈ AW) (hini : Cond.initialized y.cls ∈ AW) (hnp : y.cls ≠ "java/lang/invoke/MethodHandle" ∧ y.cls ≠ "java/lang/invoke/VarHandle" ∧ (parseMethodDescriptor y.desc).map (fun d => d.parameters.length) = some As.length) (hf : cu + mcc ≤ R.cells ∧ su + msc ≤ R.slots) (hR : 20 * dc + 1 ≤ R.frames ∧ 8 + (nc + 11) + 200 * dc ≤ R.locals) (hdg : decode cc pc = .ok (.invokestatic index, 3)) (hst : st = As.reverse ++ rest) (hrest : (rest.map fun v => v.category).sum ≤ 8)
    (k : ∀ (v : Option Value) (ws3 : va_W), F2 v ws3 → rv_V l D tys own cc nL ret hh R Phi (cu + mcc) (su + msc) ws3 (pc + 3) lv (v.toList ++ rest)) : rv_V l D tys own cc nL ret hh R Phi cu su ws pc lv st := by
  intro p e s m args below meth c A H locs ls ok hP hD hS hl
  obtain ⟨hx, hb, hml, hown, hts, hrt, hlk, hK, hA, hy, ht⟩ := id ok
  subst hst
  have hF0 : ∀ q, va_A ws H.size q → A q := fun q h => h.elim (fun ⟨k9, e9, h9⟩ => hD.2 k9 (q, e9) h9) (fun h => hA q (Nat.le_trans hS.1 h))
  have hcw : CallB R s args own index y cy nc rc (Cond.code y cy nc rc :: AW) (rv_rm dc mcc msc) mcc msc As.length ∧ (Cond.static y).before args s = true := ⟨callB_of As.length hts (AW_GIc hcode) rfl rfl rfl (hts _ hini) (hts _ hlink) hnp hR, hts _ hstat⟩
  have hr := va_runS (g := F0 m pc ls (As.reverse ++ rest)) (As := As) (rest := rest) (locs := locs) (cells := cu) (slots := su) (e := e) (below := below) (meth := meth) ⟨hx, hb, hml, hown, hts⟩ (hC H.size) hcw ⟨rv_Pre.blind, (fun U hU hW => ⟨rfl, by rw [hU], by rw [hU]; exact hP, va_K.moved hW.alike hK, hD.weaken (fun _ _ _ _ => trivial), hy.call hS hU hW hF0⟩)⟩ rfl rfl hl.1 rfl (lv_room hrest) hdg hf
  intro T hT X
  obtain ⟨v, st₀, t, T2, L, h0, X2, hL, e1, e2, ⟨⟨v2, ws3, hv, hF2, hP2, hD2⟩, hz, hk⟩, st2⟩ := hr T hT X
  cases hv
  rw [h0] at hz hk
  obtain ⟨t3, a1, b1⟩ := k v ws3 hF2 p e s m args below meth c A T2.heap (locs ++ L) ls ok (by rw [e1]; exact hP2) (hD2.weaken (fun _ q _ h => hF0 q.1 h)) ⟨Nat.le_trans hS.1 (by rw [e1]; exact hz), fun q h1 h2 => by rw [e1, hk q (Nat.lt_of_lt_of_le h1 hS.1) (fun z => h2 (hF0 q z))]; exact hS.2.1 q h1 h2, fun q hq => (List.mem_append.mp hq).elim (hS.2.2 q) (fun h => hF0 _ (hL q h))⟩ hl T2 rfl X2
  exact ⟨t3, st2 t3 a1, b1⟩
theorem rv_callSN {y : MethodName} {As : List Value} {cy : ByteArray} {nc dc mcc msc index : Nat} {rc : Option FieldType} {F2 : Option Value → va_W → Prop} (hC : rv_C l D tys y cy nc rc dc mcc msc As ws F2) {host : String} (hlink : Cond.methodLinkNest own index y host ∈ NW) (hstat : Cond.static y ∈ AW) (hcode : Cond.code y cy nc rc ∈ AW) (hini : Cond.initialized y.cls ∈ AW) (hnp : y.cls ≠ "java/lang/invoke/MethodHandle" ∧ y.cls ≠ "java/lang/invoke/VarHandle" ∧ (parseMethodDescriptor y.desc).map (fun d => d.parameters.length) = some As.length) (hf : cu + mcc ≤ R.cells ∧ su + msc ≤ R.slots) (hR : 20 * dc + 1 ≤ R.frames ∧ 8 + (nc + 11) + 200 * dc ≤ R.locals) (hdg : decode cc pc = .ok (.invokestatic index, 3)) (hst : st = As.reverse ++ rest) (hrest : (rest.map fun v => v.category).sum ≤ 8)
    (k : ∀ (v : Option Value) (ws3 : va_W), F2 v ws3 → rv_V l D tys own cc nL ret hh R Phi (cu + mcc) (su + msc) ws3 (pc + 3) lv (v.toList ++ rest)) : rv_V l D tys own cc nL ret hh R Phi cu su ws pc lv st := by
  intro p e s m args below meth c A H locs ls ok hP hD hS hl
  obtain ⟨hx, hb, hml, hown, hts, hrt, hlk, hK, hA, hy, ht⟩ := id ok
  subst hst
  have hF0 : ∀ q, va_A ws H.size q → A q := fun q h => h.elim (fun ⟨k9, e9, h9⟩ => hD.2 k9 (q, e9) h9) (fun h => hA q (Nat.le_trans hS.1 h))
  have hcw : va_CN R s args own index y host cy nc rc (Cond.code y cy nc rc :: AW) (rv_rm dc mcc msc) mcc msc As.length := va_cnB As.length hts (AW_GIc hcode) rfl rfl rfl (hy.1 _ hlink) (hts _ hini) hnp hR
  have hr := va_runSN (g := F0 m pc ls (As.reverse ++ rest)) (As := As) (rest := rest) (locs := locs) (cells := cu) (slots := su) (e := e) (below := below) (meth := meth) ⟨hx, hb, hml, hown, hts⟩ (hC H.size) ⟨hcw, hts _ hstat, trivial⟩ ⟨rv_Pre.blind, (fun U hU hW => ⟨rfl, by rw [hU], by rw [hU]; exact hP, va_K.moved hW.alike hK, hD.weaken (fun _ _ _ _ => trivial), hy.call hS hU hW hF0⟩)⟩ rfl rfl hl.1 rfl (lv_room hrest) hdg hf
  intro T hT X
  obtain ⟨v, st₀, t, T2, L, h0, X2, hL, e1, e2, ⟨⟨v2, ws3, hv, hF2, hP2, hD2⟩, hz, hk⟩, st2⟩ := hr T hT X
  cases hv
  rw [h0] at hz hk
  obtain ⟨t3, a1, b1⟩ := k v ws3 hF2 p e s m args below meth c A T2.heap (locs ++ L) ls ok (by rw [e1]; exact hP2) (hD2.weaken (fun _ q _ h => hF0 q.1 h)) ⟨Nat.le_trans hS.1 (by rw [e1]; exact hz), fun q h1 h2 => by rw [e1, hk q (Nat.lt_of_lt_of_le h1 hS.1) (fun z => h2 (hF0 q z))]; exact hS.2.1 q h1 h2, fun q hq => (List.mem_append.mp hq).elim (hS.2.2 q) (fun h => hF0 _ (hL q h))⟩ hl T2 rfl X2
  exact ⟨t3, st2 t3 a1, b1⟩
theorem rv_callI {y : MethodName} {b : Nat} {As : List Value} {cy : ByteArray} {nc dc mcc msc index : Nat} {F2 : Option Value → va_W → Prop} (hC : rv_C l D tys y cy nc none dc mcc msc (.ref b :: As) ws F2) (hlink : Cond.methodLink own index y ∈ AW) (hinst : Cond.instanceMethod y ∈ AW) (hnm : y.name = "<init>") (hcode : Cond.code y cy nc none ∈ AW) (hini : Cond.initialized y.cls ∈ AW) (hnp : y.cls ≠ "java/lang/invoke/MethodHandle" ∧ y.cls ≠ "java/lang/invoke/VarHandle" ∧ (parseMethodDescriptor y.desc).map (fun d => d.parameters.length) = some As.length) (hf : cu + mcc ≤ R.cells ∧ su + msc ≤ R.slots) (hR : 20 * dc + 1 ≤ R.frames ∧ 8 + (nc + 11) + 200 * dc ≤ R.locals) (hdg : decode cc pc = .ok (.invokespecial index, 3)) (hst : st = As.reverse ++ .ref b :: rest) (hrest : (rest.map fun v => v.category).sum ≤ 8)
    (k : ∀ (v : Option Value) (ws3 : va_W), F2 v ws3 → rv_V l D tys own cc nL ret hh R Phi (cu + mcc) (su + msc) ws3 (pc + 3) lv (v.toList ++ rest)) : rv_V l D tys own cc nL ret hh R Phi cu su ws pc lv st := by
  intro p e s m args below meth c A H locs ls ok hP hD hS hl
  obtain ⟨hx, hb, hml, hown, hts, hrt, hlk, hK, hA, hy, ht⟩ := id ok
  subst hst
  have hF0 : ∀ q, va_A ws H.size q → A q := fun q h => h.elim (fun ⟨k9, e9, h9⟩ => hD.2 k9 (q, e9) h9) (fun h => hA q (Nat.le_trans hS.1 h))
  have hcw : CallB R s args own index y cy nc none (Cond.code y cy nc none :: AW) (rv_rm dc mcc msc) mcc msc As.length := callB_of As.length hts (AW_GIc hcode) rfl rfl rfl (hts _ hini) (hts _ hlink) hnp hR
  have hr := va_runI (g := F0 m pc ls (As.reverse ++ .ref b :: rest)) (As := As) (rest := rest) (locs := locs) (cells := cu) (slots := su) (e := e) (below := below) (meth := meth) ⟨hx, hb, hml, hown, hts⟩ (hC H.size) ⟨hcw, hnm, hts _ hinst⟩ ⟨rv_Pre.blind, (fun U hU hW => ⟨rfl, by rw [hU], by rw [hU]; exact hP, va_K.moved hW.alike hK, hD.weaken (fun _ _ _ _ => trivial), hy.call hS hU hW hF0⟩)⟩ rfl rfl hl.1 rfl (lv_room hrest) hdg hf
  intro T hT X
  obtain ⟨v, st₀, t, T2, L, h0, X2, hL, e1, e2, ⟨⟨v2, ws3, hv, hF2, hP2, hD2⟩, hz, hk⟩, st2⟩ := hr T hT X
  cases hv
  rw [h0] at hz hk
  obtain ⟨t3, a1, b1⟩ := k v ws3 hF2 p e s m args below meth c A T2.heap (locs ++ L) ls ok (by rw [e1]; exact hP2) (hD2.weaken (fun _ q _ h => hF0 q.1 h)) ⟨Nat.le_trans hS.1 (by rw [e1]; exact hz), fun q h1 h2 => by rw [e1, hk q (Nat.lt_of_lt_of_le h1 hS.1) (fun z => h2 (hF0 q z))]; exact hS.2.1 q h1 h2, fun q hq => (List.mem_append.mp hq).elim (hS.2.2 q) (fun h => hF0 _ (hL q h))⟩ hl T2 rfl X2
  exact ⟨t3, st2 t3 a1, b1⟩
theorem rv_callIN {y : MethodName} {b : Nat} {As : List Value} {cy : ByteArray} {nc dc mcc msc index : Nat} {F2 : Option Value → va_W → Prop} (hC : rv_C l D tys y cy nc none dc mcc msc (.ref b :: As) ws F2) {host : String} (hlink : Cond.methodLinkNest own index y host ∈ NW) (hinst : Cond.instanceMethod y ∈ AW) (hnm : y.name = "<init>") (hcode : Cond.code y cy nc none ∈ AW) (hini : Cond.initialized y.cls ∈ AW) (hnp : y.cls ≠ "java/lang/invoke/MethodHandle" ∧ y.cls ≠ "java/lang/invoke/VarHandle" ∧ (parseMethodDescriptor y.desc).map (fun d => d.parameters.length) = some As.length) (hf : cu + mcc ≤ R.cells ∧ su + msc ≤ R.slots) (hR : 20 * dc + 1 ≤ R.frames ∧ 8 + (nc + 11) + 200 * dc ≤ R.locals) (hdg : decode cc pc = .ok (.invokespecial index, 3)) (hst : st = As.reverse ++ .ref b :: rest) (hrest : (rest.map fun v => v.category).sum ≤ 8)
    (k : ∀ (v : Option Value) (ws3 : va_W), F2 v ws3 → rv_V l D tys own cc nL ret hh R Phi (cu + mcc) (su + msc) ws3 (pc + 3) lv (v.toList ++ rest)) : rv_V l D tys own cc nL ret hh R Phi cu su ws pc lv st := by
  intro p e s m args below meth c A H locs ls ok hP hD hS hl
  obtain ⟨hx, hb, hml, hown, hts, hrt, hlk, hK, hA, hy, ht⟩ := id ok
  subst hst
  have hF0 : ∀ q, va_A ws H.size q → A q := fun q h => h.elim (fun ⟨k9, e9, h9⟩ => hD.2 k9 (q, e9) h9) (fun h => hA q (Nat.le_trans hS.1 h))
  have hcw : va_CN R s args own index y host cy nc none (Cond.code y cy nc none :: AW) (rv_rm dc mcc msc) mcc msc As.length := va_cnB As.length hts (AW_GIc hcode) rfl rfl rfl (hy.1 _ hlink) (hts _ hini) hnp hR
  have hr := va_runIN (g := F0 m pc ls (As.reverse ++ .ref b :: rest)) (As := As) (rest := rest) (locs := locs) (cells := cu) (slots := su) (e := e) (below := below) (meth := meth) ⟨hx, hb, hml, hown, hts⟩ (hC H.size) ⟨hcw, hnm, hts _ hinst⟩ ⟨rv_Pre.blind, (fun U hU hW => ⟨rfl, by rw [hU], by rw [hU]; exact hP, va_K.moved hW.alike hK, hD.weaken (fun _ _ _ _ => trivial), hy.call hS hU hW hF0⟩)⟩ rfl rfl hl.1 rfl (lv_room hrest) hdg hf
  intro T hT X
  obtain ⟨v, st₀, t, T2, L, h0, X2, hL, e1, e2, ⟨⟨v2, ws3, hv, hF2, hP2, hD2⟩, hz, hk⟩, st2⟩ := hr T hT X
  cases hv
  rw [h0] at hz hk
  obtain ⟨t3, a1, b1⟩ := k v ws3 hF2 p e s m args below meth c A T2.heap (locs ++ L) ls ok (by rw [e1]; exact hP2) (hD2.weaken (fun _ q _ h => hF0 q.1 h)) ⟨Nat.le_trans hS.1 (by rw [e1]; exact hz), fun q h1 h2 => by rw [e1, hk q (Nat.lt_of_lt_of_le h1 hS.1) (fun z => h2 (hF0 q z))]; exact hS.2.1 q h1 h2, fun q hq => (List.mem_append.mp hq).elim (hS.2.2 q) (fun h => hF0 _ (hL q h))⟩ hl T2 rfl X2
  exact ⟨t3, st2 t3 a1, b1⟩
theorem rv_xcallV {y : MethodName} {b : Nat} {As : List Value} {cy : ByteArray} {nc dc mcc msc index : Nat} {rc : Option FieldType} {C : String} {T : u_T} {N ci : Nat} {fs : List Value} {F2 : Option Value → va_W → Prop} {G2 : String → va_W → Prop} (hC : rv_CX l D tys y cy nc rc dc mcc msc (.ref b :: As) ws F2 G2) (hlink : Cond.methodLink own index y ∈ AW) (hinst : Cond.instanceMethod y ∈ AW) (hsel : Cond.selects C y y ∈ AW) (hcode : Cond.code y cy nc rc ∈ AW) (hini : Cond.initialized y.cls ∈ AW) (hcl : y.cls = C) (hnp : y.cls ≠ "java/lang/invoke/MethodHandle" ∧ y.cls ≠ "java/lang/invoke/VarHandle" ∧ (parseMethodDescriptor y.desc).map (fun d => d.parameters.length) = some As.length) (hf : cu + mcc ≤ R.cells ∧ su + msc ≤ R.slots) (hR : 20 * dc + 1 ≤ R.frames ∧ 8 + (nc + 11) + 200 * dc ≤ R.locals) (hdg : decode cc pc = .ok (.invokevirtual index, 3)) (hst : st = As.reverse ++ .ref b :: rest) (hrest : (rest.map fun v => v.category).sum ≤ 8) (q0 : Nat) (hrc : ws[q0]? = some (b, .inr (ci, fs))) (hcc : vwCl[ci]? = some (C, T, N)) (kx : ∀ (E : String) (ws3 : va_W), G2 E ws3 → rv_VT l D tys own cc nL ret hh R Phi (cu + mcc) (su + msc) E ws3 pc lv rest)
    (k : ∀ (v : Option Value) (ws3 : va_W), F2 v ws3 → rv_V l D tys own cc nL ret hh R Phi (cu + mcc) (su + msc) ws3 (pc + 3) lv (v.toList ++ rest)) : rv_V l D tys own cc nL ret hh R Phi cu su ws pc lv st := by
  intro p e s m args below meth c A H locs ls ok hP hD hS hl
  obtain ⟨hx, hb, hml, hown, hts, hrt, hlk, hK, hA, hy, ht⟩ := id ok
  subst hst
  have hF0 : ∀ q, va_A ws H.size q → A q := fun q h => h.elim (fun ⟨k9, e9, h9⟩ => hD.2 k9 (q, e9) h9) (fun h => hA q (Nat.le_trans hS.1 h))
  have hcw : CallW R s args own C index y cy nc rc (Cond.code y cy nc rc :: AW) (rv_rm dc mcc msc) mcc msc As.length := ⟨callB_of As.length hts (AW_GIc hcode) rfl rfl rfl (hts _ hini) (hts _ hlink) hnp hR, hts _ hinst, hts _ hsel⟩
  have hr := vx_runV (g := F0 m pc ls (As.reverse ++ .ref b :: rest)) (As := As) (rest := rest) (locs := locs) (cells := cu) (slots := su) (e := e) (below := below) (meth := meth) ⟨hx, hb, hml, hown, hts⟩ (hC H.size) hcw ⟨rv_Pre.blind, va_recv hK hP hcc hrc, (fun U hU hW => ⟨rfl, by rw [hU], by rw [hU]; exact hP, va_K.moved hW.alike hK, hD.weaken (fun _ _ _ _ => trivial), hy.call hS hU hW hF0⟩)⟩ rfl rfl hl.1 rfl (lv_room hrest) hdg hf
  intro T hT X
  rcases hr T hT X with ⟨v, st₀, t, T2, L, h0, X2, hL, e1, e2, ⟨⟨v2, ws3, hv, hF2, hP2, hD2⟩, hz, hk⟩, st2⟩ | ⟨q9, st₀, t, T2, L, E, ce, h0, X2, hL, e1, e2, ⟨⟨ws3, hG, hP2, hD2⟩, hz, hk⟩, hce, hcv, hcl9, st2⟩
  · cases hv
    rw [h0] at hz hk
    obtain ⟨t3, a1, b1⟩ := k v ws3 hF2 p e s m args below meth c A T2.heap (locs ++ L) ls ok (by rw [e1]; exact hP2) (hD2.weaken (fun _ q _ h => hF0 q.1 h)) ⟨Nat.le_trans hS.1 (by rw [e1]; exact hz), fun q h1 h2 => by rw [e1, hk q (Nat.lt_of_lt_of_le h1 hS.1) (fun z => h2 (hF0 q z))]; exact hS.2.1 q h1 h2, fun q hq => (List.mem_append.mp hq).elim (hS.2.2 q) (fun h => hF0 _ (hL q h))⟩ hl T2 rfl X2
    exact ⟨t3, st2 t3 a1, b1⟩
  · rw [h0] at hz hk
    obtain ⟨t3, a1, b1⟩ := kx E ws3 hG p e s m args below meth c A T2.heap (locs ++ L) ls q9 ce ok (by rw [e1]; exact hP2) (hD2.weaken (fun _ q _ h => hF0 q.1 h)) ⟨Nat.le_trans hS.1 (by rw [e1]; exact hz), fun q h1 h2 => by rw [e1, hk q (Nat.lt_of_lt_of_le h1 hS.1) (fun z => h2 (hF0 q z))]; exact hS.2.1 q h1 h2, fun q hq => (List.mem_append.mp hq).elim (hS.2.2 q) (fun h => hF0 _ (hL q h))⟩ hl (by rw [e1]; exact hce) hcv hcl9 T2 rfl X2
    exact ⟨t3, st2.trans a1, b1⟩
theorem rv_xcallS {y : MethodName} {As : List Value} {cy : ByteArray} {nc dc mcc msc index : Nat} {rc : Option FieldType} {F2 : Option Value → va_W → Prop} {G2 : String → va_W → Prop} (hC : rv_CX l D tys y cy nc rc dc mcc msc As ws F2 G2) (hlink : Cond.methodLink own index y ∈ AW) (hstat : Cond.static y ∈ AW) (hcode : Cond.code y cy nc rc ∈ AW) (hini : Cond.initialized y.cls ∈ AW) (hnp : y.cls ≠ "java/lang/invoke/MethodHandle" ∧ y.cls ≠ "java/lang/invoke/VarHandle" ∧ (parseMethodDescriptor y.desc).map (fun d => d.parameters.length) = some As.length) (hf : cu + mcc ≤ R.cells ∧ su + msc ≤ R.slots) (hR : 20 * dc + 1 ≤ R.frames ∧ 8 + (nc + 11) + 200 * dc ≤ R.locals) (hdg : decode cc pc = .ok (.invokestatic index, 3)) (hst : st = As.reverse ++ rest) (hrest : (rest.map fun v => v.category).sum ≤ 8) (kx : ∀ (E : String) (ws3 : va_W), G2 E ws3 → rv_VT l D tys own cc nL ret hh R Phi (cu + mcc) (su + msc) E ws3 pc lv rest)
    (k : ∀ (v : Option Value) (ws3 : va_W), F2 v ws3 → rv_V l D tys own cc nL ret hh R Phi (cu + mcc) (su + msc) ws3 (pc + 3) lv (v.toList ++ rest)) : rv_V l D tys own cc nL ret hh R Phi cu su ws pc lv st := by
  intro p e s m args below meth c A H locs ls ok hP hD hS hl
  obtain ⟨hx, hb, hml, hown, hts, hrt, hlk, hK, hA, hy, ht⟩ := id ok
  subst hst
  have hF0 : ∀ q, va_A ws H.size q → A q := fun q h => h.elim (fun ⟨k9, e9, h9⟩ => hD.2 k9 (q, e9) h9) (fun h => hA q (Nat.le_trans hS.1 h))
  have hcw : CallB R s args own index y cy nc rc (Cond.code y cy nc rc :: AW) (rv_rm dc mcc msc) mcc msc As.length ∧ (Cond.static y).before args s = true := ⟨callB_of As.length hts (AW_GIc hcode) rfl rfl rfl (hts _ hini) (hts _ hlink) hnp hR, hts _ hstat⟩
  have hr := vx_runS (g := F0 m pc ls (As.reverse ++ rest)) (As := As) (rest := rest) (locs := locs) (cells := cu) (slots := su) (e := e) (below := below) (meth := meth) ⟨hx, hb, hml, hown, hts⟩ (hC H.size) hcw ⟨rv_Pre.blind, (fun U hU hW => ⟨rfl, by rw [hU], by rw [hU]; exact hP, va_K.moved hW.alike hK, hD.weaken (fun _ _ _ _ => trivial), hy.call hS hU hW hF0⟩)⟩ rfl rfl hl.1 rfl (lv_room hrest) hdg hf
  intro T hT X
  rcases hr T hT X with ⟨v, st₀, t, T2, L, h0, X2, hL, e1, e2, ⟨⟨v2, ws3, hv, hF2, hP2, hD2⟩, hz, hk⟩, st2⟩ | ⟨q9, st₀, t, T2, L, E, ce, h0, X2, hL, e1, e2, ⟨⟨ws3, hG, hP2, hD2⟩, hz, hk⟩, hce, hcv, hcl9, st2⟩
  · cases hv
    rw [h0] at hz hk
    obtain ⟨t3, a1, b1⟩ := k v ws3 hF2 p e s m args below meth c A T2.heap (locs ++ L) ls ok (by rw [e1]; exact hP2) (hD2.weaken (fun _ q _ h => hF0 q.1 h)) ⟨Nat.le_trans hS.1 (by rw [e1]; exact hz), fun q h1 h2 => by rw [e1, hk q (Nat.lt_of_lt_of_le h1 hS.1) (fun z => h2 (hF0 q z))]; exact hS.2.1 q h1 h2, fun q hq => (List.mem_append.mp hq).elim (hS.2.2 q) (fun h => hF0 _ (hL q h))⟩ hl T2 rfl X2
    exact ⟨t3, st2 t3 a1, b1⟩
  · rw [h0] at hz hk
    obtain ⟨t3, a1, b1⟩ := kx E ws3 hG p e s m args below meth c A T2.heap (locs ++ L) ls q9 ce ok (by rw [e1]; exact hP2) (hD2.weaken (fun _ q _ h => hF0 q.1 h)) ⟨Nat.le_trans hS.1 (by rw [e1]; exact hz), fun q h1 h2 => by rw [e1, hk q (Nat.lt_of_lt_of_le h1 hS.1) (fun z => h2 (hF0 q z))]; exact hS.2.1 q h1 h2, fun q hq => (List.mem_append.mp hq).elim (hS.2.2 q) (fun h => hF0 _ (hL q h))⟩ hl (by rw [e1]; exact hce) hcv hcl9 T2 rfl X2
    exact ⟨t3, st2.trans a1, b1⟩
/-- a throw that this method doesn't catch -/
theorem rv_out {E : String} (hhe : hh = []) (hc : cu ≤ mc) (hs : su ≤ ms) (hG : G E ws) : rv_VT l D tys own cc nL ret hh R (rv_X D F G mc ms) cu su E ws pc lv rest := by
  intro p e s m args below meth c A H locs ls q ce ok hP hD hS hl hce hcv hcl
  obtain ⟨hx, hb, hml, hown, hts, hrt, hlk, hK, hA, hy, ht⟩ := ok
  refine vx_out (fun x hx9 => ?_) hlk hce hcv hcl (fun t ht hW => ⟨⟨ws, hG, by rw [ht]; exact hP, hD⟩, hS.F ht⟩) hS.2.2 hc hs
  rw [ht, hhe] at hx9
  cases hx9
end RV
end
section
/-! small words for the mirrored functions, and the calls by them -/
abbrev Mem : Type := (Nat → Nat → Int32) × (Nat → Nat → Int64)
def mu_up (M : Mem) (k j : Nat) (x : Int32) : Mem := (fun k2 => if k2 = k then upd (M.1 k) j x else M.1 k2, M.2)
def mu_uL (M : Mem) (k j : Nat) (x : Int64) : Mem := (M.1, fun k2 => if k2 = k then vp_updL (M.2 k) j x else M.2 k2)
def rv_in (i : Int32) (n : Nat) : Bool := decide (0 ≤ i.toInt ∧ i.toInt < n)
theorem rv_inP {i : Int32} {n : Nat} (h : rv_in i n = true) : vp_in i n := vp_in_iff.mpr (of_decide_eq_true h)
def rv_bz (x : Int32) : Bool := decide (x = 0 ∨ x = 1)
theorem rv_bzP {x : Int32} (h : rv_bz x = true) : narrow .boolean (.int x) = .int x := by
  rcases of_decide_eq_true h with rfl | rfl <;> rfl
def rv_bc (x : Int32) : Bool := decide (vp_nar .char x = x)
theorem rv_bcP {x : Int32} (h : rv_bc x = true) : narrow .char (.int x) = .int x := by
  have h1 : vp_nar .char x = x := of_decide_eq_true h
  have h2 : narrow .char (.int x) = .int (vp_nar .char x) := rfl
  rw [h2, h1]
theorem rv_ift {α : Type} {c : Prop} [Decidable c] {a b z : α} (hc : c) (h : (if c then a else b) = z) : a = z := by rw [if_pos hc] at h; exact h
theorem rv_iff {α : Type} {c : Prop} [Decidable c] {a b z : α} (hc : ¬ c) (h : (if c then a else b) = z) : b = z := by rw [if_neg hc] at h; exact h
theorem rv_ifn {α : Type} {c : Prop} [Decidable c] {a : Option α} {z : α} (h : (if c then a else none) = some z) : c ∧ a = some z := by
  by_cases hc : c
  · exact ⟨hc, rv_ift hc h⟩
  · cases rv_iff hc h
theorem rv_bind {α β : Type} {x : Option α} {k : α → Option β} {z : β} (h : x.bind k = some z) : ∃ a, x = some a ∧ k a = some z := Option.bind_eq_some_iff.mp h
def rv_thr {α β : Type} (x : String ⊕ α) (k : α → Option (String ⊕ β)) : Option (String ⊕ β) := match x with
  | .inl E => some (.inl E)
  | .inr a => k a
def rv_thm {α β : Type} (x : String ⊕ α) (M : Mem) (k : α → Option ((String ⊕ β) × Mem)) : Option ((String ⊕ β) × Mem) := match x with
  | .inl E => some (.inl E, M)
  | .inr a => k a
theorem rv_thr_l {α β : Type} {x : String ⊕ α} {k : α → Option (String ⊕ β)} {E : String} {z : String ⊕ β} (e : x = .inl E) (h : rv_thr x k = some z) : z = .inl E := by subst e; exact (Option.some.inj h).symm
theorem rv_thr_r {α β : Type} {x : String ⊕ α} {k : α → Option (String ⊕ β)} {a : α} {z : Option (String ⊕ β)} (e : x = .inr a) (h : rv_thr x k = z) : k a = z := by subst e; exact h
theorem rv_thm_l {α β : Type} {x : String ⊕ α} {M : Mem} {k : α → Option ((String ⊕ β) × Mem)} {E : String} {z : (String ⊕ β) × Mem} (e : x = .inl E) (h : rv_thm x M k = some z) : z = (.inl E, M) := by subst e; exact (Option.some.inj h).symm
theorem rv_thm_r {α β : Type} {x : String ⊕ α} {M : Mem} {k : α → Option ((String ⊕ β) × Mem)} {a : α} {z : Option ((String ⊕ β) × Mem)} (e : x = .inr a) (h : rv_thm x M k = z) : k a = z := by subst e; exact h
def rv_loop {α : Type} (F : α → α) (z : α) : Nat → α
  | 0 => z
  | n + 1 => F (rv_loop F z n)
abbrev rv_vI (x : Int32) : Option Value := some (.int x)
abbrev rv_vL (x : Int64) : Option Value := some (.long x)
abbrev rv_vF (x : UInt32) : Option Value := some (.float x)
abbrev rv_vD (x : UInt64) : Option Value := some (.double x)
abbrev rv_vU (_ : Unit) : Option Value := none
def rv_F (v : Option Value) (w : va_W) : Option Value → va_W → Prop := fun v2 w2 => v2 = v ∧ w2 = w
def rv_FX {α : Type} (val : α → Option Value) (x : String ⊕ α) (w : va_W) : Option Value → va_W → Prop := fun v2 w2 => ∃ t, x = .inr t ∧ v2 = val t ∧ w2 = w
def rv_GX {α : Type} (x : String ⊕ α) (w : va_W) : String → va_W → Prop := fun E w2 => x = .inl E ∧ w2 = w
def rv_T (ta : Nat → ClassId) : List (ClassId × FieldType) := [(ta 0, .int), (ta 1, .boolean), (ta 2, .long), (ta 3, .char), (ta 4, .double)]
theorem rv_le {a b : Nat} (h : Nat.ble a b = true) : a ≤ b := Nat.le_of_ble_eq_true h
section RW
variable {l : Launch} {D : va_G} {tys : List (ClassId × FieldType)} {own : String} {cc : ByteArray} {nL : Nat} {ret : Option FieldType} {hh : List ExceptionTableEntry} {R : Room} {Phi : rv_Phi} {cu su mc ms : Nat} {ws ws2 : va_W} {pc : Nat} {lv lv2 : List (Nat × Value)} {st rest : List Value} {F : Option Value → va_W → Prop} {G : String → va_W → Prop}
theorem rv_icn {x v : Int32} (h : ¬ x = v) : x.toInt ≠ v.toInt := fun e => h (Int32.toInt_inj.mp e)
theorem rv_tabIn {dflt lo hi : Int} {offs : Array Int} {len : Nat} {x : Int32} {off : Int} {tgt : Nat} (hdg : decode cc pc = .ok (.tableswitch dflt lo hi offs, len)) (v : Int32) (hx : x = v) (h1 : ¬ v.toInt < lo) (h2 : ¬ hi < v.toInt) (ho : offs[(v.toInt - lo).toNat]? = some off) (ht : (pc : Int) + off = (tgt : Int)) (k : rv_V l D tys own cc nL ret hh R Phi cu su ws tgt lv rest) : rv_V l D tys own cc nL ret hh R Phi cu su ws pc lv (.int x :: rest) := by
  subst hx
  intro p e s m args below meth c A H locs ls ok hP hD hS hl
  exact lv_tableIn ok.1 ok.2.1 hdg h1 h2 ho ht (k p e s m args below meth c A H locs ls ok hP hD hS hl)
theorem rv_tabOut {dflt lo hi : Int} {offs : Array Int} {len : Nat} {x : Int32} {tgt : Nat} (hdg : decode cc pc = .ok (.tableswitch dflt lo hi offs, len)) (h : x.toInt < lo ∨ hi < x.toInt) (ht : (pc : Int) + dflt = (tgt : Int)) (k : rv_V l D tys own cc nL ret hh R Phi cu su ws tgt lv rest) : rv_V l D tys own cc nL ret hh R Phi cu su ws pc lv (.int x :: rest) := by
  intro p e s m args below meth c A H locs ls ok hP hD hS hl
  exact lv_tableOut ok.1 ok.2.1 hdg h ht (k p e s m args below meth c A H locs ls ok hP hD hS hl)
theorem rv_callV1 {y : MethodName} {b : Nat} {As : List Value} {cy : ByteArray} {nc dc mcc msc index : Nat} {rc : Option FieldType} {C : String} {T : u_T} {N ci : Nat} {fs : List Value} {v : Value} (hC : rv_C l D tys y cy nc rc dc mcc msc (.ref b :: As) ws (rv_F (some v) ws2)) (hlink : Cond.methodLink own index y ∈ AW) (hinst : Cond.instanceMethod y ∈ AW) (hsel : Cond.selects C y y ∈ AW) (hcode : Cond.code y cy nc rc ∈ AW) (hini : Cond.initialized y.cls ∈ AW) (hcl : y.cls = C) (hnp : y.cls ≠ "java/lang/invoke/MethodHandle" ∧ y.cls ≠ "java/lang/invoke/VarHandle" ∧ (parseMethodDescriptor y.desc).map (fun d => d.parameters.length) = some As.length) (hdg : decode cc pc = .ok (.invokevirtual index, 3)) (hst : st = As.reverse ++ .ref b :: rest) (hf : cu + mcc ≤ R.cells ∧ su + msc ≤ R.slots) (hR : 20 * dc + 1 ≤ R.frames ∧ 8 + (nc + 11) + 200 * dc ≤ R.locals) (hrest : (rest.map fun v => v.category).sum ≤ 8) (q0 : Nat) (hrc : ws[q0]? = some (b, .inr (ci, fs))) (hcc : vwCl[ci]? = some (C, T, N))
    (k : rv_V l D tys own cc nL ret hh R Phi (cu + mcc) (su + msc) ws2 (pc + 3) lv (v :: rest)) : rv_V l D tys own cc nL ret hh R Phi cu su ws pc lv st :=
  rv_callV hC hlink hinst hsel hcode hini hcl hnp hf hR hdg hst hrest q0 hrc hcc (fun v9 w9 h9 => by obtain ⟨rfl, rfl⟩ := h9; exact k)
theorem rv_callV0 {y : MethodName} {b : Nat} {As : List Value} {cy : ByteArray} {nc dc mcc msc index : Nat} {rc : Option FieldType} {C : String} {T : u_T} {N ci : Nat} {fs : List Value} (hC : rv_C l D tys y cy nc rc dc mcc msc (.ref b :: As) ws (rv_F none ws2)) (hlink : Cond.methodLink own index y ∈ AW) (hinst : Cond.instanceMethod y ∈ AW) (hsel : Cond.selects C y y ∈ AW) (hcode : Cond.code y cy nc rc ∈ AW) (hini : Cond.initialized y.cls ∈ AW) (hcl : y.cls = C) (hnp : y.cls ≠ "java/lang/invoke/MethodHandle" ∧ y.cls ≠ "java/lang/invoke/VarHandle" ∧ (parseMethodDescriptor y.desc).map (fun d => d.parameters.length) = some As.length) (hdg : decode cc pc = .ok (.invokevirtual index, 3)) (hst : st = As.reverse ++ .ref b :: rest) (hf : cu + mcc ≤ R.cells ∧ su + msc ≤ R.slots) (hR : 20 * dc + 1 ≤ R.frames ∧ 8 + (nc + 11) + 200 * dc ≤ R.locals) (hrest : (rest.map fun v => v.category).sum ≤ 8) (q0 : Nat) (hrc : ws[q0]? = some (b, .inr (ci, fs))) (hcc : vwCl[ci]? = some (C, T, N))
    (k : rv_V l D tys own cc nL ret hh R Phi (cu + mcc) (su + msc) ws2 (pc + 3) lv rest) : rv_V l D tys own cc nL ret hh R Phi cu su ws pc lv st :=
  rv_callV hC hlink hinst hsel hcode hini hcl hnp hf hR hdg hst hrest q0 hrc hcc (fun v9 w9 h9 => by obtain ⟨rfl, rfl⟩ := h9; exact k)
theorem rv_callVN1 {y : MethodName} {b : Nat} {As : List Value} {cy : ByteArray} {nc dc mcc msc index : Nat} {rc : Option FieldType} {C : String} {T : u_T} {N ci : Nat} {fs : List Value} {v : Value} (hC : rv_C l D tys y cy nc rc dc mcc msc (.ref b :: As) ws (rv_F (some v) ws2)) {host : String} (hlink : Cond.methodLinkNest own index y host ∈ NW) (hinst : Cond.instanceMethod y ∈ AW) (hsel : Cond.selects C y y ∈ AW) (hcode : Cond.code y cy nc rc ∈ AW) (hini : Cond.initialized y.cls ∈ AW) (hcl : y.cls = C) (hnp : y.cls ≠ "java/lang/invoke/MethodHandle" ∧ y.cls ≠ "java/lang/invoke/VarHandle" ∧ (parseMethodDescriptor y.desc).map (fun d => d.parameters.length) = some As.length) (hdg : decode cc pc = .ok (.invokevirtual index, 3)) (hst : st = As.reverse ++ .ref b :: rest) (hf : cu + mcc ≤ R.cells ∧ su + msc ≤ R.slots) (hR : 20 * dc + 1 ≤ R.frames ∧ 8 + (nc + 11) + 200 * dc ≤ R.locals) (hrest : (rest.map fun v => v.category).sum ≤ 8) (q0 : Nat) (hrc : ws[q0]? = some (b, .inr (ci, fs))) (hcc : vwCl[ci]? = some (C, T, N))
    (k : rv_V l D tys own cc nL ret hh R Phi (cu + mcc) (su + msc) ws2 (pc + 3) lv (v :: rest)) : rv_V l D tys own cc nL ret hh R Phi cu su ws pc lv st :=
  rv_callVN hC hlink hinst hsel hcode hini hcl hnp hf hR hdg hst hrest q0 hrc hcc (fun v9 w9 h9 => by obtain ⟨rfl, rfl⟩ := h9; exact k)
theorem rv_callVN0 {y : MethodName} {b : Nat} {As : List Value} {cy : ByteArray} {nc dc mcc msc index : Nat} {rc : Option FieldType} {C : String} {T : u_T} {N ci : Nat} {fs : List Value} (hC : rv_C l D tys y cy nc rc dc mcc msc (.ref b :: As) ws (rv_F none ws2)) {host : String} (hlink : Cond.methodLinkNest own index y host ∈ NW) (hinst : Cond.instanceMethod y ∈ AW) (hsel : Cond.selects C y y ∈ AW) (hcode : Cond.code y cy nc rc ∈ AW) (hini : Cond.initialized y.cls ∈ AW) (hcl : y.cls = C) (hnp : y.cls ≠ "java/lang/invoke/MethodHandle" ∧ y.cls ≠ "java/lang/invoke/VarHandle" ∧ (parseMethodDescriptor y.desc).map (fun d => d.parameters.length) = some As.length) (hdg : decode cc pc = .ok (.invokevirtual index, 3)) (hst : st = As.reverse ++ .ref b :: rest) (hf : cu + mcc ≤ R.cells ∧ su + msc ≤ R.slots) (hR : 20 * dc + 1 ≤ R.frames ∧ 8 + (nc + 11) + 200 * dc ≤ R.locals) (hrest : (rest.map fun v => v.category).sum ≤ 8) (q0 : Nat) (hrc : ws[q0]? = some (b, .inr (ci, fs))) (hcc : vwCl[ci]? = some (C, T, N))
    (k : rv_V l D tys own cc nL ret hh R Phi (cu + mcc) (su + msc) ws2 (pc + 3) lv rest) : rv_V l D tys own cc nL ret hh R Phi cu su ws pc lv st :=
  rv_callVN hC hlink hinst hsel hcode hini hcl hnp hf hR hdg hst hrest q0 hrc hcc (fun v9 w9 h9 => by obtain ⟨rfl, rfl⟩ := h9; exact k)
theorem rv_callS1 {y : MethodName} {As : List Value} {cy : ByteArray} {nc dc mcc msc index : Nat} {rc : Option FieldType} {v : Value} (hC : rv_C l D tys y cy nc rc dc mcc msc As ws (rv_F (some v) ws2)) (hlink : Cond.methodLink own index y ∈ AW) (hstat : Cond.static y ∈ AW) (hcode : Cond.code y cy nc rc ∈ AW) (hini : Cond.initialized y.cls ∈ AW) (hnp : y.cls ≠ "java/lang/invoke/MethodHandle" ∧ y.cls ≠ "java/lang/invoke/VarHandle" ∧ (parseMethodDescriptor y.desc).map (fun d => d.parameters.length) = some As.length) (hdg : decode cc pc = .ok (.invokestatic index, 3)) (hst : st = As.reverse ++ rest) (hf : cu + mcc ≤ R.cells ∧ su + msc ≤ R.slots) (hR : 20 * dc + 1 ≤ R.frames ∧ 8 + (nc + 11) + 200 * dc ≤ R.locals) (hrest : (rest.map fun v => v.category).sum ≤ 8)
    (k : rv_V l D tys own cc nL ret hh R Phi (cu + mcc) (su + msc) ws2 (pc + 3) lv (v :: rest)) : rv_V l D tys own cc nL ret hh R Phi cu su ws pc lv st :=
  rv_callS hC hlink hstat hcode hini  hnp hf hR hdg hst hrest (fun v9 w9 h9 => by obtain ⟨rfl, rfl⟩ := h9; exact k)
theorem rv_callS0 {y : MethodName} {As : List Value} {cy : ByteArray} {nc dc mcc msc index : Nat} {rc : Option FieldType} (hC : rv_C l D tys y cy nc rc dc mcc msc As ws (rv_F none ws2)) (hlink : Cond.methodLink own index y ∈ AW) (hstat : Cond.static y ∈ AW) (hcode : Cond.code y cy nc rc ∈ AW) (hini : Cond.initialized y.cls ∈ AW) (hnp : y.cls ≠ "java/lang/invoke/MethodHandle" ∧ y.cls ≠ "java/lang/invoke/VarHandle" ∧ (parseMethodDescriptor y.desc).map (fun d => d.parameters.length) = some As.length) (hdg : decode cc pc = .ok (.invokestatic index, 3)) (hst : st = As.reverse ++ rest) (hf : cu + mcc ≤ R.cells ∧ su + msc ≤ R.slots) (hR : 20 * dc + 1 ≤ R.frames ∧ 8 + (nc + 11) + 200 * dc ≤ R.locals) (hrest : (rest.map fun v => v.category).sum ≤ 8)
    (k : rv_V l D tys own cc nL ret hh R Phi (cu + mcc) (su + msc) ws2 (pc + 3) lv rest) : rv_V l D tys own cc nL ret hh R Phi cu su ws pc lv st :=
  rv_callS hC hlink hstat hcode hini  hnp hf hR hdg hst hrest (fun v9 w9 h9 => by obtain ⟨rfl, rfl⟩ := h9; exact k)
theorem rv_callSN1 {y : MethodName} {As : List Value} {cy : ByteArray} {nc dc mcc msc index : Nat} {rc : Option FieldType} {v : Value} (hC : rv_C l D tys y cy nc rc dc mcc msc As ws (rv_F (some v) ws2)) {host : String} (hlink : Cond.methodLinkNest own index y host ∈ NW) (hstat : Cond.static y ∈ AW) (hcode : Cond.code y cy nc rc ∈ AW) (hini : Cond.initialized y.cls ∈ AW) (hnp : y.cls ≠ "java/lang/invoke/MethodHandle" ∧ y.cls ≠ "java/lang/invoke/VarHandle" ∧ (parseMethodDescriptor y.desc).map (fun d => d.parameters.length) = some As.length) (hdg : decode cc pc = .ok (.invokestatic index, 3)) (hst : st = As.reverse ++ rest) (hf : cu + mcc ≤ R.cells ∧ su + msc ≤ R.slots) (hR : 20 * dc + 1 ≤ R.frames ∧ 8 + (nc + 11) + 200 * dc ≤ R.locals) (hrest : (rest.map fun v => v.category).sum ≤ 8)
    (k : rv_V l D tys own cc nL ret hh R Phi (cu + mcc) (su + msc) ws2 (pc + 3) lv (v :: rest)) : rv_V l D tys own cc nL ret hh R Phi cu su ws pc lv st :=
  rv_callSN hC hlink hstat hcode hini  hnp hf hR hdg hst hrest (fun v9 w9 h9 => by obtain ⟨rfl, rfl⟩ := h9; exact k)
theorem rv_callSN0 {y : MethodName} {As : List Value} {cy : ByteArray} {nc dc mcc msc index : Nat} {rc : Option FieldType} (hC : rv_C l D tys y cy nc rc dc mcc msc As ws (rv_F none ws2)) {host : String} (hlink : Cond.methodLinkNest own index y host ∈ NW) (hstat : Cond.static y ∈ AW) (hcode : Cond.code y cy nc rc ∈ AW) (hini : Cond.initialized y.cls ∈ AW) (hnp : y.cls ≠ "java/lang/invoke/MethodHandle" ∧ y.cls ≠ "java/lang/invoke/VarHandle" ∧ (parseMethodDescriptor y.desc).map (fun d => d.parameters.length) = some As.length) (hdg : decode cc pc = .ok (.invokestatic index, 3)) (hst : st = As.reverse ++ rest) (hf : cu + mcc ≤ R.cells ∧ su + msc ≤ R.slots) (hR : 20 * dc + 1 ≤ R.frames ∧ 8 + (nc + 11) + 200 * dc ≤ R.locals) (hrest : (rest.map fun v => v.category).sum ≤ 8)
    (k : rv_V l D tys own cc nL ret hh R Phi (cu + mcc) (su + msc) ws2 (pc + 3) lv rest) : rv_V l D tys own cc nL ret hh R Phi cu su ws pc lv st :=
  rv_callSN hC hlink hstat hcode hini  hnp hf hR hdg hst hrest (fun v9 w9 h9 => by obtain ⟨rfl, rfl⟩ := h9; exact k)
theorem rv_callI0 {y : MethodName} {b : Nat} {As : List Value} {cy : ByteArray} {nc dc mcc msc index : Nat} (hC : rv_C l D tys y cy nc none dc mcc msc (.ref b :: As) ws (rv_F none ws2)) (hlink : Cond.methodLink own index y ∈ AW) (hinst : Cond.instanceMethod y ∈ AW) (hnm : y.name = "<init>") (hcode : Cond.code y cy nc none ∈ AW) (hini : Cond.initialized y.cls ∈ AW) (hnp : y.cls ≠ "java/lang/invoke/MethodHandle" ∧ y.cls ≠ "java/lang/invoke/VarHandle" ∧ (parseMethodDescriptor y.desc).map (fun d => d.parameters.length) = some As.length) (hdg : decode cc pc = .ok (.invokespecial index, 3)) (hst : st = As.reverse ++ .ref b :: rest) (hf : cu + mcc ≤ R.cells ∧ su + msc ≤ R.slots) (hR : 20 * dc + 1 ≤ R.frames ∧ 8 + (nc + 11) + 200 * dc ≤ R.locals) (hrest : (rest.map fun v => v.category).sum ≤ 8)
    (k : rv_V l D tys own cc nL ret hh R Phi (cu + mcc) (su + msc) ws2 (pc + 3) lv rest) : rv_V l D tys own cc nL ret hh R Phi cu su ws pc lv st :=
  rv_callI hC hlink hinst hnm hcode hini  hnp hf hR hdg hst hrest (fun v9 w9 h9 => by obtain ⟨rfl, rfl⟩ := h9; exact k)
theorem rv_callIN0 {y : MethodName} {b : Nat} {As : List Value} {cy : ByteArray} {nc dc mcc msc index : Nat} (hC : rv_C l D tys y cy nc none dc mcc msc (.ref b :: As) ws (rv_F none ws2)) {host : String} (hlink : Cond.methodLinkNest own index y host ∈ NW) (hinst : Cond.instanceMethod y ∈ AW) (hnm : y.name = "<init>") (hcode : Cond.code y cy nc none ∈ AW) (hini : Cond.initialized y.cls ∈ AW) (hnp : y.cls ≠ "java/lang/invoke/MethodHandle" ∧ y.cls ≠ "java/lang/invoke/VarHandle" ∧ (parseMethodDescriptor y.desc).map (fun d => d.parameters.length) = some As.length) (hdg : decode cc pc = .ok (.invokespecial index, 3)) (hst : st = As.reverse ++ .ref b :: rest) (hf : cu + mcc ≤ R.cells ∧ su + msc ≤ R.slots) (hR : 20 * dc + 1 ≤ R.frames ∧ 8 + (nc + 11) + 200 * dc ≤ R.locals) (hrest : (rest.map fun v => v.category).sum ≤ 8)
    (k : rv_V l D tys own cc nL ret hh R Phi (cu + mcc) (su + msc) ws2 (pc + 3) lv rest) : rv_V l D tys own cc nL ret hh R Phi cu su ws pc lv st :=
  rv_callIN hC hlink hinst hnm hcode hini  hnp hf hR hdg hst hrest (fun v9 w9 h9 => by obtain ⟨rfl, rfl⟩ := h9; exact k)
theorem rv_xcallVI {y : MethodName} {b : Nat} {As : List Value} {cy : ByteArray} {nc dc mcc msc index : Nat} {rc : Option FieldType} {C : String} {T : u_T} {N ci : Nat} {fs : List Value} {x : String ⊕ Int32} (hC : rv_CX l D tys y cy nc rc dc mcc msc (.ref b :: As) ws (rv_FX rv_vI x ws2) (rv_GX x ws2)) (hlink : Cond.methodLink own index y ∈ AW) (hinst : Cond.instanceMethod y ∈ AW) (hsel : Cond.selects C y y ∈ AW) (hcode : Cond.code y cy nc rc ∈ AW) (hini : Cond.initialized y.cls ∈ AW) (hcl : y.cls = C) (hnp : y.cls ≠ "java/lang/invoke/MethodHandle" ∧ y.cls ≠ "java/lang/invoke/VarHandle" ∧ (parseMethodDescriptor y.desc).map (fun d => d.parameters.length) = some As.length) (hdg : decode cc pc = .ok (.invokevirtual index, 3)) (hst : st = As.reverse ++ .ref b :: rest) (hf : cu + mcc ≤ R.cells ∧ su + msc ≤ R.slots) (hR : 20 * dc + 1 ≤ R.frames ∧ 8 + (nc + 11) + 200 * dc ≤ R.locals) (hrest : (rest.map fun v => v.category).sum ≤ 8) (q0 : Nat) (hrc : ws[q0]? = some (b, .inr (ci, fs))) (hcc : vwCl[ci]? = some (C, T, N)) (kx : ∀ E : String, x = .inl E → rv_VT l D tys own cc nL ret hh R Phi (cu + mcc) (su + msc) E ws2 pc lv rest)
    (k : ∀ t : Int32, x = .inr t → rv_V l D tys own cc nL ret hh R Phi (cu + mcc) (su + msc) ws2 (pc + 3) lv (.int t :: rest)) : rv_V l D tys own cc nL ret hh R Phi cu su ws pc lv st :=
  rv_xcallV hC hlink hinst hsel hcode hini hcl hnp hf hR hdg hst hrest q0 hrc hcc (fun E w9 h9 => by obtain ⟨h8, rfl⟩ := h9; exact kx E h8) (fun v9 w9 h9 => by obtain ⟨t, h8, rfl, rfl⟩ := h9; exact k t h8)
theorem rv_xcallVL {y : MethodName} {b : Nat} {As : List Value} {cy : ByteArray} {nc dc mcc msc index : Nat} {rc : Option FieldType} {C : String} {T : u_T} {N ci : Nat} {fs : List Value} {x : String ⊕ Int64} (hC : rv_CX l D tys y cy nc rc dc mcc msc (.ref b :: As) ws (rv_FX rv_vL x ws2) (rv_GX x ws2)) (hlink : Cond.methodLink own index y ∈ AW) (hinst : Cond.instanceMethod y ∈ AW) (hsel : Cond.selects C y y ∈ AW) (hcode : Cond.code y cy nc rc ∈ AW) (hini : Cond.initialized y.cls ∈ AW) (hcl : y.cls = C) (hnp : y.cls ≠ "java/lang/invoke/MethodHandle" ∧ y.cls ≠ "java/lang/invoke/VarHandle" ∧ (parseMethodDescriptor y.desc).map (fun d => d.parameters.length) = some As.length) (hdg : decode cc pc = .ok (.invokevirtual index, 3)) (hst : st = As.reverse ++ .ref b :: rest) (hf : cu + mcc ≤ R.cells ∧ su + msc ≤ R.slots) (hR : 20 * dc + 1 ≤ R.frames ∧ 8 + (nc + 11) + 200 * dc ≤ R.locals) (hrest : (rest.map fun v => v.category).sum ≤ 8) (q0 : Nat) (hrc : ws[q0]? = some (b, .inr (ci, fs))) (hcc : vwCl[ci]? = some (C, T, N)) (kx : ∀ E : String, x = .inl E → rv_VT l D tys own cc nL ret hh R Phi (cu + mcc) (su + msc) E ws2 pc lv rest)
    (k : ∀ t : Int64, x = .inr t → rv_V l D tys own cc nL ret hh R Phi (cu + mcc) (su + msc) ws2 (pc + 3) lv (.long t :: rest)) : rv_V l D tys own cc nL ret hh R Phi cu su ws pc lv st :=
  rv_xcallV hC hlink hinst hsel hcode hini hcl hnp hf hR hdg hst hrest q0 hrc hcc (fun E w9 h9 => by obtain ⟨h8, rfl⟩ := h9; exact kx E h8) (fun v9 w9 h9 => by obtain ⟨t, h8, rfl, rfl⟩ := h9; exact k t h8)
theorem rv_xcallVF {y : MethodName} {b : Nat} {As : List Value} {cy : ByteArray} {nc dc mcc msc index : Nat} {rc : Option FieldType} {C : String} {T : u_T} {N ci : Nat} {fs : List Value} {x : String ⊕ UInt32} (hC : rv_CX l D tys y cy nc rc dc mcc msc (.ref b :: As) ws (rv_FX rv_vF x ws2) (rv_GX x ws2)) (hlink : Cond.methodLink own index y ∈ AW) (hinst : Cond.instanceMethod y ∈ AW) (hsel : Cond.selects C y y ∈ AW) (hcode : Cond.code y cy nc rc ∈ AW) (hini : Cond.initialized y.cls ∈ AW) (hcl : y.cls = C) (hnp : y.cls ≠ "java/lang/invoke/MethodHandle" ∧ y.cls ≠ "java/lang/invoke/VarHandle" ∧ (parseMethodDescriptor y.desc).map (fun d => d.parameters.length) = some As.length) (hdg : decode cc pc = .ok (.invokevirtual index, 3)) (hst : st = As.reverse ++ .ref b :: rest) (hf : cu + mcc ≤ R.cells ∧ su + msc ≤ R.slots) (hR : 20 * dc + 1 ≤ R.frames ∧ 8 + (nc + 11) + 200 * dc ≤ R.locals) (hrest : (rest.map fun v => v.category).sum ≤ 8) (q0 : Nat) (hrc : ws[q0]? = some (b, .inr (ci, fs))) (hcc : vwCl[ci]? = some (C, T, N)) (kx : ∀ E : String, x = .inl E → rv_VT l D tys own cc nL ret hh R Phi (cu + mcc) (su + msc) E ws2 pc lv rest)
    (k : ∀ t : UInt32, x = .inr t → rv_V l D tys own cc nL ret hh R Phi (cu + mcc) (su + msc) ws2 (pc + 3) lv (.float t :: rest)) : rv_V l D tys own cc nL ret hh R Phi cu su ws pc lv st :=
  rv_xcallV hC hlink hinst hsel hcode hini hcl hnp hf hR hdg hst hrest q0 hrc hcc (fun E w9 h9 => by obtain ⟨h8, rfl⟩ := h9; exact kx E h8) (fun v9 w9 h9 => by obtain ⟨t, h8, rfl, rfl⟩ := h9; exact k t h8)
theorem rv_xcallVD {y : MethodName} {b : Nat} {As : List Value} {cy : ByteArray} {nc dc mcc msc index : Nat} {rc : Option FieldType} {C : String} {T : u_T} {N ci : Nat} {fs : List Value} {x : String ⊕ UInt64} (hC : rv_CX l D tys y cy nc rc dc mcc msc (.ref b :: As) ws (rv_FX rv_vD x ws2) (rv_GX x ws2)) (hlink : Cond.methodLink own index y ∈ AW) (hinst : Cond.instanceMethod y ∈ AW) (hsel : Cond.selects C y y ∈ AW) (hcode : Cond.code y cy nc rc ∈ AW) (hini : Cond.initialized y.cls ∈ AW) (hcl : y.cls = C) (hnp : y.cls ≠ "java/lang/invoke/MethodHandle" ∧ y.cls ≠ "java/lang/invoke/VarHandle" ∧ (parseMethodDescriptor y.desc).map (fun d => d.parameters.length) = some As.length) (hdg : decode cc pc = .ok (.invokevirtual index, 3)) (hst : st = As.reverse ++ .ref b :: rest) (hf : cu + mcc ≤ R.cells ∧ su + msc ≤ R.slots) (hR : 20 * dc + 1 ≤ R.frames ∧ 8 + (nc + 11) + 200 * dc ≤ R.locals) (hrest : (rest.map fun v => v.category).sum ≤ 8) (q0 : Nat) (hrc : ws[q0]? = some (b, .inr (ci, fs))) (hcc : vwCl[ci]? = some (C, T, N)) (kx : ∀ E : String, x = .inl E → rv_VT l D tys own cc nL ret hh R Phi (cu + mcc) (su + msc) E ws2 pc lv rest)
    (k : ∀ t : UInt64, x = .inr t → rv_V l D tys own cc nL ret hh R Phi (cu + mcc) (su + msc) ws2 (pc + 3) lv (.double t :: rest)) : rv_V l D tys own cc nL ret hh R Phi cu su ws pc lv st :=
  rv_xcallV hC hlink hinst hsel hcode hini hcl hnp hf hR hdg hst hrest q0 hrc hcc (fun E w9 h9 => by obtain ⟨h8, rfl⟩ := h9; exact kx E h8) (fun v9 w9 h9 => by obtain ⟨t, h8, rfl, rfl⟩ := h9; exact k t h8)
theorem rv_xcallVU {y : MethodName} {b : Nat} {As : List Value} {cy : ByteArray} {nc dc mcc msc index : Nat} {rc : Option FieldType} {C : String} {T : u_T} {N ci : Nat} {fs : List Value} {x : String ⊕ Unit} (hC : rv_CX l D tys y cy nc rc dc mcc msc (.ref b :: As) ws (rv_FX rv_vU x ws2) (rv_GX x ws2)) (hlink : Cond.methodLink own index y ∈ AW) (hinst : Cond.instanceMethod y ∈ AW) (hsel : Cond.selects C y y ∈ AW) (hcode : Cond.code y cy nc rc ∈ AW) (hini : Cond.initialized y.cls ∈ AW) (hcl : y.cls = C) (hnp : y.cls ≠ "java/lang/invoke/MethodHandle" ∧ y.cls ≠ "java/lang/invoke/VarHandle" ∧ (parseMethodDescriptor y.desc).map (fun d => d.parameters.length) = some As.length) (hdg : decode cc pc = .ok (.invokevirtual index, 3)) (hst : st = As.reverse ++ .ref b :: rest) (hf : cu + mcc ≤ R.cells ∧ su + msc ≤ R.slots) (hR : 20 * dc + 1 ≤ R.frames ∧ 8 + (nc + 11) + 200 * dc ≤ R.locals) (hrest : (rest.map fun v => v.category).sum ≤ 8) (q0 : Nat) (hrc : ws[q0]? = some (b, .inr (ci, fs))) (hcc : vwCl[ci]? = some (C, T, N)) (kx : ∀ E : String, x = .inl E → rv_VT l D tys own cc nL ret hh R Phi (cu + mcc) (su + msc) E ws2 pc lv rest)
    (k : ∀ t : Unit, x = .inr t → rv_V l D tys own cc nL ret hh R Phi (cu + mcc) (su + msc) ws2 (pc + 3) lv rest) : rv_V l D tys own cc nL ret hh R Phi cu su ws pc lv st :=
  rv_xcallV hC hlink hinst hsel hcode hini hcl hnp hf hR hdg hst hrest q0 hrc hcc (fun E w9 h9 => by obtain ⟨h8, rfl⟩ := h9; exact kx E h8) (fun v9 w9 h9 => by obtain ⟨t, h8, rfl, rfl⟩ := h9; exact k t h8)
theorem rv_xcallSI {y : MethodName} {As : List Value} {cy : ByteArray} {nc dc mcc msc index : Nat} {rc : Option FieldType} {x : String ⊕ Int32} (hC : rv_CX l D tys y cy nc rc dc mcc msc As ws (rv_FX rv_vI x ws2) (rv_GX x ws2)) (hlink : Cond.methodLink own index y ∈ AW) (hstat : Cond.static y ∈ AW) (hcode : Cond.code y cy nc rc ∈ AW) (hini : Cond.initialized y.cls ∈ AW) (hnp : y.cls ≠ "java/lang/invoke/MethodHandle" ∧ y.cls ≠ "java/lang/invoke/VarHandle" ∧ (parseMethodDescriptor y.desc).map (fun d => d.parameters.length) = some As.length) (hdg : decode cc pc = .ok (.invokestatic index, 3)) (hst : st = As.reverse ++ rest) (hf : cu + mcc ≤ R.cells ∧ su + msc ≤ R.slots) (hR : 20 * dc + 1 ≤ R.frames ∧ 8 + (nc + 11) + 200 * dc ≤ R.locals) (hrest : (rest.map fun v => v.category).sum ≤ 8) (kx : ∀ E : String, x = .inl E → rv_VT l D tys own cc nL ret hh R Phi (cu + mcc) (su + msc) E ws2 pc lv rest)
    (k : ∀ t : Int32, x = .inr t → rv_V l D tys own cc nL ret hh R Phi (cu + mcc) (su + msc) ws2 (pc + 3) lv (.int t :: rest)) : rv_V l D tys own cc nL ret hh R Phi cu su ws pc lv st :=
  rv_xcallS hC hlink hstat hcode hini  hnp hf hR hdg hst hrest (fun E w9 h9 => by obtain ⟨h8, rfl⟩ := h9; exact kx E h8) (fun v9 w9 h9 => by obtain ⟨t, h8, rfl, rfl⟩ := h9; exact k t h8)
theorem rv_xcallSL {y : MethodName} {As : List Value} {cy : ByteArray} {nc dc mcc msc index : Nat} {rc : Option FieldType} {x : String ⊕ Int64} (hC : rv_CX l D tys y cy nc rc dc mcc msc As ws (rv_FX rv_vL x ws2) (rv_GX x ws2)) (hlink : Cond.methodLink own index y ∈ AW) (hstat : Cond.static y ∈ AW) (hcode : Cond.code y cy nc rc ∈ AW) (hini : Cond.initialized y.cls ∈ AW) (hnp : y.cls ≠ "java/lang/invoke/MethodHandle" ∧ y.cls ≠ "java/lang/invoke/VarHandle" ∧ (parseMethodDescriptor y.desc).map (fun d => d.parameters.length) = some As.length) (hdg : decode cc pc = .ok (.invokestatic index, 3)) (hst : st = As.reverse ++ rest) (hf : cu + mcc ≤ R.cells ∧ su + msc ≤ R.slots) (hR : 20 * dc + 1 ≤ R.frames ∧ 8 + (nc + 11) + 200 * dc ≤ R.locals) (hrest : (rest.map fun v => v.category).sum ≤ 8) (kx : ∀ E : String, x = .inl E → rv_VT l D tys own cc nL ret hh R Phi (cu + mcc) (su + msc) E ws2 pc lv rest)
    (k : ∀ t : Int64, x = .inr t → rv_V l D tys own cc nL ret hh R Phi (cu + mcc) (su + msc) ws2 (pc + 3) lv (.long t :: rest)) : rv_V l D tys own cc nL ret hh R Phi cu su ws pc lv st :=
  rv_xcallS hC hlink hstat hcode hini  hnp hf hR hdg hst hrest (fun E w9 h9 => by obtain ⟨h8, rfl⟩ := h9; exact kx E h8) (fun v9 w9 h9 => by obtain ⟨t, h8, rfl, rfl⟩ := h9; exact k t h8)
theorem rv_xcallSF {y : MethodName} {As : List Value} {cy : ByteArray} {nc dc mcc msc index : Nat} {rc : Option FieldType} {x : String ⊕ UInt32} (hC : rv_CX l D tys y cy nc rc dc mcc msc As ws (rv_FX rv_vF x ws2) (rv_GX x ws2)) (hlink : Cond.methodLink own index y ∈ AW) (hstat : Cond.static y ∈ AW) (hcode : Cond.code y cy nc rc ∈ AW) (hini : Cond.initialized y.cls ∈ AW) (hnp : y.cls ≠ "java/lang/invoke/MethodHandle" ∧ y.cls ≠ "java/lang/invoke/VarHandle" ∧ (parseMethodDescriptor y.desc).map (fun d => d.parameters.length) = some As.length) (hdg : decode cc pc = .ok (.invokestatic index, 3)) (hst : st = As.reverse ++ rest) (hf : cu + mcc ≤ R.cells ∧ su + msc ≤ R.slots) (hR : 20 * dc + 1 ≤ R.frames ∧ 8 + (nc + 11) + 200 * dc ≤ R.locals) (hrest : (rest.map fun v => v.category).sum ≤ 8) (kx : ∀ E : String, x = .inl E → rv_VT l D tys own cc nL ret hh R Phi (cu + mcc) (su + msc) E ws2 pc lv rest)
    (k : ∀ t : UInt32, x = .inr t → rv_V l D tys own cc nL ret hh R Phi (cu + mcc) (su + msc) ws2 (pc + 3) lv (.float t :: rest)) : rv_V l D tys own cc nL ret hh R Phi cu su ws pc lv st :=
  rv_xcallS hC hlink hstat hcode hini  hnp hf hR hdg hst hrest (fun E w9 h9 => by obtain ⟨h8, rfl⟩ := h9; exact kx E h8) (fun v9 w9 h9 => by obtain ⟨t, h8, rfl, rfl⟩ := h9; exact k t h8)
theorem rv_xcallSD {y : MethodName} {As : List Value} {cy : ByteArray} {nc dc mcc msc index : Nat} {rc : Option FieldType} {x : String ⊕ UInt64} (hC : rv_CX l D tys y cy nc rc dc mcc msc As ws (rv_FX rv_vD x ws2) (rv_GX x ws2)) (hlink : Cond.methodLink own index y ∈ AW) (hstat : Cond.static y ∈ AW) (hcode : Cond.code y cy nc rc ∈ AW) (hini : Cond.initialized y.cls ∈ AW) (hnp : y.cls ≠ "java/lang/invoke/MethodHandle" ∧ y.cls ≠ "java/lang/invoke/VarHandle" ∧ (parseMethodDescriptor y.desc).map (fun d => d.parameters.length) = some As.length) (hdg : decode cc pc = .ok (.invokestatic index, 3)) (hst : st = As.reverse ++ rest) (hf : cu + mcc ≤ R.cells ∧ su + msc ≤ R.slots) (hR : 20 * dc + 1 ≤ R.frames ∧ 8 + (nc + 11) + 200 * dc ≤ R.locals) (hrest : (rest.map fun v => v.category).sum ≤ 8) (kx : ∀ E : String, x = .inl E → rv_VT l D tys own cc nL ret hh R Phi (cu + mcc) (su + msc) E ws2 pc lv rest)
    (k : ∀ t : UInt64, x = .inr t → rv_V l D tys own cc nL ret hh R Phi (cu + mcc) (su + msc) ws2 (pc + 3) lv (.double t :: rest)) : rv_V l D tys own cc nL ret hh R Phi cu su ws pc lv st :=
  rv_xcallS hC hlink hstat hcode hini  hnp hf hR hdg hst hrest (fun E w9 h9 => by obtain ⟨h8, rfl⟩ := h9; exact kx E h8) (fun v9 w9 h9 => by obtain ⟨t, h8, rfl, rfl⟩ := h9; exact k t h8)
theorem rv_xcallSU {y : MethodName} {As : List Value} {cy : ByteArray} {nc dc mcc msc index : Nat} {rc : Option FieldType} {x : String ⊕ Unit} (hC : rv_CX l D tys y cy nc rc dc mcc msc As ws (rv_FX rv_vU x ws2) (rv_GX x ws2)) (hlink : Cond.methodLink own index y ∈ AW) (hstat : Cond.static y ∈ AW) (hcode : Cond.code y cy nc rc ∈ AW) (hini : Cond.initialized y.cls ∈ AW) (hnp : y.cls ≠ "java/lang/invoke/MethodHandle" ∧ y.cls ≠ "java/lang/invoke/VarHandle" ∧ (parseMethodDescriptor y.desc).map (fun d => d.parameters.length) = some As.length) (hdg : decode cc pc = .ok (.invokestatic index, 3)) (hst : st = As.reverse ++ rest) (hf : cu + mcc ≤ R.cells ∧ su + msc ≤ R.slots) (hR : 20 * dc + 1 ≤ R.frames ∧ 8 + (nc + 11) + 200 * dc ≤ R.locals) (hrest : (rest.map fun v => v.category).sum ≤ 8) (kx : ∀ E : String, x = .inl E → rv_VT l D tys own cc nL ret hh R Phi (cu + mcc) (su + msc) E ws2 pc lv rest)
    (k : ∀ t : Unit, x = .inr t → rv_V l D tys own cc nL ret hh R Phi (cu + mcc) (su + msc) ws2 (pc + 3) lv rest) : rv_V l D tys own cc nL ret hh R Phi cu su ws pc lv st :=
  rv_xcallS hC hlink hstat hcode hini  hnp hf hR hdg hst hrest (fun E w9 h9 => by obtain ⟨h8, rfl⟩ := h9; exact kx E h8) (fun v9 w9 h9 => by obtain ⟨t, h8, rfl, rfl⟩ := h9; exact k t h8)
end RW
end
