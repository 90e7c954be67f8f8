set_option maxRecDepth 100000 in
theorem cw_0 : lw_tbl[422]? = some (Cond.code ⟨kN 0, "<init>", "()V"⟩ prog_3_method_1_code 1 (none)) := rfl
set_option maxRecDepth 100000 in
theorem ck_0 : cd_0.all (chkI 0 prog_3_method_1_code) = true := by decide +kernel
set_option maxRecDepth 100000 in
theorem cw_1 : lw_tbl[1390]? = some (Cond.code ⟨kN 0, "begin", "(I)V"⟩ prog_3_method_2_code 2 (none)) := rfl
set_option maxRecDepth 100000 in
theorem ck_1 : cd_1.all (chkI 0 prog_3_method_2_code) = true := by decide +kernel
set_option maxRecDepth 100000 in
theorem cw_2 : lw_tbl[1398]? = some (Cond.code ⟨kN 0, "below", "(I)I"⟩ prog_3_method_3_code 2 (some .int)) := rfl
set_option maxRecDepth 100000 in
theorem ck_2 : cd_2.all (chkI 0 prog_3_method_3_code) = true := by decide +kernel
theorem ge_0 : ∀ e ∈ mX_0, GoodE e := List.forall_mem_cons.mpr ⟨⟨List.mem_of_getElem? cw_0, ck_0, rfl, by decide, by decide⟩, List.forall_mem_cons.mpr ⟨⟨List.mem_of_getElem? cw_1, ck_1, rfl, by decide, by decide⟩, List.forall_mem_cons.mpr ⟨⟨List.mem_of_getElem? cw_2, ck_2, rfl, by decide, by decide⟩, fun _ h => absurd h List.not_mem_nil⟩⟩⟩
set_option maxRecDepth 100000 in
theorem cw_200 : lw_tbl[458]? = some (Cond.code ⟨kN 1, "<init>", "()V"⟩ prog_4_method_1_code 1 (none)) := rfl
set_option maxRecDepth 100000 in
theorem ck_200 : cd_200.all (chkI 1 prog_4_method_1_code) = true := by decide +kernel
set_option maxRecDepth 100000 in
theorem cw_201 : lw_tbl[566]? = some (Cond.code ⟨kN 1, "clear", "()V"⟩ prog_4_method_2_code 1 (none)) := rfl
set_option maxRecDepth 100000 in
theorem ck_201 : cd_201.all (chkI 1 prog_4_method_2_code) = true := by decide +kernel
set_option maxRecDepth 100000 in
theorem cw_202 : lw_tbl[572]? = some (Cond.code ⟨kN 1, "add", "(LNameOrchard$Token;I)V"⟩ prog_4_method_3_code 3 (none)) := rfl
set_option maxRecDepth 100000 in
theorem ck_202 : cd_202.all (chkI 1 prog_4_method_3_code) = true := by decide +kernel
set_option maxRecDepth 100000 in
theorem cw_203 : lw_tbl[986]? = some (Cond.code ⟨kN 1, "read", "(LNameOrchard$Tape;Z)I"⟩ prog_4_method_4_code 9 (some .int)) := rfl
set_option maxRecDepth 100000 in
theorem ck_203 : cd_203.all (chkI 1 prog_4_method_4_code) = true := by decide +kernel
set_option maxRecDepth 100000 in
theorem cw_204 : lw_tbl[1007]? = some (Cond.code ⟨kN 1, "last", "()LNameOrchard$Token;"⟩ prog_4_method_5_code 1 (some (.object "NameOrchard$Token"))) := rfl
set_option maxRecDepth 100000 in
theorem ck_204 : cd_204.all (chkI 1 prog_4_method_5_code) = true := by decide +kernel
set_option maxRecDepth 100000 in
theorem cw_205 : lw_tbl[998]? = some (Cond.code ⟨kN 1, "hold", "(LNameOrchard$Token;)V"⟩ prog_4_method_6_code 2 (none)) := rfl
set_option maxRecDepth 100000 in
theorem ck_205 : cd_205.all (chkI 1 prog_4_method_6_code) = true := by decide +kernel
set_option maxRecDepth 100000 in
theorem cw_206 : lw_tbl[1011]? = some (Cond.code ⟨kN 1, "drop", "()V"⟩ prog_4_method_7_code 1 (none)) := rfl
set_option maxRecDepth 100000 in
theorem ck_206 : cd_206.all (chkI 1 prog_4_method_7_code) = true := by decide +kernel
set_option maxRecDepth 100000 in
theorem cw_207 : lw_tbl[1019]? = some (Cond.code ⟨kN 1, "release", "(I)V"⟩ prog_4_method_8_code 4 (none)) := rfl
set_option maxRecDepth 100000 in
theorem ck_207 : cd_207.all (chkI 1 prog_4_method_8_code) = true := by decide +kernel
set_option maxRecDepth 100000 in
theorem cw_208 : lw_tbl[1015]? = some (Cond.code ⟨kN 1, "releaseBefore", "(LNameOrchard$Token;)Z"⟩ prog_4_method_9_code 4 (some .boolean)) := rfl
set_option maxRecDepth 100000 in
theorem ck_208 : cd_208.all (chkI 1 prog_4_method_9_code) = true := by decide +kernel
set_option maxRecDepth 100000 in
theorem cw_209 : lw_tbl[1003]? = some (Cond.code ⟨kN 1, "releaseNots", "()I"⟩ prog_4_method_10_code 3 (some .int)) := rfl
set_option maxRecDepth 100000 in
theorem ck_209 : cd_209.all (chkI 1 prog_4_method_10_code) = true := by decide +kernel
set_option maxRecDepth 100000 in
theorem cw_210 : lw_tbl[627]? = some (Cond.code ⟨kN 1, "answer", "(IIII)I"⟩ prog_4_method_11_code 10 (some .int)) := rfl
set_option maxRecDepth 100000 in
theorem ck_210 : cd_210.all (chkI 1 prog_4_method_11_code) = true := by decide +kernel
set_option maxRecDepth 100000 in
theorem cw_211 : lw_tbl[631]? = some (Cond.code ⟨kN 1, "joined", "(LNameOrchard$Token;II)I"⟩ prog_4_method_12_code 3 (some .int)) := rfl
set_option maxRecDepth 100000 in
theorem ck_211 : cd_211.all (chkI 1 prog_4_method_12_code) = true := by decide +kernel
theorem ge_1 : ∀ e ∈ mX_1, GoodE e := List.forall_mem_cons.mpr ⟨⟨List.mem_of_getElem? cw_200, ck_200, rfl, by decide, by decide⟩, List.forall_mem_cons.mpr ⟨⟨List.mem_of_getElem? cw_201, ck_201, rfl, by decide, by decide⟩, List.forall_mem_cons.mpr ⟨⟨List.mem_of_getElem? cw_202, ck_202, rfl, by decide, by decide⟩, List.forall_mem_cons.mpr ⟨⟨List.mem_of_getElem? cw_203, ck_203, rfl, by decide, by decide⟩, List.forall_mem_cons.mpr ⟨⟨List.mem_of_getElem? cw_204, ck_204, rfl, by decide, by decide⟩, List.forall_mem_cons.mpr ⟨⟨List.mem_of_getElem? cw_205, ck_205, rfl, by decide, by decide⟩, List.forall_mem_cons.mpr ⟨⟨List.mem_of_getElem? cw_206, ck_206, rfl, by decide, by decide⟩, List.forall_mem_cons.mpr ⟨⟨List.mem_of_getElem? cw_207, ck_207, rfl, by decide, by decide⟩, List.forall_mem_cons.mpr ⟨⟨List.mem_of_getElem? cw_208, ck_208, rfl, by decide, by decide⟩, List.forall_mem_cons.mpr ⟨⟨List.mem_of_getElem? cw_209, ck_209, rfl, by decide, by decide⟩, List.forall_mem_cons.mpr ⟨⟨List.mem_of_getElem? cw_210, ck_210, rfl, by decide, by decide⟩, List.forall_mem_cons.mpr ⟨⟨List.mem_of_getElem? cw_211, ck_211, rfl, by decide, by decide⟩, fun _ h => absurd h List.not_mem_nil⟩⟩⟩⟩⟩⟩⟩⟩⟩⟩⟩⟩
set_option maxRecDepth 100000 in
theorem cw_400 : lw_tbl[440]? = some (Cond.code ⟨kN 2, "<init>", "(I)V"⟩ prog_5_method_1_code 2 (none)) := rfl
set_option maxRecDepth 100000 in
theorem ck_400 : cd_400.all (chkI 2 prog_5_method_1_code) = true := by decide +kernel
set_option maxRecDepth 100000 in
theorem cw_401 : lw_tbl[759]? = some (Cond.code ⟨kN 2, "packed", "(JI)J"⟩ prog_5_method_2_code 3 (some .long)) := rfl
set_option maxRecDepth 100000 in
theorem ck_401 : cd_401.all (chkI 2 prog_5_method_2_code) = true := by decide +kernel
set_option maxRecDepth 100000 in
theorem cw_402 : lw_tbl[734]? = some (Cond.code ⟨kN 2, "clear", "()V"⟩ prog_5_method_3_code 1 (none)) := rfl
set_option maxRecDepth 100000 in
theorem ck_402 : cd_402.all (chkI 2 prog_5_method_3_code) = true := by decide +kernel
set_option maxRecDepth 100000 in
theorem cw_403 : lw_tbl[594]? = some (Cond.code ⟨kN 2, "size", "()I"⟩ prog_5_method_4_code 1 (some .int)) := rfl
set_option maxRecDepth 100000 in
theorem ck_403 : cd_403.all (chkI 2 prog_5_method_4_code) = true := by decide +kernel
set_option maxRecDepth 100000 in
theorem cw_404 : lw_tbl[606]? = some (Cond.code ⟨kN 2, "at", "(I)J"⟩ prog_5_method_5_code 2 (some .long)) := rfl
set_option maxRecDepth 100000 in
theorem ck_404 : cd_404.all (chkI 2 prog_5_method_5_code) = true := by decide +kernel
set_option maxRecDepth 100000 in
theorem cw_405 : lw_tbl[918]? = some (Cond.code ⟨kN 2, "add", "(J)V"⟩ prog_5_method_6_code 3 (none)) := rfl
set_option maxRecDepth 100000 in
theorem ck_405 : cd_405.all (chkI 2 prog_5_method_6_code) = true := by decide +kernel
set_option maxRecDepth 100000 in
theorem cw_406 : lw_tbl[867]? = some (Cond.code ⟨kN 2, "find", "(J)I"⟩ prog_5_method_7_code 4 (some .int)) := rfl
set_option maxRecDepth 100000 in
theorem ck_406 : cd_406.all (chkI 2 prog_5_method_7_code) = true := by decide +kernel
set_option maxRecDepth 100000 in
theorem cw_407 : lw_tbl[610]? = some (Cond.code ⟨kN 2, "letter", "(II)I"⟩ prog_5_method_8_code 3 (some .int)) := rfl
set_option maxRecDepth 100000 in
theorem ck_407 : cd_407.all (chkI 2 prog_5_method_8_code) = true := by decide +kernel
set_option maxRecDepth 100000 in
theorem cw_408 : lw_tbl[602]? = some (Cond.code ⟨kN 2, "letters", "(I)I"⟩ prog_5_method_9_code 5 (some .int)) := rfl
set_option maxRecDepth 100000 in
theorem ck_408 : cd_408.all (chkI 2 prog_5_method_9_code) = true := by decide +kernel
set_option maxRecDepth 100000 in
theorem cw_409 : lw_tbl[1121]? = some (Cond.code ⟨kN 2, "holds", "(II)Z"⟩ prog_5_method_10_code 6 (some .boolean)) := rfl
set_option maxRecDepth 100000 in
theorem ck_409 : cd_409.all (chkI 2 prog_5_method_10_code) = true := by decide +kernel
set_option maxRecDepth 100000 in
theorem cw_410 : lw_tbl[618]? = some (Cond.code ⟨kN 2, "start", "(II)I"⟩ prog_5_method_11_code 8 (some .int)) := rfl
set_option maxRecDepth 100000 in
theorem ck_410 : cd_410.all (chkI 2 prog_5_method_11_code) = true := by decide +kernel
set_option maxRecDepth 100000 in
theorem cw_411 : lw_tbl[622]? = some (Cond.code ⟨kN 2, "rhyme", "(II)I"⟩ prog_5_method_12_code 6 (some .int)) := rfl
set_option maxRecDepth 100000 in
theorem ck_411 : cd_411.all (chkI 2 prog_5_method_12_code) = true := by decide +kernel
set_option maxRecDepth 100000 in
theorem cw_412 : lw_tbl[598]? = some (Cond.code ⟨kN 2, "edits", "(II)I"⟩ prog_5_method_13_code 12 (some .int)) := rfl
set_option maxRecDepth 100000 in
theorem ck_412 : cd_412.all (chkI 2 prog_5_method_13_code) = true := by decide +kernel
theorem ge_2 : ∀ e ∈ mX_2, GoodE e := List.forall_mem_cons.mpr ⟨⟨List.mem_of_getElem? cw_400, ck_400, rfl, by decide, by decide⟩, List.forall_mem_cons.mpr ⟨⟨List.mem_of_getElem? cw_401, ck_401, rfl, by decide, by decide⟩, List.forall_mem_cons.mpr ⟨⟨List.mem_of_getElem? cw_402, ck_402, rfl, by decide, by decide⟩, List.forall_mem_cons.mpr ⟨⟨List.mem_of_getElem? cw_403, ck_403, rfl, by decide, by decide⟩, List.forall_mem_cons.mpr ⟨⟨List.mem_of_getElem? cw_404, ck_404, rfl, by decide, by decide⟩, List.forall_mem_cons.mpr ⟨⟨List.mem_of_getElem? cw_405, ck_405, rfl, by decide, by decide⟩, List.forall_mem_cons.mpr ⟨⟨List.mem_of_getElem? cw_406, ck_406, rfl, by decide, by decide⟩, List.forall_mem_cons.mpr ⟨⟨List.mem_of_getElem? cw_407, ck_407, rfl, by decide, by decide⟩, List.forall_mem_cons.mpr ⟨⟨List.mem_of_getElem? cw_408, ck_408, rfl, by decide, by decide⟩, List.forall_mem_cons.mpr ⟨⟨List.mem_of_getElem? cw_409, ck_409, rfl, by decide, by decide⟩, List.forall_mem_cons.mpr ⟨⟨List.mem_of_getElem? cw_410, ck_410, rfl, by decide, by decide⟩, List.forall_mem_cons.mpr ⟨⟨List.mem_of_getElem? cw_411, ck_411, rfl, by decide, by decide⟩, List.forall_mem_cons.mpr ⟨⟨List.mem_of_getElem? cw_412, ck_412, rfl, by decide, by decide⟩, fun _ h => absurd h List.not_mem_nil⟩⟩⟩⟩⟩⟩⟩⟩⟩⟩⟩⟩⟩
set_option maxRecDepth 100000 in
theorem cw_600 : lw_tbl[234]? = some (Cond.code ⟨kN 3, "<init>", "()V"⟩ prog_6_method_1_code 1 (none)) := rfl
set_option maxRecDepth 100000 in
theorem ck_600 : cd_600.all (chkI 3 prog_6_method_1_code) = true := by decide +kernel
set_option maxRecDepth 100000 in
theorem cw_601 : lw_tbl[726]? = some (Cond.code ⟨kN 3, "readOrchard", "(LNameOrchard$Told;)I"⟩ prog_6_method_2_code 3 (some .int)) := rfl
set_option maxRecDepth 100000 in
theorem ck_601 : cd_601.all (chkI 3 prog_6_method_2_code) = true := by decide +kernel
set_option maxRecDepth 100000 in
theorem cw_602 : lw_tbl[1039]? = some (Cond.code ⟨kN 3, "readDays", "(LNameOrchard$Told;)I"⟩ prog_6_method_3_code 3 (some .int)) := rfl
set_option maxRecDepth 100000 in
theorem ck_602 : cd_602.all (chkI 3 prog_6_method_3_code) = true := by decide +kernel
set_option maxRecDepth 100000 in
theorem cw_603 : lw_tbl[830]? = some (Cond.code ⟨kN 3, "goesOn", "()Z"⟩ prog_6_method_4_code 1 (some .boolean)) := rfl
set_option maxRecDepth 100000 in
theorem ck_603 : cd_603.all (chkI 3 prog_6_method_4_code) = true := by decide +kernel
set_option maxRecDepth 100000 in
theorem cw_604 : lw_tbl[892]? = some (Cond.code ⟨kN 3, "take", "(LNameOrchard$Token;)V"⟩ prog_6_method_5_code 2 (none)) := rfl
set_option maxRecDepth 100000 in
theorem ck_604 : cd_604.all (chkI 3 prog_6_method_5_code) = true := by decide +kernel
set_option maxRecDepth 100000 in
theorem cw_605 : lw_tbl[896]? = some (Cond.code ⟨kN 3, "number", "(I)I"⟩ prog_6_method_6_code 3 (some .int)) := rfl
set_option maxRecDepth 100000 in
theorem ck_605 : cd_605.all (chkI 3 prog_6_method_6_code) = true := by decide +kernel
set_option maxRecDepth 100000 in
theorem cw_606 : lw_tbl[845]? = some (Cond.code ⟨kN 3, "open", "(Z)V"⟩ prog_6_method_7_code 2 (none)) := rfl
set_option maxRecDepth 100000 in
theorem ck_606 : cd_606.all (chkI 3 prog_6_method_7_code) = true := by decide +kernel
set_option maxRecDepth 100000 in
theorem cw_607 : lw_tbl[978]? = some (Cond.code ⟨kN 3, "openLaw", "(Z)V"⟩ prog_6_method_8_code 2 (none)) := rfl
set_option maxRecDepth 100000 in
theorem ck_607 : cd_607.all (chkI 3 prog_6_method_8_code) = true := by decide +kernel
set_option maxRecDepth 100000 in
theorem cw_608 : lw_tbl[858]? = some (Cond.code ⟨kN 3, "isName", "()Z"⟩ prog_6_method_9_code 1 (some .boolean)) := rfl
set_option maxRecDepth 100000 in
theorem ck_608 : cd_608.all (chkI 3 prog_6_method_9_code) = true := by decide +kernel
set_option maxRecDepth 100000 in
theorem cw_609 : lw_tbl[854]? = some (Cond.code ⟨kN 3, "newName", "(LNameOrchard$Told;)J"⟩ prog_6_method_10_code 4 (some .long)) := rfl
set_option maxRecDepth 100000 in
theorem ck_609 : cd_609.all (chkI 3 prog_6_method_10_code) = true := by decide +kernel
set_option maxRecDepth 100000 in
theorem cw_610 : lw_tbl[953]? = some (Cond.code ⟨kN 3, "soundHere", "(LNameOrchard$Told;)I"⟩ prog_6_method_11_code 3 (some .int)) := rfl
set_option maxRecDepth 100000 in
theorem ck_610 : cd_610.all (chkI 3 prog_6_method_11_code) = true := by decide +kernel
set_option maxRecDepth 100000 in
theorem cw_611 : lw_tbl[930]? = some (Cond.code ⟨kN 3, "appleHere", "(LNameOrchard$Told;)I"⟩ prog_6_method_12_code 3 (some .int)) := rfl
set_option maxRecDepth 100000 in
theorem ck_611 : cd_611.all (chkI 3 prog_6_method_12_code) = true := by decide +kernel
set_option maxRecDepth 100000 in
theorem cw_612 : lw_tbl[1054]? = some (Cond.code ⟨kN 3, "personHere", "(LNameOrchard$Told;)I"⟩ prog_6_method_13_code 3 (some .int)) := rfl
set_option maxRecDepth 100000 in
theorem ck_612 : cd_612.all (chkI 3 prog_6_method_13_code) = true := by decide +kernel
set_option maxRecDepth 100000 in
theorem cw_613 : lw_tbl[837]? = some (Cond.code ⟨kN 3, "readApple", "(LNameOrchard$Told;)V"⟩ prog_6_method_14_code 10 (none)) := rfl
set_option maxRecDepth 100000 in
theorem ck_613 : cd_613.all (chkI 3 prog_6_method_14_code) = true := by decide +kernel
set_option maxRecDepth 100000 in
theorem cw_614 : lw_tbl[871]? = some (Cond.code ⟨kN 3, "sortHere", "()I"⟩ prog_6_method_15_code 2 (some .int)) := rfl
set_option maxRecDepth 100000 in
theorem ck_614 : cd_614.all (chkI 3 prog_6_method_15_code) = true := by decide +kernel
set_option maxRecDepth 100000 in
theorem cw_615 : lw_tbl[922]? = some (Cond.code ⟨kN 3, "readTwin", "(LNameOrchard$Told;)V"⟩ prog_6_method_16_code 4 (none)) := rfl
set_option maxRecDepth 100000 in
theorem ck_615 : cd_615.all (chkI 3 prog_6_method_16_code) = true := by decide +kernel
set_option maxRecDepth 100000 in
theorem cw_616 : lw_tbl[926]? = some (Cond.code ⟨kN 3, "untwinned", "(LNameOrchard$Told;I)I"⟩ prog_6_method_17_code 4 (some .int)) := rfl
set_option maxRecDepth 100000 in
theorem ck_616 : cd_616.all (chkI 3 prog_6_method_17_code) = true := by decide +kernel
set_option maxRecDepth 100000 in
theorem cw_617 : lw_tbl[939]? = some (Cond.code ⟨kN 3, "readOther", "(LNameOrchard$Told;)V"⟩ prog_6_method_18_code 4 (none)) := rfl
set_option maxRecDepth 100000 in
theorem ck_617 : cd_617.all (chkI 3 prog_6_method_18_code) = true := by decide +kernel
set_option maxRecDepth 100000 in
theorem cw_618 : lw_tbl[944]? = some (Cond.code ⟨kN 3, "readPerson", "(LNameOrchard$Told;)V"⟩ prog_6_method_19_code 8 (none)) := rfl
set_option maxRecDepth 100000 in
theorem ck_618 : cd_618.all (chkI 3 prog_6_method_19_code) = true := by decide +kernel
set_option maxRecDepth 100000 in
theorem cw_619 : lw_tbl[958]? = some (Cond.code ⟨kN 3, "readStranger", "(LNameOrchard$Told;)V"⟩ prog_6_method_20_code 5 (none)) := rfl
set_option maxRecDepth 100000 in
theorem ck_619 : cd_619.all (chkI 3 prog_6_method_20_code) = true := by decide +kernel
set_option maxRecDepth 100000 in
theorem cw_620 : lw_tbl[962]? = some (Cond.code ⟨kN 3, "readPage", "(LNameOrchard$Told;)V"⟩ prog_6_method_21_code 6 (none)) := rfl
set_option maxRecDepth 100000 in
theorem ck_620 : cd_620.all (chkI 3 prog_6_method_21_code) = true := by decide +kernel
set_option maxRecDepth 100000 in
theorem cw_621 : lw_tbl[970]? = some (Cond.code ⟨kN 3, "readBann", "(LNameOrchard$Told;)V"⟩ prog_6_method_22_code 5 (none)) := rfl
set_option maxRecDepth 100000 in
theorem ck_621 : cd_621.all (chkI 3 prog_6_method_22_code) = true := by decide +kernel
set_option maxRecDepth 100000 in
theorem cw_622 : lw_tbl[974]? = some (Cond.code ⟨kN 3, "readNear", "(LNameOrchard$Told;)V"⟩ prog_6_method_23_code 2 (none)) := rfl
set_option maxRecDepth 100000 in
theorem ck_622 : cd_622.all (chkI 3 prog_6_method_23_code) = true := by decide +kernel
set_option maxRecDepth 100000 in
theorem cw_623 : lw_tbl[1026]? = some (Cond.code ⟨kN 3, "readValue", "(LNameOrchard$Told;)V"⟩ prog_6_method_24_code 2 (none)) := rfl
set_option maxRecDepth 100000 in
theorem ck_623 : cd_623.all (chkI 3 prog_6_method_24_code) = true := by decide +kernel
set_option maxRecDepth 100000 in
theorem cw_624 : lw_tbl[982]? = some (Cond.code ⟨kN 3, "readLaw", "(LNameOrchard$Formula;Z)V"⟩ prog_6_method_25_code 4 (none)) := rfl
set_option maxRecDepth 100000 in
theorem ck_624 : cd_624.all (chkI 3 prog_6_method_25_code) = true := by decide +kernel
set_option maxRecDepth 100000 in
theorem cw_625 : lw_tbl[1044]? = some (Cond.code ⟨kN 3, "readLine", "(LNameOrchard$Told;)V"⟩ prog_6_method_26_code 7 (none)) := rfl
set_option maxRecDepth 100000 in
theorem ck_625 : cd_625.all (chkI 3 prog_6_method_26_code) = true := by decide +kernel
theorem ge_3 : ∀ e ∈ mX_3, GoodE e := List.forall_mem_cons.mpr ⟨⟨List.mem_of_getElem? cw_600, ck_600, rfl, by decide, by decide⟩, List.forall_mem_cons.mpr ⟨⟨List.mem_of_getElem? cw_601, ck_601, rfl, by decide, by decide⟩, List.forall_mem_cons.mpr ⟨⟨List.mem_of_getElem? cw_602, ck_602, rfl, by decide, by decide⟩, List.forall_mem_cons.mpr ⟨⟨List.mem_of_getElem? cw_603, ck_603, rfl, by decide, by decide⟩, List.forall_mem_cons.mpr ⟨⟨List.mem_of_getElem? cw_604, ck_604, rfl, by decide, by decide⟩, List.forall_mem_cons.mpr ⟨⟨List.mem_of_getElem? cw_605, ck_605, rfl, by decide, by decide⟩, List.forall_mem_cons.mpr ⟨⟨List.mem_of_getElem? cw_606, ck_606, rfl, by decide, by decide⟩, List.forall_mem_cons.mpr ⟨⟨List.mem_of_getElem? cw_607, ck_607, rfl, by decide, by decide⟩, List.forall_mem_cons.mpr ⟨⟨List.mem_of_getElem? cw_608, ck_608, rfl, by decide, by decide⟩, List.forall_mem_cons.mpr ⟨⟨List.mem_of_getElem? cw_609, ck_609, rfl, by decide, by decide⟩, List.forall_mem_cons.mpr ⟨⟨List.mem_of_getElem? cw_610, ck_610, rfl, by decide, by decide⟩, List.forall_mem_cons.mpr ⟨⟨List.mem_of_getElem? cw_611, ck_611, rfl, by decide, by decide⟩, List.forall_mem_cons.mpr ⟨⟨List.mem_of_getElem? cw_612, ck_612, rfl, by decide, by decide⟩, List.forall_mem_cons.mpr ⟨⟨List.mem_of_getElem? cw_613, ck_613, rfl, by decide, by decide⟩, List.forall_mem_cons.mpr ⟨⟨List.mem_of_getElem? cw_614, ck_614, rfl, by decide, by decide⟩, List.forall_mem_cons.mpr ⟨⟨List.mem_of_getElem? cw_615, ck_615, rfl, by decide, by decide⟩, List.forall_mem_cons.mpr ⟨⟨List.mem_of_getElem? cw_616, ck_616, rfl, by decide, by decide⟩, List.forall_mem_cons.mpr ⟨⟨List.mem_of_getElem? cw_617, ck_617, rfl, by decide, by decide⟩, List.forall_mem_cons.mpr ⟨⟨List.mem_of_getElem? cw_618, ck_618, rfl, by decide, by decide⟩, List.forall_mem_cons.mpr ⟨⟨List.mem_of_getElem? cw_619, ck_619, rfl, by decide, by decide⟩, List.forall_mem_cons.mpr ⟨⟨List.mem_of_getElem? cw_620, ck_620, rfl, by decide, by decide⟩, List.forall_mem_cons.mpr ⟨⟨List.mem_of_getElem? cw_621, ck_621, rfl, by decide, by decide⟩, List.forall_mem_cons.mpr ⟨⟨List.mem_of_getElem? cw_622, ck_622, rfl, by decide, by decide⟩, List.forall_mem_cons.mpr ⟨⟨List.mem_of_getElem? cw_623, ck_623, rfl, by decide, by decide⟩, List.forall_mem_cons.mpr ⟨⟨List.mem_of_getElem? cw_624, ck_624, rfl, by decide, by decide⟩, List.forall_mem_cons.mpr ⟨⟨List.mem_of_getElem? cw_625, ck_625, rfl, by decide, by decide⟩, fun _ h => absurd h List.not_mem_nil⟩⟩⟩⟩⟩⟩⟩⟩⟩⟩⟩⟩⟩⟩⟩⟩⟩⟩⟩⟩⟩⟩⟩⟩⟩⟩
set_option maxRecDepth 100000 in
theorem cw_800 : lw_tbl[373]? = some (Cond.code ⟨kN 4, "<init>", "()V"⟩ prog_7_method_1_code 4 (none)) := rfl
set_option maxRecDepth 100000 in
theorem ck_800 : cd_800.all (chkI 4 prog_7_method_1_code) = true := by decide +kernel
set_option maxRecDepth 100000 in
theorem cw_801 : lw_tbl[1240]? = some (Cond.code ⟨kN 4, "gather", "(LNameOrchard$Told;LNameOrchard$Standing;)V"⟩ prog_7_method_2_code 8 (none)) := rfl
set_option maxRecDepth 100000 in
theorem ck_801 : cd_801.all (chkI 4 prog_7_method_2_code) = true := by decide +kernel
set_option maxRecDepth 100000 in
theorem cw_802 : lw_tbl[1251]? = some (Cond.code ⟨kN 4, "add", "(III)V"⟩ prog_7_method_3_code 5 (none)) := rfl
set_option maxRecDepth 100000 in
theorem ck_802 : cd_802.all (chkI 4 prog_7_method_3_code) = true := by decide +kernel
set_option maxRecDepth 100000 in
theorem cw_803 : lw_tbl[1236]? = some (Cond.code ⟨kN 4, "harvest", "(LNameOrchard$Told;LNameOrchard$Standing;I)V"⟩ prog_7_method_4_code 4 (none)) := rfl
set_option maxRecDepth 100000 in
theorem ck_803 : cd_803.all (chkI 4 prog_7_method_4_code) = true := by decide +kernel
set_option maxRecDepth 100000 in
theorem cw_804 : lw_tbl[1257]? = some (Cond.code ⟨kN 4, "appraise", "(LNameOrchard$Told;I)V"⟩ prog_7_method_5_code 9 (none)) := rfl
set_option maxRecDepth 100000 in
theorem ck_804 : cd_804.all (chkI 4 prog_7_method_5_code) = true := by decide +kernel
set_option maxRecDepth 100000 in
theorem cw_805 : lw_tbl[1266]? = some (Cond.code ⟨kN 4, "sum", "([III)I"⟩ prog_7_method_6_code 6 (some .int)) := rfl
set_option maxRecDepth 100000 in
theorem ck_805 : cd_805.all (chkI 4 prog_7_method_6_code) = true := by decide +kernel
set_option maxRecDepth 100000 in
theorem cw_806 : lw_tbl[1263]? = some (Cond.code ⟨kN 4, "explore", "(LNameOrchard$Told;IIIII)V"⟩ prog_7_method_7_code 12 (none)) := rfl
set_option maxRecDepth 100000 in
theorem ck_806 : cd_806.all (chkI 4 prog_7_method_7_code) = true := by decide +kernel
set_option maxRecDepth 100000 in
theorem cw_807 : lw_tbl[1275]? = some (Cond.code ⟨kN 4, "fewest", "(LNameOrchard$Told;LNameOrchard$Standing;)I"⟩ prog_7_method_8_code 6 (some .int)) := rfl
set_option maxRecDepth 100000 in
theorem ck_807 : cd_807.all (chkI 4 prog_7_method_8_code) = true := by decide +kernel
set_option maxRecDepth 100000 in
theorem cw_808 : lw_tbl[1286]? = some (Cond.code ⟨kN 4, "spread", "(LNameOrchard$Told;)Z"⟩ prog_7_method_9_code 6 (some .boolean)) := rfl
set_option maxRecDepth 100000 in
theorem ck_808 : cd_808.all (chkI 4 prog_7_method_9_code) = true := by decide +kernel
set_option maxRecDepth 100000 in
theorem cw_809 : lw_tbl[1290]? = some (Cond.code ⟨kN 4, "fellsAll", "(LNameOrchard$Told;I)Z"⟩ prog_7_method_10_code 7 (some .boolean)) := rfl
set_option maxRecDepth 100000 in
theorem ck_809 : cd_809.all (chkI 4 prog_7_method_10_code) = true := by decide +kernel
set_option maxRecDepth 100000 in
theorem cw_810 : lw_tbl[1282]? = some (Cond.code ⟨kN 4, "meet", "(II)V"⟩ prog_7_method_11_code 7 (none)) := rfl
set_option maxRecDepth 100000 in
theorem ck_810 : cd_810.all (chkI 4 prog_7_method_11_code) = true := by decide +kernel
set_option maxRecDepth 100000 in
theorem cw_811 : lw_tbl[1293]? = some (Cond.code ⟨kN 4, "digits", "(II)I"⟩ prog_7_method_12_code 5 (some .int)) := rfl
set_option maxRecDepth 100000 in
theorem ck_811 : cd_811.all (chkI 4 prog_7_method_12_code) = true := by decide +kernel
theorem ge_4 : ∀ e ∈ mX_4, GoodE e := List.forall_mem_cons.mpr ⟨⟨List.mem_of_getElem? cw_800, ck_800, rfl, by decide, by decide⟩, List.forall_mem_cons.mpr ⟨⟨List.mem_of_getElem? cw_801, ck_801, rfl, by decide, by decide⟩, List.forall_mem_cons.mpr ⟨⟨List.mem_of_getElem? cw_802, ck_802, rfl, by decide, by decide⟩, List.forall_mem_cons.mpr ⟨⟨List.mem_of_getElem? cw_803, ck_803, rfl, by decide, by decide⟩, List.forall_mem_cons.mpr ⟨⟨List.mem_of_getElem? cw_804, ck_804, rfl, by decide, by decide⟩, List.forall_mem_cons.mpr ⟨⟨List.mem_of_getElem? cw_805, ck_805, rfl, by decide, by decide⟩, List.forall_mem_cons.mpr ⟨⟨List.mem_of_getElem? cw_806, ck_806, rfl, by decide, by decide⟩, List.forall_mem_cons.mpr ⟨⟨List.mem_of_getElem? cw_807, ck_807, rfl, by decide, by decide⟩, List.forall_mem_cons.mpr ⟨⟨List.mem_of_getElem? cw_808, ck_808, rfl, by decide, by decide⟩, List.forall_mem_cons.mpr ⟨⟨List.mem_of_getElem? cw_809, ck_809, rfl, by decide, by decide⟩, List.forall_mem_cons.mpr ⟨⟨List.mem_of_getElem? cw_810, ck_810, rfl, by decide, by decide⟩, List.forall_mem_cons.mpr ⟨⟨List.mem_of_getElem? cw_811, ck_811, rfl, by decide, by decide⟩, fun _ h => absurd h List.not_mem_nil⟩⟩⟩⟩⟩⟩⟩⟩⟩⟩⟩⟩
set_option maxRecDepth 100000 in
theorem cw_1000 : lw_tbl[316]? = some (Cond.code ⟨kN 5, "<init>", "()V"⟩ prog_8_method_1_code 1 (none)) := rfl
set_option maxRecDepth 100000 in
theorem ck_1000 : cd_1000.all (chkI 5 prog_8_method_1_code) = true := by decide +kernel
set_option maxRecDepth 100000 in
theorem cw_1001 : lw_tbl[663]? = some (Cond.code ⟨kN 5, "begin", "(LNameOrchard$Told;)V"⟩ prog_8_method_2_code 3 (none)) := rfl
set_option maxRecDepth 100000 in
theorem ck_1001 : cd_1001.all (chkI 5 prog_8_method_2_code) = true := by decide +kernel
set_option maxRecDepth 100000 in
theorem cw_1002 : lw_tbl[1167]? = some (Cond.code ⟨kN 5, "copy", "(LNameOrchard$Standing;)V"⟩ prog_8_method_3_code 3 (none)) := rfl
set_option maxRecDepth 100000 in
theorem ck_1002 : cd_1002.all (chkI 5 prog_8_method_3_code) = true := by decide +kernel
set_option maxRecDepth 100000 in
theorem cw_1003 : lw_tbl[1071]? = some (Cond.code ⟨kN 5, "hangs", "(I)Z"⟩ prog_8_method_4_code 2 (some .boolean)) := rfl
set_option maxRecDepth 100000 in
theorem ck_1003 : cd_1003.all (chkI 5 prog_8_method_4_code) = true := by decide +kernel
set_option maxRecDepth 100000 in
theorem cw_1004 : lw_tbl[1079]? = some (Cond.code ⟨kN 5, "isLoose", "(I)Z"⟩ prog_8_method_5_code 2 (some .boolean)) := rfl
set_option maxRecDepth 100000 in
theorem ck_1004 : cd_1004.all (chkI 5 prog_8_method_5_code) = true := by decide +kernel
set_option maxRecDepth 100000 in
theorem cw_1005 : lw_tbl[1075]? = some (Cond.code ⟨kN 5, "soundOf", "(I)I"⟩ prog_8_method_6_code 2 (some .int)) := rfl
set_option maxRecDepth 100000 in
theorem ck_1005 : cd_1005.all (chkI 5 prog_8_method_6_code) = true := by decide +kernel
set_option maxRecDepth 100000 in
theorem cw_1006 : lw_tbl[1206]? = some (Cond.code ⟨kN 5, "name", "(II)V"⟩ prog_8_method_7_code 3 (none)) := rfl
set_option maxRecDepth 100000 in
theorem ck_1006 : cd_1006.all (chkI 5 prog_8_method_7_code) = true := by decide +kernel
set_option maxRecDepth 100000 in
theorem cw_1007 : lw_tbl[1202]? = some (Cond.code ⟨kN 5, "hasOther", "(II)Z"⟩ prog_8_method_8_code 4 (some .boolean)) := rfl
set_option maxRecDepth 100000 in
theorem ck_1007 : cd_1007.all (chkI 5 prog_8_method_8_code) = true := by decide +kernel
set_option maxRecDepth 100000 in
theorem cw_1008 : lw_tbl[1145]? = some (Cond.code ⟨kN 5, "isMeant", "(LNameOrchard$Told;II)Z"⟩ prog_8_method_9_code 5 (some .boolean)) := rfl
set_option maxRecDepth 100000 in
theorem ck_1008 : cd_1008.all (chkI 5 prog_8_method_9_code) = true := by decide +kernel
set_option maxRecDepth 100000 in
theorem cw_1009 : lw_tbl[1141]? = some (Cond.code ⟨kN 5, "meant", "(LNameOrchard$Told;I)I"⟩ prog_8_method_10_code 6 (some .int)) := rfl
set_option maxRecDepth 100000 in
theorem ck_1009 : cd_1009.all (chkI 5 prog_8_method_10_code) = true := by decide +kernel
set_option maxRecDepth 100000 in
theorem cw_1010 : lw_tbl[1137]? = some (Cond.code ⟨kN 5, "fallers", "(LNameOrchard$Told;III)I"⟩ prog_8_method_11_code 6 (some .int)) := rfl
set_option maxRecDepth 100000 in
theorem ck_1010 : cd_1010.all (chkI 5 prog_8_method_11_code) = true := by decide +kernel
set_option maxRecDepth 100000 in
theorem cw_1011 : lw_tbl[1171]? = some (Cond.code ⟨kN 5, "cry", "(LNameOrchard$Told;III)I"⟩ prog_8_method_12_code 8 (some .int)) := rfl
set_option maxRecDepth 100000 in
theorem ck_1011 : cd_1011.all (chkI 5 prog_8_method_12_code) = true := by decide +kernel
set_option maxRecDepth 100000 in
theorem cw_1012 : lw_tbl[1184]? = some (Cond.code ⟨kN 5, "canTake", "(I)Z"⟩ prog_8_method_13_code 2 (some .boolean)) := rfl
set_option maxRecDepth 100000 in
theorem ck_1012 : cd_1012.all (chkI 5 prog_8_method_13_code) = true := by decide +kernel
set_option maxRecDepth 100000 in
theorem cw_1013 : lw_tbl[1188]? = some (Cond.code ⟨kN 5, "take", "(LNameOrchard$Told;I)I"⟩ prog_8_method_14_code 4 (some .int)) := rfl
set_option maxRecDepth 100000 in
theorem ck_1013 : cd_1013.all (chkI 5 prog_8_method_14_code) = true := by decide +kernel
set_option maxRecDepth 100000 in
theorem cw_1014 : lw_tbl[1214]? = some (Cond.code ⟨kN 5, "nextDay", "()V"⟩ prog_8_method_15_code 1 (none)) := rfl
set_option maxRecDepth 100000 in
theorem ck_1014 : cd_1014.all (chkI 5 prog_8_method_15_code) = true := by decide +kernel
theorem ge_5 : ∀ e ∈ mX_5, GoodE e := List.forall_mem_cons.mpr ⟨⟨List.mem_of_getElem? cw_1000, ck_1000, rfl, by decide, by decide⟩, List.forall_mem_cons.mpr ⟨⟨List.mem_of_getElem? cw_1001, ck_1001, rfl, by decide, by decide⟩, List.forall_mem_cons.mpr ⟨⟨List.mem_of_getElem? cw_1002, ck_1002, rfl, by decide, by decide⟩, List.forall_mem_cons.mpr ⟨⟨List.mem_of_getElem? cw_1003, ck_1003, rfl, by decide, by decide⟩, List.forall_mem_cons.mpr ⟨⟨List.mem_of_getElem? cw_1004, ck_1004, rfl, by decide, by decide⟩, List.forall_mem_cons.mpr ⟨⟨List.mem_of_getElem? cw_1005, ck_1005, rfl, by decide, by decide⟩, List.forall_mem_cons.mpr ⟨⟨List.mem_of_getElem? cw_1006, ck_1006, rfl, by decide, by decide⟩, List.forall_mem_cons.mpr ⟨⟨List.mem_of_getElem? cw_1007, ck_1007, rfl, by decide, by decide⟩, List.forall_mem_cons.mpr ⟨⟨List.mem_of_getElem? cw_1008, ck_1008, rfl, by decide, by decide⟩, List.forall_mem_cons.mpr ⟨⟨List.mem_of_getElem? cw_1009, ck_1009, rfl, by decide, by decide⟩, List.forall_mem_cons.mpr ⟨⟨List.mem_of_getElem? cw_1010, ck_1010, rfl, by decide, by decide⟩, List.forall_mem_cons.mpr ⟨⟨List.mem_of_getElem? cw_1011, ck_1011, rfl, by decide, by decide⟩, List.forall_mem_cons.mpr ⟨⟨List.mem_of_getElem? cw_1012, ck_1012, rfl, by decide, by decide⟩, List.forall_mem_cons.mpr ⟨⟨List.mem_of_getElem? cw_1013, ck_1013, rfl, by decide, by decide⟩, List.forall_mem_cons.mpr ⟨⟨List.mem_of_getElem? cw_1014, ck_1014, rfl, by decide, by decide⟩, fun _ h => absurd h List.not_mem_nil⟩⟩⟩⟩⟩⟩⟩⟩⟩⟩⟩⟩⟩⟩⟩
set_option maxRecDepth 100000 in
theorem cw_1200 : lw_tbl[310]? = some (Cond.code ⟨kN 6, "<init>", "()V"⟩ prog_9_method_1_code 1 (none)) := rfl
set_option maxRecDepth 100000 in
theorem ck_1200 : cd_1200.all (chkI 6 prog_9_method_1_code) = true := by decide +kernel
set_option maxRecDepth 100000 in
theorem cw_1201 : lw_tbl[659]? = some (Cond.code ⟨kN 6, "begin", "(LNameOrchard$Told;)V"⟩ prog_9_method_2_code 2 (none)) := rfl
set_option maxRecDepth 100000 in
theorem ck_1201 : cd_1201.all (chkI 6 prog_9_method_2_code) = true := by decide +kernel
set_option maxRecDepth 100000 in
theorem cw_1202 : lw_tbl[1428]? = some (Cond.code ⟨kN 6, "copy", "(LNameOrchard$State;)V"⟩ prog_9_method_3_code 2 (none)) := rfl
set_option maxRecDepth 100000 in
theorem ck_1202 : cd_1202.all (chkI 6 prog_9_method_3_code) = true := by decide +kernel
theorem ge_6 : ∀ e ∈ mX_6, GoodE e := List.forall_mem_cons.mpr ⟨⟨List.mem_of_getElem? cw_1200, ck_1200, rfl, by decide, by decide⟩, List.forall_mem_cons.mpr ⟨⟨List.mem_of_getElem? cw_1201, ck_1201, rfl, by decide, by decide⟩, List.forall_mem_cons.mpr ⟨⟨List.mem_of_getElem? cw_1202, ck_1202, rfl, by decide, by decide⟩, fun _ h => absurd h List.not_mem_nil⟩⟩⟩
set_option maxRecDepth 100000 in
theorem cw_1400 : lw_tbl[281]? = some (Cond.code ⟨kN 7, "<init>", "(II)V"⟩ prog_10_method_1_code 3 (none)) := rfl
set_option maxRecDepth 100000 in
theorem ck_1400 : cd_1400.all (chkI 7 prog_10_method_1_code) = true := by decide +kernel
set_option maxRecDepth 100000 in
theorem cw_1401 : lw_tbl[669]? = some (Cond.code ⟨kN 7, "clear", "()V"⟩ prog_10_method_2_code 1 (none)) := rfl
set_option maxRecDepth 100000 in
theorem ck_1401 : cd_1401.all (chkI 7 prog_10_method_2_code) = true := by decide +kernel
set_option maxRecDepth 100000 in
theorem cw_1402 : lw_tbl[647]? = some (Cond.code ⟨kN 7, "size", "()I"⟩ prog_10_method_3_code 1 (some .int)) := rfl
set_option maxRecDepth 100000 in
theorem ck_1402 : cd_1402.all (chkI 7 prog_10_method_3_code) = true := by decide +kernel
set_option maxRecDepth 100000 in
theorem cw_1403 : lw_tbl[841]? = some (Cond.code ⟨kN 7, "full", "()Z"⟩ prog_10_method_4_code 1 (some .boolean)) := rfl
set_option maxRecDepth 100000 in
theorem ck_1403 : cd_1403.all (chkI 7 prog_10_method_4_code) = true := by decide +kernel
set_option maxRecDepth 100000 in
theorem cw_1404 : lw_tbl[655]? = some (Cond.code ⟨kN 7, "holds", "(II)Z"⟩ prog_10_method_5_code 3 (some .boolean)) := rfl
set_option maxRecDepth 100000 in
theorem ck_1404 : cd_1404.all (chkI 7 prog_10_method_5_code) = true := by decide +kernel
set_option maxRecDepth 100000 in
theorem cw_1405 : lw_tbl[651]? = some (Cond.code ⟨kN 7, "at", "(II)I"⟩ prog_10_method_6_code 4 (some .int)) := rfl
set_option maxRecDepth 100000 in
theorem ck_1405 : cd_1405.all (chkI 7 prog_10_method_6_code) = true := by decide +kernel
set_option maxRecDepth 100000 in
theorem cw_1406 : lw_tbl[912]? = some (Cond.code ⟨kN 7, "put", "(III)V"⟩ prog_10_method_7_code 5 (none)) := rfl
set_option maxRecDepth 100000 in
theorem ck_1406 : cd_1406.all (chkI 7 prog_10_method_7_code) = true := by decide +kernel
set_option maxRecDepth 100000 in
theorem cw_1407 : lw_tbl[907]? = some (Cond.code ⟨kN 7, "add", "()I"⟩ prog_10_method_8_code 2 (some .int)) := rfl
set_option maxRecDepth 100000 in
theorem ck_1407 : cd_1407.all (chkI 7 prog_10_method_8_code) = true := by decide +kernel
set_option maxRecDepth 100000 in
theorem cw_1408 : lw_tbl[1058]? = some (Cond.code ⟨kN 7, "copy", "(LNameOrchard$Table;)V"⟩ prog_10_method_9_code 2 (none)) := rfl
set_option maxRecDepth 100000 in
theorem ck_1408 : cd_1408.all (chkI 7 prog_10_method_9_code) = true := by decide +kernel
theorem ge_7 : ∀ e ∈ mX_7, GoodE e := List.forall_mem_cons.mpr ⟨⟨List.mem_of_getElem? cw_1400, ck_1400, rfl, by decide, by decide⟩, List.forall_mem_cons.mpr ⟨⟨List.mem_of_getElem? cw_1401, ck_1401, rfl, by decide, by decide⟩, List.forall_mem_cons.mpr ⟨⟨List.mem_of_getElem? cw_1402, ck_1402, rfl, by decide, by decide⟩, List.forall_mem_cons.mpr ⟨⟨List.mem_of_getElem? cw_1403, ck_1403, rfl, by decide, by decide⟩, List.forall_mem_cons.mpr ⟨⟨List.mem_of_getElem? cw_1404, ck_1404, rfl, by decide, by decide⟩, List.forall_mem_cons.mpr ⟨⟨List.mem_of_getElem? cw_1405, ck_1405, rfl, by decide, by decide⟩, List.forall_mem_cons.mpr ⟨⟨List.mem_of_getElem? cw_1406, ck_1406, rfl, by decide, by decide⟩, List.forall_mem_cons.mpr ⟨⟨List.mem_of_getElem? cw_1407, ck_1407, rfl, by decide, by decide⟩, List.forall_mem_cons.mpr ⟨⟨List.mem_of_getElem? cw_1408, ck_1408, rfl, by decide, by decide⟩, fun _ h => absurd h List.not_mem_nil⟩⟩⟩⟩⟩⟩⟩⟩⟩
set_option maxRecDepth 100000 in
theorem cw_1600 : lw_tbl[240]? = some (Cond.code ⟨kN 8, "<init>", "()V"⟩ prog_11_method_1_code 1 (none)) := rfl
set_option maxRecDepth 100000 in
theorem ck_1600 : cd_1600.all (chkI 8 prog_11_method_1_code) = true := by decide +kernel
set_option maxRecDepth 100000 in
theorem cw_1601 : lw_tbl[717]? = some (Cond.code ⟨kN 8, "put", "(J)V"⟩ prog_11_method_2_code 6 (none)) := rfl
set_option maxRecDepth 100000 in
theorem ck_1601 : cd_1601.all (chkI 8 prog_11_method_2_code) = true := by decide +kernel
set_option maxRecDepth 100000 in
theorem cw_1602 : lw_tbl[739]? = some (Cond.code ⟨kN 8, "open", "()V"⟩ prog_11_method_3_code 1 (none)) := rfl
set_option maxRecDepth 100000 in
theorem ck_1602 : cd_1602.all (chkI 8 prog_11_method_3_code) = true := by decide +kernel
set_option maxRecDepth 100000 in
theorem cw_1603 : lw_tbl[849]? = some (Cond.code ⟨kN 8, "wrong", "(I)V"⟩ prog_11_method_4_code 2 (none)) := rfl
set_option maxRecDepth 100000 in
theorem ck_1603 : cd_1603.all (chkI 8 prog_11_method_4_code) = true := by decide +kernel
set_option maxRecDepth 100000 in
theorem cw_1604 : lw_tbl[1031]? = some (Cond.code ⟨kN 8, "clear", "()V"⟩ prog_11_method_5_code 1 (none)) := rfl
set_option maxRecDepth 100000 in
theorem ck_1604 : cd_1604.all (chkI 8 prog_11_method_5_code) = true := by decide +kernel
set_option maxRecDepth 100000 in
theorem cw_1605 : lw_tbl[743]? = some (Cond.code ⟨kN 8, "step", "()V"⟩ prog_11_method_6_code 1 (none)) := rfl
set_option maxRecDepth 100000 in
theorem ck_1605 : cd_1605.all (chkI 8 prog_11_method_6_code) = true := by decide +kernel
set_option maxRecDepth 100000 in
theorem cw_1606 : lw_tbl[754]? = some (Cond.code ⟨kN 8, "readWord", "()V"⟩ prog_11_method_7_code 2 (none)) := rfl
set_option maxRecDepth 100000 in
theorem ck_1606 : cd_1606.all (chkI 8 prog_11_method_7_code) = true := by decide +kernel
set_option maxRecDepth 100000 in
theorem cw_1607 : lw_tbl[773]? = some (Cond.code ⟨kN 8, "readNumber", "()V"⟩ prog_11_method_8_code 2 (none)) := rfl
set_option maxRecDepth 100000 in
theorem ck_1607 : cd_1607.all (chkI 8 prog_11_method_8_code) = true := by decide +kernel
set_option maxRecDepth 100000 in
theorem cw_1608 : lw_tbl[747]? = some (Cond.code ⟨kN 8, "signAt", "(I)I"⟩ prog_11_method_9_code 2 (some .int)) := rfl
set_option maxRecDepth 100000 in
theorem ck_1608 : cd_1608.all (chkI 8 prog_11_method_9_code) = true := by decide +kernel
set_option maxRecDepth 100000 in
theorem cw_1609 : lw_tbl[750]? = some (Cond.code ⟨kN 8, "isLetter", "(I)Z"⟩ prog_11_method_10_code 1 (some .boolean)) := rfl
set_option maxRecDepth 100000 in
theorem ck_1609 : cd_1609.all (chkI 8 prog_11_method_10_code) = true := by decide +kernel
set_option maxRecDepth 100000 in
theorem cw_1610 : lw_tbl[769]? = some (Cond.code ⟨kN 8, "isDigit", "(I)Z"⟩ prog_11_method_11_code 1 (some .boolean)) := rfl
set_option maxRecDepth 100000 in
theorem ck_1610 : cd_1610.all (chkI 8 prog_11_method_11_code) = true := by decide +kernel
theorem ge_8 : ∀ e ∈ mX_8, GoodE e := List.forall_mem_cons.mpr ⟨⟨List.mem_of_getElem? cw_1600, ck_1600, rfl, by decide, by decide⟩, List.forall_mem_cons.mpr ⟨⟨List.mem_of_getElem? cw_1601, ck_1601, rfl, by decide, by decide⟩, List.forall_mem_cons.mpr ⟨⟨List.mem_of_getElem? cw_1602, ck_1602, rfl, by decide, by decide⟩, List.forall_mem_cons.mpr ⟨⟨List.mem_of_getElem? cw_1603, ck_1603, rfl, by decide, by decide⟩, List.forall_mem_cons.mpr ⟨⟨List.mem_of_getElem? cw_1604, ck_1604, rfl, by decide, by decide⟩, List.forall_mem_cons.mpr ⟨⟨List.mem_of_getElem? cw_1605, ck_1605, rfl, by decide, by decide⟩, List.forall_mem_cons.mpr ⟨⟨List.mem_of_getElem? cw_1606, ck_1606, rfl, by decide, by decide⟩, List.forall_mem_cons.mpr ⟨⟨List.mem_of_getElem? cw_1607, ck_1607, rfl, by decide, by decide⟩, List.forall_mem_cons.mpr ⟨⟨List.mem_of_getElem? cw_1608, ck_1608, rfl, by decide, by decide⟩, List.forall_mem_cons.mpr ⟨⟨List.mem_of_getElem? cw_1609, ck_1609, rfl, by decide, by decide⟩, List.forall_mem_cons.mpr ⟨⟨List.mem_of_getElem? cw_1610, ck_1610, rfl, by decide, by decide⟩, fun _ h => absurd h List.not_mem_nil⟩⟩⟩⟩⟩⟩⟩⟩⟩⟩⟩
set_option maxRecDepth 100000 in
theorem cw_1800 : lw_tbl[777]? = some (Cond.code ⟨kN 9, "ofSign", "(I)LNameOrchard$Token;"⟩ prog_12_method_7_code 2 (some (.object "NameOrchard$Token"))) := rfl
set_option maxRecDepth 100000 in
theorem ck_1800 : cd_1800.all (chkI 9 prog_12_method_7_code) = true := by decide +kernel
set_option maxRecDepth 100000 in
theorem cw_1801 : lw_tbl[762]? = some (Cond.code ⟨kN 9, "ofLetters", "(J)LNameOrchard$Token;"⟩ prog_12_method_8_code 3 (some (.object "NameOrchard$Token"))) := rfl
set_option maxRecDepth 100000 in
theorem ck_1801 : cd_1801.all (chkI 9 prog_12_method_8_code) = true := by decide +kernel
set_option maxRecDepth 100000 in
theorem cw_1802 : lw_tbl[863]? = some (Cond.code ⟨kN 9, "isName", "()Z"⟩ prog_12_method_9_code 1 (some .boolean)) := rfl
set_option maxRecDepth 100000 in
theorem ck_1802 : cd_1802.all (chkI 9 prog_12_method_9_code) = true := by decide +kernel
set_option maxRecDepth 100000 in
theorem cw_1803 : lw_tbl[994]? = some (Cond.code ⟨kN 9, "isFactOf", "(Z)Z"⟩ prog_12_method_10_code 2 (some .boolean)) := rfl
set_option maxRecDepth 100000 in
theorem ck_1803 : cd_1803.all (chkI 9 prog_12_method_10_code) = true := by decide +kernel
set_option maxRecDepth 100000 in
theorem cw_1804 : lw_tbl[875]? = some (Cond.code ⟨kN 9, "isSort", "()Z"⟩ prog_12_method_11_code 1 (some .boolean)) := rfl
set_option maxRecDepth 100000 in
theorem ck_1804 : cd_1804.all (chkI 9 prog_12_method_11_code) = true := by decide +kernel
theorem ge_9 : ∀ e ∈ mX_9, GoodE e := List.forall_mem_cons.mpr ⟨⟨List.mem_of_getElem? cw_1800, ck_1800, rfl, by decide, by decide⟩, List.forall_mem_cons.mpr ⟨⟨List.mem_of_getElem? cw_1801, ck_1801, rfl, by decide, by decide⟩, List.forall_mem_cons.mpr ⟨⟨List.mem_of_getElem? cw_1802, ck_1802, rfl, by decide, by decide⟩, List.forall_mem_cons.mpr ⟨⟨List.mem_of_getElem? cw_1803, ck_1803, rfl, by decide, by decide⟩, List.forall_mem_cons.mpr ⟨⟨List.mem_of_getElem? cw_1804, ck_1804, rfl, by decide, by decide⟩, fun _ h => absurd h List.not_mem_nil⟩⟩⟩⟩⟩
set_option maxRecDepth 100000 in
theorem cw_2000 : lw_tbl[434]? = some (Cond.code ⟨kN 10, "<init>", "()V"⟩ prog_13_method_1_code 1 (none)) := rfl
set_option maxRecDepth 100000 in
theorem ck_2000 : cd_2000.all (chkI 10 prog_13_method_1_code) = true := by decide +kernel
set_option maxRecDepth 100000 in
theorem cw_2001 : lw_tbl[730]? = some (Cond.code ⟨kN 10, "clear", "()V"⟩ prog_13_method_2_code 1 (none)) := rfl
set_option maxRecDepth 100000 in
theorem ck_2001 : cd_2001.all (chkI 10 prog_13_method_2_code) = true := by decide +kernel
set_option maxRecDepth 100000 in
theorem cw_2002 : lw_tbl[562]? = some (Cond.code ⟨kN 10, "settle", "()V"⟩ prog_13_method_3_code 2 (none)) := rfl
set_option maxRecDepth 100000 in
theorem ck_2002 : cd_2002.all (chkI 10 prog_13_method_3_code) = true := by decide +kernel
set_option maxRecDepth 100000 in
theorem cw_2003 : lw_tbl[590]? = some (Cond.code ⟨kN 10, "nearOnes", "(I)I"⟩ prog_13_method_4_code 5 (some .int)) := rfl
set_option maxRecDepth 100000 in
theorem ck_2003 : cd_2003.all (chkI 10 prog_13_method_4_code) = true := by decide +kernel
set_option maxRecDepth 100000 in
theorem cw_2004 : lw_tbl[643]? = some (Cond.code ⟨kN 10, "having", "(II)I"⟩ prog_13_method_5_code 5 (some .int)) := rfl
set_option maxRecDepth 100000 in
theorem ck_2004 : cd_2004.all (chkI 10 prog_13_method_5_code) = true := by decide +kernel
set_option maxRecDepth 100000 in
theorem cw_2005 : lw_tbl[966]? = some (Cond.code ⟨kN 10, "hasApple", "(I)Z"⟩ prog_13_method_6_code 2 (some .boolean)) := rfl
set_option maxRecDepth 100000 in
theorem ck_2005 : cd_2005.all (chkI 10 prog_13_method_6_code) = true := by decide +kernel
set_option maxRecDepth 100000 in
theorem cw_2006 : lw_tbl[1096]? = some (Cond.code ⟨kN 10, "hasSound", "(I)Z"⟩ prog_13_method_7_code 2 (some .boolean)) := rfl
set_option maxRecDepth 100000 in
theorem ck_2006 : cd_2006.all (chkI 10 prog_13_method_7_code) = true := by decide +kernel
set_option maxRecDepth 100000 in
theorem cw_2007 : lw_tbl[1111]? = some (Cond.code ⟨kN 10, "hasPerson", "(I)Z"⟩ prog_13_method_8_code 2 (some .boolean)) := rfl
set_option maxRecDepth 100000 in
theorem ck_2007 : cd_2007.all (chkI 10 prog_13_method_8_code) = true := by decide +kernel
set_option maxRecDepth 100000 in
theorem cw_2008 : lw_tbl[1341]? = some (Cond.code ⟨kN 10, "isDeaf", "(I)Z"⟩ prog_13_method_9_code 2 (some .boolean)) := rfl
set_option maxRecDepth 100000 in
theorem ck_2008 : cd_2008.all (chkI 10 prog_13_method_9_code) = true := by decide +kernel
set_option maxRecDepth 100000 in
theorem cw_2009 : lw_tbl[1103]? = some (Cond.code ⟨kN 10, "nearTo", "(I)I"⟩ prog_13_method_10_code 2 (some .int)) := rfl
set_option maxRecDepth 100000 in
theorem ck_2009 : cd_2009.all (chkI 10 prog_13_method_10_code) = true := by decide +kernel
set_option maxRecDepth 100000 in
theorem cw_2010 : lw_tbl[1115]? = some (Cond.code ⟨kN 10, "canSay", "(II)Z"⟩ prog_13_method_11_code 3 (some .boolean)) := rfl
set_option maxRecDepth 100000 in
theorem ck_2010 : cd_2010.all (chkI 10 prog_13_method_11_code) = true := by decide +kernel
set_option maxRecDepth 100000 in
theorem cw_2011 : lw_tbl[1129]? = some (Cond.code ⟨kN 10, "laneOf", "(I)I"⟩ prog_13_method_12_code 2 (some .int)) := rfl
set_option maxRecDepth 100000 in
theorem ck_2011 : cd_2011.all (chkI 10 prog_13_method_12_code) = true := by decide +kernel
set_option maxRecDepth 100000 in
theorem cw_2012 : lw_tbl[1133]? = some (Cond.code ⟨kN 10, "loudOf", "(I)I"⟩ prog_13_method_13_code 2 (some .int)) := rfl
set_option maxRecDepth 100000 in
theorem ck_2012 : cd_2012.all (chkI 10 prog_13_method_13_code) = true := by decide +kernel
set_option maxRecDepth 100000 in
theorem cw_2013 : lw_tbl[934]? = some (Cond.code ⟨kN 10, "appleOfSound", "(I)I"⟩ prog_13_method_14_code 3 (some .int)) := rfl
set_option maxRecDepth 100000 in
theorem ck_2013 : cd_2013.all (chkI 10 prog_13_method_14_code) = true := by decide +kernel
set_option maxRecDepth 100000 in
theorem cw_2014 : lw_tbl[1084]? = some (Cond.code ⟨kN 10, "valueOf", "(II)I"⟩ prog_13_method_15_code 4 (some .int)) := rfl
set_option maxRecDepth 100000 in
theorem ck_2014 : cd_2014.all (chkI 10 prog_13_method_15_code) = true := by decide +kernel
set_option maxRecDepth 100000 in
theorem cw_2015 : lw_tbl[1175]? = some (Cond.code ⟨kN 10, "valuesOf", "(II)I"⟩ prog_13_method_16_code 5 (some .int)) := rfl
set_option maxRecDepth 100000 in
theorem ck_2015 : cd_2015.all (chkI 10 prog_13_method_16_code) = true := by decide +kernel
set_option maxRecDepth 100000 in
theorem cw_2016 : lw_tbl[1367]? = some (Cond.code ⟨kN 10, "worthOf", "(I)I"⟩ prog_13_method_17_code 4 (some .int)) := rfl
set_option maxRecDepth 100000 in
theorem ck_2016 : cd_2016.all (chkI 10 prog_13_method_17_code) = true := by decide +kernel
set_option maxRecDepth 100000 in
theorem cw_2017 : lw_tbl[1198]? = some (Cond.code ⟨kN 10, "unripe", "(I)I"⟩ prog_13_method_18_code 4 (some .int)) := rfl
set_option maxRecDepth 100000 in
theorem ck_2017 : cd_2017.all (chkI 10 prog_13_method_18_code) = true := by decide +kernel
set_option maxRecDepth 100000 in
theorem cw_2018 : lw_tbl[1151]? = some (Cond.code ⟨kN 10, "within", "(II)I"⟩ prog_13_method_19_code 5 (some .int)) := rfl
set_option maxRecDepth 100000 in
theorem ck_2018 : cd_2018.all (chkI 10 prog_13_method_19_code) = true := by decide +kernel
set_option maxRecDepth 100000 in
theorem cw_2019 : lw_tbl[1155]? = some (Cond.code ⟨kN 10, "felled", "(IIII)I"⟩ prog_13_method_20_code 9 (some .int)) := rfl
set_option maxRecDepth 100000 in
theorem ck_2019 : cd_2019.all (chkI 10 prog_13_method_20_code) = true := by decide +kernel
theorem ge_10 : ∀ e ∈ mX_10, GoodE e := List.forall_mem_cons.mpr ⟨⟨List.mem_of_getElem? cw_2000, ck_2000, rfl, by decide, by decide⟩, List.forall_mem_cons.mpr ⟨⟨List.mem_of_getElem? cw_2001, ck_2001, rfl, by decide, by decide⟩, List.forall_mem_cons.mpr ⟨⟨List.mem_of_getElem? cw_2002, ck_2002, rfl, by decide, by decide⟩, List.forall_mem_cons.mpr ⟨⟨List.mem_of_getElem? cw_2003, ck_2003, rfl, by decide, by decide⟩, List.forall_mem_cons.mpr ⟨⟨List.mem_of_getElem? cw_2004, ck_2004, rfl, by decide, by decide⟩, List.forall_mem_cons.mpr ⟨⟨List.mem_of_getElem? cw_2005, ck_2005, rfl, by decide, by decide⟩, List.forall_mem_cons.mpr ⟨⟨List.mem_of_getElem? cw_2006, ck_2006, rfl, by decide, by decide⟩, List.forall_mem_cons.mpr ⟨⟨List.mem_of_getElem? cw_2007, ck_2007, rfl, by decide, by decide⟩, List.forall_mem_cons.mpr ⟨⟨List.mem_of_getElem? cw_2008, ck_2008, rfl, by decide, by decide⟩, List.forall_mem_cons.mpr ⟨⟨List.mem_of_getElem? cw_2009, ck_2009, rfl, by decide, by decide⟩, List.forall_mem_cons.mpr ⟨⟨List.mem_of_getElem? cw_2010, ck_2010, rfl, by decide, by decide⟩, List.forall_mem_cons.mpr ⟨⟨List.mem_of_getElem? cw_2011, ck_2011, rfl, by decide, by decide⟩, List.forall_mem_cons.mpr ⟨⟨List.mem_of_getElem? cw_2012, ck_2012, rfl, by decide, by decide⟩, List.forall_mem_cons.mpr ⟨⟨List.mem_of_getElem? cw_2013, ck_2013, rfl, by decide, by decide⟩, List.forall_mem_cons.mpr ⟨⟨List.mem_of_getElem? cw_2014, ck_2014, rfl, by decide, by decide⟩, List.forall_mem_cons.mpr ⟨⟨List.mem_of_getElem? cw_2015, ck_2015, rfl, by decide, by decide⟩, List.forall_mem_cons.mpr ⟨⟨List.mem_of_getElem? cw_2016, ck_2016, rfl, by decide, by decide⟩, List.forall_mem_cons.mpr ⟨⟨List.mem_of_getElem? cw_2017, ck_2017, rfl, by decide, by decide⟩, List.forall_mem_cons.mpr ⟨⟨List.mem_of_getElem? cw_2018, ck_2018, rfl, by decide, by decide⟩, List.forall_mem_cons.mpr ⟨⟨List.mem_of_getElem? cw_2019, ck_2019, rfl, by decide, by decide⟩, fun _ h => absurd h List.not_mem_nil⟩⟩⟩⟩⟩⟩⟩⟩⟩⟩⟩⟩⟩⟩⟩⟩⟩⟩⟩⟩
set_option maxRecDepth 100000 in
theorem cw_2200 : lw_tbl[226]? = some (Cond.code ⟨kN 11, "<init>", "()V"⟩ prog_1_method_1_code 2 (none)) := rfl
set_option maxRecDepth 100000 in
theorem ck_2200 : cd_2200.all (chkI 11 prog_1_method_1_code) = true := by decide +kernel
set_option maxRecDepth 100000 in
theorem cw_2201 : lw_tbl[713]? = some (Cond.code ⟨kN 11, "feed", "(JJJ)I"⟩ prog_1_method_2_code 7 (some .int)) := rfl
set_option maxRecDepth 100000 in
theorem ck_2201 : cd_2201.all (chkI 11 prog_1_method_2_code) = true := by decide +kernel
set_option maxRecDepth 100000 in
theorem cw_2202 : lw_tbl[722]? = some (Cond.code ⟨kN 11, "orchard", "()I"⟩ prog_1_method_3_code 3 (some .int)) := rfl
set_option maxRecDepth 100000 in
theorem ck_2202 : cd_2202.all (chkI 11 prog_1_method_3_code) = true := by decide +kernel
set_option maxRecDepth 100000 in
theorem cw_2203 : lw_tbl[1035]? = some (Cond.code ⟨kN 11, "days", "()I"⟩ prog_1_method_4_code 2 (some .int)) := rfl
set_option maxRecDepth 100000 in
theorem ck_2203 : cd_2203.all (chkI 11 prog_1_method_4_code) = true := by decide +kernel
set_option maxRecDepth 100000 in
theorem cw_2204 : lw_tbl[1065]? = some (Cond.code ⟨kN 11, "apple", "(II)I"⟩ prog_1_method_5_code 3 (some .int)) := rfl
set_option maxRecDepth 100000 in
theorem ck_2204 : cd_2204.all (chkI 11 prog_1_method_5_code) = true := by decide +kernel
set_option maxRecDepth 100000 in
theorem cw_2205 : lw_tbl[1092]? = some (Cond.code ⟨kN 11, "near", "(III)I"⟩ prog_1_method_6_code 4 (some .int)) := rfl
set_option maxRecDepth 100000 in
theorem ck_2205 : cd_2205.all (chkI 11 prog_1_method_6_code) = true := by decide +kernel
set_option maxRecDepth 100000 in
theorem cw_2206 : lw_tbl[1107]? = some (Cond.code ⟨kN 11, "says", "(II)I"⟩ prog_1_method_7_code 3 (some .int)) := rfl
set_option maxRecDepth 100000 in
theorem ck_2206 : cd_2206.all (chkI 11 prog_1_method_7_code) = true := by decide +kernel
set_option maxRecDepth 100000 in
theorem cw_2207 : lw_tbl[1125]? = some (Cond.code ⟨kN 11, "falls", "(II)I"⟩ prog_1_method_8_code 3 (some .int)) := rfl
set_option maxRecDepth 100000 in
theorem ck_2207 : cd_2207.all (chkI 11 prog_1_method_8_code) = true := by decide +kernel
set_option maxRecDepth 100000 in
theorem cw_2208 : lw_tbl[1159]? = some (Cond.code ⟨kN 11, "call", "(II)I"⟩ prog_1_method_9_code 3 (some .int)) := rfl
set_option maxRecDepth 100000 in
theorem ck_2208 : cd_2208.all (chkI 11 prog_1_method_9_code) = true := by decide +kernel
set_option maxRecDepth 100000 in
theorem cw_2209 : lw_tbl[1180]? = some (Cond.code ⟨kN 11, "pick", "(I)I"⟩ prog_1_method_10_code 2 (some .int)) := rfl
set_option maxRecDepth 100000 in
theorem ck_2209 : cd_2209.all (chkI 11 prog_1_method_10_code) = true := by decide +kernel
set_option maxRecDepth 100000 in
theorem cw_2210 : lw_tbl[1194]? = some (Cond.code ⟨kN 11, "christen", "(II)Z"⟩ prog_1_method_11_code 4 (some .boolean)) := rfl
set_option maxRecDepth 100000 in
theorem ck_2210 : cd_2210.all (chkI 11 prog_1_method_11_code) = true := by decide +kernel
set_option maxRecDepth 100000 in
theorem cw_2211 : lw_tbl[1210]? = some (Cond.code ⟨kN 11, "pass", "(I)I"⟩ prog_1_method_12_code 3 (some .int)) := rfl
set_option maxRecDepth 100000 in
theorem ck_2211 : cd_2211.all (chkI 11 prog_1_method_12_code) = true := by decide +kernel
set_option maxRecDepth 100000 in
theorem cw_2212 : lw_tbl[1218]? = some (Cond.code ⟨kN 11, "undo", "()Z"⟩ prog_1_method_13_code 1 (some .boolean)) := rfl
set_option maxRecDepth 100000 in
theorem ck_2212 : cd_2212.all (chkI 11 prog_1_method_13_code) = true := by decide +kernel
set_option maxRecDepth 100000 in
theorem cw_2213 : lw_tbl[1222]? = some (Cond.code ⟨kN 11, "judged", "(I)I"⟩ prog_1_method_14_code 7 (some .int)) := rfl
set_option maxRecDepth 100000 in
theorem ck_2213 : cd_2213.all (chkI 11 prog_1_method_14_code) = true := by decide +kernel
set_option maxRecDepth 100000 in
theorem cw_2214 : lw_tbl[1232]? = some (Cond.code ⟨kN 11, "crop", "(II)I"⟩ prog_1_method_15_code 3 (some .int)) := rfl
set_option maxRecDepth 100000 in
theorem ck_2214 : cd_2214.all (chkI 11 prog_1_method_15_code) = true := by decide +kernel
set_option maxRecDepth 100000 in
theorem cw_2215 : lw_tbl[1271]? = some (Cond.code ⟨kN 11, "fetch", "()I"⟩ prog_1_method_16_code 1 (some .int)) := rfl
set_option maxRecDepth 100000 in
theorem ck_2215 : cd_2215.all (chkI 11 prog_1_method_16_code) = true := by decide +kernel
set_option maxRecDepth 100000 in
theorem cw_2216 : lw_tbl[1297]? = some (Cond.code ⟨kN 11, "lies", "(IZ)Z"⟩ prog_1_method_17_code 3 (some .boolean)) := rfl
set_option maxRecDepth 100000 in
theorem ck_2216 : cd_2216.all (chkI 11 prog_1_method_17_code) = true := by decide +kernel
set_option maxRecDepth 100000 in
theorem cw_2217 : lw_tbl[1301]? = some (Cond.code ⟨kN 11, "called", "(I)I"⟩ prog_1_method_18_code 7 (some .int)) := rfl
set_option maxRecDepth 100000 in
theorem ck_2217 : cd_2217.all (chkI 11 prog_1_method_18_code) = true := by decide +kernel
set_option maxRecDepth 100000 in
theorem cw_2218 : lw_tbl[1318]? = some (Cond.code ⟨kN 11, "tell", "(IIZ)Z"⟩ prog_1_method_19_code 5 (some .boolean)) := rfl
set_option maxRecDepth 100000 in
theorem ck_2218 : cd_2218.all (chkI 11 prog_1_method_19_code) = true := by decide +kernel
set_option maxRecDepth 100000 in
theorem cw_2219 : lw_tbl[1325]? = some (Cond.code ⟨kN 11, "laws", "(I)I"⟩ prog_1_method_20_code 7 (some .int)) := rfl
set_option maxRecDepth 100000 in
theorem ck_2219 : cd_2219.all (chkI 11 prog_1_method_20_code) = true := by decide +kernel
set_option maxRecDepth 100000 in
theorem cw_2220 : lw_tbl[1333]? = some (Cond.code ⟨kN 11, "loss", "(I)I"⟩ prog_1_method_21_code 4 (some .int)) := rfl
set_option maxRecDepth 100000 in
theorem ck_2220 : cd_2220.all (chkI 11 prog_1_method_21_code) = true := by decide +kernel
set_option maxRecDepth 100000 in
theorem cw_2221 : lw_tbl[1352]? = some (Cond.code ⟨kN 11, "best", "(II)I"⟩ prog_1_method_22_code 7 (some .int)) := rfl
set_option maxRecDepth 100000 in
theorem ck_2221 : cd_2221.all (chkI 11 prog_1_method_22_code) = true := by decide +kernel
set_option maxRecDepth 100000 in
theorem cw_2222 : lw_tbl[1442]? = some (Cond.code ⟨kN 11, "thief", "(III)I"⟩ prog_1_method_23_code 4 (some .int)) := rfl
set_option maxRecDepth 100000 in
theorem ck_2222 : cd_2222.all (chkI 11 prog_1_method_23_code) = true := by decide +kernel
set_option maxRecDepth 100000 in
theorem cw_2223 : lw_tbl[1356]? = some (Cond.code ⟨kN 11, "hide", "(II)I"⟩ prog_1_method_24_code 9 (some .int)) := rfl
set_option maxRecDepth 100000 in
theorem ck_2223 : cd_2223.all (chkI 11 prog_1_method_24_code) = true := by decide +kernel
set_option maxRecDepth 100000 in
theorem cw_2224 : lw_tbl[1372]? = some (Cond.code ⟨kN 11, "banns", "(III)I"⟩ prog_1_method_25_code 9 (some .int)) := rfl
set_option maxRecDepth 100000 in
theorem ck_2224 : cd_2224.all (chkI 11 prog_1_method_25_code) = true := by decide +kernel
set_option maxRecDepth 100000 in
theorem cw_2225 : lw_tbl[1386]? = some (Cond.code ⟨kN 11, "years", "(III)I"⟩ prog_1_method_26_code 8 (some .int)) := rfl
set_option maxRecDepth 100000 in
theorem ck_2225 : cd_2225.all (chkI 11 prog_1_method_26_code) = true := by decide +kernel
set_option maxRecDepth 100000 in
theorem cw_2226 : lw_tbl[1424]? = some (Cond.code ⟨kN 11, "mark", "(IZ)Z"⟩ prog_1_method_27_code 4 (some .boolean)) := rfl
set_option maxRecDepth 100000 in
theorem ck_2226 : cd_2226.all (chkI 11 prog_1_method_27_code) = true := by decide +kernel
set_option maxRecDepth 100000 in
theorem cw_2227 : lw_tbl[1434]? = some (Cond.code ⟨kN 11, "count", "(I)I"⟩ prog_1_method_28_code 2 (some .int)) := rfl
set_option maxRecDepth 100000 in
theorem ck_2227 : cd_2227.all (chkI 11 prog_1_method_28_code) = true := by decide +kernel
set_option maxRecDepth 100000 in
theorem cw_2228 : lw_tbl[1163]? = some (Cond.code ⟨kN 11, "keepForUndo", "()V"⟩ prog_1_method_29_code 3 (none)) := rfl
set_option maxRecDepth 100000 in
theorem ck_2228 : cd_2228.all (chkI 11 prog_1_method_29_code) = true := by decide +kernel
set_option maxRecDepth 100000 in
theorem cw_2229 : lw_tbl[1228]? = some (Cond.code ⟨kN 11, "live", "(I)I"⟩ prog_1_method_30_code 5 (some .int)) := rfl
set_option maxRecDepth 100000 in
theorem ck_2229 : cd_2229.all (chkI 11 prog_1_method_30_code) = true := by decide +kernel
set_option maxRecDepth 100000 in
theorem cw_2230 : lw_tbl[1309]? = some (Cond.code ⟨kN 11, "wasHeard", "(II)Z"⟩ prog_1_method_31_code 5 (some .boolean)) := rfl
set_option maxRecDepth 100000 in
theorem ck_2230 : cd_2230.all (chkI 11 prog_1_method_31_code) = true := by decide +kernel
set_option maxRecDepth 100000 in
theorem cw_2231 : lw_tbl[1313]? = some (Cond.code ⟨kN 11, "evenest", "(I)I"⟩ prog_1_method_32_code 7 (some .int)) := rfl
set_option maxRecDepth 100000 in
theorem ck_2231 : cd_2231.all (chkI 11 prog_1_method_32_code) = true := by decide +kernel
set_option maxRecDepth 100000 in
theorem cw_2232 : lw_tbl[1329]? = some (Cond.code ⟨kN 11, "fits", "(II)Z"⟩ prog_1_method_33_code 5 (some .boolean)) := rfl
set_option maxRecDepth 100000 in
theorem ck_2232 : cd_2232.all (chkI 11 prog_1_method_33_code) = true := by decide +kernel
set_option maxRecDepth 100000 in
theorem cw_2233 : lw_tbl[1337]? = some (Cond.code ⟨kN 11, "lossOf", "(LNameOrchard$Standing;II)I"⟩ prog_1_method_34_code 4 (some .int)) := rfl
set_option maxRecDepth 100000 in
theorem ck_2233 : cd_2233.all (chkI 11 prog_1_method_34_code) = true := by decide +kernel
set_option maxRecDepth 100000 in
theorem cw_2234 : lw_tbl[1347]? = some (Cond.code ⟨kN 11, "spared", "(LNameOrchard$Standing;II)I"⟩ prog_1_method_35_code 8 (some .int)) := rfl
set_option maxRecDepth 100000 in
theorem ck_2234 : cd_2234.all (chkI 11 prog_1_method_35_code) = true := by decide +kernel
set_option maxRecDepth 100000 in
theorem cw_2235 : lw_tbl[1359]? = some (Cond.code ⟨kN 11, "isVoice", "(II)Z"⟩ prog_1_method_36_code 2 (some .boolean)) := rfl
set_option maxRecDepth 100000 in
theorem ck_2235 : cd_2235.all (chkI 11 prog_1_method_36_code) = true := by decide +kernel
set_option maxRecDepth 100000 in
theorem cw_2236 : lw_tbl[1363]? = some (Cond.code ⟨kN 11, "stolen", "(III)I"⟩ prog_1_method_37_code 7 (some .int)) := rfl
set_option maxRecDepth 100000 in
theorem ck_2236 : cd_2236.all (chkI 11 prog_1_method_37_code) = true := by decide +kernel
set_option maxRecDepth 100000 in
theorem cw_2237 : lw_tbl[1378]? = some (Cond.code ⟨kN 11, "bannAt", "(III)I"⟩ prog_1_method_38_code 3 (some .int)) := rfl
set_option maxRecDepth 100000 in
theorem ck_2237 : cd_2237.all (chkI 11 prog_1_method_38_code) = true := by decide +kernel
set_option maxRecDepth 100000 in
theorem cw_2238 : lw_tbl[1375]? = some (Cond.code ⟨kN 11, "isOrder", "(II)Z"⟩ prog_1_method_39_code 4 (some .boolean)) := rfl
set_option maxRecDepth 100000 in
theorem ck_2238 : cd_2238.all (chkI 11 prog_1_method_39_code) = true := by decide +kernel
set_option maxRecDepth 100000 in
theorem cw_2239 : lw_tbl[1382]? = some (Cond.code ⟨kN 11, "lostByBanns", "(III)I"⟩ prog_1_method_40_code 7 (some .int)) := rfl
set_option maxRecDepth 100000 in
theorem ck_2239 : cd_2239.all (chkI 11 prog_1_method_40_code) = true := by decide +kernel
set_option maxRecDepth 100000 in
theorem cw_2240 : lw_tbl[1394]? = some (Cond.code ⟨kN 11, "drawStrangers", "()I"⟩ prog_1_method_41_code 4 (some .int)) := rfl
set_option maxRecDepth 100000 in
theorem ck_2240 : cd_2240.all (chkI 11 prog_1_method_41_code) = true := by decide +kernel
set_option maxRecDepth 100000 in
theorem cw_2241 : lw_tbl[1406]? = some (Cond.code ⟨kN 11, "drawPerson", "()I"⟩ prog_1_method_42_code 3 (some .int)) := rfl
set_option maxRecDepth 100000 in
theorem ck_2241 : cd_2241.all (chkI 11 prog_1_method_42_code) = true := by decide +kernel
set_option maxRecDepth 100000 in
theorem cw_2242 : lw_tbl[1416]? = some (Cond.code ⟨kN 11, "pickFirstRipe", "()V"⟩ prog_1_method_43_code 2 (none)) := rfl
set_option maxRecDepth 100000 in
theorem ck_2242 : cd_2242.all (chkI 11 prog_1_method_43_code) = true := by decide +kernel
theorem ge_11 : ∀ e ∈ mX_11, GoodE e := List.forall_mem_cons.mpr ⟨⟨List.mem_of_getElem? cw_2200, ck_2200, rfl, by decide, by decide⟩, List.forall_mem_cons.mpr ⟨⟨List.mem_of_getElem? cw_2201, ck_2201, rfl, by decide, by decide⟩, List.forall_mem_cons.mpr ⟨⟨List.mem_of_getElem? cw_2202, ck_2202, rfl, by decide, by decide⟩, List.forall_mem_cons.mpr ⟨⟨List.mem_of_getElem? cw_2203, ck_2203, rfl, by decide, by decide⟩, List.forall_mem_cons.mpr ⟨⟨List.mem_of_getElem? cw_2204, ck_2204, rfl, by decide, by decide⟩, List.forall_mem_cons.mpr ⟨⟨List.mem_of_getElem? cw_2205, ck_2205, rfl, by decide, by decide⟩, List.forall_mem_cons.mpr ⟨⟨List.mem_of_getElem? cw_2206, ck_2206, rfl, by decide, by decide⟩, List.forall_mem_cons.mpr ⟨⟨List.mem_of_getElem? cw_2207, ck_2207, rfl, by decide, by decide⟩, List.forall_mem_cons.mpr ⟨⟨List.mem_of_getElem? cw_2208, ck_2208, rfl, by decide, by decide⟩, List.forall_mem_cons.mpr ⟨⟨List.mem_of_getElem? cw_2209, ck_2209, rfl, by decide, by decide⟩, List.forall_mem_cons.mpr ⟨⟨List.mem_of_getElem? cw_2210, ck_2210, rfl, by decide, by decide⟩, List.forall_mem_cons.mpr ⟨⟨List.mem_of_getElem? cw_2211, ck_2211, rfl, by decide, by decide⟩, List.forall_mem_cons.mpr ⟨⟨List.mem_of_getElem? cw_2212, ck_2212, rfl, by decide, by decide⟩, List.forall_mem_cons.mpr ⟨⟨List.mem_of_getElem? cw_2213, ck_2213, rfl, by decide, by decide⟩, List.forall_mem_cons.mpr ⟨⟨List.mem_of_getElem? cw_2214, ck_2214, rfl, by decide, by decide⟩, List.forall_mem_cons.mpr ⟨⟨List.mem_of_getElem? cw_2215, ck_2215, rfl, by decide, by decide⟩, List.forall_mem_cons.mpr ⟨⟨List.mem_of_getElem? cw_2216, ck_2216, rfl, by decide, by decide⟩, List.forall_mem_cons.mpr ⟨⟨List.mem_of_getElem? cw_2217, ck_2217, rfl, by decide, by decide⟩, List.forall_mem_cons.mpr ⟨⟨List.mem_of_getElem? cw_2218, ck_2218, rfl, by decide, by decide⟩, List.forall_mem_cons.mpr ⟨⟨List.mem_of_getElem? cw_2219, ck_2219, rfl, by decide, by decide⟩, List.forall_mem_cons.mpr ⟨⟨List.mem_of_getElem? cw_2220, ck_2220, rfl, by decide, by decide⟩, List.forall_mem_cons.mpr ⟨⟨List.mem_of_getElem? cw_2221, ck_2221, rfl, by decide, by decide⟩, List.forall_mem_cons.mpr ⟨⟨List.mem_of_getElem? cw_2222, ck_2222, rfl, by decide, by decide⟩, List.forall_mem_cons.mpr ⟨⟨List.mem_of_getElem? cw_2223, ck_2223, rfl, by decide, by decide⟩, List.forall_mem_cons.mpr ⟨⟨List.mem_of_getElem? cw_2224, ck_2224, rfl, by decide, by decide⟩, List.forall_mem_cons.mpr ⟨⟨List.mem_of_getElem? cw_2225, ck_2225, rfl, by decide, by decide⟩, List.forall_mem_cons.mpr ⟨⟨List.mem_of_getElem? cw_2226, ck_2226, rfl, by decide, by decide⟩, List.forall_mem_cons.mpr ⟨⟨List.mem_of_getElem? cw_2227, ck_2227, rfl, by decide, by decide⟩, List.forall_mem_cons.mpr ⟨⟨List.mem_of_getElem? cw_2228, ck_2228, rfl, by decide, by decide⟩, List.forall_mem_cons.mpr ⟨⟨List.mem_of_getElem? cw_2229, ck_2229, rfl, by decide, by decide⟩, List.forall_mem_cons.mpr ⟨⟨List.mem_of_getElem? cw_2230, ck_2230, rfl, by decide, by decide⟩, List.forall_mem_cons.mpr ⟨⟨List.mem_of_getElem? cw_2231, ck_2231, rfl, by decide, by decide⟩, List.forall_mem_cons.mpr ⟨⟨List.mem_of_getElem? cw_2232, ck_2232, rfl, by decide, by decide⟩, List.forall_mem_cons.mpr ⟨⟨List.mem_of_getElem? cw_2233, ck_2233, rfl, by decide, by decide⟩, List.forall_mem_cons.mpr ⟨⟨List.mem_of_getElem? cw_2234, ck_2234, rfl, by decide, by decide⟩, List.forall_mem_cons.mpr ⟨⟨List.mem_of_getElem? cw_2235, ck_2235, rfl, by decide, by decide⟩, List.forall_mem_cons.mpr ⟨⟨List.mem_of_getElem? cw_2236, ck_2236, rfl, by decide, by decide⟩, List.forall_mem_cons.mpr ⟨⟨List.mem_of_getElem? cw_2237, ck_2237, rfl, by decide, by decide⟩, List.forall_mem_cons.mpr ⟨⟨List.mem_of_getElem? cw_2238, ck_2238, rfl, by decide, by decide⟩, List.forall_mem_cons.mpr ⟨⟨List.mem_of_getElem? cw_2239, ck_2239, rfl, by decide, by decide⟩, List.forall_mem_cons.mpr ⟨⟨List.mem_of_getElem? cw_2240, ck_2240, rfl, by decide, by decide⟩, List.forall_mem_cons.mpr ⟨⟨List.mem_of_getElem? cw_2241, ck_2241, rfl, by decide, by decide⟩, List.forall_mem_cons.mpr ⟨⟨List.mem_of_getElem? cw_2242, ck_2242, rfl, by decide, by decide⟩, fun _ h => absurd h List.not_mem_nil⟩⟩⟩⟩⟩⟩⟩⟩⟩⟩⟩⟩⟩⟩⟩⟩⟩⟩⟩⟩⟩⟩⟩⟩⟩⟩⟩⟩⟩⟩⟩⟩⟩⟩⟩⟩⟩⟩⟩⟩⟩⟩⟩
set_option maxRecDepth 100000 in
theorem cw_2400 : lw_tbl[1513]? = some (Cond.code ⟨kN 12, "<init>", "()V"⟩ prog_15_method_1_code 1 (none)) := rfl
set_option maxRecDepth 100000 in
theorem ck_2400 : cd_2400.all (chkI 12 prog_15_method_1_code) = true := by decide +kernel
set_option maxRecDepth 100000 in
theorem cw_2401 : lw_tbl[1783]? = some (Cond.code ⟨kN 12, "thrown", "()I"⟩ prog_15_method_2_code 1 (some .int)) := rfl
set_option maxRecDepth 100000 in
theorem ck_2401 : cd_2401.all (chkI 12 prog_15_method_2_code) = true := by decide +kernel
set_option maxRecDepth 100000 in
theorem cw_2402 : lw_tbl[1877]? = some (Cond.code ⟨kN 12, "within", "(III)Z"⟩ prog_15_method_3_code 3 (some .boolean)) := rfl
set_option maxRecDepth 100000 in
theorem ck_2402 : cd_2402.all (chkI 12 prog_15_method_3_code) = true := by decide +kernel
set_option maxRecDepth 100000 in
theorem cw_2403 : lw_tbl[2016]? = some (Cond.code ⟨kN 12, "between", "(III)I"⟩ prog_15_method_4_code 3 (some .int)) := rfl
set_option maxRecDepth 100000 in
theorem ck_2403 : cd_2403.all (chkI 12 prog_15_method_4_code) = true := by decide +kernel
set_option maxRecDepth 100000 in
theorem cw_2404 : lw_tbl[2051]? = some (Cond.code ⟨kN 12, "away", "(II)I"⟩ prog_15_method_5_code 2 (some .int)) := rfl
set_option maxRecDepth 100000 in
theorem ck_2404 : cd_2404.all (chkI 12 prog_15_method_5_code) = true := by decide +kernel
set_option maxRecDepth 100000 in
theorem cw_2405 : lw_tbl[2231]? = some (Cond.code ⟨kN 12, "bits", "(I)I"⟩ prog_15_method_6_code 3 (some .int)) := rfl
set_option maxRecDepth 100000 in
theorem ck_2405 : cd_2405.all (chkI 12 prog_15_method_6_code) = true := by decide +kernel
set_option maxRecDepth 100000 in
theorem cw_2406 : lw_tbl[1787]? = some (Cond.code ⟨kN 12, "feed", "(JJJ)I"⟩ prog_15_method_7_code 11 (some .int)) := rfl
set_option maxRecDepth 100000 in
theorem ck_2406 : cd_2406.all (chkI 12 prog_15_method_7_code) = true := by decide +kernel
set_option maxRecDepth 100000 in
theorem cw_2407 : lw_tbl[1808]? = some (Cond.code ⟨kN 12, "signAt", "(I)I"⟩ prog_15_method_8_code 2 (some .int)) := rfl
set_option maxRecDepth 100000 in
theorem ck_2407 : cd_2407.all (chkI 12 prog_15_method_8_code) = true := by decide +kernel
set_option maxRecDepth 100000 in
theorem cw_2408 : lw_tbl[1804]? = some (Cond.code ⟨kN 12, "nextToken", "()V"⟩ prog_15_method_9_code 2 (none)) := rfl
set_option maxRecDepth 100000 in
theorem ck_2408 : cd_2408.all (chkI 12 prog_15_method_9_code) = true := by decide +kernel
set_option maxRecDepth 100000 in
theorem cw_2409 : lw_tbl[1815]? = some (Cond.code ⟨kN 12, "isWord", "(J)Z"⟩ prog_15_method_10_code 3 (some .boolean)) := rfl
set_option maxRecDepth 100000 in
theorem ck_2409 : cd_2409.all (chkI 12 prog_15_method_10_code) = true := by decide +kernel
set_option maxRecDepth 100000 in
theorem cw_2410 : lw_tbl[1889]? = some (Cond.code ⟨kN 12, "isSign", "(I)Z"⟩ prog_15_method_11_code 2 (some .boolean)) := rfl
set_option maxRecDepth 100000 in
theorem ck_2410 : cd_2410.all (chkI 12 prog_15_method_11_code) = true := by decide +kernel
set_option maxRecDepth 100000 in
theorem cw_2411 : lw_tbl[1823]? = some (Cond.code ⟨kN 12, "fails", "(I)Z"⟩ prog_15_method_12_code 2 (some .boolean)) := rfl
set_option maxRecDepth 100000 in
theorem ck_2411 : cd_2411.all (chkI 12 prog_15_method_12_code) = true := by decide +kernel
set_option maxRecDepth 100000 in
theorem cw_2412 : lw_tbl[1951]? = some (Cond.code ⟨kN 12, "puts", "(I)V"⟩ prog_15_method_13_code 2 (none)) := rfl
set_option maxRecDepth 100000 in
theorem ck_2412 : cd_2412.all (chkI 12 prog_15_method_13_code) = true := by decide +kernel
set_option maxRecDepth 100000 in
theorem cw_2413 : lw_tbl[1941]? = some (Cond.code ⟨kN 12, "fact", "()I"⟩ prog_15_method_14_code 1 (some .int)) := rfl
set_option maxRecDepth 100000 in
theorem ck_2413 : cd_2413.all (chkI 12 prog_15_method_14_code) = true := by decide +kernel
set_option maxRecDepth 100000 in
theorem cw_2414 : lw_tbl[1937]? = some (Cond.code ⟨kN 12, "reads", "()Z"⟩ prog_15_method_15_code 6 (some .boolean)) := rfl
set_option maxRecDepth 100000 in
theorem ck_2414 : cd_2414.all (chkI 12 prog_15_method_15_code) = true := by decide +kernel
set_option maxRecDepth 100000 in
theorem cw_2415 : lw_tbl[1977]? = some (Cond.code ⟨kN 12, "opens", "(I)V"⟩ prog_15_method_16_code 2 (none)) := rfl
set_option maxRecDepth 100000 in
theorem ck_2415 : cd_2415.all (chkI 12 prog_15_method_16_code) = true := by decide +kernel
set_option maxRecDepth 100000 in
theorem cw_2416 : lw_tbl[1981]? = some (Cond.code ⟨kN 12, "sums", "(I)V"⟩ prog_15_method_17_code 2 (none)) := rfl
set_option maxRecDepth 100000 in
theorem ck_2416 : cd_2416.all (chkI 12 prog_15_method_17_code) = true := by decide +kernel
set_option maxRecDepth 100000 in
theorem cw_2417 : lw_tbl[1985]? = some (Cond.code ⟨kN 12, "tests", "(I)V"⟩ prog_15_method_18_code 3 (none)) := rfl
set_option maxRecDepth 100000 in
theorem ck_2417 : cd_2417.all (chkI 12 prog_15_method_18_code) = true := by decide +kernel
set_option maxRecDepth 100000 in
theorem cw_2418 : lw_tbl[1973]? = some (Cond.code ⟨kN 12, "worked", "(I)I"⟩ prog_15_method_19_code 6 (some .int)) := rfl
set_option maxRecDepth 100000 in
theorem ck_2418 : cd_2418.all (chkI 12 prog_15_method_19_code) = true := by decide +kernel
set_option maxRecDepth 100000 in
theorem cw_2419 : lw_tbl[1831]? = some (Cond.code ⟨kN 12, "isKept", "()Z"⟩ prog_15_method_20_code 1 (some .boolean)) := rfl
set_option maxRecDepth 100000 in
theorem ck_2419 : cd_2419.all (chkI 12 prog_15_method_20_code) = true := by decide +kernel
set_option maxRecDepth 100000 in
theorem cw_2420 : lw_tbl[1858]? = some (Cond.code ⟨kN 12, "soundNamed", "(I)I"⟩ prog_15_method_21_code 3 (some .int)) := rfl
set_option maxRecDepth 100000 in
theorem ck_2420 : cd_2420.all (chkI 12 prog_15_method_21_code) = true := by decide +kernel
set_option maxRecDepth 100000 in
theorem cw_2421 : lw_tbl[1862]? = some (Cond.code ⟨kN 12, "personNamed", "(I)I"⟩ prog_15_method_22_code 3 (some .int)) := rfl
set_option maxRecDepth 100000 in
theorem ck_2421 : cd_2421.all (chkI 12 prog_15_method_22_code) = true := by decide +kernel
set_option maxRecDepth 100000 in
theorem cw_2422 : lw_tbl[1901]? = some (Cond.code ⟨kN 12, "appleNamed", "(I)I"⟩ prog_15_method_23_code 4 (some .int)) := rfl
set_option maxRecDepth 100000 in
theorem ck_2422 : cd_2422.all (chkI 12 prog_15_method_23_code) = true := by decide +kernel
set_option maxRecDepth 100000 in
theorem cw_2423 : lw_tbl[1874]? = some (Cond.code ⟨kN 12, "needsNumber", "(II)Z"⟩ prog_15_method_24_code 3 (some .boolean)) := rfl
set_option maxRecDepth 100000 in
theorem ck_2423 : cd_2423.all (chkI 12 prog_15_method_24_code) = true := by decide +kernel
set_option maxRecDepth 100000 in
theorem cw_2424 : lw_tbl[1870]? = some (Cond.code ⟨kN 12, "needsWord", "(J)Z"⟩ prog_15_method_25_code 3 (some .boolean)) := rfl
set_option maxRecDepth 100000 in
theorem ck_2424 : cd_2424.all (chkI 12 prog_15_method_25_code) = true := by decide +kernel
set_option maxRecDepth 100000 in
theorem cw_2425 : lw_tbl[1866]? = some (Cond.code ⟨kN 12, "needsBoth", "(JII)Z"⟩ prog_15_method_26_code 5 (some .boolean)) := rfl
set_option maxRecDepth 100000 in
theorem ck_2425 : cd_2425.all (chkI 12 prog_15_method_26_code) = true := by decide +kernel
set_option maxRecDepth 100000 in
theorem cw_2426 : lw_tbl[1885]? = some (Cond.code ⟨kN 12, "closes", "()Z"⟩ prog_15_method_27_code 1 (some .boolean)) := rfl
set_option maxRecDepth 100000 in
theorem ck_2426 : cd_2426.all (chkI 12 prog_15_method_27_code) = true := by decide +kernel
set_option maxRecDepth 100000 in
theorem cw_2427 : lw_tbl[1827]? = some (Cond.code ⟨kN 12, "isNew", "()Z"⟩ prog_15_method_28_code 1 (some .boolean)) := rfl
set_option maxRecDepth 100000 in
theorem ck_2427 : cd_2427.all (chkI 12 prog_15_method_28_code) = true := by decide +kernel
set_option maxRecDepth 100000 in
theorem cw_2428 : lw_tbl[1913]? = some (Cond.code ⟨kN 12, "needsSound", "(I)Z"⟩ prog_15_method_29_code 2 (some .boolean)) := rfl
set_option maxRecDepth 100000 in
theorem ck_2428 : cd_2428.all (chkI 12 prog_15_method_29_code) = true := by decide +kernel
set_option maxRecDepth 100000 in
theorem cw_2429 : lw_tbl[1897]? = some (Cond.code ⟨kN 12, "needsApple", "(I)Z"⟩ prog_15_method_30_code 2 (some .boolean)) := rfl
set_option maxRecDepth 100000 in
theorem ck_2429 : cd_2429.all (chkI 12 prog_15_method_30_code) = true := by decide +kernel
set_option maxRecDepth 100000 in
theorem cw_2430 : lw_tbl[1881]? = some (Cond.code ⟨kN 12, "takesSound", "(J)V"⟩ prog_15_method_31_code 3 (none)) := rfl
set_option maxRecDepth 100000 in
theorem ck_2430 : cd_2430.all (chkI 12 prog_15_method_31_code) = true := by decide +kernel
set_option maxRecDepth 100000 in
theorem cw_2431 : lw_tbl[1819]? = some (Cond.code ⟨kN 12, "readsApple", "()Z"⟩ prog_15_method_32_code 4 (some .boolean)) := rfl
set_option maxRecDepth 100000 in
theorem ck_2431 : cd_2431.all (chkI 12 prog_15_method_32_code) = true := by decide +kernel
set_option maxRecDepth 100000 in
theorem cw_2432 : lw_tbl[1893]? = some (Cond.code ⟨kN 12, "readsTwin", "()Z"⟩ prog_15_method_33_code 3 (some .boolean)) := rfl
set_option maxRecDepth 100000 in
theorem ck_2432 : cd_2432.all (chkI 12 prog_15_method_33_code) = true := by decide +kernel
set_option maxRecDepth 100000 in
theorem cw_2433 : lw_tbl[1905]? = some (Cond.code ⟨kN 12, "readsOther", "()Z"⟩ prog_15_method_34_code 1 (some .boolean)) := rfl
set_option maxRecDepth 100000 in
theorem ck_2433 : cd_2433.all (chkI 12 prog_15_method_34_code) = true := by decide +kernel
set_option maxRecDepth 100000 in
theorem cw_2434 : lw_tbl[1916]? = some (Cond.code ⟨kN 12, "firstLetter", "(J)I"⟩ prog_15_method_35_code 4 (some .int)) := rfl
set_option maxRecDepth 100000 in
theorem ck_2434 : cd_2434.all (chkI 12 prog_15_method_35_code) = true := by decide +kernel
set_option maxRecDepth 100000 in
theorem cw_2435 : lw_tbl[1909]? = some (Cond.code ⟨kN 12, "readsPerson", "()Z"⟩ prog_15_method_36_code 4 (some .boolean)) := rfl
set_option maxRecDepth 100000 in
theorem ck_2435 : cd_2435.all (chkI 12 prog_15_method_36_code) = true := by decide +kernel
set_option maxRecDepth 100000 in
theorem cw_2436 : lw_tbl[1921]? = some (Cond.code ⟨kN 12, "readsStranger", "()Z"⟩ prog_15_method_37_code 3 (some .boolean)) := rfl
set_option maxRecDepth 100000 in
theorem ck_2436 : cd_2436.all (chkI 12 prog_15_method_37_code) = true := by decide +kernel
set_option maxRecDepth 100000 in
theorem cw_2437 : lw_tbl[1925]? = some (Cond.code ⟨kN 12, "readsPage", "()Z"⟩ prog_15_method_38_code 3 (some .boolean)) := rfl
set_option maxRecDepth 100000 in
theorem ck_2437 : cd_2437.all (chkI 12 prog_15_method_38_code) = true := by decide +kernel
set_option maxRecDepth 100000 in
theorem cw_2438 : lw_tbl[1929]? = some (Cond.code ⟨kN 12, "readsBann", "()Z"⟩ prog_15_method_39_code 2 (some .boolean)) := rfl
set_option maxRecDepth 100000 in
theorem ck_2438 : cd_2438.all (chkI 12 prog_15_method_39_code) = true := by decide +kernel
set_option maxRecDepth 100000 in
theorem cw_2439 : lw_tbl[1933]? = some (Cond.code ⟨kN 12, "readsLaw", "(I)Z"⟩ prog_15_method_40_code 2 (some .boolean)) := rfl
set_option maxRecDepth 100000 in
theorem ck_2439 : cd_2439.all (chkI 12 prog_15_method_40_code) = true := by decide +kernel
set_option maxRecDepth 100000 in
theorem cw_2440 : lw_tbl[1800]? = some (Cond.code ⟨kN 12, "starts", "()V"⟩ prog_15_method_41_code 1 (none)) := rfl
set_option maxRecDepth 100000 in
theorem ck_2440 : cd_2440.all (chkI 12 prog_15_method_41_code) = true := by decide +kernel
set_option maxRecDepth 100000 in
theorem cw_2441 : lw_tbl[1796]? = some (Cond.code ⟨kN 12, "readsAll", "()Z"⟩ prog_15_method_42_code 2 (some .boolean)) := rfl
set_option maxRecDepth 100000 in
theorem ck_2441 : cd_2441.all (chkI 12 prog_15_method_42_code) = true := by decide +kernel
set_option maxRecDepth 100000 in
theorem cw_2442 : lw_tbl[1958]? = some (Cond.code ⟨kN 12, "moves", "([II)V"⟩ prog_15_method_43_code 3 (none)) := rfl
set_option maxRecDepth 100000 in
theorem ck_2442 : cd_2442.all (chkI 12 prog_15_method_43_code) = true := by decide +kernel
set_option maxRecDepth 100000 in
theorem cw_2443 : lw_tbl[1961]? = some (Cond.code ⟨kN 12, "movesNames", "([JI)V"⟩ prog_15_method_44_code 3 (none)) := rfl
set_option maxRecDepth 100000 in
theorem ck_2443 : cd_2443.all (chkI 12 prog_15_method_44_code) = true := by decide +kernel
set_option maxRecDepth 100000 in
theorem cw_2444 : lw_tbl[1955]? = some (Cond.code ⟨kN 12, "lays", "()V"⟩ prog_15_method_45_code 3 (none)) := rfl
set_option maxRecDepth 100000 in
theorem ck_2444 : cd_2444.all (chkI 12 prog_15_method_45_code) = true := by decide +kernel
set_option maxRecDepth 100000 in
theorem cw_2445 : lw_tbl[1968]? = some (Cond.code ⟨kN 12, "spells", "(J[I)I"⟩ prog_15_method_46_code 7 (some .int)) := rfl
set_option maxRecDepth 100000 in
theorem ck_2445 : cd_2445.all (chkI 12 prog_15_method_46_code) = true := by decide +kernel
set_option maxRecDepth 100000 in
theorem cw_2446 : lw_tbl[1965]? = some (Cond.code ⟨kN 12, "compares", "(II)V"⟩ prog_15_method_47_code 9 (none)) := rfl
set_option maxRecDepth 100000 in
theorem ck_2446 : cd_2446.all (chkI 12 prog_15_method_47_code) = true := by decide +kernel
set_option maxRecDepth 100000 in
theorem cw_2447 : lw_tbl[2036]? = some (Cond.code ⟨kN 12, "isSaid", "(II)Z"⟩ prog_15_method_48_code 5 (some .boolean)) := rfl
set_option maxRecDepth 100000 in
theorem ck_2447 : cd_2447.all (chkI 12 prog_15_method_48_code) = true := by decide +kernel
set_option maxRecDepth 100000 in
theorem cw_2448 : lw_tbl[2070]? = some (Cond.code ⟨kN 12, "copies", "([II[II)V"⟩ prog_15_method_49_code 5 (none)) := rfl
set_option maxRecDepth 100000 in
theorem ck_2448 : cd_2448.all (chkI 12 prog_15_method_49_code) = true := by decide +kernel
set_option maxRecDepth 100000 in
theorem cw_2449 : lw_tbl[1997]? = some (Cond.code ⟨kN 12, "readsLine", "()Z"⟩ prog_15_method_50_code 3 (some .boolean)) := rfl
set_option maxRecDepth 100000 in
theorem ck_2449 : cd_2449.all (chkI 12 prog_15_method_50_code) = true := by decide +kernel
set_option maxRecDepth 100000 in
theorem cw_2450 : lw_tbl[2001]? = some (Cond.code ⟨kN 12, "laysLines", "(II)V"⟩ prog_15_method_51_code 4 (none)) := rfl
set_option maxRecDepth 100000 in
theorem ck_2450 : cd_2450.all (chkI 12 prog_15_method_51_code) = true := by decide +kernel
set_option maxRecDepth 100000 in
theorem cw_2451 : lw_tbl[2239]? = some (Cond.code ⟨kN 12, "laysTold", "(II)V"⟩ prog_15_method_52_code 4 (none)) := rfl
set_option maxRecDepth 100000 in
theorem ck_2451 : cd_2451.all (chkI 12 prog_15_method_52_code) = true := by decide +kernel
set_option maxRecDepth 100000 in
theorem cw_2452 : lw_tbl[1989]? = some (Cond.code ⟨kN 12, "fresh", "()V"⟩ prog_15_method_53_code 2 (none)) := rfl
set_option maxRecDepth 100000 in
theorem ck_2452 : cd_2452.all (chkI 12 prog_15_method_53_code) = true := by decide +kernel
set_option maxRecDepth 100000 in
theorem cw_2453 : lw_tbl[1792]? = some (Cond.code ⟨kN 12, "orchard", "()I"⟩ prog_15_method_54_code 2 (some .int)) := rfl
set_option maxRecDepth 100000 in
theorem ck_2453 : cd_2453.all (chkI 12 prog_15_method_54_code) = true := by decide +kernel
set_option maxRecDepth 100000 in
theorem cw_2454 : lw_tbl[1993]? = some (Cond.code ⟨kN 12, "days", "()I"⟩ prog_15_method_55_code 1 (some .int)) := rfl
set_option maxRecDepth 100000 in
theorem ck_2454 : cd_2454.all (chkI 12 prog_15_method_55_code) = true := by decide +kernel
set_option maxRecDepth 100000 in
theorem cw_2455 : lw_tbl[2009]? = some (Cond.code ⟨kN 12, "isApple", "(I)Z"⟩ prog_15_method_56_code 2 (some .boolean)) := rfl
set_option maxRecDepth 100000 in
theorem ck_2455 : cd_2455.all (chkI 12 prog_15_method_56_code) = true := by decide +kernel
set_option maxRecDepth 100000 in
theorem cw_2456 : lw_tbl[2024]? = some (Cond.code ⟨kN 12, "isSound", "(I)Z"⟩ prog_15_method_57_code 2 (some .boolean)) := rfl
set_option maxRecDepth 100000 in
theorem ck_2456 : cd_2456.all (chkI 12 prog_15_method_57_code) = true := by decide +kernel
set_option maxRecDepth 100000 in
theorem cw_2457 : lw_tbl[2032]? = some (Cond.code ⟨kN 12, "isPerson", "(I)Z"⟩ prog_15_method_58_code 2 (some .boolean)) := rfl
set_option maxRecDepth 100000 in
theorem ck_2457 : cd_2457.all (chkI 12 prog_15_method_58_code) = true := by decide +kernel
set_option maxRecDepth 100000 in
theorem cw_2458 : lw_tbl[2090]? = some (Cond.code ⟨kN 12, "hangs", "(I)Z"⟩ prog_15_method_59_code 2 (some .boolean)) := rfl
set_option maxRecDepth 100000 in
theorem ck_2458 : cd_2458.all (chkI 12 prog_15_method_59_code) = true := by decide +kernel
set_option maxRecDepth 100000 in
theorem cw_2459 : lw_tbl[2013]? = some (Cond.code ⟨kN 12, "valueOn", "(II)I"⟩ prog_15_method_60_code 4 (some .int)) := rfl
set_option maxRecDepth 100000 in
theorem ck_2459 : cd_2459.all (chkI 12 prog_15_method_60_code) = true := by decide +kernel
set_option maxRecDepth 100000 in
theorem cw_2460 : lw_tbl[2005]? = some (Cond.code ⟨kN 12, "apple", "(II)I"⟩ prog_15_method_61_code 3 (some .int)) := rfl
set_option maxRecDepth 100000 in
theorem ck_2460 : cd_2460.all (chkI 12 prog_15_method_61_code) = true := by decide +kernel
set_option maxRecDepth 100000 in
theorem cw_2461 : lw_tbl[2020]? = some (Cond.code ⟨kN 12, "near", "(III)I"⟩ prog_15_method_62_code 5 (some .int)) := rfl
set_option maxRecDepth 100000 in
theorem ck_2461 : cd_2461.all (chkI 12 prog_15_method_62_code) = true := by decide +kernel
set_option maxRecDepth 100000 in
theorem cw_2462 : lw_tbl[2028]? = some (Cond.code ⟨kN 12, "says", "(II)I"⟩ prog_15_method_63_code 3 (some .int)) := rfl
set_option maxRecDepth 100000 in
theorem ck_2462 : cd_2462.all (chkI 12 prog_15_method_63_code) = true := by decide +kernel
set_option maxRecDepth 100000 in
theorem cw_2463 : lw_tbl[2048]? = some (Cond.code ⟨kN 12, "soundsLike", "(II)Z"⟩ prog_15_method_64_code 3 (some .boolean)) := rfl
set_option maxRecDepth 100000 in
theorem ck_2463 : cd_2463.all (chkI 12 prog_15_method_64_code) = true := by decide +kernel
set_option maxRecDepth 100000 in
theorem cw_2464 : lw_tbl[2044]? = some (Cond.code ⟨kN 12, "hears", "(III)V"⟩ prog_15_method_65_code 6 (none)) := rfl
set_option maxRecDepth 100000 in
theorem ck_2464 : cd_2464.all (chkI 12 prog_15_method_65_code) = true := by decide +kernel
set_option maxRecDepth 100000 in
theorem cw_2465 : lw_tbl[2059]? = some (Cond.code ⟨kN 12, "welsh", "()I"⟩ prog_15_method_66_code 3 (some .int)) := rfl
set_option maxRecDepth 100000 in
theorem ck_2465 : cd_2465.all (chkI 12 prog_15_method_66_code) = true := by decide +kernel
set_option maxRecDepth 100000 in
theorem cw_2466 : lw_tbl[2055]? = some (Cond.code ⟨kN 12, "fallsBy", "(IIII)I"⟩ prog_15_method_67_code 9 (some .int)) := rfl
set_option maxRecDepth 100000 in
theorem ck_2466 : cd_2466.all (chkI 12 prog_15_method_67_code) = true := by decide +kernel
set_option maxRecDepth 100000 in
theorem cw_2467 : lw_tbl[2078]? = some (Cond.code ⟨kN 12, "worthOf", "(II)I"⟩ prog_15_method_68_code 5 (some .int)) := rfl
set_option maxRecDepth 100000 in
theorem ck_2467 : cd_2467.all (chkI 12 prog_15_method_68_code) = true := by decide +kernel
set_option maxRecDepth 100000 in
theorem cw_2468 : lw_tbl[2074]? = some (Cond.code ⟨kN 12, "calls", "(III)I"⟩ prog_15_method_69_code 5 (some .int)) := rfl
set_option maxRecDepth 100000 in
theorem ck_2468 : cd_2468.all (chkI 12 prog_15_method_69_code) = true := by decide +kernel
set_option maxRecDepth 100000 in
theorem cw_2469 : lw_tbl[2040]? = some (Cond.code ⟨kN 12, "falls", "(II)I"⟩ prog_15_method_70_code 3 (some .int)) := rfl
set_option maxRecDepth 100000 in
theorem ck_2469 : cd_2469.all (chkI 12 prog_15_method_70_code) = true := by decide +kernel
set_option maxRecDepth 100000 in
theorem cw_2470 : lw_tbl[2067]? = some (Cond.code ⟨kN 12, "keeps", "()V"⟩ prog_15_method_71_code 2 (none)) := rfl
set_option maxRecDepth 100000 in
theorem ck_2470 : cd_2470.all (chkI 12 prog_15_method_71_code) = true := by decide +kernel
set_option maxRecDepth 100000 in
theorem cw_2471 : lw_tbl[2063]? = some (Cond.code ⟨kN 12, "call", "(II)I"⟩ prog_15_method_72_code 3 (some .int)) := rfl
set_option maxRecDepth 100000 in
theorem ck_2471 : cd_2471.all (chkI 12 prog_15_method_72_code) = true := by decide +kernel
set_option maxRecDepth 100000 in
theorem cw_2472 : lw_tbl[2086]? = some (Cond.code ⟨kN 12, "canPick", "(I)Z"⟩ prog_15_method_73_code 2 (some .boolean)) := rfl
set_option maxRecDepth 100000 in
theorem ck_2472 : cd_2472.all (chkI 12 prog_15_method_73_code) = true := by decide +kernel
set_option maxRecDepth 100000 in
theorem cw_2473 : lw_tbl[2094]? = some (Cond.code ⟨kN 12, "picks", "(I)I"⟩ prog_15_method_74_code 3 (some .int)) := rfl
set_option maxRecDepth 100000 in
theorem ck_2473 : cd_2473.all (chkI 12 prog_15_method_74_code) = true := by decide +kernel
set_option maxRecDepth 100000 in
theorem cw_2474 : lw_tbl[2082]? = some (Cond.code ⟨kN 12, "pick", "(I)I"⟩ prog_15_method_75_code 2 (some .int)) := rfl
set_option maxRecDepth 100000 in
theorem ck_2474 : cd_2474.all (chkI 12 prog_15_method_75_code) = true := by decide +kernel
set_option maxRecDepth 100000 in
theorem cw_2475 : lw_tbl[2102]? = some (Cond.code ⟨kN 12, "isFree", "(II)Z"⟩ prog_15_method_76_code 4 (some .boolean)) := rfl
set_option maxRecDepth 100000 in
theorem ck_2475 : cd_2475.all (chkI 12 prog_15_method_76_code) = true := by decide +kernel
set_option maxRecDepth 100000 in
theorem cw_2476 : lw_tbl[2098]? = some (Cond.code ⟨kN 12, "christen", "(II)Z"⟩ prog_15_method_77_code 3 (some .boolean)) := rfl
set_option maxRecDepth 100000 in
theorem ck_2476 : cd_2476.all (chkI 12 prog_15_method_77_code) = true := by decide +kernel
set_option maxRecDepth 100000 in
theorem cw_2477 : lw_tbl[2110]? = some (Cond.code ⟨kN 12, "passes", "()V"⟩ prog_15_method_78_code 1 (none)) := rfl
set_option maxRecDepth 100000 in
theorem ck_2477 : cd_2477.all (chkI 12 prog_15_method_78_code) = true := by decide +kernel
set_option maxRecDepth 100000 in
theorem cw_2478 : lw_tbl[2106]? = some (Cond.code ⟨kN 12, "pass", "(I)I"⟩ prog_15_method_79_code 3 (some .int)) := rfl
set_option maxRecDepth 100000 in
theorem ck_2478 : cd_2478.all (chkI 12 prog_15_method_79_code) = true := by decide +kernel
set_option maxRecDepth 100000 in
theorem cw_2479 : lw_tbl[2114]? = some (Cond.code ⟨kN 12, "undo", "()Z"⟩ prog_15_method_80_code 1 (some .boolean)) := rfl
set_option maxRecDepth 100000 in
theorem ck_2479 : cd_2479.all (chkI 12 prog_15_method_80_code) = true := by decide +kernel
set_option maxRecDepth 100000 in
theorem cw_2480 : lw_tbl[2126]? = some (Cond.code ⟨kN 12, "greenOf", "(I)I"⟩ prog_15_method_81_code 4 (some .int)) := rfl
set_option maxRecDepth 100000 in
theorem ck_2480 : cd_2480.all (chkI 12 prog_15_method_81_code) = true := by decide +kernel
set_option maxRecDepth 100000 in
theorem cw_2481 : lw_tbl[2122]? = some (Cond.code ⟨kN 12, "goes", "(I)Z"⟩ prog_15_method_82_code 2 (some .boolean)) := rfl
set_option maxRecDepth 100000 in
theorem ck_2481 : cd_2481.all (chkI 12 prog_15_method_82_code) = true := by decide +kernel
set_option maxRecDepth 100000 in
theorem cw_2482 : lw_tbl[2118]? = some (Cond.code ⟨kN 12, "judged", "(I)I"⟩ prog_15_method_83_code 5 (some .int)) := rfl
set_option maxRecDepth 100000 in
theorem ck_2482 : cd_2482.all (chkI 12 prog_15_method_83_code) = true := by decide +kernel
set_option maxRecDepth 100000 in
theorem cw_2483 : lw_tbl[2134]? = some (Cond.code ⟨kN 12, "laysCalls", "()V"⟩ prog_15_method_84_code 3 (none)) := rfl
set_option maxRecDepth 100000 in
theorem ck_2483 : cd_2483.all (chkI 12 prog_15_method_84_code) = true := by decide +kernel
set_option maxRecDepth 100000 in
theorem cw_2484 : lw_tbl[2142]? = some (Cond.code ⟨kN 12, "cropWorth", "(II)I"⟩ prog_15_method_85_code 5 (some .int)) := rfl
set_option maxRecDepth 100000 in
theorem ck_2484 : cd_2484.all (chkI 12 prog_15_method_85_code) = true := by decide +kernel
set_option maxRecDepth 100000 in
theorem cw_2485 : lw_tbl[2138]? = some (Cond.code ⟨kN 12, "cropOf", "(IIIIZ)I"⟩ prog_15_method_86_code 10 (some .int)) := rfl
set_option maxRecDepth 100000 in
theorem ck_2485 : cd_2485.all (chkI 12 prog_15_method_86_code) = true := by decide +kernel
set_option maxRecDepth 100000 in
theorem cw_2486 : lw_tbl[2130]? = some (Cond.code ⟨kN 12, "crop", "(II)I"⟩ prog_15_method_87_code 4 (some .int)) := rfl
set_option maxRecDepth 100000 in
theorem ck_2486 : cd_2486.all (chkI 12 prog_15_method_87_code) = true := by decide +kernel
set_option maxRecDepth 100000 in
theorem cw_2487 : lw_tbl[2154]? = some (Cond.code ⟨kN 12, "meets", "(I)Z"⟩ prog_15_method_88_code 2 (some .boolean)) := rfl
set_option maxRecDepth 100000 in
theorem ck_2487 : cd_2487.all (chkI 12 prog_15_method_88_code) = true := by decide +kernel
set_option maxRecDepth 100000 in
theorem cw_2488 : lw_tbl[2150]? = some (Cond.code ⟨kN 12, "deaf", "()I"⟩ prog_15_method_89_code 3 (some .int)) := rfl
set_option maxRecDepth 100000 in
theorem ck_2488 : cd_2488.all (chkI 12 prog_15_method_89_code) = true := by decide +kernel
set_option maxRecDepth 100000 in
theorem cw_2489 : lw_tbl[2146]? = some (Cond.code ⟨kN 12, "fetch", "()I"⟩ prog_15_method_90_code 11 (some .int)) := rfl
set_option maxRecDepth 100000 in
theorem ck_2489 : cd_2489.all (chkI 12 prog_15_method_90_code) = true := by decide +kernel
set_option maxRecDepth 100000 in
theorem cw_2490 : lw_tbl[2158]? = some (Cond.code ⟨kN 12, "lies", "(IZ)Z"⟩ prog_15_method_91_code 3 (some .boolean)) := rfl
set_option maxRecDepth 100000 in
theorem ck_2490 : cd_2490.all (chkI 12 prog_15_method_91_code) = true := by decide +kernel
set_option maxRecDepth 100000 in
theorem cw_2491 : lw_tbl[2162]? = some (Cond.code ⟨kN 12, "called", "(I)I"⟩ prog_15_method_92_code 9 (some .int)) := rfl
set_option maxRecDepth 100000 in
theorem ck_2491 : cd_2491.all (chkI 12 prog_15_method_92_code) = true := by decide +kernel
set_option maxRecDepth 100000 in
theorem cw_2492 : lw_tbl[2166]? = some (Cond.code ⟨kN 12, "tell", "(IIZ)Z"⟩ prog_15_method_93_code 4 (some .boolean)) := rfl
set_option maxRecDepth 100000 in
theorem ck_2492 : cd_2492.all (chkI 12 prog_15_method_93_code) = true := by decide +kernel
set_option maxRecDepth 100000 in
theorem cw_2493 : lw_tbl[2174]? = some (Cond.code ⟨kN 12, "isLaw", "(II)Z"⟩ prog_15_method_94_code 5 (some .boolean)) := rfl
set_option maxRecDepth 100000 in
theorem ck_2493 : cd_2493.all (chkI 12 prog_15_method_94_code) = true := by decide +kernel
set_option maxRecDepth 100000 in
theorem cw_2494 : lw_tbl[2170]? = some (Cond.code ⟨kN 12, "laws", "(I)I"⟩ prog_15_method_95_code 7 (some .int)) := rfl
set_option maxRecDepth 100000 in
theorem ck_2494 : cd_2494.all (chkI 12 prog_15_method_95_code) = true := by decide +kernel
set_option maxRecDepth 100000 in
theorem cw_2495 : lw_tbl[2182]? = some (Cond.code ⟨kN 12, "lossOf", "(I)I"⟩ prog_15_method_96_code 7 (some .int)) := rfl
set_option maxRecDepth 100000 in
theorem ck_2495 : cd_2495.all (chkI 12 prog_15_method_96_code) = true := by decide +kernel
set_option maxRecDepth 100000 in
theorem cw_2496 : lw_tbl[2178]? = some (Cond.code ⟨kN 12, "loss", "(I)I"⟩ prog_15_method_97_code 2 (some .int)) := rfl
set_option maxRecDepth 100000 in
theorem ck_2496 : cd_2496.all (chkI 12 prog_15_method_97_code) = true := by decide +kernel
set_option maxRecDepth 100000 in
theorem cw_2497 : lw_tbl[2188]? = some (Cond.code ⟨kN 12, "best", "(II)I"⟩ prog_15_method_98_code 8 (some .int)) := rfl
set_option maxRecDepth 100000 in
theorem ck_2497 : cd_2497.all (chkI 12 prog_15_method_98_code) = true := by decide +kernel
set_option maxRecDepth 100000 in
theorem cw_2498 : lw_tbl[2199]? = some (Cond.code ⟨kN 12, "thiefOf", "(III)I"⟩ prog_15_method_99_code 10 (some .int)) := rfl
set_option maxRecDepth 100000 in
theorem ck_2498 : cd_2498.all (chkI 12 prog_15_method_99_code) = true := by decide +kernel
set_option maxRecDepth 100000 in
theorem cw_2499 : lw_tbl[2195]? = some (Cond.code ⟨kN 12, "isVoice", "(II)Z"⟩ prog_15_method_100_code 2 (some .boolean)) := rfl
set_option maxRecDepth 100000 in
theorem ck_2499 : cd_2499.all (chkI 12 prog_15_method_100_code) = true := by decide +kernel
set_option maxRecDepth 100000 in
theorem cw_2500 : lw_tbl[2192]? = some (Cond.code ⟨kN 12, "thief", "(III)I"⟩ prog_15_method_101_code 4 (some .int)) := rfl
set_option maxRecDepth 100000 in
theorem ck_2500 : cd_2500.all (chkI 12 prog_15_method_101_code) = true := by decide +kernel
set_option maxRecDepth 100000 in
theorem cw_2501 : lw_tbl[2203]? = some (Cond.code ⟨kN 12, "hide", "(II)I"⟩ prog_15_method_102_code 8 (some .int)) := rfl
set_option maxRecDepth 100000 in
theorem ck_2501 : cd_2501.all (chkI 12 prog_15_method_102_code) = true := by decide +kernel
set_option maxRecDepth 100000 in
theorem cw_2502 : lw_tbl[2212]? = some (Cond.code ⟨kN 12, "reads0", "(IIIIIII)V"⟩ prog_15_method_103_code 14 (none)) := rfl
set_option maxRecDepth 100000 in
theorem ck_2502 : cd_2502.all (chkI 12 prog_15_method_103_code) = true := by decide +kernel
set_option maxRecDepth 100000 in
theorem cw_2503 : lw_tbl[2208]? = some (Cond.code ⟨kN 12, "banns", "(III)I"⟩ prog_15_method_104_code 4 (some .int)) := rfl
set_option maxRecDepth 100000 in
theorem ck_2503 : cd_2503.all (chkI 12 prog_15_method_104_code) = true := by decide +kernel
set_option maxRecDepth 100000 in
theorem cw_2504 : lw_tbl[2224]? = some (Cond.code ⟨kN 12, "draws", "(I)I"⟩ prog_15_method_105_code 2 (some .int)) := rfl
set_option maxRecDepth 100000 in
theorem ck_2504 : cd_2504.all (chkI 12 prog_15_method_105_code) = true := by decide +kernel
set_option maxRecDepth 100000 in
theorem cw_2505 : lw_tbl[2220]? = some (Cond.code ⟨kN 12, "livesDay", "()I"⟩ prog_15_method_106_code 4 (some .int)) := rfl
set_option maxRecDepth 100000 in
theorem ck_2505 : cd_2505.all (chkI 12 prog_15_method_106_code) = true := by decide +kernel
set_option maxRecDepth 100000 in
theorem cw_2506 : lw_tbl[2216]? = some (Cond.code ⟨kN 12, "years", "(III)I"⟩ prog_15_method_107_code 6 (some .int)) := rfl
set_option maxRecDepth 100000 in
theorem ck_2506 : cd_2506.all (chkI 12 prog_15_method_107_code) = true := by decide +kernel
set_option maxRecDepth 100000 in
theorem cw_2507 : lw_tbl[2235]? = some (Cond.code ⟨kN 12, "mark", "(IZ)Z"⟩ prog_15_method_108_code 5 (some .boolean)) := rfl
set_option maxRecDepth 100000 in
theorem ck_2507 : cd_2507.all (chkI 12 prog_15_method_108_code) = true := by decide +kernel
set_option maxRecDepth 100000 in
theorem cw_2508 : lw_tbl[2243]? = some (Cond.code ⟨kN 12, "count", "(I)I"⟩ prog_15_method_109_code 2 (some .int)) := rfl
set_option maxRecDepth 100000 in
theorem ck_2508 : cd_2508.all (chkI 12 prog_15_method_109_code) = true := by decide +kernel
theorem ge_12 : ∀ e ∈ mX_12, GoodE e := List.forall_mem_cons.mpr ⟨⟨List.mem_of_getElem? cw_2400, ck_2400, rfl, by decide, by decide⟩, List.forall_mem_cons.mpr ⟨⟨List.mem_of_getElem? cw_2401, ck_2401, rfl, by decide, by decide⟩, List.forall_mem_cons.mpr ⟨⟨List.mem_of_getElem? cw_2402, ck_2402, rfl, by decide, by decide⟩, List.forall_mem_cons.mpr ⟨⟨List.mem_of_getElem? cw_2403, ck_2403, rfl, by decide, by decide⟩, List.forall_mem_cons.mpr ⟨⟨List.mem_of_getElem? cw_2404, ck_2404, rfl, by decide, by decide⟩, List.forall_mem_cons.mpr ⟨⟨List.mem_of_getElem? cw_2405, ck_2405, rfl, by decide, by decide⟩, List.forall_mem_cons.mpr ⟨⟨List.mem_of_getElem? cw_2406, ck_2406, rfl, by decide, by decide⟩, List.forall_mem_cons.mpr ⟨⟨List.mem_of_getElem? cw_2407, ck_2407, rfl, by decide, by decide⟩, List.forall_mem_cons.mpr ⟨⟨List.mem_of_getElem? cw_2408, ck_2408, rfl, by decide, by decide⟩, List.forall_mem_cons.mpr ⟨⟨List.mem_of_getElem? cw_2409, ck_2409, rfl, by decide, by decide⟩, List.forall_mem_cons.mpr ⟨⟨List.mem_of_getElem? cw_2410, ck_2410, rfl, by decide, by decide⟩, List.forall_mem_cons.mpr ⟨⟨List.mem_of_getElem? cw_2411, ck_2411, rfl, by decide, by decide⟩, List.forall_mem_cons.mpr ⟨⟨List.mem_of_getElem? cw_2412, ck_2412, rfl, by decide, by decide⟩, List.forall_mem_cons.mpr ⟨⟨List.mem_of_getElem? cw_2413, ck_2413, rfl, by decide, by decide⟩, List.forall_mem_cons.mpr ⟨⟨List.mem_of_getElem? cw_2414, ck_2414, rfl, by decide, by decide⟩, List.forall_mem_cons.mpr ⟨⟨List.mem_of_getElem? cw_2415, ck_2415, rfl, by decide, by decide⟩, List.forall_mem_cons.mpr ⟨⟨List.mem_of_getElem? cw_2416, ck_2416, rfl, by decide, by decide⟩, List.forall_mem_cons.mpr ⟨⟨List.mem_of_getElem? cw_2417, ck_2417, rfl, by decide, by decide⟩, List.forall_mem_cons.mpr ⟨⟨List.mem_of_getElem? cw_2418, ck_2418, rfl, by decide, by decide⟩, List.forall_mem_cons.mpr ⟨⟨List.mem_of_getElem? cw_2419, ck_2419, rfl, by decide, by decide⟩, List.forall_mem_cons.mpr ⟨⟨List.mem_of_getElem? cw_2420, ck_2420, rfl, by decide, by decide⟩, List.forall_mem_cons.mpr ⟨⟨List.mem_of_getElem? cw_2421, ck_2421, rfl, by decide, by decide⟩, List.forall_mem_cons.mpr ⟨⟨List.mem_of_getElem? cw_2422, ck_2422, rfl, by decide, by decide⟩, List.forall_mem_cons.mpr ⟨⟨List.mem_of_getElem? cw_2423, ck_2423, rfl, by decide, by decide⟩, List.forall_mem_cons.mpr ⟨⟨List.mem_of_getElem? cw_2424, ck_2424, rfl, by decide, by decide⟩, List.forall_mem_cons.mpr ⟨⟨List.mem_of_getElem? cw_2425, ck_2425, rfl, by decide, by decide⟩, List.forall_mem_cons.mpr ⟨⟨List.mem_of_getElem? cw_2426, ck_2426, rfl, by decide, by decide⟩, List.forall_mem_cons.mpr ⟨⟨List.mem_of_getElem? cw_2427, ck_2427, rfl, by decide, by decide⟩, List.forall_mem_cons.mpr ⟨⟨List.mem_of_getElem? cw_2428, ck_2428, rfl, by decide, by decide⟩, List.forall_mem_cons.mpr ⟨⟨List.mem_of_getElem? cw_2429, ck_2429, rfl, by decide, by decide⟩, List.forall_mem_cons.mpr ⟨⟨List.mem_of_getElem? cw_2430, ck_2430, rfl, by decide, by decide⟩, List.forall_mem_cons.mpr ⟨⟨List.mem_of_getElem? cw_2431, ck_2431, rfl, by decide, by decide⟩, List.forall_mem_cons.mpr ⟨⟨List.mem_of_getElem? cw_2432, ck_2432, rfl, by decide, by decide⟩, List.forall_mem_cons.mpr ⟨⟨List.mem_of_getElem? cw_2433, ck_2433, rfl, by decide, by decide⟩, List.forall_mem_cons.mpr ⟨⟨List.mem_of_getElem? cw_2434, ck_2434, rfl, by decide, by decide⟩, List.forall_mem_cons.mpr ⟨⟨List.mem_of_getElem? cw_2435, ck_2435, rfl, by decide, by decide⟩, List.forall_mem_cons.mpr ⟨⟨List.mem_of_getElem? cw_2436, ck_2436, rfl, by decide, by decide⟩, List.forall_mem_cons.mpr ⟨⟨List.mem_of_getElem? cw_2437, ck_2437, rfl, by decide, by decide⟩, List.forall_mem_cons.mpr ⟨⟨List.mem_of_getElem? cw_2438, ck_2438, rfl, by decide, by decide⟩, List.forall_mem_cons.mpr ⟨⟨List.mem_of_getElem? cw_2439, ck_2439, rfl, by decide, by decide⟩, List.forall_mem_cons.mpr ⟨⟨List.mem_of_getElem? cw_2440, ck_2440, rfl, by decide, by decide⟩, List.forall_mem_cons.mpr ⟨⟨List.mem_of_getElem? cw_2441, ck_2441, rfl, by decide, by decide⟩, List.forall_mem_cons.mpr ⟨⟨List.mem_of_getElem? cw_2442, ck_2442, rfl, by decide, by decide⟩, List.forall_mem_cons.mpr ⟨⟨List.mem_of_getElem? cw_2443, ck_2443, rfl, by decide, by decide⟩, List.forall_mem_cons.mpr ⟨⟨List.mem_of_getElem? cw_2444, ck_2444, rfl, by decide, by decide⟩, List.forall_mem_cons.mpr ⟨⟨List.mem_of_getElem? cw_2445, ck_2445, rfl, by decide, by decide⟩, List.forall_mem_cons.mpr ⟨⟨List.mem_of_getElem? cw_2446, ck_2446, rfl, by decide, by decide⟩, List.forall_mem_cons.mpr ⟨⟨List.mem_of_getElem? cw_2447, ck_2447, rfl, by decide, by decide⟩, List.forall_mem_cons.mpr ⟨⟨List.mem_of_getElem? cw_2448, ck_2448, rfl, by decide, by decide⟩, List.forall_mem_cons.mpr ⟨⟨List.mem_of_getElem? cw_2449, ck_2449, rfl, by decide, by decide⟩, List.forall_mem_cons.mpr ⟨⟨List.mem_of_getElem? cw_2450, ck_2450, rfl, by decide, by decide⟩, List.forall_mem_cons.mpr ⟨⟨List.mem_of_getElem? cw_2451, ck_2451, rfl, by decide, by decide⟩, List.forall_mem_cons.mpr ⟨⟨List.mem_of_getElem? cw_2452, ck_2452, rfl, by decide, by decide⟩, List.forall_mem_cons.mpr ⟨⟨List.mem_of_getElem? cw_2453, ck_2453, rfl, by decide, by decide⟩, List.forall_mem_cons.mpr ⟨⟨List.mem_of_getElem? cw_2454, ck_2454, rfl, by decide, by decide⟩, List.forall_mem_cons.mpr ⟨⟨List.mem_of_getElem? cw_2455, ck_2455, rfl, by decide, by decide⟩, List.forall_mem_cons.mpr ⟨⟨List.mem_of_getElem? cw_2456, ck_2456, rfl, by decide, by decide⟩, List.forall_mem_cons.mpr ⟨⟨List.mem_of_getElem? cw_2457, ck_2457, rfl, by decide, by decide⟩, List.forall_mem_cons.mpr ⟨⟨List.mem_of_getElem? cw_2458, ck_2458, rfl, by decide, by decide⟩, List.forall_mem_cons.mpr ⟨⟨List.mem_of_getElem? cw_2459, ck_2459, rfl, by decide, by decide⟩, List.forall_mem_cons.mpr ⟨⟨List.mem_of_getElem? cw_2460, ck_2460, rfl, by decide, by decide⟩, List.forall_mem_cons.mpr ⟨⟨List.mem_of_getElem? cw_2461, ck_2461, rfl, by decide, by decide⟩, List.forall_mem_cons.mpr ⟨⟨List.mem_of_getElem? cw_2462, ck_2462, rfl, by decide, by decide⟩, List.forall_mem_cons.mpr ⟨⟨List.mem_of_getElem? cw_2463, ck_2463, rfl, by decide, by decide⟩, List.forall_mem_cons.mpr ⟨⟨List.mem_of_getElem? cw_2464, ck_2464, rfl, by decide, by decide⟩, List.forall_mem_cons.mpr ⟨⟨List.mem_of_getElem? cw_2465, ck_2465, rfl, by decide, by decide⟩, List.forall_mem_cons.mpr ⟨⟨List.mem_of_getElem? cw_2466, ck_2466, rfl, by decide, by decide⟩, List.forall_mem_cons.mpr ⟨⟨List.mem_of_getElem? cw_2467, ck_2467, rfl, by decide, by decide⟩, List.forall_mem_cons.mpr ⟨⟨List.mem_of_getElem? cw_2468, ck_2468, rfl, by decide, by decide⟩, List.forall_mem_cons.mpr ⟨⟨List.mem_of_getElem? cw_2469, ck_2469, rfl, by decide, by decide⟩, List.forall_mem_cons.mpr ⟨⟨List.mem_of_getElem? cw_2470, ck_2470, rfl, by decide, by decide⟩, List.forall_mem_cons.mpr ⟨⟨List.mem_of_getElem? cw_2471, ck_2471, rfl, by decide, by decide⟩, List.forall_mem_cons.mpr ⟨⟨List.mem_of_getElem? cw_2472, ck_2472, rfl, by decide, by decide⟩, List.forall_mem_cons.mpr ⟨⟨List.mem_of_getElem? cw_2473, ck_2473, rfl, by decide, by decide⟩, List.forall_mem_cons.mpr ⟨⟨List.mem_of_getElem? cw_2474, ck_2474, rfl, by decide, by decide⟩, List.forall_mem_cons.mpr ⟨⟨List.mem_of_getElem? cw_2475, ck_2475, rfl, by decide, by decide⟩, List.forall_mem_cons.mpr ⟨⟨List.mem_of_getElem? cw_2476, ck_2476, rfl, by decide, by decide⟩, List.forall_mem_cons.mpr ⟨⟨List.mem_of_getElem? cw_2477, ck_2477, rfl, by decide, by decide⟩, List.forall_mem_cons.mpr ⟨⟨List.mem_of_getElem? cw_2478, ck_2478, rfl, by decide, by decide⟩, List.forall_mem_cons.mpr ⟨⟨List.mem_of_getElem? cw_2479, ck_2479, rfl, by decide, by decide⟩, List.forall_mem_cons.mpr ⟨⟨List.mem_of_getElem? cw_2480, ck_2480, rfl, by decide, by decide⟩, List.forall_mem_cons.mpr ⟨⟨List.mem_of_getElem? cw_2481, ck_2481, rfl, by decide, by decide⟩, List.forall_mem_cons.mpr ⟨⟨List.mem_of_getElem? cw_2482, ck_2482, rfl, by decide, by decide⟩, List.forall_mem_cons.mpr ⟨⟨List.mem_of_getElem? cw_2483, ck_2483, rfl, by decide, by decide⟩, List.forall_mem_cons.mpr ⟨⟨List.mem_of_getElem? cw_2484, ck_2484, rfl, by decide, by decide⟩, List.forall_mem_cons.mpr ⟨⟨List.mem_of_getElem? cw_2485, ck_2485, rfl, by decide, by decide⟩, List.forall_mem_cons.mpr ⟨⟨List.mem_of_getElem? cw_2486, ck_2486, rfl, by decide, by decide⟩, List.forall_mem_cons.mpr ⟨⟨List.mem_of_getElem? cw_2487, ck_2487, rfl, by decide, by decide⟩, List.forall_mem_cons.mpr ⟨⟨List.mem_of_getElem? cw_2488, ck_2488, rfl, by decide, by decide⟩, List.forall_mem_cons.mpr ⟨⟨List.mem_of_getElem? cw_2489, ck_2489, rfl, by decide, by decide⟩, List.forall_mem_cons.mpr ⟨⟨List.mem_of_getElem? cw_2490, ck_2490, rfl, by decide, by decide⟩, List.forall_mem_cons.mpr ⟨⟨List.mem_of_getElem? cw_2491, ck_2491, rfl, by decide, by decide⟩, List.forall_mem_cons.mpr ⟨⟨List.mem_of_getElem? cw_2492, ck_2492, rfl, by decide, by decide⟩, List.forall_mem_cons.mpr ⟨⟨List.mem_of_getElem? cw_2493, ck_2493, rfl, by decide, by decide⟩, List.forall_mem_cons.mpr ⟨⟨List.mem_of_getElem? cw_2494, ck_2494, rfl, by decide, by decide⟩, List.forall_mem_cons.mpr ⟨⟨List.mem_of_getElem? cw_2495, ck_2495, rfl, by decide, by decide⟩, List.forall_mem_cons.mpr ⟨⟨List.mem_of_getElem? cw_2496, ck_2496, rfl, by decide, by decide⟩, List.forall_mem_cons.mpr ⟨⟨List.mem_of_getElem? cw_2497, ck_2497, rfl, by decide, by decide⟩, List.forall_mem_cons.mpr ⟨⟨List.mem_of_getElem? cw_2498, ck_2498, rfl, by decide, by decide⟩, List.forall_mem_cons.mpr ⟨⟨List.mem_of_getElem? cw_2499, ck_2499, rfl, by decide, by decide⟩, List.forall_mem_cons.mpr ⟨⟨List.mem_of_getElem? cw_2500, ck_2500, rfl, by decide, by decide⟩, List.forall_mem_cons.mpr ⟨⟨List.mem_of_getElem? cw_2501, ck_2501, rfl, by decide, by decide⟩, List.forall_mem_cons.mpr ⟨⟨List.mem_of_getElem? cw_2502, ck_2502, rfl, by decide, by decide⟩, List.forall_mem_cons.mpr ⟨⟨List.mem_of_getElem? cw_2503, ck_2503, rfl, by decide, by decide⟩, List.forall_mem_cons.mpr ⟨⟨List.mem_of_getElem? cw_2504, ck_2504, rfl, by decide, by decide⟩, List.forall_mem_cons.mpr ⟨⟨List.mem_of_getElem? cw_2505, ck_2505, rfl, by decide, by decide⟩, List.forall_mem_cons.mpr ⟨⟨List.mem_of_getElem? cw_2506, ck_2506, rfl, by decide, by decide⟩, List.forall_mem_cons.mpr ⟨⟨List.mem_of_getElem? cw_2507, ck_2507, rfl, by decide, by decide⟩, List.forall_mem_cons.mpr ⟨⟨List.mem_of_getElem? cw_2508, ck_2508, rfl, by decide, by decide⟩, fun _ h => absurd h List.not_mem_nil⟩⟩⟩⟩⟩⟩⟩⟩⟩⟩⟩⟩⟩⟩⟩⟩⟩⟩⟩⟩⟩⟩⟩⟩⟩⟩⟩⟩⟩⟩⟩⟩⟩⟩⟩⟩⟩⟩⟩⟩⟩⟩⟩⟩⟩⟩⟩⟩⟩⟩⟩⟩⟩⟩⟩⟩⟩⟩⟩⟩⟩⟩⟩⟩⟩⟩⟩⟩⟩⟩⟩⟩⟩⟩⟩⟩⟩⟩⟩⟩⟩⟩⟩⟩⟩⟩⟩⟩⟩⟩⟩⟩⟩⟩⟩⟩⟩⟩⟩⟩⟩⟩⟩⟩⟩⟩⟩⟩⟩
set_option maxRecDepth 100000 in
theorem cw_2600 : lw_tbl[614]? = some (Cond.code ⟨kN 13, "min", "(II)I"⟩ prog_22_method_69_code 2 (some .int)) := rfl
set_option maxRecDepth 100000 in
theorem ck_2600 : cd_2600.all (chkI 13 prog_22_method_69_code) = true := by decide +kernel
set_option maxRecDepth 100000 in
theorem cw_2601 : lw_tbl[1088]? = some (Cond.code ⟨kN 13, "max", "(II)I"⟩ prog_22_method_65_code 2 (some .int)) := rfl
set_option maxRecDepth 100000 in
theorem ck_2601 : cd_2601.all (chkI 13 prog_22_method_65_code) = true := by decide +kernel
theorem ge_13 : ∀ e ∈ mX_13, GoodE e := List.forall_mem_cons.mpr ⟨⟨List.mem_of_getElem? cw_2600, ck_2600, rfl, by decide, by decide⟩, List.forall_mem_cons.mpr ⟨⟨List.mem_of_getElem? cw_2601, ck_2601, rfl, by decide, by decide⟩, fun _ h => absurd h List.not_mem_nil⟩⟩
set_option maxRecDepth 100000 in
theorem cw_2800 : lw_tbl[1278]? = some (Cond.code ⟨kN 14, "fill", "([JJ)V"⟩ prog_31_method_101_code 5 (none)) := rfl
set_option maxRecDepth 100000 in
theorem ck_2800 : cd_2800.all (chkI 14 prog_31_method_101_code) = true := by decide +kernel
set_option maxRecDepth 100000 in
theorem cw_2801 : lw_tbl[1304]? = some (Cond.code ⟨kN 14, "fill", "([II)V"⟩ prog_31_method_103_code 4 (none)) := rfl
set_option maxRecDepth 100000 in
theorem ck_2801 : cd_2801.all (chkI 14 prog_31_method_103_code) = true := by decide +kernel
theorem ge_14 : ∀ e ∈ mX_14, GoodE e := List.forall_mem_cons.mpr ⟨⟨List.mem_of_getElem? cw_2800, ck_2800, rfl, by decide, by decide⟩, List.forall_mem_cons.mpr ⟨⟨List.mem_of_getElem? cw_2801, ck_2801, rfl, by decide, by decide⟩, fun _ h => absurd h List.not_mem_nil⟩⟩
set_option maxRecDepth 100000 in
theorem cw_3000 : lw_tbl[1409]? = some (Cond.code ⟨kN 15, "bitCount", "(I)I"⟩ prog_21_method_49_code 1 (some .int)) := rfl
set_option maxRecDepth 100000 in
theorem ck_3000 : cd_3000.all (chkI 15 prog_21_method_49_code) = true := by decide +kernel
set_option maxRecDepth 100000 in
theorem cw_3001 : lw_tbl[1419]? = some (Cond.code ⟨kN 15, "numberOfTrailingZeros", "(I)I"⟩ prog_21_method_48_code 2 (some .int)) := rfl
set_option maxRecDepth 100000 in
theorem ck_3001 : cd_3001.all (chkI 15 prog_21_method_48_code) = true := by decide +kernel
theorem ge_15 : ∀ e ∈ mX_15, GoodE e := List.forall_mem_cons.mpr ⟨⟨List.mem_of_getElem? cw_3000, ck_3000, rfl, by decide, by decide⟩, List.forall_mem_cons.mpr ⟨⟨List.mem_of_getElem? cw_3001, ck_3001, rfl, by decide, by decide⟩, fun _ h => absurd h List.not_mem_nil⟩⟩
theorem ge_all : ∀ l ∈ mXX, ∀ e ∈ l, GoodE e := List.forall_mem_cons.mpr ⟨ge_0, List.forall_mem_cons.mpr ⟨ge_1, List.forall_mem_cons.mpr ⟨ge_2, List.forall_mem_cons.mpr ⟨ge_3, List.forall_mem_cons.mpr ⟨ge_4, List.forall_mem_cons.mpr ⟨ge_5, List.forall_mem_cons.mpr ⟨ge_6, List.forall_mem_cons.mpr ⟨ge_7, List.forall_mem_cons.mpr ⟨ge_8, List.forall_mem_cons.mpr ⟨ge_9, List.forall_mem_cons.mpr ⟨ge_10, List.forall_mem_cons.mpr ⟨ge_11, List.forall_mem_cons.mpr ⟨ge_12, List.forall_mem_cons.mpr ⟨ge_13, List.forall_mem_cons.mpr ⟨ge_14, List.forall_mem_cons.mpr ⟨ge_15, fun _ h => absurd h List.not_mem_nil⟩⟩⟩⟩⟩⟩⟩⟩⟩⟩⟩⟩⟩⟩⟩⟩
theorem mX_good {M : Nat} {e : MI × List (Nat × Xi)} (h : mX M = some e) : GoodE e := by
  have h1 := List.mem_of_getElem? h
  rw [List.getD_eq_getElem?_getD] at h1
  cases hl : mXX[M / 200]? with
  | none => rw [hl] at h1; exact absurd h1 List.not_mem_nil
  | some l => rw [hl] at h1; exact ge_all l (List.mem_of_getElem? hl) e h1
