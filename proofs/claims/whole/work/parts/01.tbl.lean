-- ===== PART A: goes FIRST, ahead of the names: the tables' words, and 'selects' of the private methods out of them =====
/-- a private method of a class that the tables say can be made, by its rows of tables_1 -/
def lw_okq (q : MethodName × Nat) : Prop := (q.1.cls ≠ "java/lang/invoke/MethodHandle" ∧ q.1.cls ≠ "java/lang/invoke/VarHandle") ∧ Cond.instantiable q.1.cls q.2 ∈ tables_1 ∧ Cond.privateMethod q.1 ∈ tables_1 ∧ Cond.instanceMethod q.1 ∈ tables_1
theorem lw_p0 : lw_okq (⟨"PluginRunner", "forgetCheckAndRun", "()V"⟩, 4) := ⟨⟨by decide +kernel, by decide +kernel⟩, List.mem_of_getElem? (i := 10) (by decide +kernel), List.mem_of_getElem? (i := 212) (by decide +kernel), List.mem_of_getElem? (i := 213) (by decide +kernel)⟩
theorem lw_p1 : lw_okq (⟨"PluginRunner$Machine", "stopWaiting", "()V"⟩, 13) := ⟨⟨by decide +kernel, by decide +kernel⟩, List.mem_of_getElem? (i := 112) (by decide +kernel), List.mem_of_getElem? (i := 220) (by decide +kernel), List.mem_of_getElem? (i := 221) (by decide +kernel)⟩
theorem lw_p2 : lw_okq (⟨"PluginRunner$Checker", "goThrough", "(LPluginRunner$Function;)V"⟩, 8) := ⟨⟨by decide +kernel, by decide +kernel⟩, List.mem_of_getElem? (i := 78) (by decide +kernel), List.mem_of_getElem? (i := 252) (by decide +kernel), List.mem_of_getElem? (i := 253) (by decide +kernel)⟩
theorem lw_p3 : lw_okq (⟨"PluginRunner$Checker", "sortOf", "(LPluginRunner$Function;II)I"⟩, 8) := ⟨⟨by decide +kernel, by decide +kernel⟩, List.mem_of_getElem? (i := 78) (by decide +kernel), List.mem_of_getElem? (i := 256) (by decide +kernel), List.mem_of_getElem? (i := 257) (by decide +kernel)⟩
theorem lw_p4 : lw_okq (⟨"PluginRunner$Checker", "isArgument", "(LPluginRunner$Function;II)Z"⟩, 8) := ⟨⟨by decide +kernel, by decide +kernel⟩, List.mem_of_getElem? (i := 78) (by decide +kernel), List.mem_of_getElem? (i := 260) (by decide +kernel), List.mem_of_getElem? (i := 261) (by decide +kernel)⟩
theorem lw_p5 : lw_okq (⟨"PluginRunner$Checker", "closesWell", "()Z"⟩, 8) := ⟨⟨by decide +kernel, by decide +kernel⟩, List.mem_of_getElem? (i := 78) (by decide +kernel), List.mem_of_getElem? (i := 272) (by decide +kernel), List.mem_of_getElem? (i := 273) (by decide +kernel)⟩
theorem lw_p6 : lw_okq (⟨"PluginRunner$Checker", "leavesWell", "(LPluginRunner$Function;III)Z"⟩, 8) := ⟨⟨by decide +kernel, by decide +kernel⟩, List.mem_of_getElem? (i := 78) (by decide +kernel), List.mem_of_getElem? (i := 276) (by decide +kernel), List.mem_of_getElem? (i := 277) (by decide +kernel)⟩
theorem lw_p7 : lw_okq (⟨"PluginRunner$Checker", "pass", "(II)V"⟩, 8) := ⟨⟨by decide +kernel, by decide +kernel⟩, List.mem_of_getElem? (i := 78) (by decide +kernel), List.mem_of_getElem? (i := 280) (by decide +kernel), List.mem_of_getElem? (i := 281) (by decide +kernel)⟩
theorem lw_p8 : lw_okq (⟨"PluginRunner$Checker", "sortOfTheEnd", "(LPluginRunner$Function;)I"⟩, 8) := ⟨⟨by decide +kernel, by decide +kernel⟩, List.mem_of_getElem? (i := 78) (by decide +kernel), List.mem_of_getElem? (i := 296) (by decide +kernel), List.mem_of_getElem? (i := 297) (by decide +kernel)⟩
theorem lw_p9 : lw_okq (⟨"PluginRunner$Machine", "enter", "(I)LPluginRunner$Frame;"⟩, 13) := ⟨⟨by decide +kernel, by decide +kernel⟩, List.mem_of_getElem? (i := 112) (by decide +kernel), List.mem_of_getElem? (i := 313) (by decide +kernel), List.mem_of_getElem? (i := 314) (by decide +kernel)⟩
theorem lw_p10 : lw_okq (⟨"PluginRunner$Machine", "leaveFinished", "()V"⟩, 13) := ⟨⟨by decide +kernel, by decide +kernel⟩, List.mem_of_getElem? (i := 112) (by decide +kernel), List.mem_of_getElem? (i := 337) (by decide +kernel), List.mem_of_getElem? (i := 338) (by decide +kernel)⟩
theorem lw_p11 : lw_okq (⟨"PluginRunner$Machine", "keepResult", "(LPluginRunner$Function;)V"⟩, 13) := ⟨⟨by decide +kernel, by decide +kernel⟩, List.mem_of_getElem? (i := 112) (by decide +kernel), List.mem_of_getElem? (i := 345) (by decide +kernel), List.mem_of_getElem? (i := 346) (by decide +kernel)⟩
theorem lw_p12 : lw_okq (⟨"PluginRunner$Machine", "step", "()I"⟩, 13) := ⟨⟨by decide +kernel, by decide +kernel⟩, List.mem_of_getElem? (i := 112) (by decide +kernel), List.mem_of_getElem? (i := 350) (by decide +kernel), List.mem_of_getElem? (i := 351) (by decide +kernel)⟩
theorem lw_p13 : lw_okq (⟨"PluginRunner$Machine", "put", "(I)I"⟩, 13) := ⟨⟨by decide +kernel, by decide +kernel⟩, List.mem_of_getElem? (i := 112) (by decide +kernel), List.mem_of_getElem? (i := 354) (by decide +kernel), List.mem_of_getElem? (i := 355) (by decide +kernel)⟩
theorem lw_p14 : lw_okq (⟨"PluginRunner$Machine", "take", "()I"⟩, 13) := ⟨⟨by decide +kernel, by decide +kernel⟩, List.mem_of_getElem? (i := 112) (by decide +kernel), List.mem_of_getElem? (i := 358) (by decide +kernel), List.mem_of_getElem? (i := 359) (by decide +kernel)⟩
theorem lw_p15 : lw_okq (⟨"PluginRunner$Machine", "load", "(I)I"⟩, 13) := ⟨⟨by decide +kernel, by decide +kernel⟩, List.mem_of_getElem? (i := 112) (by decide +kernel), List.mem_of_getElem? (i := 362) (by decide +kernel), List.mem_of_getElem? (i := 363) (by decide +kernel)⟩
def lw_privs_1 : List (MethodName × Nat) := [(⟨"PluginRunner", "forgetCheckAndRun", "()V"⟩, 4), (⟨"PluginRunner$Machine", "stopWaiting", "()V"⟩, 13), (⟨"PluginRunner$Checker", "goThrough", "(LPluginRunner$Function;)V"⟩, 8), (⟨"PluginRunner$Checker", "sortOf", "(LPluginRunner$Function;II)I"⟩, 8), (⟨"PluginRunner$Checker", "isArgument", "(LPluginRunner$Function;II)Z"⟩, 8), (⟨"PluginRunner$Checker", "closesWell", "()Z"⟩, 8), (⟨"PluginRunner$Checker", "leavesWell", "(LPluginRunner$Function;III)Z"⟩, 8), (⟨"PluginRunner$Checker", "pass", "(II)V"⟩, 8), (⟨"PluginRunner$Checker", "sortOfTheEnd", "(LPluginRunner$Function;)I"⟩, 8), (⟨"PluginRunner$Machine", "enter", "(I)LPluginRunner$Frame;"⟩, 13), (⟨"PluginRunner$Machine", "leaveFinished", "()V"⟩, 13), (⟨"PluginRunner$Machine", "keepResult", "(LPluginRunner$Function;)V"⟩, 13), (⟨"PluginRunner$Machine", "step", "()I"⟩, 13), (⟨"PluginRunner$Machine", "put", "(I)I"⟩, 13), (⟨"PluginRunner$Machine", "take", "()I"⟩, 13), (⟨"PluginRunner$Machine", "load", "(I)I"⟩, 13)]
theorem lw_r1 : ∀ q ∈ lw_privs_1, lw_okq q := List.forall_mem_cons.mpr ⟨lw_p0, List.forall_mem_cons.mpr ⟨lw_p1, List.forall_mem_cons.mpr ⟨lw_p2, List.forall_mem_cons.mpr ⟨lw_p3, List.forall_mem_cons.mpr ⟨lw_p4, List.forall_mem_cons.mpr ⟨lw_p5, List.forall_mem_cons.mpr ⟨lw_p6, List.forall_mem_cons.mpr ⟨lw_p7, List.forall_mem_cons.mpr ⟨lw_p8, List.forall_mem_cons.mpr ⟨lw_p9, List.forall_mem_cons.mpr ⟨lw_p10, List.forall_mem_cons.mpr ⟨lw_p11, List.forall_mem_cons.mpr ⟨lw_p12, List.forall_mem_cons.mpr ⟨lw_p13, List.forall_mem_cons.mpr ⟨lw_p14, List.forall_mem_cons.mpr ⟨lw_p15, fun _ h => absurd h List.not_mem_nil⟩⟩⟩⟩⟩⟩⟩⟩⟩⟩⟩⟩⟩⟩⟩⟩
theorem lw_p16 : lw_okq (⟨"PluginRunner$Machine", "store", "(I)I"⟩, 13) := ⟨⟨by decide +kernel, by decide +kernel⟩, List.mem_of_getElem? (i := 112) (by decide +kernel), List.mem_of_getElem? (i := 370) (by decide +kernel), List.mem_of_getElem? (i := 371) (by decide +kernel)⟩
theorem lw_p17 : lw_okq (⟨"PluginRunner$Function", "openingOf", "(II)I"⟩, 6) := ⟨⟨by decide +kernel, by decide +kernel⟩, List.mem_of_getElem? (i := 25) (by decide +kernel), List.mem_of_getElem? (i := 378) (by decide +kernel), List.mem_of_getElem? (i := 379) (by decide +kernel)⟩
theorem lw_p18 : lw_okq (⟨"PluginRunner$Function", "behindEndOf", "(I)I"⟩, 6) := ⟨⟨by decide +kernel, by decide +kernel⟩, List.mem_of_getElem? (i := 25) (by decide +kernel), List.mem_of_getElem? (i := 383) (by decide +kernel), List.mem_of_getElem? (i := 384) (by decide +kernel)⟩
theorem lw_p19 : lw_okq (⟨"PluginRunner$Machine", "call", "(I)I"⟩, 13) := ⟨⟨by decide +kernel, by decide +kernel⟩, List.mem_of_getElem? (i := 112) (by decide +kernel), List.mem_of_getElem? (i := 387) (by decide +kernel), List.mem_of_getElem? (i := 388) (by decide +kernel)⟩
theorem lw_p20 : lw_okq (⟨"PluginRunner$Machine", "ask", "(I)I"⟩, 13) := ⟨⟨by decide +kernel, by decide +kernel⟩, List.mem_of_getElem? (i := 112) (by decide +kernel), List.mem_of_getElem? (i := 391) (by decide +kernel), List.mem_of_getElem? (i := 392) (by decide +kernel)⟩
theorem lw_p21 : lw_okq (⟨"PluginRunner$Machine", "calculate", "(I)I"⟩, 13) := ⟨⟨by decide +kernel, by decide +kernel⟩, List.mem_of_getElem? (i := 112) (by decide +kernel), List.mem_of_getElem? (i := 395) (by decide +kernel), List.mem_of_getElem? (i := 396) (by decide +kernel)⟩
theorem lw_p22 : lw_okq (⟨"PluginRunner$Machine", "divide", "(II)I"⟩, 13) := ⟨⟨by decide +kernel, by decide +kernel⟩, List.mem_of_getElem? (i := 112) (by decide +kernel), List.mem_of_getElem? (i := 399) (by decide +kernel), List.mem_of_getElem? (i := 400) (by decide +kernel)⟩
theorem lw_p23 : lw_okq (⟨"PluginRunner$Machine", "endTrapped", "()V"⟩, 13) := ⟨⟨by decide +kernel, by decide +kernel⟩, List.mem_of_getElem? (i := 112) (by decide +kernel), List.mem_of_getElem? (i := 403) (by decide +kernel), List.mem_of_getElem? (i := 404) (by decide +kernel)⟩
theorem lw_p24 : lw_okq (⟨"PluginRunnerModel", "changed", "()V"⟩, 30) := ⟨⟨by decide +kernel, by decide +kernel⟩, List.mem_of_getElem? (i := 441) (by decide +kernel), List.mem_of_getElem? (i := 542) (by decide +kernel), List.mem_of_getElem? (i := 543) (by decide +kernel)⟩
theorem lw_p25 : lw_okq (⟨"PluginRunnerModel", "no", "(I)Z"⟩, 30) := ⟨⟨by decide +kernel, by decide +kernel⟩, List.mem_of_getElem? (i := 441) (by decide +kernel), List.mem_of_getElem? (i := 550) (by decide +kernel), List.mem_of_getElem? (i := 551) (by decide +kernel)⟩
theorem lw_p26 : lw_okq (⟨"PluginRunnerModel", "checkOne", "(I)I"⟩, 30) := ⟨⟨by decide +kernel, by decide +kernel⟩, List.mem_of_getElem? (i := 441) (by decide +kernel), List.mem_of_getElem? (i := 562) (by decide +kernel), List.mem_of_getElem? (i := 563) (by decide +kernel)⟩
theorem lw_p27 : lw_okq (⟨"PluginRunnerModel", "examine", "(II)I"⟩, 30) := ⟨⟨by decide +kernel, by decide +kernel⟩, List.mem_of_getElem? (i := 441) (by decide +kernel), List.mem_of_getElem? (i := 566) (by decide +kernel), List.mem_of_getElem? (i := 567) (by decide +kernel)⟩
theorem lw_p28 : lw_okq (⟨"PluginRunnerModel", "badArgument", "(III)Z"⟩, 30) := ⟨⟨by decide +kernel, by decide +kernel⟩, List.mem_of_getElem? (i := 441) (by decide +kernel), List.mem_of_getElem? (i := 570) (by decide +kernel), List.mem_of_getElem? (i := 571) (by decide +kernel)⟩
theorem lw_p29 : lw_okq (⟨"PluginRunnerModel", "taken", "(II)I"⟩, 30) := ⟨⟨by decide +kernel, by decide +kernel⟩, List.mem_of_getElem? (i := 441) (by decide +kernel), List.mem_of_getElem? (i := 574) (by decide +kernel), List.mem_of_getElem? (i := 575) (by decide +kernel)⟩
theorem lw_p30 : lw_okq (⟨"PluginRunnerModel", "put", "(II)I"⟩, 30) := ⟨⟨by decide +kernel, by decide +kernel⟩, List.mem_of_getElem? (i := 441) (by decide +kernel), List.mem_of_getElem? (i := 578) (by decide +kernel), List.mem_of_getElem? (i := 579) (by decide +kernel)⟩
theorem lw_p31 : lw_okq (⟨"PluginRunnerModel", "enter", "(I)V"⟩, 30) := ⟨⟨by decide +kernel, by decide +kernel⟩, List.mem_of_getElem? (i := 441) (by decide +kernel), List.mem_of_getElem? (i := 590) (by decide +kernel), List.mem_of_getElem? (i := 591) (by decide +kernel)⟩
def lw_privs_2 : List (MethodName × Nat) := [(⟨"PluginRunner$Machine", "store", "(I)I"⟩, 13), (⟨"PluginRunner$Function", "openingOf", "(II)I"⟩, 6), (⟨"PluginRunner$Function", "behindEndOf", "(I)I"⟩, 6), (⟨"PluginRunner$Machine", "call", "(I)I"⟩, 13), (⟨"PluginRunner$Machine", "ask", "(I)I"⟩, 13), (⟨"PluginRunner$Machine", "calculate", "(I)I"⟩, 13), (⟨"PluginRunner$Machine", "divide", "(II)I"⟩, 13), (⟨"PluginRunner$Machine", "endTrapped", "()V"⟩, 13), (⟨"PluginRunnerModel", "changed", "()V"⟩, 30), (⟨"PluginRunnerModel", "no", "(I)Z"⟩, 30), (⟨"PluginRunnerModel", "checkOne", "(I)I"⟩, 30), (⟨"PluginRunnerModel", "examine", "(II)I"⟩, 30), (⟨"PluginRunnerModel", "badArgument", "(III)Z"⟩, 30), (⟨"PluginRunnerModel", "taken", "(II)I"⟩, 30), (⟨"PluginRunnerModel", "put", "(II)I"⟩, 30), (⟨"PluginRunnerModel", "enter", "(I)V"⟩, 30)]
theorem lw_r2 : ∀ q ∈ lw_privs_2, lw_okq q := List.forall_mem_cons.mpr ⟨lw_p16, List.forall_mem_cons.mpr ⟨lw_p17, List.forall_mem_cons.mpr ⟨lw_p18, List.forall_mem_cons.mpr ⟨lw_p19, List.forall_mem_cons.mpr ⟨lw_p20, List.forall_mem_cons.mpr ⟨lw_p21, List.forall_mem_cons.mpr ⟨lw_p22, List.forall_mem_cons.mpr ⟨lw_p23, List.forall_mem_cons.mpr ⟨lw_p24, List.forall_mem_cons.mpr ⟨lw_p25, List.forall_mem_cons.mpr ⟨lw_p26, List.forall_mem_cons.mpr ⟨lw_p27, List.forall_mem_cons.mpr ⟨lw_p28, List.forall_mem_cons.mpr ⟨lw_p29, List.forall_mem_cons.mpr ⟨lw_p30, List.forall_mem_cons.mpr ⟨lw_p31, fun _ h => absurd h List.not_mem_nil⟩⟩⟩⟩⟩⟩⟩⟩⟩⟩⟩⟩⟩⟩⟩⟩
theorem lw_p32 : lw_okq (⟨"PluginRunnerModel", "leave", "()V"⟩, 30) := ⟨⟨by decide +kernel, by decide +kernel⟩, List.mem_of_getElem? (i := 441) (by decide +kernel), List.mem_of_getElem? (i := 598) (by decide +kernel), List.mem_of_getElem? (i := 599) (by decide +kernel)⟩
theorem lw_p33 : lw_okq (⟨"PluginRunnerModel", "pop", "()I"⟩, 30) := ⟨⟨by decide +kernel, by decide +kernel⟩, List.mem_of_getElem? (i := 441) (by decide +kernel), List.mem_of_getElem? (i := 602) (by decide +kernel), List.mem_of_getElem? (i := 603) (by decide +kernel)⟩
theorem lw_p34 : lw_okq (⟨"PluginRunnerModel", "step", "()V"⟩, 30) := ⟨⟨by decide +kernel, by decide +kernel⟩, List.mem_of_getElem? (i := 441) (by decide +kernel), List.mem_of_getElem? (i := 606) (by decide +kernel), List.mem_of_getElem? (i := 607) (by decide +kernel)⟩
theorem lw_p35 : lw_okq (⟨"PluginRunnerModel", "push", "(I)V"⟩, 30) := ⟨⟨by decide +kernel, by decide +kernel⟩, List.mem_of_getElem? (i := 441) (by decide +kernel), List.mem_of_getElem? (i := 610) (by decide +kernel), List.mem_of_getElem? (i := 611) (by decide +kernel)⟩
theorem lw_p36 : lw_okq (⟨"PluginRunnerModel", "arithmetic", "(I)V"⟩, 30) := ⟨⟨by decide +kernel, by decide +kernel⟩, List.mem_of_getElem? (i := 441) (by decide +kernel), List.mem_of_getElem? (i := 614) (by decide +kernel), List.mem_of_getElem? (i := 615) (by decide +kernel)⟩
theorem lw_p37 : lw_okq (⟨"PluginRunnerModel", "store", "(II)V"⟩, 30) := ⟨⟨by decide +kernel, by decide +kernel⟩, List.mem_of_getElem? (i := 441) (by decide +kernel), List.mem_of_getElem? (i := 619) (by decide +kernel), List.mem_of_getElem? (i := 620) (by decide +kernel)⟩
theorem lw_p38 : lw_okq (⟨"PluginRunnerModel", "branch", "(III)V"⟩, 30) := ⟨⟨by decide +kernel, by decide +kernel⟩, List.mem_of_getElem? (i := 441) (by decide +kernel), List.mem_of_getElem? (i := 624) (by decide +kernel), List.mem_of_getElem? (i := 625) (by decide +kernel)⟩
theorem lw_p39 : lw_okq (⟨"PluginRunnerModel", "call", "(I)V"⟩, 30) := ⟨⟨by decide +kernel, by decide +kernel⟩, List.mem_of_getElem? (i := 441) (by decide +kernel), List.mem_of_getElem? (i := 628) (by decide +kernel), List.mem_of_getElem? (i := 629) (by decide +kernel)⟩
theorem lw_p40 : lw_okq (⟨"PluginRunnerModel", "ask", "(I)V"⟩, 30) := ⟨⟨by decide +kernel, by decide +kernel⟩, List.mem_of_getElem? (i := 441) (by decide +kernel), List.mem_of_getElem? (i := 632) (by decide +kernel), List.mem_of_getElem? (i := 633) (by decide +kernel)⟩
def lw_privs_3 : List (MethodName × Nat) := [(⟨"PluginRunnerModel", "leave", "()V"⟩, 30), (⟨"PluginRunnerModel", "pop", "()I"⟩, 30), (⟨"PluginRunnerModel", "step", "()V"⟩, 30), (⟨"PluginRunnerModel", "push", "(I)V"⟩, 30), (⟨"PluginRunnerModel", "arithmetic", "(I)V"⟩, 30), (⟨"PluginRunnerModel", "store", "(II)V"⟩, 30), (⟨"PluginRunnerModel", "branch", "(III)V"⟩, 30), (⟨"PluginRunnerModel", "call", "(I)V"⟩, 30), (⟨"PluginRunnerModel", "ask", "(I)V"⟩, 30)]
theorem lw_r3 : ∀ q ∈ lw_privs_3, lw_okq q := List.forall_mem_cons.mpr ⟨lw_p32, List.forall_mem_cons.mpr ⟨lw_p33, List.forall_mem_cons.mpr ⟨lw_p34, List.forall_mem_cons.mpr ⟨lw_p35, List.forall_mem_cons.mpr ⟨lw_p36, List.forall_mem_cons.mpr ⟨lw_p37, List.forall_mem_cons.mpr ⟨lw_p38, List.forall_mem_cons.mpr ⟨lw_p39, List.forall_mem_cons.mpr ⟨lw_p40, fun _ h => absurd h List.not_mem_nil⟩⟩⟩⟩⟩⟩⟩⟩⟩
def lw_privs : List (MethodName × Nat) := lw_privs_1 ++ (lw_privs_2 ++ (lw_privs_3))
def lw_tbl : List Cond := k2_sels lw_privs ++ tables_1
theorem lw_privs_ok : ∀ q ∈ lw_privs, lw_okq q := by
  show ∀ q ∈ lw_privs_1 ++ (lw_privs_2 ++ (lw_privs_3)), lw_okq q
  exact List.forall_mem_append.mpr ⟨lw_r1, List.forall_mem_append.mpr ⟨lw_r2, lw_r3⟩⟩
-- names, by wip/whole/g01.py
abbrev R_PR : String := "PluginRunner"
abbrev R_Pg : String := "PluginRunner$Program"
abbrev R_Fn : String := "PluginRunner$Function"
abbrev R_Ck : String := "PluginRunner$Checker"
abbrev R_Mc : String := "PluginRunner$Machine"
abbrev R_Fr : String := "PluginRunner$Frame"
abbrev R_Op : String := "PluginRunner$Op"
abbrev R_Mo : String := "PluginRunnerModel"
abbrev R_Law : String := "PluginRunnerLaw"
abbrev R_Ft : String := "PluginRunner$Fault"
abbrev y_PR_init : MethodName := ⟨"PluginRunner", "<init>", "()V"⟩
abbrev y_Obj_init : MethodName := ⟨"java/lang/Object", "<init>", "()V"⟩
abbrev y_Pg_init : MethodName := ⟨"PluginRunner$Program", "<init>", "()V"⟩
abbrev y_Fn_init : MethodName := ⟨"PluginRunner$Function", "<init>", "()V"⟩
abbrev y_Ck_init : MethodName := ⟨"PluginRunner$Checker", "<init>", "(LPluginRunner$Program;)V"⟩
abbrev y_Mc_init : MethodName := ⟨"PluginRunner$Machine", "<init>", "(LPluginRunner$Program;)V"⟩
abbrev y_Fr_init : MethodName := ⟨"PluginRunner$Frame", "<init>", "()V"⟩
abbrev y_PR_function : MethodName := ⟨"PluginRunner", "function", "(III)I"⟩
abbrev y_PR_within : MethodName := ⟨"PluginRunner", "within", "(II)Z"⟩
abbrev y_PR_forgetCheckAndRun : MethodName := ⟨"PluginRunner", "forgetCheckAndRun", "()V"⟩
abbrev y_Mc_dropRun : MethodName := ⟨"PluginRunner$Machine", "dropRun", "()V"⟩
abbrev y_Mc_stopWaiting : MethodName := ⟨"PluginRunner$Machine", "stopWaiting", "()V"⟩
abbrev y_Pg_add : MethodName := ⟨"PluginRunner$Program", "add", "(III)I"⟩
abbrev y_PR_emit : MethodName := ⟨"PluginRunner", "emit", "(III)I"⟩
abbrev y_Pg_has : MethodName := ⟨"PluginRunner$Program", "has", "(I)Z"⟩
abbrev y_Fn_add : MethodName := ⟨"PluginRunner$Function", "add", "(II)I"⟩
abbrev y_PR_erase : MethodName := ⟨"PluginRunner", "erase", "(I)I"⟩
abbrev y_PR_check : MethodName := ⟨"PluginRunner", "check", "()I"⟩
abbrev y_Ck_goThroughAll : MethodName := ⟨"PluginRunner$Checker", "goThroughAll", "()V"⟩
abbrev y_Ck_goThrough : MethodName := ⟨"PluginRunner$Checker", "goThrough", "(LPluginRunner$Function;)V"⟩
abbrev y_Ck_sortOf : MethodName := ⟨"PluginRunner$Checker", "sortOf", "(LPluginRunner$Function;II)I"⟩
abbrev y_Ck_isArgument : MethodName := ⟨"PluginRunner$Checker", "isArgument", "(LPluginRunner$Function;II)Z"⟩
abbrev y_Pg_taken : MethodName := ⟨"PluginRunner$Program", "taken", "(II)I"⟩
abbrev y_Ck_closesWell : MethodName := ⟨"PluginRunner$Checker", "closesWell", "()Z"⟩
abbrev y_Ck_leavesWell : MethodName := ⟨"PluginRunner$Checker", "leavesWell", "(LPluginRunner$Function;III)Z"⟩
abbrev y_Ck_pass : MethodName := ⟨"PluginRunner$Checker", "pass", "(II)V"⟩
abbrev y_Pg_put : MethodName := ⟨"PluginRunner$Program", "put", "(II)I"⟩
abbrev y_Op_neverGoesOn : MethodName := ⟨"PluginRunner$Op", "neverGoesOn", "(I)Z"⟩
abbrev y_Op_opensPart : MethodName := ⟨"PluginRunner$Op", "opensPart", "(I)Z"⟩
abbrev y_Ck_sortOfTheEnd : MethodName := ⟨"PluginRunner$Checker", "sortOfTheEnd", "(LPluginRunner$Function;)I"⟩
abbrev y_PR_fault : MethodName := ⟨"PluginRunner", "fault", "()I"⟩
abbrev y_PR_start : MethodName := ⟨"PluginRunner", "start", "(III)I"⟩
abbrev y_Mc_begin : MethodName := ⟨"PluginRunner$Machine", "begin", "(III)V"⟩
abbrev y_Mc_enter : MethodName := ⟨"PluginRunner$Machine", "enter", "(I)LPluginRunner$Frame;"⟩
abbrev y_Fr_begin : MethodName := ⟨"PluginRunner$Frame", "begin", "(I)V"⟩
abbrev y_PR_resume : MethodName := ⟨"PluginRunner", "resume", "(I)I"⟩
abbrev y_Mc_isUnderWay : MethodName := ⟨"PluginRunner$Machine", "isUnderWay", "()Z"⟩
abbrev y_Mc_isWaiting : MethodName := ⟨"PluginRunner$Machine", "isWaiting", "()Z"⟩
abbrev y_Mc_go : MethodName := ⟨"PluginRunner$Machine", "go", "(I)I"⟩
abbrev y_Mc_leaveFinished : MethodName := ⟨"PluginRunner$Machine", "leaveFinished", "()V"⟩
abbrev y_Mc_innermost : MethodName := ⟨"PluginRunner$Machine", "innermost", "()LPluginRunner$Frame;"⟩
abbrev y_Mc_keepResult : MethodName := ⟨"PluginRunner$Machine", "keepResult", "(LPluginRunner$Function;)V"⟩
abbrev y_Mc_step : MethodName := ⟨"PluginRunner$Machine", "step", "()I"⟩
abbrev y_Mc_put : MethodName := ⟨"PluginRunner$Machine", "put", "(I)I"⟩
abbrev y_Mc_take : MethodName := ⟨"PluginRunner$Machine", "take", "()I"⟩
abbrev y_Mc_load : MethodName := ⟨"PluginRunner$Machine", "load", "(I)I"⟩
abbrev y_Mc_isCell : MethodName := ⟨"PluginRunner$Machine", "isCell", "(J)Z"⟩
abbrev y_Mc_store : MethodName := ⟨"PluginRunner$Machine", "store", "(I)I"⟩
abbrev y_Fn_target : MethodName := ⟨"PluginRunner$Function", "target", "(II)I"⟩
abbrev y_Fn_openingOf : MethodName := ⟨"PluginRunner$Function", "openingOf", "(II)I"⟩
abbrev y_Fn_behindEndOf : MethodName := ⟨"PluginRunner$Function", "behindEndOf", "(I)I"⟩
abbrev y_Mc_call : MethodName := ⟨"PluginRunner$Machine", "call", "(I)I"⟩
abbrev y_Mc_ask : MethodName := ⟨"PluginRunner$Machine", "ask", "(I)I"⟩
abbrev y_Mc_calculate : MethodName := ⟨"PluginRunner$Machine", "calculate", "(I)I"⟩
abbrev y_Mc_divide : MethodName := ⟨"PluginRunner$Machine", "divide", "(II)I"⟩
abbrev y_Mc_endTrapped : MethodName := ⟨"PluginRunner$Machine", "endTrapped", "()V"⟩
abbrev y_PR_reply : MethodName := ⟨"PluginRunner", "reply", "(I)I"⟩
abbrev y_Mc_takeAnswer : MethodName := ⟨"PluginRunner$Machine", "takeAnswer", "(I)V"⟩
abbrev y_PR_grant : MethodName := ⟨"PluginRunner", "grant", "(IZ)I"⟩
abbrev y_PR_result : MethodName := ⟨"PluginRunner", "result", "()J"⟩
abbrev y_PR_memory : MethodName := ⟨"PluginRunner", "memory", "(I)J"⟩
abbrev y_PR_poke : MethodName := ⟨"PluginRunner", "poke", "(II)I"⟩
abbrev y_PR_state : MethodName := ⟨"PluginRunner", "state", "(I)I"⟩
abbrev y_PR_count : MethodName := ⟨"PluginRunner", "count", "(I)I"⟩
abbrev y_Mo_init : MethodName := ⟨"PluginRunnerModel", "<init>", "()V"⟩
abbrev y_Mo_function : MethodName := ⟨"PluginRunnerModel", "function", "(III)I"⟩
abbrev y_Mo_changed : MethodName := ⟨"PluginRunnerModel", "changed", "()V"⟩
abbrev y_Mo_emit : MethodName := ⟨"PluginRunnerModel", "emit", "(III)I"⟩
abbrev y_Mo_no : MethodName := ⟨"PluginRunnerModel", "no", "(I)Z"⟩
abbrev y_Mo_erase : MethodName := ⟨"PluginRunnerModel", "erase", "(I)I"⟩
abbrev y_Mo_check : MethodName := ⟨"PluginRunnerModel", "check", "()I"⟩
abbrev y_Mo_checkOne : MethodName := ⟨"PluginRunnerModel", "checkOne", "(I)I"⟩
abbrev y_Mo_examine : MethodName := ⟨"PluginRunnerModel", "examine", "(II)I"⟩
abbrev y_Mo_badArgument : MethodName := ⟨"PluginRunnerModel", "badArgument", "(III)Z"⟩
abbrev y_Mo_taken : MethodName := ⟨"PluginRunnerModel", "taken", "(II)I"⟩
abbrev y_Mo_put : MethodName := ⟨"PluginRunnerModel", "put", "(II)I"⟩
abbrev y_Mo_fault : MethodName := ⟨"PluginRunnerModel", "fault", "()I"⟩
abbrev y_Mo_start : MethodName := ⟨"PluginRunnerModel", "start", "(III)I"⟩
abbrev y_Mo_enter : MethodName := ⟨"PluginRunnerModel", "enter", "(I)V"⟩
abbrev y_Mo_resume : MethodName := ⟨"PluginRunnerModel", "resume", "(I)I"⟩
abbrev y_Mo_leave : MethodName := ⟨"PluginRunnerModel", "leave", "()V"⟩
abbrev y_Mo_pop : MethodName := ⟨"PluginRunnerModel", "pop", "()I"⟩
abbrev y_Mo_step : MethodName := ⟨"PluginRunnerModel", "step", "()V"⟩
abbrev y_Mo_push : MethodName := ⟨"PluginRunnerModel", "push", "(I)V"⟩
abbrev y_Mo_arithmetic : MethodName := ⟨"PluginRunnerModel", "arithmetic", "(I)V"⟩
abbrev y_Mo_store : MethodName := ⟨"PluginRunnerModel", "store", "(II)V"⟩
abbrev y_Mo_branch : MethodName := ⟨"PluginRunnerModel", "branch", "(III)V"⟩
abbrev y_Mo_call : MethodName := ⟨"PluginRunnerModel", "call", "(I)V"⟩
abbrev y_Mo_ask : MethodName := ⟨"PluginRunnerModel", "ask", "(I)V"⟩
abbrev y_Mo_reply : MethodName := ⟨"PluginRunnerModel", "reply", "(I)I"⟩
abbrev y_Mo_grant : MethodName := ⟨"PluginRunnerModel", "grant", "(IZ)I"⟩
abbrev y_Mo_result : MethodName := ⟨"PluginRunnerModel", "result", "()J"⟩
abbrev y_Mo_memory : MethodName := ⟨"PluginRunnerModel", "memory", "(I)J"⟩
abbrev y_Mo_poke : MethodName := ⟨"PluginRunnerModel", "poke", "(II)I"⟩
abbrev y_Mo_state : MethodName := ⟨"PluginRunnerModel", "state", "(I)I"⟩
abbrev y_Mo_count : MethodName := ⟨"PluginRunnerModel", "count", "(I)I"⟩
def T_PR : u_T := fun k => match k with
  | 0 => ("PluginRunner", "program", "LPluginRunner$Program;", true)
  | 1 => ("PluginRunner", "checker", "LPluginRunner$Checker;", true)
  | 2 => ("PluginRunner", "machine", "LPluginRunner$Machine;", true)
  | _ => ("PluginRunner", "checked", "Z", false)
def ty_PR : Nat → FieldType := fun k => match k with
  | 0 => .object "PluginRunner$Program"
  | 1 => .object "PluginRunner$Checker"
  | 2 => .object "PluginRunner$Machine"
  | _ => .boolean
theorem nm_PR : ∀ a, a < 4 → ∀ b, b < 4 → a ≠ b → (T_PR a).2.1 ≠ (T_PR b).2.1 := by decide +kernel
theorem ty_PR_ok : ∀ k, k < 4 → parseFieldDescriptor (T_PR k).2.2.1 = some (ty_PR k) := by decide +kernel
def T_Pg : u_T := fun k => match k with
  | 0 => ("PluginRunner$Program", "functions", "[LPluginRunner$Function;", true)
  | _ => ("PluginRunner$Program", "size", "I", false)
def ty_Pg : Nat → FieldType := fun k => match k with
  | 0 => .array (.object "PluginRunner$Function")
  | _ => .int
theorem nm_Pg : ∀ a, a < 2 → ∀ b, b < 2 → a ≠ b → (T_Pg a).2.1 ≠ (T_Pg b).2.1 := by decide +kernel
theorem ty_Pg_ok : ∀ k, k < 2 → parseFieldDescriptor (T_Pg k).2.2.1 = some (ty_Pg k) := by decide +kernel
def T_Fn : u_T := fun k => match k with
  | 0 => ("PluginRunner$Function", "ops", "[I", true)
  | 1 => ("PluginRunner$Function", "arguments", "[I", true)
  | 2 => ("PluginRunner$Function", "length", "I", false)
  | 3 => ("PluginRunner$Function", "takes", "I", false)
  | 4 => ("PluginRunner$Function", "gives", "I", false)
  | _ => ("PluginRunner$Function", "locals", "I", false)
def ty_Fn : Nat → FieldType := fun k => match k with
  | 0 => .array .int
  | 1 => .array .int
  | 2 => .int
  | 3 => .int
  | 4 => .int
  | _ => .int
theorem nm_Fn : ∀ a, a < 6 → ∀ b, b < 6 → a ≠ b → (T_Fn a).2.1 ≠ (T_Fn b).2.1 := by decide +kernel
theorem ty_Fn_ok : ∀ k, k < 6 → parseFieldDescriptor (T_Fn k).2.2.1 = some (ty_Fn k) := by decide +kernel
def T_Ck : u_T := fun k => match k with
  | 0 => ("PluginRunner$Checker", "program", "LPluginRunner$Program;", true)
  | 1 => ("PluginRunner$Checker", "bases", "[I", true)
  | 2 => ("PluginRunner$Checker", "open", "I", false)
  | 3 => ("PluginRunner$Checker", "height", "I", false)
  | 4 => ("PluginRunner$Checker", "behindLeaving", "Z", false)
  | 5 => ("PluginRunner$Checker", "sort", "I", false)
  | 6 => ("PluginRunner$Checker", "faultyFunction", "I", false)
  | _ => ("PluginRunner$Checker", "faultyInstruction", "I", false)
def ty_Ck : Nat → FieldType := fun k => match k with
  | 0 => .object "PluginRunner$Program"
  | 1 => .array .int
  | 2 => .int
  | 3 => .int
  | 4 => .boolean
  | 5 => .int
  | 6 => .int
  | _ => .int
theorem nm_Ck : ∀ a, a < 8 → ∀ b, b < 8 → a ≠ b → (T_Ck a).2.1 ≠ (T_Ck b).2.1 := by decide +kernel
theorem ty_Ck_ok : ∀ k, k < 8 → parseFieldDescriptor (T_Ck k).2.2.1 = some (ty_Ck k) := by decide +kernel
def T_Mc : u_T := fun k => match k with
  | 0 => ("PluginRunner$Machine", "program", "LPluginRunner$Program;", true)
  | 1 => ("PluginRunner$Machine", "frames", "[LPluginRunner$Frame;", true)
  | 2 => ("PluginRunner$Machine", "stack", "[I", true)
  | 3 => ("PluginRunner$Machine", "cells", "[I", true)
  | 4 => ("PluginRunner$Machine", "granted", "[Z", true)
  | 5 => ("PluginRunner$Machine", "depth", "I", false)
  | 6 => ("PluginRunner$Machine", "values", "I", false)
  | 7 => ("PluginRunner$Machine", "waitsFor", "I", false)
  | 8 => ("PluginRunner$Machine", "asked", "I", false)
  | 9 => ("PluginRunner$Machine", "fuelUsed", "I", false)
  | 10 => ("PluginRunner$Machine", "runsEnded", "I", false)
  | 11 => ("PluginRunner$Machine", "runsTrapped", "I", false)
  | _ => ("PluginRunner$Machine", "latestResult", "J", false)
def ty_Mc : Nat → FieldType := fun k => match k with
  | 0 => .object "PluginRunner$Program"
  | 1 => .array (.object "PluginRunner$Frame")
  | 2 => .array .int
  | 3 => .array .int
  | 4 => .array .boolean
  | 5 => .int
  | 6 => .int
  | 7 => .int
  | 8 => .int
  | 9 => .int
  | 10 => .int
  | 11 => .int
  | _ => .long
theorem nm_Mc : ∀ a, a < 13 → ∀ b, b < 13 → a ≠ b → (T_Mc a).2.1 ≠ (T_Mc b).2.1 := by decide +kernel
theorem ty_Mc_ok : ∀ k, k < 13 → parseFieldDescriptor (T_Mc k).2.2.1 = some (ty_Mc k) := by decide +kernel
def T_Fr : u_T := fun k => match k with
  | 0 => ("PluginRunner$Frame", "locals", "[I", true)
  | 1 => ("PluginRunner$Frame", "number", "I", false)
  | _ => ("PluginRunner$Frame", "next", "I", false)
def ty_Fr : Nat → FieldType := fun k => match k with
  | 0 => .array .int
  | 1 => .int
  | _ => .int
theorem nm_Fr : ∀ a, a < 3 → ∀ b, b < 3 → a ≠ b → (T_Fr a).2.1 ≠ (T_Fr b).2.1 := by decide +kernel
theorem ty_Fr_ok : ∀ k, k < 3 → parseFieldDescriptor (T_Fr k).2.2.1 = some (ty_Fr k) := by decide +kernel
def T_Mo : u_T := fun k => match k with
  | 0 => ("PluginRunnerModel", "takes", "[I", true)
  | 1 => ("PluginRunnerModel", "gives", "[I", true)
  | 2 => ("PluginRunnerModel", "more", "[I", true)
  | 3 => ("PluginRunnerModel", "length", "[I", true)
  | 4 => ("PluginRunnerModel", "op", "[I", true)
  | 5 => ("PluginRunnerModel", "arg", "[I", true)
  | 6 => ("PluginRunnerModel", "functions", "I", false)
  | 7 => ("PluginRunnerModel", "fault", "I", false)
  | 8 => ("PluginRunnerModel", "checked", "Z", false)
  | 9 => ("PluginRunnerModel", "opened", "[I", true)
  | 10 => ("PluginRunnerModel", "base", "[I", true)
  | 11 => ("PluginRunnerModel", "open", "I", false)
  | 12 => ("PluginRunnerModel", "height", "I", false)
  | 13 => ("PluginRunnerModel", "dead", "Z", false)
  | 14 => ("PluginRunnerModel", "running", "[I", true)
  | 15 => ("PluginRunnerModel", "next", "[I", true)
  | 16 => ("PluginRunnerModel", "locals", "[I", true)
  | 17 => ("PluginRunnerModel", "stack", "[I", true)
  | 18 => ("PluginRunnerModel", "depth", "I", false)
  | 19 => ("PluginRunnerModel", "size", "I", false)
  | 20 => ("PluginRunnerModel", "waits", "I", false)
  | 21 => ("PluginRunnerModel", "askedWith", "I", false)
  | 22 => ("PluginRunnerModel", "trap", "I", false)
  | 23 => ("PluginRunnerModel", "cells", "[I", true)
  | 24 => ("PluginRunnerModel", "granted", "[Z", true)
  | 25 => ("PluginRunnerModel", "hasResult", "Z", false)
  | 26 => ("PluginRunnerModel", "result", "I", false)
  | 27 => ("PluginRunnerModel", "fuelUsed", "I", false)
  | 28 => ("PluginRunnerModel", "ended", "I", false)
  | _ => ("PluginRunnerModel", "trapped", "I", false)
def ty_Mo : Nat → FieldType := fun k => match k with
  | 0 => .array .int
  | 1 => .array .int
  | 2 => .array .int
  | 3 => .array .int
  | 4 => .array .int
  | 5 => .array .int
  | 6 => .int
  | 7 => .int
  | 8 => .boolean
  | 9 => .array .int
  | 10 => .array .int
  | 11 => .int
  | 12 => .int
  | 13 => .boolean
  | 14 => .array .int
  | 15 => .array .int
  | 16 => .array .int
  | 17 => .array .int
  | 18 => .int
  | 19 => .int
  | 20 => .int
  | 21 => .int
  | 22 => .int
  | 23 => .array .int
  | 24 => .array .boolean
  | 25 => .boolean
  | 26 => .int
  | 27 => .int
  | 28 => .int
  | _ => .int
theorem nm_Mo : ∀ a, a < 30 → ∀ b, b < 30 → a ≠ b → (T_Mo a).2.1 ≠ (T_Mo b).2.1 := by decide +kernel
theorem ty_Mo_ok : ∀ k, k < 30 → parseFieldDescriptor (T_Mo k).2.2.1 = some (ty_Mo k) := by decide +kernel
abbrev vcl : List vw_C := [(R_PR, T_PR, 4), (R_Pg, T_Pg, 2), (R_Fn, T_Fn, 6), (R_Ck, T_Ck, 8), (R_Mc, T_Mc, 13), (R_Fr, T_Fr, 3), (R_Mo, T_Mo, 30)]
/-- the good words of the tables: one list for all methods -/
def TBL : List Cond := lw_tbl.filter goodWord
theorem inT {w : Cond} (i : Nat) (h : lw_tbl[i]? = some w) (hg : goodWord w = true) : w ∈ TBL := List.mem_filter.mpr ⟨List.mem_of_getElem? h, hg⟩
theorem inG {w : Cond} (h : w ∈ TBL) : goodWord w = true := (List.mem_filter.mp h).2
theorem inL {w : Cond} (h : w ∈ TBL) : w ∈ lw_tbl := (List.mem_filter.mp h).1
theorem goodT {ws : List Cond} (h : ∀ w ∈ ws, w ∈ TBL) : GoodIn TBL ws := fun w hw => ⟨h w hw, good_of_word (inG (h w hw))⟩
theorem inTs (ps : List Nat) (ws : List Cond) (h : ws.map some = ps.map (fun i => lw_tbl[i]?)) (hg : ws.all goodWord = true) : ∀ w ∈ ws, w ∈ TBL := by
  intro w hw
  have h1 : some w ∈ ws.map some := List.mem_map.mpr ⟨w, hw, rfl⟩
  rw [h] at h1
  obtain ⟨i, -, hi⟩ := List.mem_map.mp h1
  exact inT i hi (List.all_eq_true.mp hg w hw)
theorem in_PR : ∀ w ∈ u_ws R_PR T_PR 4, w ∈ TBL := inTs [236, 238, 240, 242] _ (by decide +kernel) (by decide +kernel)
theorem in_Pg : ∀ w ∈ u_ws R_Pg T_Pg 2, w ∈ TBL := inTs [113, 115] _ (by decide +kernel) (by decide +kernel)
theorem in_Fn : ∀ w ∈ u_ws R_Fn T_Fn 6, w ∈ TBL := inTs [92, 94, 96, 98, 100, 102] _ (by decide +kernel) (by decide +kernel)
theorem in_Ck : ∀ w ∈ u_ws R_Ck T_Ck 8, w ∈ TBL := inTs [135, 137, 139, 141, 143, 145, 147, 149] _ (by decide +kernel) (by decide +kernel)
theorem in_Mc : ∀ w ∈ u_ws R_Mc T_Mc 13, w ∈ TBL := inTs [205, 207, 209, 211, 213, 215, 217, 219, 221, 223, 225, 227, 229] _ (by decide +kernel) (by decide +kernel)
theorem in_Fr : ∀ w ∈ u_ws R_Fr T_Fr 3, w ∈ TBL := inTs [174, 176, 178] _ (by decide +kernel) (by decide +kernel)
theorem in_Mo : ∀ w ∈ u_ws R_Mo T_Mo 30, w ∈ TBL := inTs [517, 519, 521, 523, 525, 527, 529, 531, 533, 535, 537, 539, 541, 543, 545, 547, 549, 551, 553, 555, 557, 559, 561, 563, 565, 567, 569, 571, 573, 575] _ (by decide +kernel) (by decide +kernel)
theorem q_0 : Cond.initialized "PluginRunnerLaw" ∈ TBL := inT 41 (by decide +kernel) rfl
theorem q_1 : Cond.initialized "PluginRunner" ∈ TBL := inT 42 (by decide +kernel) rfl
theorem q_2 : Cond.initialized "PluginRunner$Program" ∈ TBL := inT 43 (by decide +kernel) rfl
theorem q_3 : Cond.initialized "PluginRunner$Function" ∈ TBL := inT 44 (by decide +kernel) rfl
theorem q_4 : Cond.initialized "PluginRunner$Checker" ∈ TBL := inT 45 (by decide +kernel) rfl
theorem q_5 : Cond.initialized "PluginRunner$Machine" ∈ TBL := inT 46 (by decide +kernel) rfl
theorem q_6 : Cond.initialized "PluginRunner$Frame" ∈ TBL := inT 47 (by decide +kernel) rfl
theorem q_7 : Cond.initialized "PluginRunnerModel" ∈ TBL := inT 48 (by decide +kernel) rfl
theorem q_8 : Cond.initialized "PluginRunner$Op" ∈ TBL := inT 49 (by decide +kernel) rfl
theorem q_9 : Cond.classLink "PluginRunnerLaw" 7 "PluginRunner" ∈ TBL := inT 50 (by decide +kernel) rfl
theorem q_10 : Cond.instantiable "PluginRunner" 4 ∈ TBL := inT 51 (by decide +kernel) rfl
theorem q_11 : Cond.methodLink "PluginRunnerLaw" 9 y_PR_init ∈ TBL := inT 52 (by decide +kernel) rfl
theorem q_12 : Cond.instanceMethod y_PR_init ∈ TBL := inT 53 (by decide +kernel) rfl
set_option maxRecDepth 100000 in
theorem q_13 : Cond.code y_PR_init prog_1_method_1_code 1 (Option.none : Option FieldType) ∈ TBL := inT 54 rfl rfl
theorem q_14 : Cond.methodLink "PluginRunner" 1 y_Obj_init ∈ TBL := inT 55 (by decide +kernel) rfl
theorem q_15 : Cond.instanceMethod y_Obj_init ∈ TBL := inT 56 (by decide +kernel) rfl
set_option maxRecDepth 100000 in
theorem q_16 : Cond.code y_Obj_init object_method_1_code 1 (Option.none : Option FieldType) ∈ TBL := inT 57 rfl rfl
theorem q_17 : Cond.classLink "PluginRunner" 7 "PluginRunner$Program" ∈ TBL := inT 58 (by decide +kernel) rfl
theorem q_18 : Cond.instantiable "PluginRunner$Program" 2 ∈ TBL := inT 59 (by decide +kernel) rfl
theorem q_19 : Cond.methodLink "PluginRunner" 9 y_Pg_init ∈ TBL := inT 60 (by decide +kernel) rfl
theorem q_20 : Cond.instanceMethod y_Pg_init ∈ TBL := inT 61 (by decide +kernel) rfl
set_option maxRecDepth 100000 in
theorem q_21 : Cond.code y_Pg_init prog_8_method_1_code 2 (Option.none : Option FieldType) ∈ TBL := inT 62 rfl rfl
theorem q_22 : Cond.methodLink "PluginRunner$Program" 3 y_Obj_init ∈ TBL := inT 63 (by decide +kernel) rfl
theorem q_23 : Cond.classLink "PluginRunner$Program" 9 "PluginRunner$Function" ∈ TBL := inT 64 (by decide +kernel) rfl
theorem q_25 : Cond.instantiable "PluginRunner$Function" 6 ∈ TBL := inT 66 (by decide +kernel) rfl
theorem q_27 : Cond.instanceMethod y_Fn_init ∈ TBL := inT 68 (by decide +kernel) rfl
set_option maxRecDepth 100000 in
theorem q_28 : Cond.code y_Fn_init prog_5_method_1_code 1 (Option.none : Option FieldType) ∈ TBL := inT 69 rfl rfl
theorem q_29 : Cond.methodLink "PluginRunner$Function" 3 y_Obj_init ∈ TBL := inT 70 (by decide +kernel) rfl
theorem q_30 : Cond.fieldLink "PluginRunner$Function" 9 "PluginRunner$Function" "ops" "[I" ∈ TBL := inT 71 (by decide +kernel) rfl
theorem q_31 : Cond.fieldLink "PluginRunner$Checker" 59 "PluginRunner$Function" "ops" "[I" ∈ TBL := inT 72 (by decide +kernel) rfl
theorem q_32 : Cond.fieldLink "PluginRunner$Machine" 126 "PluginRunner$Function" "ops" "[I" ∈ TBL := inT 73 (by decide +kernel) rfl
theorem q_33 : Cond.fieldLink "PluginRunner$Function" 15 "PluginRunner$Function" "arguments" "[I" ∈ TBL := inT 74 (by decide +kernel) rfl
theorem q_34 : Cond.fieldLink "PluginRunner$Checker" 62 "PluginRunner$Function" "arguments" "[I" ∈ TBL := inT 75 (by decide +kernel) rfl
theorem q_35 : Cond.fieldLink "PluginRunner$Machine" 123 "PluginRunner$Function" "arguments" "[I" ∈ TBL := inT 76 (by decide +kernel) rfl
theorem q_36 : Cond.fieldLink "PluginRunner$Function" 18 "PluginRunner$Function" "length" "I" ∈ TBL := inT 77 (by decide +kernel) rfl
theorem q_37 : Cond.fieldLink "PluginRunner$Checker" 54 "PluginRunner$Function" "length" "I" ∈ TBL := inT 78 (by decide +kernel) rfl
theorem q_38 : Cond.fieldLink "PluginRunner" 61 "PluginRunner$Function" "length" "I" ∈ TBL := inT 79 (by decide +kernel) rfl
theorem q_39 : Cond.fieldLink "PluginRunner$Machine" 113 "PluginRunner$Function" "length" "I" ∈ TBL := inT 80 (by decide +kernel) rfl
theorem q_40 : Cond.fieldLink "PluginRunner$Function" 22 "PluginRunner$Function" "takes" "I" ∈ TBL := inT 81 (by decide +kernel) rfl
theorem q_41 : Cond.fieldLink "PluginRunner$Program" 22 "PluginRunner$Function" "takes" "I" ∈ TBL := inT 82 (by decide +kernel) rfl
theorem q_42 : Cond.fieldLink "PluginRunner$Machine" 77 "PluginRunner$Function" "takes" "I" ∈ TBL := inT 83 (by decide +kernel) rfl
theorem q_43 : Cond.fieldLink "PluginRunner$Checker" 98 "PluginRunner$Function" "takes" "I" ∈ TBL := inT 84 (by decide +kernel) rfl
theorem q_44 : Cond.fieldLink "PluginRunner$Function" 25 "PluginRunner$Function" "gives" "I" ∈ TBL := inT 85 (by decide +kernel) rfl
theorem q_45 : Cond.fieldLink "PluginRunner$Program" 25 "PluginRunner$Function" "gives" "I" ∈ TBL := inT 86 (by decide +kernel) rfl
theorem q_46 : Cond.fieldLink "PluginRunner$Checker" 95 "PluginRunner$Function" "gives" "I" ∈ TBL := inT 87 (by decide +kernel) rfl
theorem q_47 : Cond.fieldLink "PluginRunner$Machine" 120 "PluginRunner$Function" "gives" "I" ∈ TBL := inT 88 (by decide +kernel) rfl
theorem q_48 : Cond.fieldLink "PluginRunner$Function" 28 "PluginRunner$Function" "locals" "I" ∈ TBL := inT 89 (by decide +kernel) rfl
theorem q_49 : Cond.fieldLink "PluginRunner$Program" 28 "PluginRunner$Function" "locals" "I" ∈ TBL := inT 90 (by decide +kernel) rfl
theorem q_50 : Cond.fieldLink "PluginRunner$Checker" 101 "PluginRunner$Function" "locals" "I" ∈ TBL := inT 91 (by decide +kernel) rfl
theorem q_64 : Cond.arrayClass FieldType.int ∈ TBL := inT 105 (by decide +kernel) rfl
theorem q_65 : Cond.fieldLink "PluginRunner$Program" 11 "PluginRunner$Program" "functions" "[LPluginRunner$Function;" ∈ TBL := inT 106 (by decide +kernel) rfl
theorem q_66 : Cond.fieldLink "PluginRunner$Checker" 46 "PluginRunner$Program" "functions" "[LPluginRunner$Function;" ∈ TBL := inT 107 (by decide +kernel) rfl
theorem q_67 : Cond.fieldLink "PluginRunner" 57 "PluginRunner$Program" "functions" "[LPluginRunner$Function;" ∈ TBL := inT 108 (by decide +kernel) rfl
theorem q_68 : Cond.fieldLink "PluginRunner$Machine" 71 "PluginRunner$Program" "functions" "[LPluginRunner$Function;" ∈ TBL := inT 109 (by decide +kernel) rfl
theorem q_69 : Cond.fieldLink "PluginRunner$Program" 17 "PluginRunner$Program" "size" "I" ∈ TBL := inT 110 (by decide +kernel) rfl
theorem q_70 : Cond.fieldLink "PluginRunner$Checker" 41 "PluginRunner$Program" "size" "I" ∈ TBL := inT 111 (by decide +kernel) rfl
theorem q_71 : Cond.fieldLink "PluginRunner" 40 "PluginRunner$Program" "size" "I" ∈ TBL := inT 112 (by decide +kernel) rfl
theorem q_77 : Cond.classLink "PluginRunner" 16 "PluginRunner$Checker" ∈ TBL := inT 118 (by decide +kernel) rfl
theorem q_78 : Cond.instantiable "PluginRunner$Checker" 8 ∈ TBL := inT 119 (by decide +kernel) rfl
theorem q_79 : Cond.methodLink "PluginRunner" 18 y_Ck_init ∈ TBL := inT 120 (by decide +kernel) rfl
theorem q_80 : Cond.instanceMethod y_Ck_init ∈ TBL := inT 121 (by decide +kernel) rfl
set_option maxRecDepth 100000 in
theorem q_81 : Cond.code y_Ck_init prog_2_method_1_code 2 (Option.none : Option FieldType) ∈ TBL := inT 122 rfl rfl
theorem q_82 : Cond.methodLink "PluginRunner$Checker" 3 y_Obj_init ∈ TBL := inT 123 (by decide +kernel) rfl
theorem q_83 : Cond.fieldLink "PluginRunner$Checker" 37 "PluginRunner$Checker" "program" "LPluginRunner$Program;" ∈ TBL := inT 124 (by decide +kernel) rfl
theorem q_84 : Cond.fieldLink "PluginRunner$Checker" 9 "PluginRunner$Checker" "bases" "[I" ∈ TBL := inT 125 (by decide +kernel) rfl
theorem q_85 : Cond.fieldLink "PluginRunner$Checker" 15 "PluginRunner$Checker" "open" "I" ∈ TBL := inT 126 (by decide +kernel) rfl
theorem q_86 : Cond.fieldLink "PluginRunner$Checker" 19 "PluginRunner$Checker" "height" "I" ∈ TBL := inT 127 (by decide +kernel) rfl
theorem q_87 : Cond.fieldLink "PluginRunner$Checker" 22 "PluginRunner$Checker" "behindLeaving" "Z" ∈ TBL := inT 128 (by decide +kernel) rfl
theorem q_88 : Cond.fieldLink "PluginRunner$Checker" 28 "PluginRunner$Checker" "sort" "I" ∈ TBL := inT 129 (by decide +kernel) rfl
theorem q_89 : Cond.fieldLink "PluginRunner" 72 "PluginRunner$Checker" "sort" "I" ∈ TBL := inT 130 (by decide +kernel) rfl
theorem q_90 : Cond.fieldLink "PluginRunner$Checker" 31 "PluginRunner$Checker" "faultyFunction" "I" ∈ TBL := inT 131 (by decide +kernel) rfl
theorem q_91 : Cond.fieldLink "PluginRunner" 75 "PluginRunner$Checker" "faultyFunction" "I" ∈ TBL := inT 132 (by decide +kernel) rfl
theorem q_92 : Cond.fieldLink "PluginRunner$Checker" 34 "PluginRunner$Checker" "faultyInstruction" "I" ∈ TBL := inT 133 (by decide +kernel) rfl
theorem q_93 : Cond.fieldLink "PluginRunner" 78 "PluginRunner$Checker" "faultyInstruction" "I" ∈ TBL := inT 134 (by decide +kernel) rfl
theorem q_111 : Cond.classLink "PluginRunner" 25 "PluginRunner$Machine" ∈ TBL := inT 152 (by decide +kernel) rfl
theorem q_112 : Cond.instantiable "PluginRunner$Machine" 13 ∈ TBL := inT 153 (by decide +kernel) rfl
theorem q_113 : Cond.methodLink "PluginRunner" 27 y_Mc_init ∈ TBL := inT 154 (by decide +kernel) rfl
theorem q_114 : Cond.instanceMethod y_Mc_init ∈ TBL := inT 155 (by decide +kernel) rfl
set_option maxRecDepth 100000 in
theorem q_115 : Cond.code y_Mc_init prog_6_method_1_code 3 (Option.none : Option FieldType) ∈ TBL := inT 156 rfl rfl
theorem q_116 : Cond.methodLink "PluginRunner$Machine" 3 y_Obj_init ∈ TBL := inT 157 (by decide +kernel) rfl
theorem q_117 : Cond.classLink "PluginRunner$Machine" 9 "PluginRunner$Frame" ∈ TBL := inT 158 (by decide +kernel) rfl
theorem q_119 : Cond.constantLong "PluginRunner$Machine" 50 (-1000000000000 : Int64) ∈ TBL := inT 160 (by decide +kernel) rfl
theorem q_120 : Cond.instantiable "PluginRunner$Frame" 3 ∈ TBL := inT 161 (by decide +kernel) rfl
theorem q_122 : Cond.instanceMethod y_Fr_init ∈ TBL := inT 163 (by decide +kernel) rfl
set_option maxRecDepth 100000 in
theorem q_123 : Cond.code y_Fr_init prog_4_method_1_code 1 (Option.none : Option FieldType) ∈ TBL := inT 164 rfl rfl
theorem q_124 : Cond.methodLink "PluginRunner$Frame" 3 y_Obj_init ∈ TBL := inT 165 (by decide +kernel) rfl
theorem q_125 : Cond.fieldLink "PluginRunner$Frame" 9 "PluginRunner$Frame" "locals" "[I" ∈ TBL := inT 166 (by decide +kernel) rfl
theorem q_126 : Cond.fieldLink "PluginRunner$Machine" 82 "PluginRunner$Frame" "locals" "[I" ∈ TBL := inT 167 (by decide +kernel) rfl
theorem q_127 : Cond.fieldLink "PluginRunner$Frame" 15 "PluginRunner$Frame" "number" "I" ∈ TBL := inT 168 (by decide +kernel) rfl
theorem q_128 : Cond.fieldLink "PluginRunner$Machine" 110 "PluginRunner$Frame" "number" "I" ∈ TBL := inT 169 (by decide +kernel) rfl
theorem q_129 : Cond.fieldLink "PluginRunner" 121 "PluginRunner$Frame" "number" "I" ∈ TBL := inT 170 (by decide +kernel) rfl
theorem q_130 : Cond.fieldLink "PluginRunner$Frame" 19 "PluginRunner$Frame" "next" "I" ∈ TBL := inT 171 (by decide +kernel) rfl
theorem q_131 : Cond.fieldLink "PluginRunner$Machine" 107 "PluginRunner$Frame" "next" "I" ∈ TBL := inT 172 (by decide +kernel) rfl
theorem q_132 : Cond.fieldLink "PluginRunner" 126 "PluginRunner$Frame" "next" "I" ∈ TBL := inT 173 (by decide +kernel) rfl
theorem q_140 : Cond.arrayClass FieldType.boolean ∈ TBL := inT 181 (by decide +kernel) rfl
theorem q_141 : Cond.fieldLink "PluginRunner$Machine" 56 "PluginRunner$Machine" "program" "LPluginRunner$Program;" ∈ TBL := inT 182 (by decide +kernel) rfl
theorem q_142 : Cond.fieldLink "PluginRunner$Machine" 11 "PluginRunner$Machine" "frames" "[LPluginRunner$Frame;" ∈ TBL := inT 183 (by decide +kernel) rfl
theorem q_143 : Cond.fieldLink "PluginRunner$Machine" 17 "PluginRunner$Machine" "stack" "[I" ∈ TBL := inT 184 (by decide +kernel) rfl
theorem q_144 : Cond.fieldLink "PluginRunner$Machine" 21 "PluginRunner$Machine" "cells" "[I" ∈ TBL := inT 185 (by decide +kernel) rfl
theorem q_145 : Cond.fieldLink "PluginRunner" 108 "PluginRunner$Machine" "cells" "[I" ∈ TBL := inT 186 (by decide +kernel) rfl
theorem q_146 : Cond.fieldLink "PluginRunner$Machine" 24 "PluginRunner$Machine" "granted" "[Z" ∈ TBL := inT 187 (by decide +kernel) rfl
theorem q_147 : Cond.fieldLink "PluginRunner" 100 "PluginRunner$Machine" "granted" "[Z" ∈ TBL := inT 188 (by decide +kernel) rfl
theorem q_148 : Cond.fieldLink "PluginRunner$Machine" 28 "PluginRunner$Machine" "depth" "I" ∈ TBL := inT 189 (by decide +kernel) rfl
theorem q_149 : Cond.fieldLink "PluginRunner" 114 "PluginRunner$Machine" "depth" "I" ∈ TBL := inT 190 (by decide +kernel) rfl
theorem q_150 : Cond.fieldLink "PluginRunner$Machine" 32 "PluginRunner$Machine" "values" "I" ∈ TBL := inT 191 (by decide +kernel) rfl
theorem q_151 : Cond.fieldLink "PluginRunner" 129 "PluginRunner$Machine" "values" "I" ∈ TBL := inT 192 (by decide +kernel) rfl
theorem q_152 : Cond.fieldLink "PluginRunner$Machine" 35 "PluginRunner$Machine" "waitsFor" "I" ∈ TBL := inT 193 (by decide +kernel) rfl
theorem q_153 : Cond.fieldLink "PluginRunner" 132 "PluginRunner$Machine" "waitsFor" "I" ∈ TBL := inT 194 (by decide +kernel) rfl
theorem q_154 : Cond.fieldLink "PluginRunner$Machine" 38 "PluginRunner$Machine" "asked" "I" ∈ TBL := inT 195 (by decide +kernel) rfl
theorem q_155 : Cond.fieldLink "PluginRunner" 135 "PluginRunner$Machine" "asked" "I" ∈ TBL := inT 196 (by decide +kernel) rfl
theorem q_156 : Cond.fieldLink "PluginRunner$Machine" 41 "PluginRunner$Machine" "fuelUsed" "I" ∈ TBL := inT 197 (by decide +kernel) rfl
theorem q_157 : Cond.fieldLink "PluginRunner" 138 "PluginRunner$Machine" "fuelUsed" "I" ∈ TBL := inT 198 (by decide +kernel) rfl
theorem q_158 : Cond.fieldLink "PluginRunner$Machine" 44 "PluginRunner$Machine" "runsEnded" "I" ∈ TBL := inT 199 (by decide +kernel) rfl
theorem q_159 : Cond.fieldLink "PluginRunner" 141 "PluginRunner$Machine" "runsEnded" "I" ∈ TBL := inT 200 (by decide +kernel) rfl
theorem q_160 : Cond.fieldLink "PluginRunner$Machine" 47 "PluginRunner$Machine" "runsTrapped" "I" ∈ TBL := inT 201 (by decide +kernel) rfl
theorem q_161 : Cond.fieldLink "PluginRunner" 144 "PluginRunner$Machine" "runsTrapped" "I" ∈ TBL := inT 202 (by decide +kernel) rfl
theorem q_162 : Cond.fieldLink "PluginRunner$Machine" 52 "PluginRunner$Machine" "latestResult" "J" ∈ TBL := inT 203 (by decide +kernel) rfl
theorem q_163 : Cond.fieldLink "PluginRunner" 104 "PluginRunner$Machine" "latestResult" "J" ∈ TBL := inT 204 (by decide +kernel) rfl
theorem q_191 : Cond.fieldLink "PluginRunner" 10 "PluginRunner" "program" "LPluginRunner$Program;" ∈ TBL := inT 232 (by decide +kernel) rfl
theorem q_192 : Cond.fieldLink "PluginRunner" 21 "PluginRunner" "checker" "LPluginRunner$Checker;" ∈ TBL := inT 233 (by decide +kernel) rfl
theorem q_193 : Cond.fieldLink "PluginRunner" 28 "PluginRunner" "machine" "LPluginRunner$Machine;" ∈ TBL := inT 234 (by decide +kernel) rfl
theorem q_194 : Cond.fieldLink "PluginRunner" 32 "PluginRunner" "checked" "Z" ∈ TBL := inT 235 (by decide +kernel) rfl
theorem q_204 : Cond.methodLink "PluginRunnerLaw" 13 y_PR_function ∈ TBL := inT 245 (by decide +kernel) rfl
theorem q_205 : Cond.instanceMethod y_PR_function ∈ TBL := inT 246 (by decide +kernel) rfl
theorem q_206 : Cond.selects "PluginRunner" y_PR_function y_PR_function ∈ TBL := inT 247 (by decide +kernel) rfl
set_option maxRecDepth 100000 in
theorem q_207 : Cond.code y_PR_function prog_1_method_2_code 4 (Option.some FieldType.int) ∈ TBL := inT 248 rfl rfl
theorem q_208 : Cond.methodLink "PluginRunner" 36 y_PR_within ∈ TBL := inT 249 (by decide +kernel) rfl
theorem q_209 : Cond.static y_PR_within ∈ TBL := inT 250 (by decide +kernel) rfl
set_option maxRecDepth 100000 in
theorem q_210 : Cond.code y_PR_within prog_1_method_17_code 2 (Option.some FieldType.boolean) ∈ TBL := inT 251 rfl rfl
theorem q_211 : Cond.methodLink "PluginRunner" 44 y_PR_forgetCheckAndRun ∈ TBL := inT 252 (by decide +kernel) rfl
theorem q_213 : Cond.instanceMethod y_PR_forgetCheckAndRun ∈ TBL := inT 254 (by decide +kernel) rfl
set_option maxRecDepth 100000 in
theorem q_214 : Cond.code y_PR_forgetCheckAndRun prog_1_method_16_code 1 (Option.none : Option FieldType) ∈ TBL := inT 255 rfl rfl
theorem q_215 : Cond.methodLink "PluginRunner" 147 y_Mc_dropRun ∈ TBL := inT 256 (by decide +kernel) rfl
theorem q_216 : Cond.instanceMethod y_Mc_dropRun ∈ TBL := inT 257 (by decide +kernel) rfl
theorem q_217 : Cond.selects "PluginRunner$Machine" y_Mc_dropRun y_Mc_dropRun ∈ TBL := inT 258 (by decide +kernel) rfl
set_option maxRecDepth 100000 in
theorem q_218 : Cond.code y_Mc_dropRun prog_6_method_5_code 1 (Option.none : Option FieldType) ∈ TBL := inT 259 rfl rfl
theorem q_219 : Cond.methodLink "PluginRunner$Machine" 61 y_Mc_stopWaiting ∈ TBL := inT 260 (by decide +kernel) rfl
theorem q_221 : Cond.instanceMethod y_Mc_stopWaiting ∈ TBL := inT 262 (by decide +kernel) rfl
set_option maxRecDepth 100000 in
theorem q_222 : Cond.code y_Mc_stopWaiting prog_6_method_23_code 1 (Option.none : Option FieldType) ∈ TBL := inT 263 rfl rfl
theorem q_223 : Cond.methodLink "PluginRunner" 47 y_Pg_add ∈ TBL := inT 264 (by decide +kernel) rfl
theorem q_224 : Cond.instanceMethod y_Pg_add ∈ TBL := inT 265 (by decide +kernel) rfl
theorem q_225 : Cond.selects "PluginRunner$Program" y_Pg_add y_Pg_add ∈ TBL := inT 266 (by decide +kernel) rfl
set_option maxRecDepth 100000 in
theorem q_226 : Cond.code y_Pg_add prog_8_method_3_code 5 (Option.some FieldType.int) ∈ TBL := inT 267 rfl rfl
theorem q_227 : Cond.methodLink "PluginRunnerLaw" 18 y_PR_emit ∈ TBL := inT 268 (by decide +kernel) rfl
theorem q_228 : Cond.instanceMethod y_PR_emit ∈ TBL := inT 269 (by decide +kernel) rfl
theorem q_229 : Cond.selects "PluginRunner" y_PR_emit y_PR_emit ∈ TBL := inT 270 (by decide +kernel) rfl
set_option maxRecDepth 100000 in
theorem q_230 : Cond.code y_PR_emit prog_1_method_3_code 5 (Option.some FieldType.int) ∈ TBL := inT 271 rfl rfl
theorem q_231 : Cond.methodLink "PluginRunner" 51 y_Pg_has ∈ TBL := inT 272 (by decide +kernel) rfl
theorem q_232 : Cond.instanceMethod y_Pg_has ∈ TBL := inT 273 (by decide +kernel) rfl
theorem q_233 : Cond.selects "PluginRunner$Program" y_Pg_has y_Pg_has ∈ TBL := inT 274 (by decide +kernel) rfl
set_option maxRecDepth 100000 in
theorem q_234 : Cond.code y_Pg_has prog_8_method_2_code 2 (Option.some FieldType.boolean) ∈ TBL := inT 275 rfl rfl
theorem q_235 : Cond.methodLink "PluginRunner" 66 y_Fn_add ∈ TBL := inT 276 (by decide +kernel) rfl
theorem q_236 : Cond.instanceMethod y_Fn_add ∈ TBL := inT 277 (by decide +kernel) rfl
theorem q_237 : Cond.selects "PluginRunner$Function" y_Fn_add y_Fn_add ∈ TBL := inT 278 (by decide +kernel) rfl
set_option maxRecDepth 100000 in
theorem q_238 : Cond.code y_Fn_add prog_5_method_2_code 4 (Option.some FieldType.int) ∈ TBL := inT 279 rfl rfl
theorem q_239 : Cond.methodLink "PluginRunnerLaw" 22 y_PR_erase ∈ TBL := inT 280 (by decide +kernel) rfl
theorem q_240 : Cond.instanceMethod y_PR_erase ∈ TBL := inT 281 (by decide +kernel) rfl
theorem q_241 : Cond.selects "PluginRunner" y_PR_erase y_PR_erase ∈ TBL := inT 282 (by decide +kernel) rfl
set_option maxRecDepth 100000 in
theorem q_242 : Cond.code y_PR_erase prog_1_method_4_code 2 (Option.some FieldType.int) ∈ TBL := inT 283 rfl rfl
theorem q_243 : Cond.methodLink "PluginRunnerLaw" 27 y_PR_check ∈ TBL := inT 284 (by decide +kernel) rfl
theorem q_244 : Cond.instanceMethod y_PR_check ∈ TBL := inT 285 (by decide +kernel) rfl
theorem q_245 : Cond.selects "PluginRunner" y_PR_check y_PR_check ∈ TBL := inT 286 (by decide +kernel) rfl
set_option maxRecDepth 100000 in
theorem q_246 : Cond.code y_PR_check prog_1_method_5_code 1 (Option.some FieldType.int) ∈ TBL := inT 287 rfl rfl
theorem q_247 : Cond.methodLink "PluginRunner" 69 y_Ck_goThroughAll ∈ TBL := inT 288 (by decide +kernel) rfl
theorem q_248 : Cond.instanceMethod y_Ck_goThroughAll ∈ TBL := inT 289 (by decide +kernel) rfl
theorem q_249 : Cond.selects "PluginRunner$Checker" y_Ck_goThroughAll y_Ck_goThroughAll ∈ TBL := inT 290 (by decide +kernel) rfl
set_option maxRecDepth 100000 in
theorem q_250 : Cond.code y_Ck_goThroughAll prog_2_method_2_code 2 (Option.none : Option FieldType) ∈ TBL := inT 291 rfl rfl
theorem q_251 : Cond.methodLink "PluginRunner$Checker" 50 y_Ck_goThrough ∈ TBL := inT 292 (by decide +kernel) rfl
theorem q_253 : Cond.instanceMethod y_Ck_goThrough ∈ TBL := inT 294 (by decide +kernel) rfl
set_option maxRecDepth 100000 in
theorem q_254 : Cond.code y_Ck_goThrough prog_2_method_3_code 5 (Option.none : Option FieldType) ∈ TBL := inT 295 rfl rfl
theorem q_255 : Cond.methodLink "PluginRunner$Checker" 65 y_Ck_sortOf ∈ TBL := inT 296 (by decide +kernel) rfl
theorem q_257 : Cond.instanceMethod y_Ck_sortOf ∈ TBL := inT 298 (by decide +kernel) rfl
set_option maxRecDepth 100000 in
theorem q_258 : Cond.code y_Ck_sortOf prog_2_method_4_code 5 (Option.some FieldType.int) ∈ TBL := inT 299 rfl rfl
theorem q_259 : Cond.methodLink "PluginRunner$Checker" 79 y_Ck_isArgument ∈ TBL := inT 300 (by decide +kernel) rfl
theorem q_261 : Cond.instanceMethod y_Ck_isArgument ∈ TBL := inT 302 (by decide +kernel) rfl
set_option maxRecDepth 100000 in
theorem q_262 : Cond.code y_Ck_isArgument prog_2_method_6_code 4 (Option.some FieldType.boolean) ∈ TBL := inT 303 rfl rfl
theorem q_264 : Cond.methodLink "PluginRunner$Checker" 108 y_Pg_has ∈ TBL := inT 305 (by decide +kernel) rfl
theorem q_265 : Cond.methodLink "PluginRunner$Checker" 83 y_Pg_taken ∈ TBL := inT 306 (by decide +kernel) rfl
theorem q_266 : Cond.instanceMethod y_Pg_taken ∈ TBL := inT 307 (by decide +kernel) rfl
theorem q_267 : Cond.selects "PluginRunner$Program" y_Pg_taken y_Pg_taken ∈ TBL := inT 308 (by decide +kernel) rfl
set_option maxRecDepth 100000 in
theorem q_268 : Cond.code y_Pg_taken prog_8_method_4_code 3 (Option.some FieldType.int) ∈ TBL := inT 309 rfl rfl
theorem q_271 : Cond.methodLink "PluginRunner$Checker" 87 y_Ck_closesWell ∈ TBL := inT 312 (by decide +kernel) rfl
theorem q_273 : Cond.instanceMethod y_Ck_closesWell ∈ TBL := inT 314 (by decide +kernel) rfl
set_option maxRecDepth 100000 in
theorem q_274 : Cond.code y_Ck_closesWell prog_2_method_7_code 1 (Option.some FieldType.boolean) ∈ TBL := inT 315 rfl rfl
theorem q_275 : Cond.methodLink "PluginRunner$Checker" 91 y_Ck_leavesWell ∈ TBL := inT 316 (by decide +kernel) rfl
theorem q_277 : Cond.instanceMethod y_Ck_leavesWell ∈ TBL := inT 318 (by decide +kernel) rfl
set_option maxRecDepth 100000 in
theorem q_278 : Cond.code y_Ck_leavesWell prog_2_method_8_code 5 (Option.some FieldType.boolean) ∈ TBL := inT 319 rfl rfl
theorem q_279 : Cond.methodLink "PluginRunner$Checker" 69 y_Ck_pass ∈ TBL := inT 320 (by decide +kernel) rfl
theorem q_281 : Cond.instanceMethod y_Ck_pass ∈ TBL := inT 322 (by decide +kernel) rfl
set_option maxRecDepth 100000 in
theorem q_282 : Cond.code y_Ck_pass prog_2_method_9_code 3 (Option.none : Option FieldType) ∈ TBL := inT 323 rfl rfl
theorem q_283 : Cond.methodLink "PluginRunner$Checker" 112 y_Pg_put ∈ TBL := inT 324 (by decide +kernel) rfl
theorem q_284 : Cond.instanceMethod y_Pg_put ∈ TBL := inT 325 (by decide +kernel) rfl
theorem q_285 : Cond.selects "PluginRunner$Program" y_Pg_put y_Pg_put ∈ TBL := inT 326 (by decide +kernel) rfl
set_option maxRecDepth 100000 in
theorem q_286 : Cond.code y_Pg_put prog_8_method_5_code 3 (Option.some FieldType.int) ∈ TBL := inT 327 rfl rfl
theorem q_289 : Cond.methodLink "PluginRunner$Checker" 115 y_Op_neverGoesOn ∈ TBL := inT 330 (by decide +kernel) rfl
theorem q_290 : Cond.static y_Op_neverGoesOn ∈ TBL := inT 331 (by decide +kernel) rfl
set_option maxRecDepth 100000 in
theorem q_291 : Cond.code y_Op_neverGoesOn prog_7_method_3_code 1 (Option.some FieldType.boolean) ∈ TBL := inT 332 rfl rfl
theorem q_292 : Cond.methodLink "PluginRunner$Checker" 118 y_Op_opensPart ∈ TBL := inT 333 (by decide +kernel) rfl
theorem q_293 : Cond.static y_Op_opensPart ∈ TBL := inT 334 (by decide +kernel) rfl
set_option maxRecDepth 100000 in
theorem q_294 : Cond.code y_Op_opensPart prog_7_method_2_code 1 (Option.some FieldType.boolean) ∈ TBL := inT 335 rfl rfl
theorem q_295 : Cond.methodLink "PluginRunner$Checker" 73 y_Ck_sortOfTheEnd ∈ TBL := inT 336 (by decide +kernel) rfl
theorem q_297 : Cond.instanceMethod y_Ck_sortOfTheEnd ∈ TBL := inT 338 (by decide +kernel) rfl
set_option maxRecDepth 100000 in
theorem q_298 : Cond.code y_Ck_sortOfTheEnd prog_2_method_5_code 2 (Option.some FieldType.int) ∈ TBL := inT 339 rfl rfl
theorem q_299 : Cond.methodLink "PluginRunnerLaw" 32 y_PR_fault ∈ TBL := inT 340 (by decide +kernel) rfl
theorem q_300 : Cond.instanceMethod y_PR_fault ∈ TBL := inT 341 (by decide +kernel) rfl
theorem q_301 : Cond.selects "PluginRunner" y_PR_fault y_PR_fault ∈ TBL := inT 342 (by decide +kernel) rfl
set_option maxRecDepth 100000 in
theorem q_302 : Cond.code y_PR_fault prog_1_method_6_code 1 (Option.some FieldType.int) ∈ TBL := inT 343 rfl rfl
theorem q_303 : Cond.methodLink "PluginRunnerLaw" 36 y_PR_start ∈ TBL := inT 344 (by decide +kernel) rfl
theorem q_304 : Cond.instanceMethod y_PR_start ∈ TBL := inT 345 (by decide +kernel) rfl
theorem q_305 : Cond.selects "PluginRunner" y_PR_start y_PR_start ∈ TBL := inT 346 (by decide +kernel) rfl
set_option maxRecDepth 100000 in
theorem q_306 : Cond.code y_PR_start prog_1_method_7_code 4 (Option.some FieldType.int) ∈ TBL := inT 347 rfl rfl
theorem q_307 : Cond.methodLink "PluginRunner" 81 y_Mc_begin ∈ TBL := inT 348 (by decide +kernel) rfl
theorem q_308 : Cond.instanceMethod y_Mc_begin ∈ TBL := inT 349 (by decide +kernel) rfl
theorem q_309 : Cond.selects "PluginRunner$Machine" y_Mc_begin y_Mc_begin ∈ TBL := inT 350 (by decide +kernel) rfl
set_option maxRecDepth 100000 in
theorem q_310 : Cond.code y_Mc_begin prog_6_method_6_code 6 (Option.none : Option FieldType) ∈ TBL := inT 351 rfl rfl
theorem q_311 : Cond.methodLink "PluginRunner$Machine" 64 y_Mc_dropRun ∈ TBL := inT 352 (by decide +kernel) rfl
theorem q_312 : Cond.methodLink "PluginRunner$Machine" 67 y_Mc_enter ∈ TBL := inT 353 (by decide +kernel) rfl
theorem q_314 : Cond.instanceMethod y_Mc_enter ∈ TBL := inT 355 (by decide +kernel) rfl
set_option maxRecDepth 100000 in
theorem q_315 : Cond.code y_Mc_enter prog_6_method_20_code 3 (Option.some (FieldType.object "PluginRunner$Frame")) ∈ TBL := inT 356 rfl rfl
theorem q_316 : Cond.methodLink "PluginRunner$Machine" 160 y_Fr_begin ∈ TBL := inT 357 (by decide +kernel) rfl
theorem q_317 : Cond.instanceMethod y_Fr_begin ∈ TBL := inT 358 (by decide +kernel) rfl
theorem q_318 : Cond.selects "PluginRunner$Frame" y_Fr_begin y_Fr_begin ∈ TBL := inT 359 (by decide +kernel) rfl
set_option maxRecDepth 100000 in
theorem q_319 : Cond.code y_Fr_begin prog_4_method_2_code 3 (Option.none : Option FieldType) ∈ TBL := inT 360 rfl rfl
theorem q_320 : Cond.methodLink "PluginRunnerLaw" 40 y_PR_resume ∈ TBL := inT 361 (by decide +kernel) rfl
theorem q_321 : Cond.instanceMethod y_PR_resume ∈ TBL := inT 362 (by decide +kernel) rfl
theorem q_322 : Cond.selects "PluginRunner" y_PR_resume y_PR_resume ∈ TBL := inT 363 (by decide +kernel) rfl
set_option maxRecDepth 100000 in
theorem q_323 : Cond.code y_PR_resume prog_1_method_8_code 2 (Option.some FieldType.int) ∈ TBL := inT 364 rfl rfl
theorem q_324 : Cond.methodLink "PluginRunner" 85 y_Mc_isUnderWay ∈ TBL := inT 365 (by decide +kernel) rfl
theorem q_325 : Cond.instanceMethod y_Mc_isUnderWay ∈ TBL := inT 366 (by decide +kernel) rfl
theorem q_326 : Cond.selects "PluginRunner$Machine" y_Mc_isUnderWay y_Mc_isUnderWay ∈ TBL := inT 367 (by decide +kernel) rfl
set_option maxRecDepth 100000 in
theorem q_327 : Cond.code y_Mc_isUnderWay prog_6_method_2_code 1 (Option.some FieldType.boolean) ∈ TBL := inT 368 rfl rfl
theorem q_328 : Cond.methodLink "PluginRunner" 89 y_Mc_isWaiting ∈ TBL := inT 369 (by decide +kernel) rfl
theorem q_329 : Cond.instanceMethod y_Mc_isWaiting ∈ TBL := inT 370 (by decide +kernel) rfl
theorem q_330 : Cond.selects "PluginRunner$Machine" y_Mc_isWaiting y_Mc_isWaiting ∈ TBL := inT 371 (by decide +kernel) rfl
set_option maxRecDepth 100000 in
theorem q_331 : Cond.code y_Mc_isWaiting prog_6_method_3_code 1 (Option.some FieldType.boolean) ∈ TBL := inT 372 rfl rfl
theorem q_332 : Cond.methodLink "PluginRunner" 92 y_Mc_go ∈ TBL := inT 373 (by decide +kernel) rfl
theorem q_333 : Cond.instanceMethod y_Mc_go ∈ TBL := inT 374 (by decide +kernel) rfl
theorem q_334 : Cond.selects "PluginRunner$Machine" y_Mc_go y_Mc_go ∈ TBL := inT 375 (by decide +kernel) rfl
set_option maxRecDepth 100000 in
theorem q_335 : Cond.code y_Mc_go prog_6_method_8_code 4 (Option.some FieldType.int) ∈ TBL := inT 376 rfl rfl
theorem q_336 : Cond.methodLink "PluginRunner$Machine" 89 y_Mc_leaveFinished ∈ TBL := inT 377 (by decide +kernel) rfl
theorem q_338 : Cond.instanceMethod y_Mc_leaveFinished ∈ TBL := inT 379 (by decide +kernel) rfl
set_option maxRecDepth 100000 in
theorem q_339 : Cond.code y_Mc_leaveFinished prog_6_method_9_code 1 (Option.none : Option FieldType) ∈ TBL := inT 380 rfl rfl
theorem q_340 : Cond.methodLink "PluginRunner$Machine" 103 y_Mc_innermost ∈ TBL := inT 381 (by decide +kernel) rfl
theorem q_341 : Cond.instanceMethod y_Mc_innermost ∈ TBL := inT 382 (by decide +kernel) rfl
theorem q_342 : Cond.selects "PluginRunner$Machine" y_Mc_innermost y_Mc_innermost ∈ TBL := inT 383 (by decide +kernel) rfl
set_option maxRecDepth 100000 in
theorem q_343 : Cond.code y_Mc_innermost prog_6_method_4_code 1 (Option.some (FieldType.object "PluginRunner$Frame")) ∈ TBL := inT 384 rfl rfl
theorem q_344 : Cond.methodLink "PluginRunner$Machine" 116 y_Mc_keepResult ∈ TBL := inT 385 (by decide +kernel) rfl
theorem q_346 : Cond.instanceMethod y_Mc_keepResult ∈ TBL := inT 387 (by decide +kernel) rfl
set_option maxRecDepth 100000 in
theorem q_347 : Cond.code y_Mc_keepResult prog_6_method_10_code 2 (Option.none : Option FieldType) ∈ TBL := inT 388 rfl rfl
theorem q_348 : Cond.methodLink "PluginRunner$Machine" 92 y_Mc_isUnderWay ∈ TBL := inT 389 (by decide +kernel) rfl
theorem q_349 : Cond.methodLink "PluginRunner$Machine" 96 y_Mc_step ∈ TBL := inT 390 (by decide +kernel) rfl
theorem q_351 : Cond.instanceMethod y_Mc_step ∈ TBL := inT 392 (by decide +kernel) rfl
set_option maxRecDepth 100000 in
theorem q_352 : Cond.code y_Mc_step prog_6_method_12_code 5 (Option.some FieldType.int) ∈ TBL := inT 393 rfl rfl
theorem q_353 : Cond.methodLink "PluginRunner$Machine" 85 y_Mc_put ∈ TBL := inT 394 (by decide +kernel) rfl
theorem q_355 : Cond.instanceMethod y_Mc_put ∈ TBL := inT 396 (by decide +kernel) rfl
set_option maxRecDepth 100000 in
theorem q_356 : Cond.code y_Mc_put prog_6_method_21_code 2 (Option.some FieldType.int) ∈ TBL := inT 397 rfl rfl
theorem q_357 : Cond.methodLink "PluginRunner$Machine" 129 y_Mc_take ∈ TBL := inT 398 (by decide +kernel) rfl
theorem q_359 : Cond.instanceMethod y_Mc_take ∈ TBL := inT 400 (by decide +kernel) rfl
set_option maxRecDepth 100000 in
theorem q_360 : Cond.code y_Mc_take prog_6_method_22_code 1 (Option.some FieldType.int) ∈ TBL := inT 401 rfl rfl
theorem q_361 : Cond.methodLink "PluginRunner$Machine" 132 y_Mc_load ∈ TBL := inT 402 (by decide +kernel) rfl
theorem q_363 : Cond.instanceMethod y_Mc_load ∈ TBL := inT 404 (by decide +kernel) rfl
set_option maxRecDepth 100000 in
theorem q_364 : Cond.code y_Mc_load prog_6_method_15_code 4 (Option.some FieldType.int) ∈ TBL := inT 405 rfl rfl
theorem q_365 : Cond.methodLink "PluginRunner$Machine" 154 y_Mc_isCell ∈ TBL := inT 406 (by decide +kernel) rfl
theorem q_366 : Cond.static y_Mc_isCell ∈ TBL := inT 407 (by decide +kernel) rfl
set_option maxRecDepth 100000 in
theorem q_367 : Cond.code y_Mc_isCell prog_6_method_17_code 2 (Option.some FieldType.boolean) ∈ TBL := inT 408 rfl rfl
theorem q_368 : Cond.constantLong "PluginRunner$Machine" 158 (32 : Int64) ∈ TBL := inT 409 (by decide +kernel) rfl
theorem q_369 : Cond.methodLink "PluginRunner$Machine" 135 y_Mc_store ∈ TBL := inT 410 (by decide +kernel) rfl
theorem q_371 : Cond.instanceMethod y_Mc_store ∈ TBL := inT 412 (by decide +kernel) rfl
set_option maxRecDepth 100000 in
theorem q_372 : Cond.code y_Mc_store prog_6_method_16_code 5 (Option.some FieldType.int) ∈ TBL := inT 413 rfl rfl
theorem q_373 : Cond.methodLink "PluginRunner$Machine" 138 y_Fn_target ∈ TBL := inT 414 (by decide +kernel) rfl
theorem q_374 : Cond.instanceMethod y_Fn_target ∈ TBL := inT 415 (by decide +kernel) rfl
theorem q_375 : Cond.selects "PluginRunner$Function" y_Fn_target y_Fn_target ∈ TBL := inT 416 (by decide +kernel) rfl
set_option maxRecDepth 100000 in
theorem q_376 : Cond.code y_Fn_target prog_5_method_3_code 4 (Option.some FieldType.int) ∈ TBL := inT 417 rfl rfl
theorem q_377 : Cond.methodLink "PluginRunner$Function" 31 y_Fn_openingOf ∈ TBL := inT 418 (by decide +kernel) rfl
theorem q_379 : Cond.instanceMethod y_Fn_openingOf ∈ TBL := inT 420 (by decide +kernel) rfl
set_option maxRecDepth 100000 in
theorem q_380 : Cond.code y_Fn_openingOf prog_5_method_4_code 6 (Option.some FieldType.int) ∈ TBL := inT 421 rfl rfl
theorem q_381 : Cond.methodLink "PluginRunner$Function" 41 y_Op_opensPart ∈ TBL := inT 422 (by decide +kernel) rfl
theorem q_382 : Cond.methodLink "PluginRunner$Function" 37 y_Fn_behindEndOf ∈ TBL := inT 423 (by decide +kernel) rfl
theorem q_384 : Cond.instanceMethod y_Fn_behindEndOf ∈ TBL := inT 425 (by decide +kernel) rfl
set_option maxRecDepth 100000 in
theorem q_385 : Cond.code y_Fn_behindEndOf prog_5_method_5_code 4 (Option.some FieldType.int) ∈ TBL := inT 426 rfl rfl
theorem q_386 : Cond.methodLink "PluginRunner$Machine" 142 y_Mc_call ∈ TBL := inT 427 (by decide +kernel) rfl
theorem q_388 : Cond.instanceMethod y_Mc_call ∈ TBL := inT 429 (by decide +kernel) rfl
set_option maxRecDepth 100000 in
theorem q_389 : Cond.code y_Mc_call prog_6_method_18_code 4 (Option.some FieldType.int) ∈ TBL := inT 430 rfl rfl
theorem q_390 : Cond.methodLink "PluginRunner$Machine" 145 y_Mc_ask ∈ TBL := inT 431 (by decide +kernel) rfl
theorem q_392 : Cond.instanceMethod y_Mc_ask ∈ TBL := inT 433 (by decide +kernel) rfl
set_option maxRecDepth 100000 in
theorem q_393 : Cond.code y_Mc_ask prog_6_method_19_code 2 (Option.some FieldType.int) ∈ TBL := inT 434 rfl rfl
theorem q_394 : Cond.methodLink "PluginRunner$Machine" 148 y_Mc_calculate ∈ TBL := inT 435 (by decide +kernel) rfl
theorem q_396 : Cond.instanceMethod y_Mc_calculate ∈ TBL := inT 437 (by decide +kernel) rfl
set_option maxRecDepth 100000 in
theorem q_397 : Cond.code y_Mc_calculate prog_6_method_13_code 4 (Option.some FieldType.int) ∈ TBL := inT 438 rfl rfl
theorem q_398 : Cond.methodLink "PluginRunner$Machine" 151 y_Mc_divide ∈ TBL := inT 439 (by decide +kernel) rfl
theorem q_400 : Cond.instanceMethod y_Mc_divide ∈ TBL := inT 441 (by decide +kernel) rfl
set_option maxRecDepth 100000 in
theorem q_401 : Cond.code y_Mc_divide prog_6_method_14_code 5 (Option.some FieldType.int) ∈ TBL := inT 442 rfl rfl
theorem q_402 : Cond.methodLink "PluginRunner$Machine" 100 y_Mc_endTrapped ∈ TBL := inT 443 (by decide +kernel) rfl
theorem q_404 : Cond.instanceMethod y_Mc_endTrapped ∈ TBL := inT 445 (by decide +kernel) rfl
set_option maxRecDepth 100000 in
theorem q_405 : Cond.code y_Mc_endTrapped prog_6_method_11_code 1 (Option.none : Option FieldType) ∈ TBL := inT 446 rfl rfl
theorem q_406 : Cond.methodLink "PluginRunnerLaw" 44 y_PR_reply ∈ TBL := inT 447 (by decide +kernel) rfl
theorem q_407 : Cond.instanceMethod y_PR_reply ∈ TBL := inT 448 (by decide +kernel) rfl
theorem q_408 : Cond.selects "PluginRunner" y_PR_reply y_PR_reply ∈ TBL := inT 449 (by decide +kernel) rfl
set_option maxRecDepth 100000 in
theorem q_409 : Cond.code y_PR_reply prog_1_method_9_code 2 (Option.some FieldType.int) ∈ TBL := inT 450 rfl rfl
theorem q_410 : Cond.methodLink "PluginRunner" 96 y_Mc_takeAnswer ∈ TBL := inT 451 (by decide +kernel) rfl
theorem q_411 : Cond.instanceMethod y_Mc_takeAnswer ∈ TBL := inT 452 (by decide +kernel) rfl
theorem q_412 : Cond.selects "PluginRunner$Machine" y_Mc_takeAnswer y_Mc_takeAnswer ∈ TBL := inT 453 (by decide +kernel) rfl
set_option maxRecDepth 100000 in
theorem q_413 : Cond.code y_Mc_takeAnswer prog_6_method_7_code 2 (Option.none : Option FieldType) ∈ TBL := inT 454 rfl rfl
theorem q_414 : Cond.methodLink "PluginRunnerLaw" 48 y_PR_grant ∈ TBL := inT 455 (by decide +kernel) rfl
theorem q_415 : Cond.instanceMethod y_PR_grant ∈ TBL := inT 456 (by decide +kernel) rfl
theorem q_416 : Cond.selects "PluginRunner" y_PR_grant y_PR_grant ∈ TBL := inT 457 (by decide +kernel) rfl
set_option maxRecDepth 100000 in
theorem q_417 : Cond.code y_PR_grant prog_1_method_10_code 3 (Option.some FieldType.int) ∈ TBL := inT 458 rfl rfl
theorem q_418 : Cond.methodLink "PluginRunnerLaw" 53 y_PR_result ∈ TBL := inT 459 (by decide +kernel) rfl
theorem q_419 : Cond.instanceMethod y_PR_result ∈ TBL := inT 460 (by decide +kernel) rfl
theorem q_420 : Cond.selects "PluginRunner" y_PR_result y_PR_result ∈ TBL := inT 461 (by decide +kernel) rfl
set_option maxRecDepth 100000 in
theorem q_421 : Cond.code y_PR_result prog_1_method_11_code 1 (Option.some FieldType.long) ∈ TBL := inT 462 rfl rfl
theorem q_422 : Cond.methodLink "PluginRunnerLaw" 58 y_PR_memory ∈ TBL := inT 463 (by decide +kernel) rfl
theorem q_423 : Cond.instanceMethod y_PR_memory ∈ TBL := inT 464 (by decide +kernel) rfl
theorem q_424 : Cond.selects "PluginRunner" y_PR_memory y_PR_memory ∈ TBL := inT 465 (by decide +kernel) rfl
set_option maxRecDepth 100000 in
theorem q_425 : Cond.code y_PR_memory prog_1_method_12_code 2 (Option.some FieldType.long) ∈ TBL := inT 466 rfl rfl
theorem q_426 : Cond.constantLong "PluginRunner" 112 (-1000000000000 : Int64) ∈ TBL := inT 467 (by decide +kernel) rfl
theorem q_427 : Cond.methodLink "PluginRunnerLaw" 63 y_PR_poke ∈ TBL := inT 468 (by decide +kernel) rfl
theorem q_428 : Cond.instanceMethod y_PR_poke ∈ TBL := inT 469 (by decide +kernel) rfl
theorem q_429 : Cond.selects "PluginRunner" y_PR_poke y_PR_poke ∈ TBL := inT 470 (by decide +kernel) rfl
set_option maxRecDepth 100000 in
theorem q_430 : Cond.code y_PR_poke prog_1_method_13_code 3 (Option.some FieldType.int) ∈ TBL := inT 471 rfl rfl
theorem q_431 : Cond.methodLink "PluginRunnerLaw" 68 y_PR_state ∈ TBL := inT 472 (by decide +kernel) rfl
theorem q_432 : Cond.instanceMethod y_PR_state ∈ TBL := inT 473 (by decide +kernel) rfl
theorem q_433 : Cond.selects "PluginRunner" y_PR_state y_PR_state ∈ TBL := inT 474 (by decide +kernel) rfl
set_option maxRecDepth 100000 in
theorem q_434 : Cond.code y_PR_state prog_1_method_14_code 2 (Option.some FieldType.int) ∈ TBL := inT 475 rfl rfl
theorem q_435 : Cond.methodLink "PluginRunner" 117 y_Mc_innermost ∈ TBL := inT 476 (by decide +kernel) rfl
theorem q_436 : Cond.methodLink "PluginRunnerLaw" 72 y_PR_count ∈ TBL := inT 477 (by decide +kernel) rfl
theorem q_437 : Cond.instanceMethod y_PR_count ∈ TBL := inT 478 (by decide +kernel) rfl
theorem q_438 : Cond.selects "PluginRunner" y_PR_count y_PR_count ∈ TBL := inT 479 (by decide +kernel) rfl
set_option maxRecDepth 100000 in
theorem q_439 : Cond.code y_PR_count prog_1_method_15_code 2 (Option.some FieldType.int) ∈ TBL := inT 480 rfl rfl
theorem q_440 : Cond.classLink "PluginRunnerLaw" 10 "PluginRunnerModel" ∈ TBL := inT 481 (by decide +kernel) rfl
theorem q_441 : Cond.instantiable "PluginRunnerModel" 30 ∈ TBL := inT 482 (by decide +kernel) rfl
theorem q_442 : Cond.methodLink "PluginRunnerLaw" 12 y_Mo_init ∈ TBL := inT 483 (by decide +kernel) rfl
theorem q_443 : Cond.instanceMethod y_Mo_init ∈ TBL := inT 484 (by decide +kernel) rfl
set_option maxRecDepth 100000 in
theorem q_444 : Cond.code y_Mo_init prog_10_method_1_code 1 (Option.none : Option FieldType) ∈ TBL := inT 485 rfl rfl
theorem q_445 : Cond.methodLink "PluginRunnerModel" 1 y_Obj_init ∈ TBL := inT 486 (by decide +kernel) rfl
theorem q_446 : Cond.fieldLink "PluginRunnerModel" 7 "PluginRunnerModel" "takes" "[I" ∈ TBL := inT 487 (by decide +kernel) rfl
theorem q_447 : Cond.fieldLink "PluginRunnerModel" 13 "PluginRunnerModel" "gives" "[I" ∈ TBL := inT 488 (by decide +kernel) rfl
theorem q_448 : Cond.fieldLink "PluginRunnerModel" 16 "PluginRunnerModel" "more" "[I" ∈ TBL := inT 489 (by decide +kernel) rfl
theorem q_449 : Cond.fieldLink "PluginRunnerModel" 19 "PluginRunnerModel" "length" "[I" ∈ TBL := inT 490 (by decide +kernel) rfl
theorem q_450 : Cond.fieldLink "PluginRunnerModel" 22 "PluginRunnerModel" "op" "[I" ∈ TBL := inT 491 (by decide +kernel) rfl
theorem q_451 : Cond.fieldLink "PluginRunnerModel" 25 "PluginRunnerModel" "arg" "[I" ∈ TBL := inT 492 (by decide +kernel) rfl
theorem q_452 : Cond.fieldLink "PluginRunnerModel" 67 "PluginRunnerModel" "functions" "I" ∈ TBL := inT 493 (by decide +kernel) rfl
theorem q_453 : Cond.fieldLink "PluginRunnerModel" 100 "PluginRunnerModel" "fault" "I" ∈ TBL := inT 494 (by decide +kernel) rfl
theorem q_454 : Cond.fieldLink "PluginRunnerModel" 57 "PluginRunnerModel" "checked" "Z" ∈ TBL := inT 495 (by decide +kernel) rfl
theorem q_455 : Cond.fieldLink "PluginRunnerModel" 28 "PluginRunnerModel" "opened" "[I" ∈ TBL := inT 496 (by decide +kernel) rfl
theorem q_456 : Cond.fieldLink "PluginRunnerModel" 31 "PluginRunnerModel" "base" "[I" ∈ TBL := inT 497 (by decide +kernel) rfl
theorem q_457 : Cond.fieldLink "PluginRunnerModel" 77 "PluginRunnerModel" "open" "I" ∈ TBL := inT 498 (by decide +kernel) rfl
theorem q_458 : Cond.fieldLink "PluginRunnerModel" 91 "PluginRunnerModel" "height" "I" ∈ TBL := inT 499 (by decide +kernel) rfl
theorem q_459 : Cond.fieldLink "PluginRunnerModel" 80 "PluginRunnerModel" "dead" "Z" ∈ TBL := inT 500 (by decide +kernel) rfl
theorem q_460 : Cond.fieldLink "PluginRunnerModel" 34 "PluginRunnerModel" "running" "[I" ∈ TBL := inT 501 (by decide +kernel) rfl
theorem q_461 : Cond.fieldLink "PluginRunnerModel" 37 "PluginRunnerModel" "next" "[I" ∈ TBL := inT 502 (by decide +kernel) rfl
theorem q_462 : Cond.fieldLink "PluginRunnerModel" 40 "PluginRunnerModel" "locals" "[I" ∈ TBL := inT 503 (by decide +kernel) rfl
theorem q_463 : Cond.fieldLink "PluginRunnerModel" 43 "PluginRunnerModel" "stack" "[I" ∈ TBL := inT 504 (by decide +kernel) rfl
theorem q_464 : Cond.fieldLink "PluginRunnerModel" 61 "PluginRunnerModel" "depth" "I" ∈ TBL := inT 505 (by decide +kernel) rfl
theorem q_465 : Cond.fieldLink "PluginRunnerModel" 64 "PluginRunnerModel" "size" "I" ∈ TBL := inT 506 (by decide +kernel) rfl
theorem q_466 : Cond.fieldLink "PluginRunnerModel" 46 "PluginRunnerModel" "waits" "I" ∈ TBL := inT 507 (by decide +kernel) rfl
theorem q_467 : Cond.fieldLink "PluginRunnerModel" 153 "PluginRunnerModel" "askedWith" "I" ∈ TBL := inT 508 (by decide +kernel) rfl
theorem q_468 : Cond.fieldLink "PluginRunnerModel" 111 "PluginRunnerModel" "trap" "I" ∈ TBL := inT 509 (by decide +kernel) rfl
theorem q_469 : Cond.fieldLink "PluginRunnerModel" 50 "PluginRunnerModel" "cells" "[I" ∈ TBL := inT 510 (by decide +kernel) rfl
theorem q_470 : Cond.fieldLink "PluginRunnerModel" 53 "PluginRunnerModel" "granted" "[Z" ∈ TBL := inT 511 (by decide +kernel) rfl
theorem q_471 : Cond.fieldLink "PluginRunnerModel" 117 "PluginRunnerModel" "hasResult" "Z" ∈ TBL := inT 512 (by decide +kernel) rfl
theorem q_472 : Cond.fieldLink "PluginRunnerModel" 124 "PluginRunnerModel" "result" "I" ∈ TBL := inT 513 (by decide +kernel) rfl
theorem q_473 : Cond.fieldLink "PluginRunnerModel" 156 "PluginRunnerModel" "fuelUsed" "I" ∈ TBL := inT 514 (by decide +kernel) rfl
theorem q_474 : Cond.fieldLink "PluginRunnerModel" 114 "PluginRunnerModel" "ended" "I" ∈ TBL := inT 515 (by decide +kernel) rfl
theorem q_475 : Cond.fieldLink "PluginRunnerModel" 162 "PluginRunnerModel" "trapped" "I" ∈ TBL := inT 516 (by decide +kernel) rfl
theorem q_537 : Cond.methodLink "PluginRunnerLaw" 17 y_Mo_function ∈ TBL := inT 578 (by decide +kernel) rfl
theorem q_538 : Cond.instanceMethod y_Mo_function ∈ TBL := inT 579 (by decide +kernel) rfl
theorem q_539 : Cond.selects "PluginRunnerModel" y_Mo_function y_Mo_function ∈ TBL := inT 580 (by decide +kernel) rfl
set_option maxRecDepth 100000 in
theorem q_540 : Cond.code y_Mo_function prog_10_method_4_code 4 (Option.some FieldType.int) ∈ TBL := inT 581 rfl rfl
theorem q_541 : Cond.methodLink "PluginRunnerModel" 70 y_Mo_changed ∈ TBL := inT 582 (by decide +kernel) rfl
theorem q_543 : Cond.instanceMethod y_Mo_changed ∈ TBL := inT 584 (by decide +kernel) rfl
set_option maxRecDepth 100000 in
theorem q_544 : Cond.code y_Mo_changed prog_10_method_2_code 1 (Option.none : Option FieldType) ∈ TBL := inT 585 rfl rfl
theorem q_545 : Cond.methodLink "PluginRunnerLaw" 21 y_Mo_emit ∈ TBL := inT 586 (by decide +kernel) rfl
theorem q_546 : Cond.instanceMethod y_Mo_emit ∈ TBL := inT 587 (by decide +kernel) rfl
theorem q_547 : Cond.selects "PluginRunnerModel" y_Mo_emit y_Mo_emit ∈ TBL := inT 588 (by decide +kernel) rfl
set_option maxRecDepth 100000 in
theorem q_548 : Cond.code y_Mo_emit prog_10_method_5_code 4 (Option.some FieldType.int) ∈ TBL := inT 589 rfl rfl
theorem q_549 : Cond.methodLink "PluginRunnerModel" 73 y_Mo_no ∈ TBL := inT 590 (by decide +kernel) rfl
theorem q_551 : Cond.instanceMethod y_Mo_no ∈ TBL := inT 592 (by decide +kernel) rfl
set_option maxRecDepth 100000 in
theorem q_552 : Cond.code y_Mo_no prog_10_method_3_code 2 (Option.some FieldType.boolean) ∈ TBL := inT 593 rfl rfl
theorem q_553 : Cond.methodLink "PluginRunnerLaw" 26 y_Mo_erase ∈ TBL := inT 594 (by decide +kernel) rfl
theorem q_554 : Cond.instanceMethod y_Mo_erase ∈ TBL := inT 595 (by decide +kernel) rfl
theorem q_555 : Cond.selects "PluginRunnerModel" y_Mo_erase y_Mo_erase ∈ TBL := inT 596 (by decide +kernel) rfl
set_option maxRecDepth 100000 in
theorem q_556 : Cond.code y_Mo_erase prog_10_method_6_code 2 (Option.some FieldType.int) ∈ TBL := inT 597 rfl rfl
theorem q_557 : Cond.methodLink "PluginRunnerLaw" 31 y_Mo_check ∈ TBL := inT 598 (by decide +kernel) rfl
theorem q_558 : Cond.instanceMethod y_Mo_check ∈ TBL := inT 599 (by decide +kernel) rfl
theorem q_559 : Cond.selects "PluginRunnerModel" y_Mo_check y_Mo_check ∈ TBL := inT 600 (by decide +kernel) rfl
set_option maxRecDepth 100000 in
theorem q_560 : Cond.code y_Mo_check prog_10_method_12_code 3 (Option.some FieldType.int) ∈ TBL := inT 601 rfl rfl
theorem q_561 : Cond.methodLink "PluginRunnerModel" 103 y_Mo_checkOne ∈ TBL := inT 602 (by decide +kernel) rfl
theorem q_563 : Cond.instanceMethod y_Mo_checkOne ∈ TBL := inT 604 (by decide +kernel) rfl
set_option maxRecDepth 100000 in
theorem q_564 : Cond.code y_Mo_checkOne prog_10_method_11_code 3 (Option.some FieldType.int) ∈ TBL := inT 605 rfl rfl
theorem q_565 : Cond.methodLink "PluginRunnerModel" 97 y_Mo_examine ∈ TBL := inT 606 (by decide +kernel) rfl
theorem q_567 : Cond.instanceMethod y_Mo_examine ∈ TBL := inT 608 (by decide +kernel) rfl
set_option maxRecDepth 100000 in
theorem q_568 : Cond.code y_Mo_examine prog_10_method_10_code 7 (Option.some FieldType.int) ∈ TBL := inT 609 rfl rfl
theorem q_569 : Cond.methodLink "PluginRunnerModel" 83 y_Mo_badArgument ∈ TBL := inT 610 (by decide +kernel) rfl
theorem q_571 : Cond.instanceMethod y_Mo_badArgument ∈ TBL := inT 612 (by decide +kernel) rfl
set_option maxRecDepth 100000 in
theorem q_572 : Cond.code y_Mo_badArgument prog_10_method_9_code 5 (Option.some FieldType.boolean) ∈ TBL := inT 613 rfl rfl
theorem q_573 : Cond.methodLink "PluginRunnerModel" 87 y_Mo_taken ∈ TBL := inT 614 (by decide +kernel) rfl
theorem q_575 : Cond.instanceMethod y_Mo_taken ∈ TBL := inT 616 (by decide +kernel) rfl
set_option maxRecDepth 100000 in
theorem q_576 : Cond.code y_Mo_taken prog_10_method_7_code 3 (Option.some FieldType.int) ∈ TBL := inT 617 rfl rfl
theorem q_577 : Cond.methodLink "PluginRunnerModel" 94 y_Mo_put ∈ TBL := inT 618 (by decide +kernel) rfl
theorem q_579 : Cond.instanceMethod y_Mo_put ∈ TBL := inT 620 (by decide +kernel) rfl
set_option maxRecDepth 100000 in
theorem q_580 : Cond.code y_Mo_put prog_10_method_8_code 3 (Option.some FieldType.int) ∈ TBL := inT 621 rfl rfl
theorem q_581 : Cond.methodLink "PluginRunnerLaw" 35 y_Mo_fault ∈ TBL := inT 622 (by decide +kernel) rfl
theorem q_582 : Cond.instanceMethod y_Mo_fault ∈ TBL := inT 623 (by decide +kernel) rfl
theorem q_583 : Cond.selects "PluginRunnerModel" y_Mo_fault y_Mo_fault ∈ TBL := inT 624 (by decide +kernel) rfl
set_option maxRecDepth 100000 in
theorem q_584 : Cond.code y_Mo_fault prog_10_method_13_code 1 (Option.some FieldType.int) ∈ TBL := inT 625 rfl rfl
theorem q_585 : Cond.methodLink "PluginRunnerLaw" 39 y_Mo_start ∈ TBL := inT 626 (by decide +kernel) rfl
theorem q_586 : Cond.instanceMethod y_Mo_start ∈ TBL := inT 627 (by decide +kernel) rfl
theorem q_587 : Cond.selects "PluginRunnerModel" y_Mo_start y_Mo_start ∈ TBL := inT 628 (by decide +kernel) rfl
set_option maxRecDepth 100000 in
theorem q_588 : Cond.code y_Mo_start prog_10_method_15_code 4 (Option.some FieldType.int) ∈ TBL := inT 629 rfl rfl
theorem q_589 : Cond.methodLink "PluginRunnerModel" 107 y_Mo_enter ∈ TBL := inT 630 (by decide +kernel) rfl
theorem q_591 : Cond.instanceMethod y_Mo_enter ∈ TBL := inT 632 (by decide +kernel) rfl
set_option maxRecDepth 100000 in
theorem q_592 : Cond.code y_Mo_enter prog_10_method_14_code 3 (Option.none : Option FieldType) ∈ TBL := inT 633 rfl rfl
theorem q_593 : Cond.methodLink "PluginRunnerLaw" 43 y_Mo_resume ∈ TBL := inT 634 (by decide +kernel) rfl
theorem q_594 : Cond.instanceMethod y_Mo_resume ∈ TBL := inT 635 (by decide +kernel) rfl
theorem q_595 : Cond.selects "PluginRunnerModel" y_Mo_resume y_Mo_resume ∈ TBL := inT 636 (by decide +kernel) rfl
set_option maxRecDepth 100000 in
theorem q_596 : Cond.code y_Mo_resume prog_10_method_25_code 3 (Option.some FieldType.int) ∈ TBL := inT 637 rfl rfl
theorem q_597 : Cond.methodLink "PluginRunnerModel" 127 y_Mo_leave ∈ TBL := inT 638 (by decide +kernel) rfl
theorem q_599 : Cond.instanceMethod y_Mo_leave ∈ TBL := inT 640 (by decide +kernel) rfl
set_option maxRecDepth 100000 in
theorem q_600 : Cond.code y_Mo_leave prog_10_method_18_code 2 (Option.none : Option FieldType) ∈ TBL := inT 641 rfl rfl
theorem q_601 : Cond.methodLink "PluginRunnerModel" 120 y_Mo_pop ∈ TBL := inT 642 (by decide +kernel) rfl
theorem q_603 : Cond.instanceMethod y_Mo_pop ∈ TBL := inT 644 (by decide +kernel) rfl
set_option maxRecDepth 100000 in
theorem q_604 : Cond.code y_Mo_pop prog_10_method_17_code 1 (Option.some FieldType.int) ∈ TBL := inT 645 rfl rfl
theorem q_605 : Cond.methodLink "PluginRunnerModel" 159 y_Mo_step ∈ TBL := inT 646 (by decide +kernel) rfl
theorem q_607 : Cond.instanceMethod y_Mo_step ∈ TBL := inT 648 (by decide +kernel) rfl
set_option maxRecDepth 100000 in
theorem q_608 : Cond.code y_Mo_step prog_10_method_23_code 5 (Option.none : Option FieldType) ∈ TBL := inT 649 rfl rfl
theorem q_609 : Cond.methodLink "PluginRunnerModel" 131 y_Mo_push ∈ TBL := inT 650 (by decide +kernel) rfl
theorem q_611 : Cond.instanceMethod y_Mo_push ∈ TBL := inT 652 (by decide +kernel) rfl
set_option maxRecDepth 100000 in
theorem q_612 : Cond.code y_Mo_push prog_10_method_16_code 2 (Option.none : Option FieldType) ∈ TBL := inT 653 rfl rfl
theorem q_613 : Cond.methodLink "PluginRunnerModel" 136 y_Mo_arithmetic ∈ TBL := inT 654 (by decide +kernel) rfl
theorem q_615 : Cond.instanceMethod y_Mo_arithmetic ∈ TBL := inT 656 (by decide +kernel) rfl
set_option maxRecDepth 100000 in
theorem q_616 : Cond.code y_Mo_arithmetic prog_10_method_21_code 4 (Option.none : Option FieldType) ∈ TBL := inT 657 rfl rfl
theorem q_617 : Cond.constant "PluginRunnerModel" 130 (-2147483648 : Int32) ∈ TBL := inT 658 (by decide +kernel) rfl
theorem q_618 : Cond.methodLink "PluginRunnerModel" 139 y_Mo_store ∈ TBL := inT 659 (by decide +kernel) rfl
theorem q_620 : Cond.instanceMethod y_Mo_store ∈ TBL := inT 661 (by decide +kernel) rfl
set_option maxRecDepth 100000 in
theorem q_621 : Cond.code y_Mo_store prog_10_method_22_code 6 (Option.none : Option FieldType) ∈ TBL := inT 662 rfl rfl
theorem q_622 : Cond.constantLong "PluginRunnerModel" 134 (31 : Int64) ∈ TBL := inT 663 (by decide +kernel) rfl
theorem q_623 : Cond.methodLink "PluginRunnerModel" 143 y_Mo_branch ∈ TBL := inT 664 (by decide +kernel) rfl
theorem q_625 : Cond.instanceMethod y_Mo_branch ∈ TBL := inT 666 (by decide +kernel) rfl
set_option maxRecDepth 100000 in
theorem q_626 : Cond.code y_Mo_branch prog_10_method_19_code 8 (Option.none : Option FieldType) ∈ TBL := inT 667 rfl rfl
theorem q_627 : Cond.methodLink "PluginRunnerModel" 147 y_Mo_call ∈ TBL := inT 668 (by decide +kernel) rfl
theorem q_629 : Cond.instanceMethod y_Mo_call ∈ TBL := inT 670 (by decide +kernel) rfl
set_option maxRecDepth 100000 in
theorem q_630 : Cond.code y_Mo_call prog_10_method_20_code 3 (Option.none : Option FieldType) ∈ TBL := inT 671 rfl rfl
theorem q_631 : Cond.methodLink "PluginRunnerModel" 150 y_Mo_ask ∈ TBL := inT 672 (by decide +kernel) rfl
theorem q_633 : Cond.instanceMethod y_Mo_ask ∈ TBL := inT 674 (by decide +kernel) rfl
set_option maxRecDepth 100000 in
theorem q_634 : Cond.code y_Mo_ask prog_10_method_24_code 2 (Option.none : Option FieldType) ∈ TBL := inT 675 rfl rfl
theorem q_635 : Cond.methodLink "PluginRunnerLaw" 47 y_Mo_reply ∈ TBL := inT 676 (by decide +kernel) rfl
theorem q_636 : Cond.instanceMethod y_Mo_reply ∈ TBL := inT 677 (by decide +kernel) rfl
theorem q_637 : Cond.selects "PluginRunnerModel" y_Mo_reply y_Mo_reply ∈ TBL := inT 678 (by decide +kernel) rfl
set_option maxRecDepth 100000 in
theorem q_638 : Cond.code y_Mo_reply prog_10_method_26_code 2 (Option.some FieldType.int) ∈ TBL := inT 679 rfl rfl
theorem q_639 : Cond.methodLink "PluginRunnerLaw" 52 y_Mo_grant ∈ TBL := inT 680 (by decide +kernel) rfl
theorem q_640 : Cond.instanceMethod y_Mo_grant ∈ TBL := inT 681 (by decide +kernel) rfl
theorem q_641 : Cond.selects "PluginRunnerModel" y_Mo_grant y_Mo_grant ∈ TBL := inT 682 (by decide +kernel) rfl
set_option maxRecDepth 100000 in
theorem q_642 : Cond.code y_Mo_grant prog_10_method_27_code 3 (Option.some FieldType.int) ∈ TBL := inT 683 rfl rfl
theorem q_643 : Cond.methodLink "PluginRunnerLaw" 57 y_Mo_result ∈ TBL := inT 684 (by decide +kernel) rfl
theorem q_644 : Cond.instanceMethod y_Mo_result ∈ TBL := inT 685 (by decide +kernel) rfl
theorem q_645 : Cond.selects "PluginRunnerModel" y_Mo_result y_Mo_result ∈ TBL := inT 686 (by decide +kernel) rfl
set_option maxRecDepth 100000 in
theorem q_646 : Cond.code y_Mo_result prog_10_method_28_code 1 (Option.some FieldType.long) ∈ TBL := inT 687 rfl rfl
theorem q_647 : Cond.constantLong "PluginRunnerModel" 165 (-1000000000000 : Int64) ∈ TBL := inT 688 (by decide +kernel) rfl
theorem q_648 : Cond.methodLink "PluginRunnerLaw" 62 y_Mo_memory ∈ TBL := inT 689 (by decide +kernel) rfl
theorem q_649 : Cond.instanceMethod y_Mo_memory ∈ TBL := inT 690 (by decide +kernel) rfl
theorem q_650 : Cond.selects "PluginRunnerModel" y_Mo_memory y_Mo_memory ∈ TBL := inT 691 (by decide +kernel) rfl
set_option maxRecDepth 100000 in
theorem q_651 : Cond.code y_Mo_memory prog_10_method_29_code 2 (Option.some FieldType.long) ∈ TBL := inT 692 rfl rfl
theorem q_652 : Cond.methodLink "PluginRunnerLaw" 67 y_Mo_poke ∈ TBL := inT 693 (by decide +kernel) rfl
theorem q_653 : Cond.instanceMethod y_Mo_poke ∈ TBL := inT 694 (by decide +kernel) rfl
theorem q_654 : Cond.selects "PluginRunnerModel" y_Mo_poke y_Mo_poke ∈ TBL := inT 695 (by decide +kernel) rfl
set_option maxRecDepth 100000 in
theorem q_655 : Cond.code y_Mo_poke prog_10_method_30_code 3 (Option.some FieldType.int) ∈ TBL := inT 696 rfl rfl
theorem q_656 : Cond.methodLink "PluginRunnerLaw" 71 y_Mo_state ∈ TBL := inT 697 (by decide +kernel) rfl
theorem q_657 : Cond.instanceMethod y_Mo_state ∈ TBL := inT 698 (by decide +kernel) rfl
theorem q_658 : Cond.selects "PluginRunnerModel" y_Mo_state y_Mo_state ∈ TBL := inT 699 (by decide +kernel) rfl
set_option maxRecDepth 100000 in
theorem q_659 : Cond.code y_Mo_state prog_10_method_31_code 2 (Option.some FieldType.int) ∈ TBL := inT 700 rfl rfl
theorem q_660 : Cond.methodLink "PluginRunnerLaw" 75 y_Mo_count ∈ TBL := inT 701 (by decide +kernel) rfl
theorem q_661 : Cond.instanceMethod y_Mo_count ∈ TBL := inT 702 (by decide +kernel) rfl
theorem q_662 : Cond.selects "PluginRunnerModel" y_Mo_count y_Mo_count ∈ TBL := inT 703 (by decide +kernel) rfl
set_option maxRecDepth 100000 in
theorem q_663 : Cond.code y_Mo_count prog_10_method_32_code 2 (Option.some FieldType.int) ∈ TBL := inT 704 rfl rfl
theorem qp_0 : Cond.selects "PluginRunner" y_PR_forgetCheckAndRun y_PR_forgetCheckAndRun ∈ TBL := inT 0 (by decide +kernel) rfl
theorem qp_1 : Cond.selects "PluginRunner$Machine" y_Mc_stopWaiting y_Mc_stopWaiting ∈ TBL := inT 1 (by decide +kernel) rfl
theorem qp_2 : Cond.selects "PluginRunner$Checker" y_Ck_goThrough y_Ck_goThrough ∈ TBL := inT 2 (by decide +kernel) rfl
theorem qp_3 : Cond.selects "PluginRunner$Checker" y_Ck_sortOf y_Ck_sortOf ∈ TBL := inT 3 (by decide +kernel) rfl
theorem qp_4 : Cond.selects "PluginRunner$Checker" y_Ck_isArgument y_Ck_isArgument ∈ TBL := inT 4 (by decide +kernel) rfl
theorem qp_5 : Cond.selects "PluginRunner$Checker" y_Ck_closesWell y_Ck_closesWell ∈ TBL := inT 5 (by decide +kernel) rfl
theorem qp_6 : Cond.selects "PluginRunner$Checker" y_Ck_leavesWell y_Ck_leavesWell ∈ TBL := inT 6 (by decide +kernel) rfl
theorem qp_7 : Cond.selects "PluginRunner$Checker" y_Ck_pass y_Ck_pass ∈ TBL := inT 7 (by decide +kernel) rfl
theorem qp_8 : Cond.selects "PluginRunner$Checker" y_Ck_sortOfTheEnd y_Ck_sortOfTheEnd ∈ TBL := inT 8 (by decide +kernel) rfl
theorem qp_9 : Cond.selects "PluginRunner$Machine" y_Mc_enter y_Mc_enter ∈ TBL := inT 9 (by decide +kernel) rfl
theorem qp_10 : Cond.selects "PluginRunner$Machine" y_Mc_leaveFinished y_Mc_leaveFinished ∈ TBL := inT 10 (by decide +kernel) rfl
theorem qp_11 : Cond.selects "PluginRunner$Machine" y_Mc_keepResult y_Mc_keepResult ∈ TBL := inT 11 (by decide +kernel) rfl
theorem qp_12 : Cond.selects "PluginRunner$Machine" y_Mc_step y_Mc_step ∈ TBL := inT 12 (by decide +kernel) rfl
theorem qp_13 : Cond.selects "PluginRunner$Machine" y_Mc_put y_Mc_put ∈ TBL := inT 13 (by decide +kernel) rfl
theorem qp_14 : Cond.selects "PluginRunner$Machine" y_Mc_take y_Mc_take ∈ TBL := inT 14 (by decide +kernel) rfl
theorem qp_15 : Cond.selects "PluginRunner$Machine" y_Mc_load y_Mc_load ∈ TBL := inT 15 (by decide +kernel) rfl
theorem qp_16 : Cond.selects "PluginRunner$Machine" y_Mc_store y_Mc_store ∈ TBL := inT 16 (by decide +kernel) rfl
theorem qp_17 : Cond.selects "PluginRunner$Function" y_Fn_openingOf y_Fn_openingOf ∈ TBL := inT 17 (by decide +kernel) rfl
theorem qp_18 : Cond.selects "PluginRunner$Function" y_Fn_behindEndOf y_Fn_behindEndOf ∈ TBL := inT 18 (by decide +kernel) rfl
theorem qp_19 : Cond.selects "PluginRunner$Machine" y_Mc_call y_Mc_call ∈ TBL := inT 19 (by decide +kernel) rfl
theorem qp_20 : Cond.selects "PluginRunner$Machine" y_Mc_ask y_Mc_ask ∈ TBL := inT 20 (by decide +kernel) rfl
theorem qp_21 : Cond.selects "PluginRunner$Machine" y_Mc_calculate y_Mc_calculate ∈ TBL := inT 21 (by decide +kernel) rfl
theorem qp_22 : Cond.selects "PluginRunner$Machine" y_Mc_divide y_Mc_divide ∈ TBL := inT 22 (by decide +kernel) rfl
theorem qp_23 : Cond.selects "PluginRunner$Machine" y_Mc_endTrapped y_Mc_endTrapped ∈ TBL := inT 23 (by decide +kernel) rfl
theorem qp_24 : Cond.selects "PluginRunnerModel" y_Mo_changed y_Mo_changed ∈ TBL := inT 24 (by decide +kernel) rfl
theorem qp_25 : Cond.selects "PluginRunnerModel" y_Mo_no y_Mo_no ∈ TBL := inT 25 (by decide +kernel) rfl
theorem qp_26 : Cond.selects "PluginRunnerModel" y_Mo_checkOne y_Mo_checkOne ∈ TBL := inT 26 (by decide +kernel) rfl
theorem qp_27 : Cond.selects "PluginRunnerModel" y_Mo_examine y_Mo_examine ∈ TBL := inT 27 (by decide +kernel) rfl
theorem qp_28 : Cond.selects "PluginRunnerModel" y_Mo_badArgument y_Mo_badArgument ∈ TBL := inT 28 (by decide +kernel) rfl
theorem qp_29 : Cond.selects "PluginRunnerModel" y_Mo_taken y_Mo_taken ∈ TBL := inT 29 (by decide +kernel) rfl
theorem qp_30 : Cond.selects "PluginRunnerModel" y_Mo_put y_Mo_put ∈ TBL := inT 30 (by decide +kernel) rfl
theorem qp_31 : Cond.selects "PluginRunnerModel" y_Mo_enter y_Mo_enter ∈ TBL := inT 31 (by decide +kernel) rfl
theorem qp_32 : Cond.selects "PluginRunnerModel" y_Mo_leave y_Mo_leave ∈ TBL := inT 32 (by decide +kernel) rfl
theorem qp_33 : Cond.selects "PluginRunnerModel" y_Mo_pop y_Mo_pop ∈ TBL := inT 33 (by decide +kernel) rfl
theorem qp_34 : Cond.selects "PluginRunnerModel" y_Mo_step y_Mo_step ∈ TBL := inT 34 (by decide +kernel) rfl
theorem qp_35 : Cond.selects "PluginRunnerModel" y_Mo_push y_Mo_push ∈ TBL := inT 35 (by decide +kernel) rfl
theorem qp_36 : Cond.selects "PluginRunnerModel" y_Mo_arithmetic y_Mo_arithmetic ∈ TBL := inT 36 (by decide +kernel) rfl
theorem qp_37 : Cond.selects "PluginRunnerModel" y_Mo_store y_Mo_store ∈ TBL := inT 37 (by decide +kernel) rfl
theorem qp_38 : Cond.selects "PluginRunnerModel" y_Mo_branch y_Mo_branch ∈ TBL := inT 38 (by decide +kernel) rfl
theorem qp_39 : Cond.selects "PluginRunnerModel" y_Mo_call y_Mo_call ∈ TBL := inT 39 (by decide +kernel) rfl
theorem qp_40 : Cond.selects "PluginRunnerModel" y_Mo_ask y_Mo_ask ∈ TBL := inT 40 (by decide +kernel) rfl
