section
-- ===== PART A: goes FIRST, ahead of the names: the tables' words, and 'selects' of the private methods out of them =====
/-- a private method of a class that the tables say can be made, by its rows of tables_1 -/
def lw_okq (q : MethodName × Nat) : Prop := (q.1.cls ≠ "java/lang/invoke/MethodHandle" ∧ q.1.cls ≠ "java/lang/invoke/VarHandle") ∧ Cond.instantiable q.1.cls q.2 ∈ tables_1 ∧ Cond.privateMethod q.1 ∈ tables_1 ∧ Cond.instanceMethod q.1 ∈ tables_1
theorem lw_p0 : lw_okq (⟨"PluginRunner", "forgetCheckAndRun", "()V"⟩, 4) := ⟨⟨by decide +kernel, by decide +kernel⟩, List.mem_of_getElem? (i := 10) (by decide +kernel), List.mem_of_getElem? (i := 212) (by decide +kernel), List.mem_of_getElem? (i := 213) (by decide +kernel)⟩
theorem lw_p1 : lw_okq (⟨"PluginRunner$Machine", "stopWaiting", "()V"⟩, 13) := ⟨⟨by decide +kernel, by decide +kernel⟩, List.mem_of_getElem? (i := 112) (by decide +kernel), List.mem_of_getElem? (i := 220) (by decide +kernel), List.mem_of_getElem? (i := 221) (by decide +kernel)⟩
theorem lw_p2 : lw_okq (⟨"PluginRunner$Checker", "goThrough", "(LPluginRunner$Function;)V"⟩, 8) := ⟨⟨by decide +kernel, by decide +kernel⟩, List.mem_of_getElem? (i := 78) (by decide +kernel), List.mem_of_getElem? (i := 252) (by decide +kernel), List.mem_of_getElem? (i := 253) (by decide +kernel)⟩
theorem lw_p3 : lw_okq (⟨"PluginRunner$Checker", "sortOf", "(LPluginRunner$Function;II)I"⟩, 8) := ⟨⟨by decide +kernel, by decide +kernel⟩, List.mem_of_getElem? (i := 78) (by decide +kernel), List.mem_of_getElem? (i := 256) (by decide +kernel), List.mem_of_getElem? (i := 257) (by decide +kernel)⟩
theorem lw_p4 : lw_okq (⟨"PluginRunner$Checker", "isArgument", "(LPluginRunner$Function;II)Z"⟩, 8) := ⟨⟨by decide +kernel, by decide +kernel⟩, List.mem_of_getElem? (i := 78) (by decide +kernel), List.mem_of_getElem? (i := 260) (by decide +kernel), List.mem_of_getElem? (i := 261) (by decide +kernel)⟩
theorem lw_p5 : lw_okq (⟨"PluginRunner$Checker", "closesWell", "()Z"⟩, 8) := ⟨⟨by decide +kernel, by decide +kernel⟩, List.mem_of_getElem? (i := 78) (by decide +kernel), List.mem_of_getElem? (i := 272) (by decide +kernel), List.mem_of_getElem? (i := 273) (by decide +kernel)⟩
theorem lw_p6 : lw_okq (⟨"PluginRunner$Checker", "leavesWell", "(LPluginRunner$Function;III)Z"⟩, 8) := ⟨⟨by decide +kernel, by decide +kernel⟩, List.mem_of_getElem? (i := 78) (by decide +kernel), List.mem_of_getElem? (i := 276) (by decide +kernel), List.mem_of_getElem? (i := 277) (by decide +kernel)⟩
theorem lw_p7 : lw_okq (⟨"PluginRunner$Checker", "pass", "(II)V"⟩, 8) := ⟨⟨by decide +kernel, by decide +kernel⟩, List.mem_of_getElem? (i := 78) (by decide +kernel), List.mem_of_getElem? (i := 280) (by decide +kernel), List.mem_of_getElem? (i := 281) (by decide +kernel)⟩
theorem lw_p8 : lw_okq (⟨"PluginRunner$Checker", "sortOfTheEnd", "(LPluginRunner$Function;)I"⟩, 8) := ⟨⟨by decide +kernel, by decide +kernel⟩, List.mem_of_getElem? (i := 78) (by decide +kernel), List.mem_of_getElem? (i := 296) (by decide +kernel), List.mem_of_getElem? (i := 297) (by decide +kernel)⟩
theorem lw_p9 : lw_okq (⟨"PluginRunner$Machine", "enter", "(I)LPluginRunner$Frame;"⟩, 13) := ⟨⟨by decide +kernel, by decide +kernel⟩, List.mem_of_getElem? (i := 112) (by decide +kernel), List.mem_of_getElem? (i := 313) (by decide +kernel), List.mem_of_getElem? (i := 314) (by decide +kernel)⟩
theorem lw_p10 : lw_okq (⟨"PluginRunner$Machine", "leaveFinished", "()V"⟩, 13) := ⟨⟨by decide +kernel, by decide +kernel⟩, List.mem_of_getElem? (i := 112) (by decide +kernel), List.mem_of_getElem? (i := 337) (by decide +kernel), List.mem_of_getElem? (i := 338) (by decide +kernel)⟩
theorem lw_p11 : lw_okq (⟨"PluginRunner$Machine", "keepResult", "(LPluginRunner$Function;)V"⟩, 13) := ⟨⟨by decide +kernel, by decide +kernel⟩, List.mem_of_getElem? (i := 112) (by decide +kernel), List.mem_of_getElem? (i := 345) (by decide +kernel), List.mem_of_getElem? (i := 346) (by decide +kernel)⟩
theorem lw_p12 : lw_okq (⟨"PluginRunner$Machine", "step", "()I"⟩, 13) := ⟨⟨by decide +kernel, by decide +kernel⟩, List.mem_of_getElem? (i := 112) (by decide +kernel), List.mem_of_getElem? (i := 350) (by decide +kernel), List.mem_of_getElem? (i := 351) (by decide +kernel)⟩
theorem lw_p13 : lw_okq (⟨"PluginRunner$Machine", "put", "(I)I"⟩, 13) := ⟨⟨by decide +kernel, by decide +kernel⟩, List.mem_of_getElem? (i := 112) (by decide +kernel), List.mem_of_getElem? (i := 354) (by decide +kernel), List.mem_of_getElem? (i := 355) (by decide +kernel)⟩
theorem lw_p14 : lw_okq (⟨"PluginRunner$Machine", "trap", "(I)I"⟩, 13) := ⟨⟨by decide +kernel, by decide +kernel⟩, List.mem_of_getElem? (i := 112) (by decide +kernel), List.mem_of_getElem? (i := 358) (by decide +kernel), List.mem_of_getElem? (i := 359) (by decide +kernel)⟩
theorem lw_p15 : lw_okq (⟨"PluginRunner$Machine", "take", "()I"⟩, 13) := ⟨⟨by decide +kernel, by decide +kernel⟩, List.mem_of_getElem? (i := 112) (by decide +kernel), List.mem_of_getElem? (i := 362) (by decide +kernel), List.mem_of_getElem? (i := 363) (by decide +kernel)⟩
def lw_privs_1 : List (MethodName × Nat) := [(⟨"PluginRunner", "forgetCheckAndRun", "()V"⟩, 4), (⟨"PluginRunner$Machine", "stopWaiting", "()V"⟩, 13), (⟨"PluginRunner$Checker", "goThrough", "(LPluginRunner$Function;)V"⟩, 8), (⟨"PluginRunner$Checker", "sortOf", "(LPluginRunner$Function;II)I"⟩, 8), (⟨"PluginRunner$Checker", "isArgument", "(LPluginRunner$Function;II)Z"⟩, 8), (⟨"PluginRunner$Checker", "closesWell", "()Z"⟩, 8), (⟨"PluginRunner$Checker", "leavesWell", "(LPluginRunner$Function;III)Z"⟩, 8), (⟨"PluginRunner$Checker", "pass", "(II)V"⟩, 8), (⟨"PluginRunner$Checker", "sortOfTheEnd", "(LPluginRunner$Function;)I"⟩, 8), (⟨"PluginRunner$Machine", "enter", "(I)LPluginRunner$Frame;"⟩, 13), (⟨"PluginRunner$Machine", "leaveFinished", "()V"⟩, 13), (⟨"PluginRunner$Machine", "keepResult", "(LPluginRunner$Function;)V"⟩, 13), (⟨"PluginRunner$Machine", "step", "()I"⟩, 13), (⟨"PluginRunner$Machine", "put", "(I)I"⟩, 13), (⟨"PluginRunner$Machine", "trap", "(I)I"⟩, 13), (⟨"PluginRunner$Machine", "take", "()I"⟩, 13)]
theorem lw_r1 : ∀ q ∈ lw_privs_1, lw_okq q := List.forall_mem_cons.mpr ⟨lw_p0, List.forall_mem_cons.mpr ⟨lw_p1, List.forall_mem_cons.mpr ⟨lw_p2, List.forall_mem_cons.mpr ⟨lw_p3, List.forall_mem_cons.mpr ⟨lw_p4, List.forall_mem_cons.mpr ⟨lw_p5, List.forall_mem_cons.mpr ⟨lw_p6, List.forall_mem_cons.mpr ⟨lw_p7, List.forall_mem_cons.mpr ⟨lw_p8, List.forall_mem_cons.mpr ⟨lw_p9, List.forall_mem_cons.mpr ⟨lw_p10, List.forall_mem_cons.mpr ⟨lw_p11, List.forall_mem_cons.mpr ⟨lw_p12, List.forall_mem_cons.mpr ⟨lw_p13, List.forall_mem_cons.mpr ⟨lw_p14, List.forall_mem_cons.mpr ⟨lw_p15, fun _ h => absurd h List.not_mem_nil⟩⟩⟩⟩⟩⟩⟩⟩⟩⟩⟩⟩⟩⟩⟩⟩
theorem lw_p16 : lw_okq (⟨"PluginRunner$Machine", "load", "(I)I"⟩, 13) := ⟨⟨by decide +kernel, by decide +kernel⟩, List.mem_of_getElem? (i := 112) (by decide +kernel), List.mem_of_getElem? (i := 366) (by decide +kernel), List.mem_of_getElem? (i := 367) (by decide +kernel)⟩
theorem lw_p17 : lw_okq (⟨"PluginRunner$Machine", "store", "(I)I"⟩, 13) := ⟨⟨by decide +kernel, by decide +kernel⟩, List.mem_of_getElem? (i := 112) (by decide +kernel), List.mem_of_getElem? (i := 374) (by decide +kernel), List.mem_of_getElem? (i := 375) (by decide +kernel)⟩
theorem lw_p18 : lw_okq (⟨"PluginRunner$Function", "openingOf", "(II)I"⟩, 6) := ⟨⟨by decide +kernel, by decide +kernel⟩, List.mem_of_getElem? (i := 25) (by decide +kernel), List.mem_of_getElem? (i := 382) (by decide +kernel), List.mem_of_getElem? (i := 383) (by decide +kernel)⟩
theorem lw_p19 : lw_okq (⟨"PluginRunner$Function", "behindEndOf", "(I)I"⟩, 6) := ⟨⟨by decide +kernel, by decide +kernel⟩, List.mem_of_getElem? (i := 25) (by decide +kernel), List.mem_of_getElem? (i := 387) (by decide +kernel), List.mem_of_getElem? (i := 388) (by decide +kernel)⟩
theorem lw_p20 : lw_okq (⟨"PluginRunner$Machine", "call", "(I)I"⟩, 13) := ⟨⟨by decide +kernel, by decide +kernel⟩, List.mem_of_getElem? (i := 112) (by decide +kernel), List.mem_of_getElem? (i := 391) (by decide +kernel), List.mem_of_getElem? (i := 392) (by decide +kernel)⟩
theorem lw_p21 : lw_okq (⟨"PluginRunner$Machine", "ask", "(I)I"⟩, 13) := ⟨⟨by decide +kernel, by decide +kernel⟩, List.mem_of_getElem? (i := 112) (by decide +kernel), List.mem_of_getElem? (i := 395) (by decide +kernel), List.mem_of_getElem? (i := 396) (by decide +kernel)⟩
theorem lw_p22 : lw_okq (⟨"PluginRunner$Machine", "calculate", "(I)I"⟩, 13) := ⟨⟨by decide +kernel, by decide +kernel⟩, List.mem_of_getElem? (i := 112) (by decide +kernel), List.mem_of_getElem? (i := 399) (by decide +kernel), List.mem_of_getElem? (i := 400) (by decide +kernel)⟩
theorem lw_p23 : lw_okq (⟨"PluginRunner$Machine", "divide", "(II)I"⟩, 13) := ⟨⟨by decide +kernel, by decide +kernel⟩, List.mem_of_getElem? (i := 112) (by decide +kernel), List.mem_of_getElem? (i := 403) (by decide +kernel), List.mem_of_getElem? (i := 404) (by decide +kernel)⟩
theorem lw_p24 : lw_okq (⟨"PluginRunnerModel", "changed", "()V"⟩, 30) := ⟨⟨by decide +kernel, by decide +kernel⟩, List.mem_of_getElem? (i := 442) (by decide +kernel), List.mem_of_getElem? (i := 543) (by decide +kernel), List.mem_of_getElem? (i := 544) (by decide +kernel)⟩
theorem lw_p25 : lw_okq (⟨"PluginRunnerModel", "no", "(I)Z"⟩, 30) := ⟨⟨by decide +kernel, by decide +kernel⟩, List.mem_of_getElem? (i := 442) (by decide +kernel), List.mem_of_getElem? (i := 551) (by decide +kernel), List.mem_of_getElem? (i := 552) (by decide +kernel)⟩
theorem lw_p26 : lw_okq (⟨"PluginRunnerModel", "checkOne", "(I)I"⟩, 30) := ⟨⟨by decide +kernel, by decide +kernel⟩, List.mem_of_getElem? (i := 442) (by decide +kernel), List.mem_of_getElem? (i := 563) (by decide +kernel), List.mem_of_getElem? (i := 564) (by decide +kernel)⟩
theorem lw_p27 : lw_okq (⟨"PluginRunnerModel", "examine", "(II)I"⟩, 30) := ⟨⟨by decide +kernel, by decide +kernel⟩, List.mem_of_getElem? (i := 442) (by decide +kernel), List.mem_of_getElem? (i := 567) (by decide +kernel), List.mem_of_getElem? (i := 568) (by decide +kernel)⟩
theorem lw_p28 : lw_okq (⟨"PluginRunnerModel", "badArgument", "(III)Z"⟩, 30) := ⟨⟨by decide +kernel, by decide +kernel⟩, List.mem_of_getElem? (i := 442) (by decide +kernel), List.mem_of_getElem? (i := 571) (by decide +kernel), List.mem_of_getElem? (i := 572) (by decide +kernel)⟩
theorem lw_p29 : lw_okq (⟨"PluginRunnerModel", "taken", "(II)I"⟩, 30) := ⟨⟨by decide +kernel, by decide +kernel⟩, List.mem_of_getElem? (i := 442) (by decide +kernel), List.mem_of_getElem? (i := 575) (by decide +kernel), List.mem_of_getElem? (i := 576) (by decide +kernel)⟩
theorem lw_p30 : lw_okq (⟨"PluginRunnerModel", "put", "(II)I"⟩, 30) := ⟨⟨by decide +kernel, by decide +kernel⟩, List.mem_of_getElem? (i := 442) (by decide +kernel), List.mem_of_getElem? (i := 579) (by decide +kernel), List.mem_of_getElem? (i := 580) (by decide +kernel)⟩
theorem lw_p31 : lw_okq (⟨"PluginRunnerModel", "enter", "(I)V"⟩, 30) := ⟨⟨by decide +kernel, by decide +kernel⟩, List.mem_of_getElem? (i := 442) (by decide +kernel), List.mem_of_getElem? (i := 591) (by decide +kernel), List.mem_of_getElem? (i := 592) (by decide +kernel)⟩
def lw_privs_2 : List (MethodName × Nat) := [(⟨"PluginRunner$Machine", "load", "(I)I"⟩, 13), (⟨"PluginRunner$Machine", "store", "(I)I"⟩, 13), (⟨"PluginRunner$Function", "openingOf", "(II)I"⟩, 6), (⟨"PluginRunner$Function", "behindEndOf", "(I)I"⟩, 6), (⟨"PluginRunner$Machine", "call", "(I)I"⟩, 13), (⟨"PluginRunner$Machine", "ask", "(I)I"⟩, 13), (⟨"PluginRunner$Machine", "calculate", "(I)I"⟩, 13), (⟨"PluginRunner$Machine", "divide", "(II)I"⟩, 13), (⟨"PluginRunnerModel", "changed", "()V"⟩, 30), (⟨"PluginRunnerModel", "no", "(I)Z"⟩, 30), (⟨"PluginRunnerModel", "checkOne", "(I)I"⟩, 30), (⟨"PluginRunnerModel", "examine", "(II)I"⟩, 30), (⟨"PluginRunnerModel", "badArgument", "(III)Z"⟩, 30), (⟨"PluginRunnerModel", "taken", "(II)I"⟩, 30), (⟨"PluginRunnerModel", "put", "(II)I"⟩, 30), (⟨"PluginRunnerModel", "enter", "(I)V"⟩, 30)]
theorem lw_r2 : ∀ q ∈ lw_privs_2, lw_okq q := List.forall_mem_cons.mpr ⟨lw_p16, List.forall_mem_cons.mpr ⟨lw_p17, List.forall_mem_cons.mpr ⟨lw_p18, List.forall_mem_cons.mpr ⟨lw_p19, List.forall_mem_cons.mpr ⟨lw_p20, List.forall_mem_cons.mpr ⟨lw_p21, List.forall_mem_cons.mpr ⟨lw_p22, List.forall_mem_cons.mpr ⟨lw_p23, List.forall_mem_cons.mpr ⟨lw_p24, List.forall_mem_cons.mpr ⟨lw_p25, List.forall_mem_cons.mpr ⟨lw_p26, List.forall_mem_cons.mpr ⟨lw_p27, List.forall_mem_cons.mpr ⟨lw_p28, List.forall_mem_cons.mpr ⟨lw_p29, List.forall_mem_cons.mpr ⟨lw_p30, List.forall_mem_cons.mpr ⟨lw_p31, fun _ h => absurd h List.not_mem_nil⟩⟩⟩⟩⟩⟩⟩⟩⟩⟩⟩⟩⟩⟩⟩⟩
theorem lw_p32 : lw_okq (⟨"PluginRunnerModel", "leave", "()V"⟩, 30) := ⟨⟨by decide +kernel, by decide +kernel⟩, List.mem_of_getElem? (i := 442) (by decide +kernel), List.mem_of_getElem? (i := 599) (by decide +kernel), List.mem_of_getElem? (i := 600) (by decide +kernel)⟩
theorem lw_p33 : lw_okq (⟨"PluginRunnerModel", "pop", "()I"⟩, 30) := ⟨⟨by decide +kernel, by decide +kernel⟩, List.mem_of_getElem? (i := 442) (by decide +kernel), List.mem_of_getElem? (i := 603) (by decide +kernel), List.mem_of_getElem? (i := 604) (by decide +kernel)⟩
theorem lw_p34 : lw_okq (⟨"PluginRunnerModel", "step", "()V"⟩, 30) := ⟨⟨by decide +kernel, by decide +kernel⟩, List.mem_of_getElem? (i := 442) (by decide +kernel), List.mem_of_getElem? (i := 607) (by decide +kernel), List.mem_of_getElem? (i := 608) (by decide +kernel)⟩
theorem lw_p35 : lw_okq (⟨"PluginRunnerModel", "push", "(I)V"⟩, 30) := ⟨⟨by decide +kernel, by decide +kernel⟩, List.mem_of_getElem? (i := 442) (by decide +kernel), List.mem_of_getElem? (i := 611) (by decide +kernel), List.mem_of_getElem? (i := 612) (by decide +kernel)⟩
theorem lw_p36 : lw_okq (⟨"PluginRunnerModel", "arithmetic", "(I)V"⟩, 30) := ⟨⟨by decide +kernel, by decide +kernel⟩, List.mem_of_getElem? (i := 442) (by decide +kernel), List.mem_of_getElem? (i := 615) (by decide +kernel), List.mem_of_getElem? (i := 616) (by decide +kernel)⟩
theorem lw_p37 : lw_okq (⟨"PluginRunnerModel", "store", "(II)V"⟩, 30) := ⟨⟨by decide +kernel, by decide +kernel⟩, List.mem_of_getElem? (i := 442) (by decide +kernel), List.mem_of_getElem? (i := 620) (by decide +kernel), List.mem_of_getElem? (i := 621) (by decide +kernel)⟩
theorem lw_p38 : lw_okq (⟨"PluginRunnerModel", "branch", "(III)V"⟩, 30) := ⟨⟨by decide +kernel, by decide +kernel⟩, List.mem_of_getElem? (i := 442) (by decide +kernel), List.mem_of_getElem? (i := 625) (by decide +kernel), List.mem_of_getElem? (i := 626) (by decide +kernel)⟩
theorem lw_p39 : lw_okq (⟨"PluginRunnerModel", "call", "(I)V"⟩, 30) := ⟨⟨by decide +kernel, by decide +kernel⟩, List.mem_of_getElem? (i := 442) (by decide +kernel), List.mem_of_getElem? (i := 629) (by decide +kernel), List.mem_of_getElem? (i := 630) (by decide +kernel)⟩
theorem lw_p40 : lw_okq (⟨"PluginRunnerModel", "ask", "(I)V"⟩, 30) := ⟨⟨by decide +kernel, by decide +kernel⟩, List.mem_of_getElem? (i := 442) (by decide +kernel), List.mem_of_getElem? (i := 633) (by decide +kernel), List.mem_of_getElem? (i := 634) (by decide +kernel)⟩
def lw_privs_3 : List (MethodName × Nat) := [(⟨"PluginRunnerModel", "leave", "()V"⟩, 30), (⟨"PluginRunnerModel", "pop", "()I"⟩, 30), (⟨"PluginRunnerModel", "step", "()V"⟩, 30), (⟨"PluginRunnerModel", "push", "(I)V"⟩, 30), (⟨"PluginRunnerModel", "arithmetic", "(I)V"⟩, 30), (⟨"PluginRunnerModel", "store", "(II)V"⟩, 30), (⟨"PluginRunnerModel", "branch", "(III)V"⟩, 30), (⟨"PluginRunnerModel", "call", "(I)V"⟩, 30), (⟨"PluginRunnerModel", "ask", "(I)V"⟩, 30)]
theorem lw_r3 : ∀ q ∈ lw_privs_3, lw_okq q := List.forall_mem_cons.mpr ⟨lw_p32, List.forall_mem_cons.mpr ⟨lw_p33, List.forall_mem_cons.mpr ⟨lw_p34, List.forall_mem_cons.mpr ⟨lw_p35, List.forall_mem_cons.mpr ⟨lw_p36, List.forall_mem_cons.mpr ⟨lw_p37, List.forall_mem_cons.mpr ⟨lw_p38, List.forall_mem_cons.mpr ⟨lw_p39, List.forall_mem_cons.mpr ⟨lw_p40, fun _ h => absurd h List.not_mem_nil⟩⟩⟩⟩⟩⟩⟩⟩⟩
def lw_privs : List (MethodName × Nat) := lw_privs_1 ++ (lw_privs_2 ++ (lw_privs_3))
def lw_tbl : List Cond := k2_sels lw_privs ++ tables_1
theorem lw_privs_ok : ∀ q ∈ lw_privs, lw_okq q := by
  show ∀ q ∈ lw_privs_1 ++ (lw_privs_2 ++ (lw_privs_3)), lw_okq q
  exact List.forall_mem_append.mpr ⟨lw_r1, List.forall_mem_append.mpr ⟨lw_r2, lw_r3⟩⟩
-- names, by wip/whole/g01.py
abbrev R_PR : String := "PluginRunner"
abbrev R_Pg : String := "PluginRunner$Program"
abbrev R_Fn : String := "PluginRunner$Function"
abbrev R_Ck : String := "PluginRunner$Checker"
abbrev R_Mc : String := "PluginRunner$Machine"
abbrev R_Fr : String := "PluginRunner$Frame"
abbrev R_Op : String := "PluginRunner$Op"
abbrev R_Mo : String := "PluginRunnerModel"
abbrev R_Law : String := "PluginRunnerLaw"
abbrev R_Ft : String := "PluginRunner$Fault"
abbrev y_PR_init : MethodName := ⟨"PluginRunner", "<init>", "()V"⟩
abbrev y_Obj_init : MethodName := ⟨"java/lang/Object", "<init>", "()V"⟩
abbrev y_Pg_init : MethodName := ⟨"PluginRunner$Program", "<init>", "()V"⟩
abbrev y_Fn_init : MethodName := ⟨"PluginRunner$Function", "<init>", "()V"⟩
abbrev y_Ck_init : MethodName := ⟨"PluginRunner$Checker", "<init>", "(LPluginRunner$Program;)V"⟩
abbrev y_Mc_init : MethodName := ⟨"PluginRunner$Machine", "<init>", "(LPluginRunner$Program;)V"⟩
abbrev y_Fr_init : MethodName := ⟨"PluginRunner$Frame", "<init>", "()V"⟩
abbrev y_PR_function : MethodName := ⟨"PluginRunner", "function", "(III)I"⟩
abbrev y_PR_within : MethodName := ⟨"PluginRunner", "within", "(II)Z"⟩
abbrev y_PR_forgetCheckAndRun : MethodName := ⟨"PluginRunner", "forgetCheckAndRun", "()V"⟩
abbrev y_Mc_dropRun : MethodName := ⟨"PluginRunner$Machine", "dropRun", "()V"⟩
abbrev y_Mc_stopWaiting : MethodName := ⟨"PluginRunner$Machine", "stopWaiting", "()V"⟩
abbrev y_Pg_add : MethodName := ⟨"PluginRunner$Program", "add", "(III)I"⟩
abbrev y_PR_emit : MethodName := ⟨"PluginRunner", "emit", "(III)I"⟩
abbrev y_Pg_has : MethodName := ⟨"PluginRunner$Program", "has", "(I)Z"⟩
abbrev y_Fn_add : MethodName := ⟨"PluginRunner$Function", "add", "(II)I"⟩
abbrev y_PR_erase : MethodName := ⟨"PluginRunner", "erase", "(I)I"⟩
abbrev y_PR_check : MethodName := ⟨"PluginRunner", "check", "()I"⟩
abbrev y_Ck_goThroughAll : MethodName := ⟨"PluginRunner$Checker", "goThroughAll", "()V"⟩
abbrev y_Ck_goThrough : MethodName := ⟨"PluginRunner$Checker", "goThrough", "(LPluginRunner$Function;)V"⟩
abbrev y_Ck_sortOf : MethodName := ⟨"PluginRunner$Checker", "sortOf", "(LPluginRunner$Function;II)I"⟩
abbrev y_Ck_isArgument : MethodName := ⟨"PluginRunner$Checker", "isArgument", "(LPluginRunner$Function;II)Z"⟩
abbrev y_Pg_taken : MethodName := ⟨"PluginRunner$Program", "taken", "(II)I"⟩
abbrev y_Ck_closesWell : MethodName := ⟨"PluginRunner$Checker", "closesWell", "()Z"⟩
abbrev y_Ck_leavesWell : MethodName := ⟨"PluginRunner$Checker", "leavesWell", "(LPluginRunner$Function;III)Z"⟩
abbrev y_Ck_pass : MethodName := ⟨"PluginRunner$Checker", "pass", "(II)V"⟩
abbrev y_Pg_put : MethodName := ⟨"PluginRunner$Program", "put", "(II)I"⟩
abbrev y_Op_neverGoesOn : MethodName := ⟨"PluginRunner$Op", "neverGoesOn", "(I)Z"⟩
abbrev y_Op_opensPart : MethodName := ⟨"PluginRunner$Op", "opensPart", "(I)Z"⟩
abbrev y_Ck_sortOfTheEnd : MethodName := ⟨"PluginRunner$Checker", "sortOfTheEnd", "(LPluginRunner$Function;)I"⟩
abbrev y_PR_fault : MethodName := ⟨"PluginRunner", "fault", "()I"⟩
abbrev y_PR_start : MethodName := ⟨"PluginRunner", "start", "(III)I"⟩
abbrev y_Mc_begin : MethodName := ⟨"PluginRunner$Machine", "begin", "(III)V"⟩
abbrev y_Mc_enter : MethodName := ⟨"PluginRunner$Machine", "enter", "(I)LPluginRunner$Frame;"⟩
abbrev y_Fr_begin : MethodName := ⟨"PluginRunner$Frame", "begin", "(I)V"⟩
abbrev y_PR_resume : MethodName := ⟨"PluginRunner", "resume", "(I)I"⟩
abbrev y_Mc_isUnderWay : MethodName := ⟨"PluginRunner$Machine", "isUnderWay", "()Z"⟩
abbrev y_Mc_isWaiting : MethodName := ⟨"PluginRunner$Machine", "isWaiting", "()Z"⟩
abbrev y_Mc_go : MethodName := ⟨"PluginRunner$Machine", "go", "(I)I"⟩
abbrev y_Mc_leaveFinished : MethodName := ⟨"PluginRunner$Machine", "leaveFinished", "()V"⟩
abbrev y_Mc_innermost : MethodName := ⟨"PluginRunner$Machine", "innermost", "()LPluginRunner$Frame;"⟩
abbrev y_Mc_keepResult : MethodName := ⟨"PluginRunner$Machine", "keepResult", "(LPluginRunner$Function;)V"⟩
abbrev y_Mc_step : MethodName := ⟨"PluginRunner$Machine", "step", "()I"⟩
abbrev y_Mc_put : MethodName := ⟨"PluginRunner$Machine", "put", "(I)I"⟩
abbrev y_Mc_trap : MethodName := ⟨"PluginRunner$Machine", "trap", "(I)I"⟩
abbrev y_Mc_take : MethodName := ⟨"PluginRunner$Machine", "take", "()I"⟩
abbrev y_Mc_load : MethodName := ⟨"PluginRunner$Machine", "load", "(I)I"⟩
abbrev y_Mc_isCell : MethodName := ⟨"PluginRunner$Machine", "isCell", "(J)Z"⟩
abbrev y_Mc_store : MethodName := ⟨"PluginRunner$Machine", "store", "(I)I"⟩
abbrev y_Fn_target : MethodName := ⟨"PluginRunner$Function", "target", "(II)I"⟩
abbrev y_Fn_openingOf : MethodName := ⟨"PluginRunner$Function", "openingOf", "(II)I"⟩
abbrev y_Fn_behindEndOf : MethodName := ⟨"PluginRunner$Function", "behindEndOf", "(I)I"⟩
abbrev y_Mc_call : MethodName := ⟨"PluginRunner$Machine", "call", "(I)I"⟩
abbrev y_Mc_ask : MethodName := ⟨"PluginRunner$Machine", "ask", "(I)I"⟩
abbrev y_Mc_calculate : MethodName := ⟨"PluginRunner$Machine", "calculate", "(I)I"⟩
abbrev y_Mc_divide : MethodName := ⟨"PluginRunner$Machine", "divide", "(II)I"⟩
abbrev y_PR_reply : MethodName := ⟨"PluginRunner", "reply", "(I)I"⟩
abbrev y_Mc_takeAnswer : MethodName := ⟨"PluginRunner$Machine", "takeAnswer", "(I)V"⟩
abbrev y_PR_grant : MethodName := ⟨"PluginRunner", "grant", "(IZ)I"⟩
abbrev y_PR_result : MethodName := ⟨"PluginRunner", "result", "()J"⟩
abbrev y_PR_memory : MethodName := ⟨"PluginRunner", "memory", "(I)J"⟩
abbrev y_PR_poke : MethodName := ⟨"PluginRunner", "poke", "(II)I"⟩
abbrev y_PR_state : MethodName := ⟨"PluginRunner", "state", "(I)I"⟩
abbrev y_PR_count : MethodName := ⟨"PluginRunner", "count", "(I)I"⟩
abbrev y_Mo_init : MethodName := ⟨"PluginRunnerModel", "<init>", "()V"⟩
abbrev y_Mo_function : MethodName := ⟨"PluginRunnerModel", "function", "(III)I"⟩
abbrev y_Mo_changed : MethodName := ⟨"PluginRunnerModel", "changed", "()V"⟩
abbrev y_Mo_emit : MethodName := ⟨"PluginRunnerModel", "emit", "(III)I"⟩
abbrev y_Mo_no : MethodName := ⟨"PluginRunnerModel", "no", "(I)Z"⟩
abbrev y_Mo_erase : MethodName := ⟨"PluginRunnerModel", "erase", "(I)I"⟩
abbrev y_Mo_check : MethodName := ⟨"PluginRunnerModel", "check", "()I"⟩
abbrev y_Mo_checkOne : MethodName := ⟨"PluginRunnerModel", "checkOne", "(I)I"⟩
abbrev y_Mo_examine : MethodName := ⟨"PluginRunnerModel", "examine", "(II)I"⟩
abbrev y_Mo_badArgument : MethodName := ⟨"PluginRunnerModel", "badArgument", "(III)Z"⟩
abbrev y_Mo_taken : MethodName := ⟨"PluginRunnerModel", "taken", "(II)I"⟩
abbrev y_Mo_put : MethodName := ⟨"PluginRunnerModel", "put", "(II)I"⟩
abbrev y_Mo_fault : MethodName := ⟨"PluginRunnerModel", "fault", "()I"⟩
abbrev y_Mo_start : MethodName := ⟨"PluginRunnerModel", "start", "(III)I"⟩
abbrev y_Mo_enter : MethodName := ⟨"PluginRunnerModel", "enter", "(I)V"⟩
abbrev y_Mo_resume : MethodName := ⟨"PluginRunnerModel", "resume", "(I)I"⟩
abbrev y_Mo_leave : MethodName := ⟨"PluginRunnerModel", "leave", "()V"⟩
abbrev y_Mo_pop : MethodName := ⟨"PluginRunnerModel", "pop", "()I"⟩
abbrev y_Mo_step : MethodName := ⟨"PluginRunnerModel", "step", "()V"⟩
abbrev y_Mo_push : MethodName := ⟨"PluginRunnerModel", "push", "(I)V"⟩
abbrev y_Mo_arithmetic : MethodName := ⟨"PluginRunnerModel", "arithmetic", "(I)V"⟩
abbrev y_Mo_store : MethodName := ⟨"PluginRunnerModel", "store", "(II)V"⟩
abbrev y_Mo_branch : MethodName := ⟨"PluginRunnerModel", "branch", "(III)V"⟩
abbrev y_Mo_call : MethodName := ⟨"PluginRunnerModel", "call", "(I)V"⟩
abbrev y_Mo_ask : MethodName := ⟨"PluginRunnerModel", "ask", "(I)V"⟩
abbrev y_Mo_reply : MethodName := ⟨"PluginRunnerModel", "reply", "(I)I"⟩
abbrev y_Mo_grant : MethodName := ⟨"PluginRunnerModel", "grant", "(IZ)I"⟩
abbrev y_Mo_result : MethodName := ⟨"PluginRunnerModel", "result", "()J"⟩
abbrev y_Mo_memory : MethodName := ⟨"PluginRunnerModel", "memory", "(I)J"⟩
abbrev y_Mo_poke : MethodName := ⟨"PluginRunnerModel", "poke", "(II)I"⟩
abbrev y_Mo_state : MethodName := ⟨"PluginRunnerModel", "state", "(I)I"⟩
abbrev y_Mo_count : MethodName := ⟨"PluginRunnerModel", "count", "(I)I"⟩
def T_PR : u_T := fun k => match k with
  | 0 => ("PluginRunner", "program", "LPluginRunner$Program;", true)
  | 1 => ("PluginRunner", "checker", "LPluginRunner$Checker;", true)
  | 2 => ("PluginRunner", "machine", "LPluginRunner$Machine;", true)
  | _ => ("PluginRunner", "checked", "Z", false)
def ty_PR : Nat → FieldType := fun k => match k with
  | 0 => .object "PluginRunner$Program"
  | 1 => .object "PluginRunner$Checker"
  | 2 => .object "PluginRunner$Machine"
  | _ => .boolean
theorem nm_PR : ∀ a, a < 4 → ∀ b, b < 4 → a ≠ b → (T_PR a).2.1 ≠ (T_PR b).2.1 := by decide +kernel
theorem ty_PR_ok : ∀ k, k < 4 → parseFieldDescriptor (T_PR k).2.2.1 = some (ty_PR k) := by decide +kernel
def T_Pg : u_T := fun k => match k with
  | 0 => ("PluginRunner$Program", "functions", "[LPluginRunner$Function;", true)
  | _ => ("PluginRunner$Program", "size", "I", false)
def ty_Pg : Nat → FieldType := fun k => match k with
  | 0 => .array (.object "PluginRunner$Function")
  | _ => .int
theorem nm_Pg : ∀ a, a < 2 → ∀ b, b < 2 → a ≠ b → (T_Pg a).2.1 ≠ (T_Pg b).2.1 := by decide +kernel
theorem ty_Pg_ok : ∀ k, k < 2 → parseFieldDescriptor (T_Pg k).2.2.1 = some (ty_Pg k) := by decide +kernel
def T_Fn : u_T := fun k => match k with
  | 0 => ("PluginRunner$Function", "ops", "[I", true)
  | 1 => ("PluginRunner$Function", "arguments", "[I", true)
  | 2 => ("PluginRunner$Function", "length", "I", false)
  | 3 => ("PluginRunner$Function", "takes", "I", false)
  | 4 => ("PluginRunner$Function", "gives", "I", false)
  | _ => ("PluginRunner$Function", "locals", "I", false)
def ty_Fn : Nat → FieldType := fun k => match k with
  | 0 => .array .int
  | 1 => .array .int
  | 2 => .int
  | 3 => .int
  | 4 => .int
  | _ => .int
theorem nm_Fn : ∀ a, a < 6 → ∀ b, b < 6 → a ≠ b → (T_Fn a).2.1 ≠ (T_Fn b).2.1 := by decide +kernel
theorem ty_Fn_ok : ∀ k, k < 6 → parseFieldDescriptor (T_Fn k).2.2.1 = some (ty_Fn k) := by decide +kernel
def T_Ck : u_T := fun k => match k with
  | 0 => ("PluginRunner$Checker", "program", "LPluginRunner$Program;", true)
  | 1 => ("PluginRunner$Checker", "bases", "[I", true)
  | 2 => ("PluginRunner$Checker", "open", "I", false)
  | 3 => ("PluginRunner$Checker", "height", "I", false)
  | 4 => ("PluginRunner$Checker", "behindLeaving", "Z", false)
  | 5 => ("PluginRunner$Checker", "sort", "I", false)
  | 6 => ("PluginRunner$Checker", "faultyFunction", "I", false)
  | _ => ("PluginRunner$Checker", "faultyInstruction", "I", false)
def ty_Ck : Nat → FieldType := fun k => match k with
  | 0 => .object "PluginRunner$Program"
  | 1 => .array .int
  | 2 => .int
  | 3 => .int
  | 4 => .boolean
  | 5 => .int
  | 6 => .int
  | _ => .int
theorem nm_Ck : ∀ a, a < 8 → ∀ b, b < 8 → a ≠ b → (T_Ck a).2.1 ≠ (T_Ck b).2.1 := by decide +kernel
theorem ty_Ck_ok : ∀ k, k < 8 → parseFieldDescriptor (T_Ck k).2.2.1 = some (ty_Ck k) := by decide +kernel
def T_Mc : u_T := fun k => match k with
  | 0 => ("PluginRunner$Machine", "program", "LPluginRunner$Program;", true)
  | 1 => ("PluginRunner$Machine", "frames", "[LPluginRunner$Frame;", true)
  | 2 => ("PluginRunner$Machine", "stack", "[I", true)
  | 3 => ("PluginRunner$Machine", "cells", "[I", true)
  | 4 => ("PluginRunner$Machine", "granted", "[Z", true)
  | 5 => ("PluginRunner$Machine", "depth", "I", false)
  | 6 => ("PluginRunner$Machine", "values", "I", false)
  | 7 => ("PluginRunner$Machine", "waitsFor", "I", false)
  | 8 => ("PluginRunner$Machine", "asked", "I", false)
  | 9 => ("PluginRunner$Machine", "fuelUsed", "I", false)
  | 10 => ("PluginRunner$Machine", "runsEnded", "I", false)
  | 11 => ("PluginRunner$Machine", "runsTrapped", "I", false)
  | _ => ("PluginRunner$Machine", "latestResult", "J", false)
def ty_Mc : Nat → FieldType := fun k => match k with
  | 0 => .object "PluginRunner$Program"
  | 1 => .array (.object "PluginRunner$Frame")
  | 2 => .array .int
  | 3 => .array .int
  | 4 => .array .boolean
  | 5 => .int
  | 6 => .int
  | 7 => .int
  | 8 => .int
  | 9 => .int
  | 10 => .int
  | 11 => .int
  | _ => .long
theorem nm_Mc : ∀ a, a < 13 → ∀ b, b < 13 → a ≠ b → (T_Mc a).2.1 ≠ (T_Mc b).2.1 := by decide +kernel
theorem ty_Mc_ok : ∀ k, k < 13 → parseFieldDescriptor (T_Mc k).2.2.1 = some (ty_Mc k) := by decide +kernel
def T_Fr : u_T := fun k => match k with
  | 0 => ("PluginRunner$Frame", "locals", "[I", true)
  | 1 => ("PluginRunner$Frame", "number", "I", false)
  | _ => ("PluginRunner$Frame", "next", "I", false)
def ty_Fr : Nat → FieldType := fun k => match k with
  | 0 => .array .int
  | 1 => .int
  | _ => .int
theorem nm_Fr : ∀ a, a < 3 → ∀ b, b < 3 → a ≠ b → (T_Fr a).2.1 ≠ (T_Fr b).2.1 := by decide +kernel
theorem ty_Fr_ok : ∀ k, k < 3 → parseFieldDescriptor (T_Fr k).2.2.1 = some (ty_Fr k) := by decide +kernel
def T_Mo : u_T := fun k => match k with
  | 0 => ("PluginRunnerModel", "takes", "[I", true)
  | 1 => ("PluginRunnerModel", "gives", "[I", true)
  | 2 => ("PluginRunnerModel", "more", "[I", true)
  | 3 => ("PluginRunnerModel", "length", "[I", true)
  | 4 => ("PluginRunnerModel", "op", "[I", true)
  | 5 => ("PluginRunnerModel", "arg", "[I", true)
  | 6 => ("PluginRunnerModel", "functions", "I", false)
  | 7 => ("PluginRunnerModel", "fault", "I", false)
  | 8 => ("PluginRunnerModel", "checked", "Z", false)
  | 9 => ("PluginRunnerModel", "opened", "[I", true)
  | 10 => ("PluginRunnerModel", "base", "[I", true)
  | 11 => ("PluginRunnerModel", "open", "I", false)
  | 12 => ("PluginRunnerModel", "height", "I", false)
  | 13 => ("PluginRunnerModel", "dead", "Z", false)
  | 14 => ("PluginRunnerModel", "running", "[I", true)
  | 15 => ("PluginRunnerModel", "next", "[I", true)
  | 16 => ("PluginRunnerModel", "locals", "[I", true)
  | 17 => ("PluginRunnerModel", "stack", "[I", true)
  | 18 => ("PluginRunnerModel", "depth", "I", false)
  | 19 => ("PluginRunnerModel", "size", "I", false)
  | 20 => ("PluginRunnerModel", "waits", "I", false)
  | 21 => ("PluginRunnerModel", "askedWith", "I", false)
  | 22 => ("PluginRunnerModel", "trap", "I", false)
  | 23 => ("PluginRunnerModel", "cells", "[I", true)
  | 24 => ("PluginRunnerModel", "granted", "[Z", true)
  | 25 => ("PluginRunnerModel", "hasResult", "Z", false)
  | 26 => ("PluginRunnerModel", "result", "I", false)
  | 27 => ("PluginRunnerModel", "fuelUsed", "I", false)
  | 28 => ("PluginRunnerModel", "ended", "I", false)
  | _ => ("PluginRunnerModel", "trapped", "I", false)
def ty_Mo : Nat → FieldType := fun k => match k with
  | 0 => .array .int
  | 1 => .array .int
  | 2 => .array .int
  | 3 => .array .int
  | 4 => .array .int
  | 5 => .array .int
  | 6 => .int
  | 7 => .int
  | 8 => .boolean
  | 9 => .array .int
  | 10 => .array .int
  | 11 => .int
  | 12 => .int
  | 13 => .boolean
  | 14 => .array .int
  | 15 => .array .int
  | 16 => .array .int
  | 17 => .array .int
  | 18 => .int
  | 19 => .int
  | 20 => .int
  | 21 => .int
  | 22 => .int
  | 23 => .array .int
  | 24 => .array .boolean
  | 25 => .boolean
  | 26 => .int
  | 27 => .int
  | 28 => .int
  | _ => .int
theorem nm_Mo : ∀ a, a < 30 → ∀ b, b < 30 → a ≠ b → (T_Mo a).2.1 ≠ (T_Mo b).2.1 := by decide +kernel
theorem ty_Mo_ok : ∀ k, k < 30 → parseFieldDescriptor (T_Mo k).2.2.1 = some (ty_Mo k) := by decide +kernel
abbrev vcl : List vw_C := [(R_PR, T_PR, 4), (R_Pg, T_Pg, 2), (R_Fn, T_Fn, 6), (R_Ck, T_Ck, 8), (R_Mc, T_Mc, 13), (R_Fr, T_Fr, 3), (R_Mo, T_Mo, 30)]
/-- the good words of the tables: one list for all methods -/
def TBL : List Cond := lw_tbl.filter goodWord
theorem inT {w : Cond} (i : Nat) (h : lw_tbl[i]? = some w) (hg : goodWord w = true) : w ∈ TBL := List.mem_filter.mpr ⟨List.mem_of_getElem? h, hg⟩
theorem inG {w : Cond} (h : w ∈ TBL) : goodWord w = true := (List.mem_filter.mp h).2
theorem inL {w : Cond} (h : w ∈ TBL) : w ∈ lw_tbl := (List.mem_filter.mp h).1
theorem goodT {ws : List Cond} (h : ∀ w ∈ ws, w ∈ TBL) : GoodIn TBL ws := fun w hw => ⟨h w hw, good_of_word (inG (h w hw))⟩
theorem inTs (ps : List Nat) (ws : List Cond) (h : ws.map some = ps.map (fun i => lw_tbl[i]?)) (hg : ws.all goodWord = true) : ∀ w ∈ ws, w ∈ TBL := by
  intro w hw
  have h1 : some w ∈ ws.map some := List.mem_map.mpr ⟨w, hw, rfl⟩
  rw [h] at h1
  obtain ⟨i, -, hi⟩ := List.mem_map.mp h1
  exact inT i hi (List.all_eq_true.mp hg w hw)
theorem in_PR : ∀ w ∈ u_ws R_PR T_PR 4, w ∈ TBL := inTs [236, 238, 240, 242] _ (by decide +kernel) (by decide +kernel)
theorem in_Pg : ∀ w ∈ u_ws R_Pg T_Pg 2, w ∈ TBL := inTs [113, 115] _ (by decide +kernel) (by decide +kernel)
theorem in_Fn : ∀ w ∈ u_ws R_Fn T_Fn 6, w ∈ TBL := inTs [92, 94, 96, 98, 100, 102] _ (by decide +kernel) (by decide +kernel)
theorem in_Ck : ∀ w ∈ u_ws R_Ck T_Ck 8, w ∈ TBL := inTs [135, 137, 139, 141, 143, 145, 147, 149] _ (by decide +kernel) (by decide +kernel)
theorem in_Mc : ∀ w ∈ u_ws R_Mc T_Mc 13, w ∈ TBL := inTs [205, 207, 209, 211, 213, 215, 217, 219, 221, 223, 225, 227, 229] _ (by decide +kernel) (by decide +kernel)
theorem in_Fr : ∀ w ∈ u_ws R_Fr T_Fr 3, w ∈ TBL := inTs [174, 176, 178] _ (by decide +kernel) (by decide +kernel)
theorem in_Mo : ∀ w ∈ u_ws R_Mo T_Mo 30, w ∈ TBL := inTs [518, 520, 522, 524, 526, 528, 530, 532, 534, 536, 538, 540, 542, 544, 546, 548, 550, 552, 554, 556, 558, 560, 562, 564, 566, 568, 570, 572, 574, 576] _ (by decide +kernel) (by decide +kernel)
theorem q_0 : Cond.initialized "PluginRunnerLaw" ∈ TBL := inT 41 (by decide +kernel) rfl
theorem q_1 : Cond.initialized "PluginRunner" ∈ TBL := inT 42 (by decide +kernel) rfl
theorem q_2 : Cond.initialized "PluginRunner$Program" ∈ TBL := inT 43 (by decide +kernel) rfl
theorem q_3 : Cond.initialized "PluginRunner$Function" ∈ TBL := inT 44 (by decide +kernel) rfl
theorem q_4 : Cond.initialized "PluginRunner$Checker" ∈ TBL := inT 45 (by decide +kernel) rfl
theorem q_5 : Cond.initialized "PluginRunner$Machine" ∈ TBL := inT 46 (by decide +kernel) rfl
theorem q_6 : Cond.initialized "PluginRunner$Frame" ∈ TBL := inT 47 (by decide +kernel) rfl
theorem q_7 : Cond.initialized "PluginRunnerModel" ∈ TBL := inT 48 (by decide +kernel) rfl
theorem q_8 : Cond.initialized "PluginRunner$Op" ∈ TBL := inT 49 (by decide +kernel) rfl
theorem q_9 : Cond.classLink "PluginRunnerLaw" 7 "PluginRunner" ∈ TBL := inT 50 (by decide +kernel) rfl
theorem q_10 : Cond.instantiable "PluginRunner" 4 ∈ TBL := inT 51 (by decide +kernel) rfl
theorem q_11 : Cond.methodLink "PluginRunnerLaw" 9 y_PR_init ∈ TBL := inT 52 (by decide +kernel) rfl
theorem q_12 : Cond.instanceMethod y_PR_init ∈ TBL := inT 53 (by decide +kernel) rfl
set_option maxRecDepth 100000 in
theorem q_13 : Cond.code y_PR_init prog_1_method_1_code 1 (Option.none : Option FieldType) ∈ TBL := inT 54 rfl rfl
theorem q_14 : Cond.methodLink "PluginRunner" 1 y_Obj_init ∈ TBL := inT 55 (by decide +kernel) rfl
theorem q_15 : Cond.instanceMethod y_Obj_init ∈ TBL := inT 56 (by decide +kernel) rfl
set_option maxRecDepth 100000 in
theorem q_16 : Cond.code y_Obj_init object_method_1_code 1 (Option.none : Option FieldType) ∈ TBL := inT 57 rfl rfl
theorem q_17 : Cond.classLink "PluginRunner" 7 "PluginRunner$Program" ∈ TBL := inT 58 (by decide +kernel) rfl
theorem q_18 : Cond.instantiable "PluginRunner$Program" 2 ∈ TBL := inT 59 (by decide +kernel) rfl
theorem q_19 : Cond.methodLink "PluginRunner" 9 y_Pg_init ∈ TBL := inT 60 (by decide +kernel) rfl
theorem q_20 : Cond.instanceMethod y_Pg_init ∈ TBL := inT 61 (by decide +kernel) rfl
set_option maxRecDepth 100000 in
theorem q_21 : Cond.code y_Pg_init prog_8_method_1_code 2 (Option.none : Option FieldType) ∈ TBL := inT 62 rfl rfl
theorem q_22 : Cond.methodLink "PluginRunner$Program" 3 y_Obj_init ∈ TBL := inT 63 (by decide +kernel) rfl
theorem q_23 : Cond.classLink "PluginRunner$Program" 9 "PluginRunner$Function" ∈ TBL := inT 64 (by decide +kernel) rfl
theorem q_25 : Cond.instantiable "PluginRunner$Function" 6 ∈ TBL := inT 66 (by decide +kernel) rfl
theorem q_27 : Cond.instanceMethod y_Fn_init ∈ TBL := inT 68 (by decide +kernel) rfl
set_option maxRecDepth 100000 in
theorem q_28 : Cond.code y_Fn_init prog_5_method_1_code 1 (Option.none : Option FieldType) ∈ TBL := inT 69 rfl rfl
theorem q_29 : Cond.methodLink "PluginRunner$Function" 3 y_Obj_init ∈ TBL := inT 70 (by decide +kernel) rfl
theorem q_30 : Cond.fieldLink "PluginRunner$Function" 9 "PluginRunner$Function" "ops" "[I" ∈ TBL := inT 71 (by decide +kernel) rfl
theorem q_31 : Cond.fieldLink "PluginRunner$Checker" 59 "PluginRunner$Function" "ops" "[I" ∈ TBL := inT 72 (by decide +kernel) rfl
theorem q_32 : Cond.fieldLink "PluginRunner$Machine" 123 "PluginRunner$Function" "ops" "[I" ∈ TBL := inT 73 (by decide +kernel) rfl
theorem q_33 : Cond.fieldLink "PluginRunner$Function" 15 "PluginRunner$Function" "arguments" "[I" ∈ TBL := inT 74 (by decide +kernel) rfl
theorem q_34 : Cond.fieldLink "PluginRunner$Checker" 62 "PluginRunner$Function" "arguments" "[I" ∈ TBL := inT 75 (by decide +kernel) rfl
theorem q_35 : Cond.fieldLink "PluginRunner$Machine" 120 "PluginRunner$Function" "arguments" "[I" ∈ TBL := inT 76 (by decide +kernel) rfl
theorem q_36 : Cond.fieldLink "PluginRunner$Function" 18 "PluginRunner$Function" "length" "I" ∈ TBL := inT 77 (by decide +kernel) rfl
theorem q_37 : Cond.fieldLink "PluginRunner$Checker" 54 "PluginRunner$Function" "length" "I" ∈ TBL := inT 78 (by decide +kernel) rfl
theorem q_38 : Cond.fieldLink "PluginRunner" 61 "PluginRunner$Function" "length" "I" ∈ TBL := inT 79 (by decide +kernel) rfl
theorem q_39 : Cond.fieldLink "PluginRunner$Machine" 110 "PluginRunner$Function" "length" "I" ∈ TBL := inT 80 (by decide +kernel) rfl
theorem q_40 : Cond.fieldLink "PluginRunner$Function" 22 "PluginRunner$Function" "takes" "I" ∈ TBL := inT 81 (by decide +kernel) rfl
theorem q_41 : Cond.fieldLink "PluginRunner$Program" 22 "PluginRunner$Function" "takes" "I" ∈ TBL := inT 82 (by decide +kernel) rfl
theorem q_42 : Cond.fieldLink "PluginRunner$Machine" 77 "PluginRunner$Function" "takes" "I" ∈ TBL := inT 83 (by decide +kernel) rfl
theorem q_43 : Cond.fieldLink "PluginRunner$Checker" 98 "PluginRunner$Function" "takes" "I" ∈ TBL := inT 84 (by decide +kernel) rfl
theorem q_44 : Cond.fieldLink "PluginRunner$Function" 25 "PluginRunner$Function" "gives" "I" ∈ TBL := inT 85 (by decide +kernel) rfl
theorem q_45 : Cond.fieldLink "PluginRunner$Program" 25 "PluginRunner$Function" "gives" "I" ∈ TBL := inT 86 (by decide +kernel) rfl
theorem q_46 : Cond.fieldLink "PluginRunner$Checker" 95 "PluginRunner$Function" "gives" "I" ∈ TBL := inT 87 (by decide +kernel) rfl
theorem q_47 : Cond.fieldLink "PluginRunner$Machine" 117 "PluginRunner$Function" "gives" "I" ∈ TBL := inT 88 (by decide +kernel) rfl
theorem q_48 : Cond.fieldLink "PluginRunner$Function" 28 "PluginRunner$Function" "locals" "I" ∈ TBL := inT 89 (by decide +kernel) rfl
theorem q_49 : Cond.fieldLink "PluginRunner$Program" 28 "PluginRunner$Function" "locals" "I" ∈ TBL := inT 90 (by decide +kernel) rfl
theorem q_50 : Cond.fieldLink "PluginRunner$Checker" 101 "PluginRunner$Function" "locals" "I" ∈ TBL := inT 91 (by decide +kernel) rfl
theorem q_64 : Cond.arrayClass FieldType.int ∈ TBL := inT 105 (by decide +kernel) rfl
theorem q_65 : Cond.fieldLink "PluginRunner$Program" 11 "PluginRunner$Program" "functions" "[LPluginRunner$Function;" ∈ TBL := inT 106 (by decide +kernel) rfl
theorem q_66 : Cond.fieldLink "PluginRunner$Checker" 46 "PluginRunner$Program" "functions" "[LPluginRunner$Function;" ∈ TBL := inT 107 (by decide +kernel) rfl
theorem q_67 : Cond.fieldLink "PluginRunner" 57 "PluginRunner$Program" "functions" "[LPluginRunner$Function;" ∈ TBL := inT 108 (by decide +kernel) rfl
theorem q_68 : Cond.fieldLink "PluginRunner$Machine" 71 "PluginRunner$Program" "functions" "[LPluginRunner$Function;" ∈ TBL := inT 109 (by decide +kernel) rfl
theorem q_69 : Cond.fieldLink "PluginRunner$Program" 17 "PluginRunner$Program" "size" "I" ∈ TBL := inT 110 (by decide +kernel) rfl
theorem q_70 : Cond.fieldLink "PluginRunner$Checker" 41 "PluginRunner$Program" "size" "I" ∈ TBL := inT 111 (by decide +kernel) rfl
theorem q_71 : Cond.fieldLink "PluginRunner" 40 "PluginRunner$Program" "size" "I" ∈ TBL := inT 112 (by decide +kernel) rfl
theorem q_77 : Cond.classLink "PluginRunner" 16 "PluginRunner$Checker" ∈ TBL := inT 118 (by decide +kernel) rfl
theorem q_78 : Cond.instantiable "PluginRunner$Checker" 8 ∈ TBL := inT 119 (by decide +kernel) rfl
theorem q_79 : Cond.methodLink "PluginRunner" 18 y_Ck_init ∈ TBL := inT 120 (by decide +kernel) rfl
theorem q_80 : Cond.instanceMethod y_Ck_init ∈ TBL := inT 121 (by decide +kernel) rfl
set_option maxRecDepth 100000 in
theorem q_81 : Cond.code y_Ck_init prog_2_method_1_code 2 (Option.none : Option FieldType) ∈ TBL := inT 122 rfl rfl
theorem q_82 : Cond.methodLink "PluginRunner$Checker" 3 y_Obj_init ∈ TBL := inT 123 (by decide +kernel) rfl
theorem q_83 : Cond.fieldLink "PluginRunner$Checker" 37 "PluginRunner$Checker" "program" "LPluginRunner$Program;" ∈ TBL := inT 124 (by decide +kernel) rfl
theorem q_84 : Cond.fieldLink "PluginRunner$Checker" 9 "PluginRunner$Checker" "bases" "[I" ∈ TBL := inT 125 (by decide +kernel) rfl
theorem q_85 : Cond.fieldLink "PluginRunner$Checker" 15 "PluginRunner$Checker" "open" "I" ∈ TBL := inT 126 (by decide +kernel) rfl
theorem q_86 : Cond.fieldLink "PluginRunner$Checker" 19 "PluginRunner$Checker" "height" "I" ∈ TBL := inT 127 (by decide +kernel) rfl
theorem q_87 : Cond.fieldLink "PluginRunner$Checker" 22 "PluginRunner$Checker" "behindLeaving" "Z" ∈ TBL := inT 128 (by decide +kernel) rfl
theorem q_88 : Cond.fieldLink "PluginRunner$Checker" 28 "PluginRunner$Checker" "sort" "I" ∈ TBL := inT 129 (by decide +kernel) rfl
theorem q_89 : Cond.fieldLink "PluginRunner" 72 "PluginRunner$Checker" "sort" "I" ∈ TBL := inT 130 (by decide +kernel) rfl
theorem q_90 : Cond.fieldLink "PluginRunner$Checker" 31 "PluginRunner$Checker" "faultyFunction" "I" ∈ TBL := inT 131 (by decide +kernel) rfl
theorem q_91 : Cond.fieldLink "PluginRunner" 75 "PluginRunner$Checker" "faultyFunction" "I" ∈ TBL := inT 132 (by decide +kernel) rfl
theorem q_92 : Cond.fieldLink "PluginRunner$Checker" 34 "PluginRunner$Checker" "faultyInstruction" "I" ∈ TBL := inT 133 (by decide +kernel) rfl
theorem q_93 : Cond.fieldLink "PluginRunner" 78 "PluginRunner$Checker" "faultyInstruction" "I" ∈ TBL := inT 134 (by decide +kernel) rfl
theorem q_111 : Cond.classLink "PluginRunner" 25 "PluginRunner$Machine" ∈ TBL := inT 152 (by decide +kernel) rfl
theorem q_112 : Cond.instantiable "PluginRunner$Machine" 13 ∈ TBL := inT 153 (by decide +kernel) rfl
theorem q_113 : Cond.methodLink "PluginRunner" 27 y_Mc_init ∈ TBL := inT 154 (by decide +kernel) rfl
theorem q_114 : Cond.instanceMethod y_Mc_init ∈ TBL := inT 155 (by decide +kernel) rfl
set_option maxRecDepth 100000 in
theorem q_115 : Cond.code y_Mc_init prog_6_method_1_code 3 (Option.none : Option FieldType) ∈ TBL := inT 156 rfl rfl
theorem q_116 : Cond.methodLink "PluginRunner$Machine" 3 y_Obj_init ∈ TBL := inT 157 (by decide +kernel) rfl
theorem q_117 : Cond.classLink "PluginRunner$Machine" 9 "PluginRunner$Frame" ∈ TBL := inT 158 (by decide +kernel) rfl
theorem q_119 : Cond.constantLong "PluginRunner$Machine" 50 (-1000000000000 : Int64) ∈ TBL := inT 160 (by decide +kernel) rfl
theorem q_120 : Cond.instantiable "PluginRunner$Frame" 3 ∈ TBL := inT 161 (by decide +kernel) rfl
theorem q_122 : Cond.instanceMethod y_Fr_init ∈ TBL := inT 163 (by decide +kernel) rfl
set_option maxRecDepth 100000 in
theorem q_123 : Cond.code y_Fr_init prog_4_method_1_code 1 (Option.none : Option FieldType) ∈ TBL := inT 164 rfl rfl
theorem q_124 : Cond.methodLink "PluginRunner$Frame" 3 y_Obj_init ∈ TBL := inT 165 (by decide +kernel) rfl
theorem q_125 : Cond.fieldLink "PluginRunner$Frame" 9 "PluginRunner$Frame" "locals" "[I" ∈ TBL := inT 166 (by decide +kernel) rfl
theorem q_126 : Cond.fieldLink "PluginRunner$Machine" 82 "PluginRunner$Frame" "locals" "[I" ∈ TBL := inT 167 (by decide +kernel) rfl
theorem q_127 : Cond.fieldLink "PluginRunner$Frame" 15 "PluginRunner$Frame" "number" "I" ∈ TBL := inT 168 (by decide +kernel) rfl
theorem q_128 : Cond.fieldLink "PluginRunner$Machine" 107 "PluginRunner$Frame" "number" "I" ∈ TBL := inT 169 (by decide +kernel) rfl
theorem q_129 : Cond.fieldLink "PluginRunner" 121 "PluginRunner$Frame" "number" "I" ∈ TBL := inT 170 (by decide +kernel) rfl
theorem q_130 : Cond.fieldLink "PluginRunner$Frame" 19 "PluginRunner$Frame" "next" "I" ∈ TBL := inT 171 (by decide +kernel) rfl
theorem q_131 : Cond.fieldLink "PluginRunner$Machine" 104 "PluginRunner$Frame" "next" "I" ∈ TBL := inT 172 (by decide +kernel) rfl
theorem q_132 : Cond.fieldLink "PluginRunner" 126 "PluginRunner$Frame" "next" "I" ∈ TBL := inT 173 (by decide +kernel) rfl
theorem q_140 : Cond.arrayClass FieldType.boolean ∈ TBL := inT 181 (by decide +kernel) rfl
theorem q_141 : Cond.fieldLink "PluginRunner$Machine" 56 "PluginRunner$Machine" "program" "LPluginRunner$Program;" ∈ TBL := inT 182 (by decide +kernel) rfl
theorem q_142 : Cond.fieldLink "PluginRunner$Machine" 11 "PluginRunner$Machine" "frames" "[LPluginRunner$Frame;" ∈ TBL := inT 183 (by decide +kernel) rfl
theorem q_143 : Cond.fieldLink "PluginRunner$Machine" 17 "PluginRunner$Machine" "stack" "[I" ∈ TBL := inT 184 (by decide +kernel) rfl
theorem q_144 : Cond.fieldLink "PluginRunner$Machine" 21 "PluginRunner$Machine" "cells" "[I" ∈ TBL := inT 185 (by decide +kernel) rfl
theorem q_145 : Cond.fieldLink "PluginRunner" 108 "PluginRunner$Machine" "cells" "[I" ∈ TBL := inT 186 (by decide +kernel) rfl
theorem q_146 : Cond.fieldLink "PluginRunner$Machine" 24 "PluginRunner$Machine" "granted" "[Z" ∈ TBL := inT 187 (by decide +kernel) rfl
theorem q_147 : Cond.fieldLink "PluginRunner" 100 "PluginRunner$Machine" "granted" "[Z" ∈ TBL := inT 188 (by decide +kernel) rfl
theorem q_148 : Cond.fieldLink "PluginRunner$Machine" 28 "PluginRunner$Machine" "depth" "I" ∈ TBL := inT 189 (by decide +kernel) rfl
theorem q_149 : Cond.fieldLink "PluginRunner" 114 "PluginRunner$Machine" "depth" "I" ∈ TBL := inT 190 (by decide +kernel) rfl
theorem q_150 : Cond.fieldLink "PluginRunner$Machine" 32 "PluginRunner$Machine" "values" "I" ∈ TBL := inT 191 (by decide +kernel) rfl
theorem q_151 : Cond.fieldLink "PluginRunner" 129 "PluginRunner$Machine" "values" "I" ∈ TBL := inT 192 (by decide +kernel) rfl
theorem q_152 : Cond.fieldLink "PluginRunner$Machine" 35 "PluginRunner$Machine" "waitsFor" "I" ∈ TBL := inT 193 (by decide +kernel) rfl
theorem q_153 : Cond.fieldLink "PluginRunner" 132 "PluginRunner$Machine" "waitsFor" "I" ∈ TBL := inT 194 (by decide +kernel) rfl
theorem q_154 : Cond.fieldLink "PluginRunner$Machine" 38 "PluginRunner$Machine" "asked" "I" ∈ TBL := inT 195 (by decide +kernel) rfl
theorem q_155 : Cond.fieldLink "PluginRunner" 135 "PluginRunner$Machine" "asked" "I" ∈ TBL := inT 196 (by decide +kernel) rfl
theorem q_156 : Cond.fieldLink "PluginRunner$Machine" 41 "PluginRunner$Machine" "fuelUsed" "I" ∈ TBL := inT 197 (by decide +kernel) rfl
theorem q_157 : Cond.fieldLink "PluginRunner" 138 "PluginRunner$Machine" "fuelUsed" "I" ∈ TBL := inT 198 (by decide +kernel) rfl
theorem q_158 : Cond.fieldLink "PluginRunner$Machine" 44 "PluginRunner$Machine" "runsEnded" "I" ∈ TBL := inT 199 (by decide +kernel) rfl
theorem q_159 : Cond.fieldLink "PluginRunner" 141 "PluginRunner$Machine" "runsEnded" "I" ∈ TBL := inT 200 (by decide +kernel) rfl
theorem q_160 : Cond.fieldLink "PluginRunner$Machine" 47 "PluginRunner$Machine" "runsTrapped" "I" ∈ TBL := inT 201 (by decide +kernel) rfl
theorem q_161 : Cond.fieldLink "PluginRunner" 144 "PluginRunner$Machine" "runsTrapped" "I" ∈ TBL := inT 202 (by decide +kernel) rfl
theorem q_162 : Cond.fieldLink "PluginRunner$Machine" 52 "PluginRunner$Machine" "latestResult" "J" ∈ TBL := inT 203 (by decide +kernel) rfl
theorem q_163 : Cond.fieldLink "PluginRunner" 104 "PluginRunner$Machine" "latestResult" "J" ∈ TBL := inT 204 (by decide +kernel) rfl
theorem q_191 : Cond.fieldLink "PluginRunner" 10 "PluginRunner" "program" "LPluginRunner$Program;" ∈ TBL := inT 232 (by decide +kernel) rfl
theorem q_192 : Cond.fieldLink "PluginRunner" 21 "PluginRunner" "checker" "LPluginRunner$Checker;" ∈ TBL := inT 233 (by decide +kernel) rfl
theorem q_193 : Cond.fieldLink "PluginRunner" 28 "PluginRunner" "machine" "LPluginRunner$Machine;" ∈ TBL := inT 234 (by decide +kernel) rfl
theorem q_194 : Cond.fieldLink "PluginRunner" 32 "PluginRunner" "checked" "Z" ∈ TBL := inT 235 (by decide +kernel) rfl
theorem q_204 : Cond.methodLink "PluginRunnerLaw" 13 y_PR_function ∈ TBL := inT 245 (by decide +kernel) rfl
theorem q_205 : Cond.instanceMethod y_PR_function ∈ TBL := inT 246 (by decide +kernel) rfl
theorem q_206 : Cond.selects "PluginRunner" y_PR_function y_PR_function ∈ TBL := inT 247 (by decide +kernel) rfl
set_option maxRecDepth 100000 in
theorem q_207 : Cond.code y_PR_function prog_1_method_2_code 4 (Option.some FieldType.int) ∈ TBL := inT 248 rfl rfl
theorem q_208 : Cond.methodLink "PluginRunner" 36 y_PR_within ∈ TBL := inT 249 (by decide +kernel) rfl
theorem q_209 : Cond.static y_PR_within ∈ TBL := inT 250 (by decide +kernel) rfl
set_option maxRecDepth 100000 in
theorem q_210 : Cond.code y_PR_within prog_1_method_17_code 2 (Option.some FieldType.boolean) ∈ TBL := inT 251 rfl rfl
theorem q_211 : Cond.methodLink "PluginRunner" 44 y_PR_forgetCheckAndRun ∈ TBL := inT 252 (by decide +kernel) rfl
theorem q_213 : Cond.instanceMethod y_PR_forgetCheckAndRun ∈ TBL := inT 254 (by decide +kernel) rfl
set_option maxRecDepth 100000 in
theorem q_214 : Cond.code y_PR_forgetCheckAndRun prog_1_method_16_code 1 (Option.none : Option FieldType) ∈ TBL := inT 255 rfl rfl
theorem q_215 : Cond.methodLink "PluginRunner" 147 y_Mc_dropRun ∈ TBL := inT 256 (by decide +kernel) rfl
theorem q_216 : Cond.instanceMethod y_Mc_dropRun ∈ TBL := inT 257 (by decide +kernel) rfl
theorem q_217 : Cond.selects "PluginRunner$Machine" y_Mc_dropRun y_Mc_dropRun ∈ TBL := inT 258 (by decide +kernel) rfl
set_option maxRecDepth 100000 in
theorem q_218 : Cond.code y_Mc_dropRun prog_6_method_5_code 1 (Option.none : Option FieldType) ∈ TBL := inT 259 rfl rfl
theorem q_219 : Cond.methodLink "PluginRunner$Machine" 61 y_Mc_stopWaiting ∈ TBL := inT 260 (by decide +kernel) rfl
theorem q_221 : Cond.instanceMethod y_Mc_stopWaiting ∈ TBL := inT 262 (by decide +kernel) rfl
set_option maxRecDepth 100000 in
theorem q_222 : Cond.code y_Mc_stopWaiting prog_6_method_23_code 1 (Option.none : Option FieldType) ∈ TBL := inT 263 rfl rfl
theorem q_223 : Cond.methodLink "PluginRunner" 47 y_Pg_add ∈ TBL := inT 264 (by decide +kernel) rfl
theorem q_224 : Cond.instanceMethod y_Pg_add ∈ TBL := inT 265 (by decide +kernel) rfl
theorem q_225 : Cond.selects "PluginRunner$Program" y_Pg_add y_Pg_add ∈ TBL := inT 266 (by decide +kernel) rfl
set_option maxRecDepth 100000 in
theorem q_226 : Cond.code y_Pg_add prog_8_method_3_code 5 (Option.some FieldType.int) ∈ TBL := inT 267 rfl rfl
theorem q_227 : Cond.methodLink "PluginRunnerLaw" 18 y_PR_emit ∈ TBL := inT 268 (by decide +kernel) rfl
theorem q_228 : Cond.instanceMethod y_PR_emit ∈ TBL := inT 269 (by decide +kernel) rfl
theorem q_229 : Cond.selects "PluginRunner" y_PR_emit y_PR_emit ∈ TBL := inT 270 (by decide +kernel) rfl
set_option maxRecDepth 100000 in
theorem q_230 : Cond.code y_PR_emit prog_1_method_3_code 5 (Option.some FieldType.int) ∈ TBL := inT 271 rfl rfl
theorem q_231 : Cond.methodLink "PluginRunner" 51 y_Pg_has ∈ TBL := inT 272 (by decide +kernel) rfl
theorem q_232 : Cond.instanceMethod y_Pg_has ∈ TBL := inT 273 (by decide +kernel) rfl
theorem q_233 : Cond.selects "PluginRunner$Program" y_Pg_has y_Pg_has ∈ TBL := inT 274 (by decide +kernel) rfl
set_option maxRecDepth 100000 in
theorem q_234 : Cond.code y_Pg_has prog_8_method_2_code 2 (Option.some FieldType.boolean) ∈ TBL := inT 275 rfl rfl
theorem q_235 : Cond.methodLink "PluginRunner" 66 y_Fn_add ∈ TBL := inT 276 (by decide +kernel) rfl
theorem q_236 : Cond.instanceMethod y_Fn_add ∈ TBL := inT 277 (by decide +kernel) rfl
theorem q_237 : Cond.selects "PluginRunner$Function" y_Fn_add y_Fn_add ∈ TBL := inT 278 (by decide +kernel) rfl
set_option maxRecDepth 100000 in
theorem q_238 : Cond.code y_Fn_add prog_5_method_2_code 4 (Option.some FieldType.int) ∈ TBL := inT 279 rfl rfl
theorem q_239 : Cond.methodLink "PluginRunnerLaw" 22 y_PR_erase ∈ TBL := inT 280 (by decide +kernel) rfl
theorem q_240 : Cond.instanceMethod y_PR_erase ∈ TBL := inT 281 (by decide +kernel) rfl
theorem q_241 : Cond.selects "PluginRunner" y_PR_erase y_PR_erase ∈ TBL := inT 282 (by decide +kernel) rfl
set_option maxRecDepth 100000 in
theorem q_242 : Cond.code y_PR_erase prog_1_method_4_code 2 (Option.some FieldType.int) ∈ TBL := inT 283 rfl rfl
theorem q_243 : Cond.methodLink "PluginRunnerLaw" 27 y_PR_check ∈ TBL := inT 284 (by decide +kernel) rfl
theorem q_244 : Cond.instanceMethod y_PR_check ∈ TBL := inT 285 (by decide +kernel) rfl
theorem q_245 : Cond.selects "PluginRunner" y_PR_check y_PR_check ∈ TBL := inT 286 (by decide +kernel) rfl
set_option maxRecDepth 100000 in
theorem q_246 : Cond.code y_PR_check prog_1_method_5_code 1 (Option.some FieldType.int) ∈ TBL := inT 287 rfl rfl
theorem q_247 : Cond.methodLink "PluginRunner" 69 y_Ck_goThroughAll ∈ TBL := inT 288 (by decide +kernel) rfl
theorem q_248 : Cond.instanceMethod y_Ck_goThroughAll ∈ TBL := inT 289 (by decide +kernel) rfl
theorem q_249 : Cond.selects "PluginRunner$Checker" y_Ck_goThroughAll y_Ck_goThroughAll ∈ TBL := inT 290 (by decide +kernel) rfl
set_option maxRecDepth 100000 in
theorem q_250 : Cond.code y_Ck_goThroughAll prog_2_method_2_code 2 (Option.none : Option FieldType) ∈ TBL := inT 291 rfl rfl
theorem q_251 : Cond.methodLink "PluginRunner$Checker" 50 y_Ck_goThrough ∈ TBL := inT 292 (by decide +kernel) rfl
theorem q_253 : Cond.instanceMethod y_Ck_goThrough ∈ TBL := inT 294 (by decide +kernel) rfl
set_option maxRecDepth 100000 in
theorem q_254 : Cond.code y_Ck_goThrough prog_2_method_3_code 5 (Option.none : Option FieldType) ∈ TBL := inT 295 rfl rfl
theorem q_255 : Cond.methodLink "PluginRunner$Checker" 65 y_Ck_sortOf ∈ TBL := inT 296 (by decide +kernel) rfl
theorem q_257 : Cond.instanceMethod y_Ck_sortOf ∈ TBL := inT 298 (by decide +kernel) rfl
set_option maxRecDepth 100000 in
theorem q_258 : Cond.code y_Ck_sortOf prog_2_method_4_code 5 (Option.some FieldType.int) ∈ TBL := inT 299 rfl rfl
theorem q_259 : Cond.methodLink "PluginRunner$Checker" 79 y_Ck_isArgument ∈ TBL := inT 300 (by decide +kernel) rfl
theorem q_261 : Cond.instanceMethod y_Ck_isArgument ∈ TBL := inT 302 (by decide +kernel) rfl
set_option maxRecDepth 100000 in
theorem q_262 : Cond.code y_Ck_isArgument prog_2_method_6_code 4 (Option.some FieldType.boolean) ∈ TBL := inT 303 rfl rfl
theorem q_264 : Cond.methodLink "PluginRunner$Checker" 108 y_Pg_has ∈ TBL := inT 305 (by decide +kernel) rfl
theorem q_265 : Cond.methodLink "PluginRunner$Checker" 83 y_Pg_taken ∈ TBL := inT 306 (by decide +kernel) rfl
theorem q_266 : Cond.instanceMethod y_Pg_taken ∈ TBL := inT 307 (by decide +kernel) rfl
theorem q_267 : Cond.selects "PluginRunner$Program" y_Pg_taken y_Pg_taken ∈ TBL := inT 308 (by decide +kernel) rfl
set_option maxRecDepth 100000 in
theorem q_268 : Cond.code y_Pg_taken prog_8_method_4_code 3 (Option.some FieldType.int) ∈ TBL := inT 309 rfl rfl
theorem q_271 : Cond.methodLink "PluginRunner$Checker" 87 y_Ck_closesWell ∈ TBL := inT 312 (by decide +kernel) rfl
theorem q_273 : Cond.instanceMethod y_Ck_closesWell ∈ TBL := inT 314 (by decide +kernel) rfl
set_option maxRecDepth 100000 in
theorem q_274 : Cond.code y_Ck_closesWell prog_2_method_7_code 1 (Option.some FieldType.boolean) ∈ TBL := inT 315 rfl rfl
theorem q_275 : Cond.methodLink "PluginRunner$Checker" 91 y_Ck_leavesWell ∈ TBL := inT 316 (by decide +kernel) rfl
theorem q_277 : Cond.instanceMethod y_Ck_leavesWell ∈ TBL := inT 318 (by decide +kernel) rfl
set_option maxRecDepth 100000 in
theorem q_278 : Cond.code y_Ck_leavesWell prog_2_method_8_code 5 (Option.some FieldType.boolean) ∈ TBL := inT 319 rfl rfl
theorem q_279 : Cond.methodLink "PluginRunner$Checker" 69 y_Ck_pass ∈ TBL := inT 320 (by decide +kernel) rfl
theorem q_281 : Cond.instanceMethod y_Ck_pass ∈ TBL := inT 322 (by decide +kernel) rfl
set_option maxRecDepth 100000 in
theorem q_282 : Cond.code y_Ck_pass prog_2_method_9_code 3 (Option.none : Option FieldType) ∈ TBL := inT 323 rfl rfl
theorem q_283 : Cond.methodLink "PluginRunner$Checker" 112 y_Pg_put ∈ TBL := inT 324 (by decide +kernel) rfl
theorem q_284 : Cond.instanceMethod y_Pg_put ∈ TBL := inT 325 (by decide +kernel) rfl
theorem q_285 : Cond.selects "PluginRunner$Program" y_Pg_put y_Pg_put ∈ TBL := inT 326 (by decide +kernel) rfl
set_option maxRecDepth 100000 in
theorem q_286 : Cond.code y_Pg_put prog_8_method_5_code 3 (Option.some FieldType.int) ∈ TBL := inT 327 rfl rfl
theorem q_289 : Cond.methodLink "PluginRunner$Checker" 115 y_Op_neverGoesOn ∈ TBL := inT 330 (by decide +kernel) rfl
theorem q_290 : Cond.static y_Op_neverGoesOn ∈ TBL := inT 331 (by decide +kernel) rfl
set_option maxRecDepth 100000 in
theorem q_291 : Cond.code y_Op_neverGoesOn prog_7_method_3_code 1 (Option.some FieldType.boolean) ∈ TBL := inT 332 rfl rfl
theorem q_292 : Cond.methodLink "PluginRunner$Checker" 118 y_Op_opensPart ∈ TBL := inT 333 (by decide +kernel) rfl
theorem q_293 : Cond.static y_Op_opensPart ∈ TBL := inT 334 (by decide +kernel) rfl
set_option maxRecDepth 100000 in
theorem q_294 : Cond.code y_Op_opensPart prog_7_method_2_code 1 (Option.some FieldType.boolean) ∈ TBL := inT 335 rfl rfl
theorem q_295 : Cond.methodLink "PluginRunner$Checker" 73 y_Ck_sortOfTheEnd ∈ TBL := inT 336 (by decide +kernel) rfl
theorem q_297 : Cond.instanceMethod y_Ck_sortOfTheEnd ∈ TBL := inT 338 (by decide +kernel) rfl
set_option maxRecDepth 100000 in
theorem q_298 : Cond.code y_Ck_sortOfTheEnd prog_2_method_5_code 2 (Option.some FieldType.int) ∈ TBL := inT 339 rfl rfl
theorem q_299 : Cond.methodLink "PluginRunnerLaw" 32 y_PR_fault ∈ TBL := inT 340 (by decide +kernel) rfl
theorem q_300 : Cond.instanceMethod y_PR_fault ∈ TBL := inT 341 (by decide +kernel) rfl
theorem q_301 : Cond.selects "PluginRunner" y_PR_fault y_PR_fault ∈ TBL := inT 342 (by decide +kernel) rfl
set_option maxRecDepth 100000 in
theorem q_302 : Cond.code y_PR_fault prog_1_method_6_code 1 (Option.some FieldType.int) ∈ TBL := inT 343 rfl rfl
theorem q_303 : Cond.methodLink "PluginRunnerLaw" 36 y_PR_start ∈ TBL := inT 344 (by decide +kernel) rfl
theorem q_304 : Cond.instanceMethod y_PR_start ∈ TBL := inT 345 (by decide +kernel) rfl
theorem q_305 : Cond.selects "PluginRunner" y_PR_start y_PR_start ∈ TBL := inT 346 (by decide +kernel) rfl
set_option maxRecDepth 100000 in
theorem q_306 : Cond.code y_PR_start prog_1_method_7_code 4 (Option.some FieldType.int) ∈ TBL := inT 347 rfl rfl
theorem q_307 : Cond.methodLink "PluginRunner" 81 y_Mc_begin ∈ TBL := inT 348 (by decide +kernel) rfl
theorem q_308 : Cond.instanceMethod y_Mc_begin ∈ TBL := inT 349 (by decide +kernel) rfl
theorem q_309 : Cond.selects "PluginRunner$Machine" y_Mc_begin y_Mc_begin ∈ TBL := inT 350 (by decide +kernel) rfl
set_option maxRecDepth 100000 in
theorem q_310 : Cond.code y_Mc_begin prog_6_method_6_code 6 (Option.none : Option FieldType) ∈ TBL := inT 351 rfl rfl
theorem q_311 : Cond.methodLink "PluginRunner$Machine" 64 y_Mc_dropRun ∈ TBL := inT 352 (by decide +kernel) rfl
theorem q_312 : Cond.methodLink "PluginRunner$Machine" 67 y_Mc_enter ∈ TBL := inT 353 (by decide +kernel) rfl
theorem q_314 : Cond.instanceMethod y_Mc_enter ∈ TBL := inT 355 (by decide +kernel) rfl
set_option maxRecDepth 100000 in
theorem q_315 : Cond.code y_Mc_enter prog_6_method_19_code 3 (Option.some (FieldType.object "PluginRunner$Frame")) ∈ TBL := inT 356 rfl rfl
theorem q_316 : Cond.methodLink "PluginRunner$Machine" 163 y_Fr_begin ∈ TBL := inT 357 (by decide +kernel) rfl
theorem q_317 : Cond.instanceMethod y_Fr_begin ∈ TBL := inT 358 (by decide +kernel) rfl
theorem q_318 : Cond.selects "PluginRunner$Frame" y_Fr_begin y_Fr_begin ∈ TBL := inT 359 (by decide +kernel) rfl
set_option maxRecDepth 100000 in
theorem q_319 : Cond.code y_Fr_begin prog_4_method_2_code 3 (Option.none : Option FieldType) ∈ TBL := inT 360 rfl rfl
theorem q_320 : Cond.methodLink "PluginRunnerLaw" 40 y_PR_resume ∈ TBL := inT 361 (by decide +kernel) rfl
theorem q_321 : Cond.instanceMethod y_PR_resume ∈ TBL := inT 362 (by decide +kernel) rfl
theorem q_322 : Cond.selects "PluginRunner" y_PR_resume y_PR_resume ∈ TBL := inT 363 (by decide +kernel) rfl
set_option maxRecDepth 100000 in
theorem q_323 : Cond.code y_PR_resume prog_1_method_8_code 2 (Option.some FieldType.int) ∈ TBL := inT 364 rfl rfl
theorem q_324 : Cond.methodLink "PluginRunner" 85 y_Mc_isUnderWay ∈ TBL := inT 365 (by decide +kernel) rfl
theorem q_325 : Cond.instanceMethod y_Mc_isUnderWay ∈ TBL := inT 366 (by decide +kernel) rfl
theorem q_326 : Cond.selects "PluginRunner$Machine" y_Mc_isUnderWay y_Mc_isUnderWay ∈ TBL := inT 367 (by decide +kernel) rfl
set_option maxRecDepth 100000 in
theorem q_327 : Cond.code y_Mc_isUnderWay prog_6_method_2_code 1 (Option.some FieldType.boolean) ∈ TBL := inT 368 rfl rfl
theorem q_328 : Cond.methodLink "PluginRunner" 89 y_Mc_isWaiting ∈ TBL := inT 369 (by decide +kernel) rfl
theorem q_329 : Cond.instanceMethod y_Mc_isWaiting ∈ TBL := inT 370 (by decide +kernel) rfl
theorem q_330 : Cond.selects "PluginRunner$Machine" y_Mc_isWaiting y_Mc_isWaiting ∈ TBL := inT 371 (by decide +kernel) rfl
set_option maxRecDepth 100000 in
theorem q_331 : Cond.code y_Mc_isWaiting prog_6_method_3_code 1 (Option.some FieldType.boolean) ∈ TBL := inT 372 rfl rfl
theorem q_332 : Cond.methodLink "PluginRunner" 92 y_Mc_go ∈ TBL := inT 373 (by decide +kernel) rfl
theorem q_333 : Cond.instanceMethod y_Mc_go ∈ TBL := inT 374 (by decide +kernel) rfl
theorem q_334 : Cond.selects "PluginRunner$Machine" y_Mc_go y_Mc_go ∈ TBL := inT 375 (by decide +kernel) rfl
set_option maxRecDepth 100000 in
theorem q_335 : Cond.code y_Mc_go prog_6_method_8_code 4 (Option.some FieldType.int) ∈ TBL := inT 376 rfl rfl
theorem q_336 : Cond.methodLink "PluginRunner$Machine" 89 y_Mc_leaveFinished ∈ TBL := inT 377 (by decide +kernel) rfl
theorem q_338 : Cond.instanceMethod y_Mc_leaveFinished ∈ TBL := inT 379 (by decide +kernel) rfl
set_option maxRecDepth 100000 in
theorem q_339 : Cond.code y_Mc_leaveFinished prog_6_method_9_code 1 (Option.none : Option FieldType) ∈ TBL := inT 380 rfl rfl
theorem q_340 : Cond.methodLink "PluginRunner$Machine" 100 y_Mc_innermost ∈ TBL := inT 381 (by decide +kernel) rfl
theorem q_341 : Cond.instanceMethod y_Mc_innermost ∈ TBL := inT 382 (by decide +kernel) rfl
theorem q_342 : Cond.selects "PluginRunner$Machine" y_Mc_innermost y_Mc_innermost ∈ TBL := inT 383 (by decide +kernel) rfl
set_option maxRecDepth 100000 in
theorem q_343 : Cond.code y_Mc_innermost prog_6_method_4_code 1 (Option.some (FieldType.object "PluginRunner$Frame")) ∈ TBL := inT 384 rfl rfl
theorem q_344 : Cond.methodLink "PluginRunner$Machine" 113 y_Mc_keepResult ∈ TBL := inT 385 (by decide +kernel) rfl
theorem q_346 : Cond.instanceMethod y_Mc_keepResult ∈ TBL := inT 387 (by decide +kernel) rfl
set_option maxRecDepth 100000 in
theorem q_347 : Cond.code y_Mc_keepResult prog_6_method_10_code 2 (Option.none : Option FieldType) ∈ TBL := inT 388 rfl rfl
theorem q_348 : Cond.methodLink "PluginRunner$Machine" 92 y_Mc_isUnderWay ∈ TBL := inT 389 (by decide +kernel) rfl
theorem q_349 : Cond.methodLink "PluginRunner$Machine" 96 y_Mc_step ∈ TBL := inT 390 (by decide +kernel) rfl
theorem q_351 : Cond.instanceMethod y_Mc_step ∈ TBL := inT 392 (by decide +kernel) rfl
set_option maxRecDepth 100000 in
theorem q_352 : Cond.code y_Mc_step prog_6_method_11_code 5 (Option.some FieldType.int) ∈ TBL := inT 393 rfl rfl
theorem q_353 : Cond.methodLink "PluginRunner$Machine" 85 y_Mc_put ∈ TBL := inT 394 (by decide +kernel) rfl
theorem q_355 : Cond.instanceMethod y_Mc_put ∈ TBL := inT 396 (by decide +kernel) rfl
set_option maxRecDepth 100000 in
theorem q_356 : Cond.code y_Mc_put prog_6_method_20_code 2 (Option.some FieldType.int) ∈ TBL := inT 397 rfl rfl
theorem q_357 : Cond.methodLink "PluginRunner$Machine" 154 y_Mc_trap ∈ TBL := inT 398 (by decide +kernel) rfl
theorem q_359 : Cond.instanceMethod y_Mc_trap ∈ TBL := inT 400 (by decide +kernel) rfl
set_option maxRecDepth 100000 in
theorem q_360 : Cond.code y_Mc_trap prog_6_method_22_code 2 (Option.some FieldType.int) ∈ TBL := inT 401 rfl rfl
theorem q_361 : Cond.methodLink "PluginRunner$Machine" 126 y_Mc_take ∈ TBL := inT 402 (by decide +kernel) rfl
theorem q_363 : Cond.instanceMethod y_Mc_take ∈ TBL := inT 404 (by decide +kernel) rfl
set_option maxRecDepth 100000 in
theorem q_364 : Cond.code y_Mc_take prog_6_method_21_code 1 (Option.some FieldType.int) ∈ TBL := inT 405 rfl rfl
theorem q_365 : Cond.methodLink "PluginRunner$Machine" 129 y_Mc_load ∈ TBL := inT 406 (by decide +kernel) rfl
theorem q_367 : Cond.instanceMethod y_Mc_load ∈ TBL := inT 408 (by decide +kernel) rfl
set_option maxRecDepth 100000 in
theorem q_368 : Cond.code y_Mc_load prog_6_method_14_code 4 (Option.some FieldType.int) ∈ TBL := inT 409 rfl rfl
theorem q_369 : Cond.methodLink "PluginRunner$Machine" 157 y_Mc_isCell ∈ TBL := inT 410 (by decide +kernel) rfl
theorem q_370 : Cond.static y_Mc_isCell ∈ TBL := inT 411 (by decide +kernel) rfl
set_option maxRecDepth 100000 in
theorem q_371 : Cond.code y_Mc_isCell prog_6_method_16_code 2 (Option.some FieldType.boolean) ∈ TBL := inT 412 rfl rfl
theorem q_372 : Cond.constantLong "PluginRunner$Machine" 161 (32 : Int64) ∈ TBL := inT 413 (by decide +kernel) rfl
theorem q_373 : Cond.methodLink "PluginRunner$Machine" 132 y_Mc_store ∈ TBL := inT 414 (by decide +kernel) rfl
theorem q_375 : Cond.instanceMethod y_Mc_store ∈ TBL := inT 416 (by decide +kernel) rfl
set_option maxRecDepth 100000 in
theorem q_376 : Cond.code y_Mc_store prog_6_method_15_code 5 (Option.some FieldType.int) ∈ TBL := inT 417 rfl rfl
theorem q_377 : Cond.methodLink "PluginRunner$Machine" 135 y_Fn_target ∈ TBL := inT 418 (by decide +kernel) rfl
theorem q_378 : Cond.instanceMethod y_Fn_target ∈ TBL := inT 419 (by decide +kernel) rfl
theorem q_379 : Cond.selects "PluginRunner$Function" y_Fn_target y_Fn_target ∈ TBL := inT 420 (by decide +kernel) rfl
set_option maxRecDepth 100000 in
theorem q_380 : Cond.code y_Fn_target prog_5_method_3_code 4 (Option.some FieldType.int) ∈ TBL := inT 421 rfl rfl
theorem q_381 : Cond.methodLink "PluginRunner$Function" 31 y_Fn_openingOf ∈ TBL := inT 422 (by decide +kernel) rfl
theorem q_383 : Cond.instanceMethod y_Fn_openingOf ∈ TBL := inT 424 (by decide +kernel) rfl
set_option maxRecDepth 100000 in
theorem q_384 : Cond.code y_Fn_openingOf prog_5_method_4_code 6 (Option.some FieldType.int) ∈ TBL := inT 425 rfl rfl
theorem q_385 : Cond.methodLink "PluginRunner$Function" 41 y_Op_opensPart ∈ TBL := inT 426 (by decide +kernel) rfl
theorem q_386 : Cond.methodLink "PluginRunner$Function" 37 y_Fn_behindEndOf ∈ TBL := inT 427 (by decide +kernel) rfl
theorem q_388 : Cond.instanceMethod y_Fn_behindEndOf ∈ TBL := inT 429 (by decide +kernel) rfl
set_option maxRecDepth 100000 in
theorem q_389 : Cond.code y_Fn_behindEndOf prog_5_method_5_code 4 (Option.some FieldType.int) ∈ TBL := inT 430 rfl rfl
theorem q_390 : Cond.methodLink "PluginRunner$Machine" 139 y_Mc_call ∈ TBL := inT 431 (by decide +kernel) rfl
theorem q_392 : Cond.instanceMethod y_Mc_call ∈ TBL := inT 433 (by decide +kernel) rfl
set_option maxRecDepth 100000 in
theorem q_393 : Cond.code y_Mc_call prog_6_method_17_code 4 (Option.some FieldType.int) ∈ TBL := inT 434 rfl rfl
theorem q_394 : Cond.methodLink "PluginRunner$Machine" 142 y_Mc_ask ∈ TBL := inT 435 (by decide +kernel) rfl
theorem q_396 : Cond.instanceMethod y_Mc_ask ∈ TBL := inT 437 (by decide +kernel) rfl
set_option maxRecDepth 100000 in
theorem q_397 : Cond.code y_Mc_ask prog_6_method_18_code 2 (Option.some FieldType.int) ∈ TBL := inT 438 rfl rfl
theorem q_398 : Cond.methodLink "PluginRunner$Machine" 145 y_Mc_calculate ∈ TBL := inT 439 (by decide +kernel) rfl
theorem q_400 : Cond.instanceMethod y_Mc_calculate ∈ TBL := inT 441 (by decide +kernel) rfl
set_option maxRecDepth 100000 in
theorem q_401 : Cond.code y_Mc_calculate prog_6_method_12_code 4 (Option.some FieldType.int) ∈ TBL := inT 442 rfl rfl
theorem q_402 : Cond.methodLink "PluginRunner$Machine" 148 y_Mc_divide ∈ TBL := inT 443 (by decide +kernel) rfl
theorem q_404 : Cond.instanceMethod y_Mc_divide ∈ TBL := inT 445 (by decide +kernel) rfl
set_option maxRecDepth 100000 in
theorem q_405 : Cond.code y_Mc_divide prog_6_method_13_code 3 (Option.some FieldType.int) ∈ TBL := inT 446 rfl rfl
theorem q_406 : Cond.constant "PluginRunner$Machine" 153 (-2147483648 : Int32) ∈ TBL := inT 447 (by decide +kernel) rfl
theorem q_407 : Cond.methodLink "PluginRunnerLaw" 44 y_PR_reply ∈ TBL := inT 448 (by decide +kernel) rfl
theorem q_408 : Cond.instanceMethod y_PR_reply ∈ TBL := inT 449 (by decide +kernel) rfl
theorem q_409 : Cond.selects "PluginRunner" y_PR_reply y_PR_reply ∈ TBL := inT 450 (by decide +kernel) rfl
set_option maxRecDepth 100000 in
theorem q_410 : Cond.code y_PR_reply prog_1_method_9_code 2 (Option.some FieldType.int) ∈ TBL := inT 451 rfl rfl
theorem q_411 : Cond.methodLink "PluginRunner" 96 y_Mc_takeAnswer ∈ TBL := inT 452 (by decide +kernel) rfl
theorem q_412 : Cond.instanceMethod y_Mc_takeAnswer ∈ TBL := inT 453 (by decide +kernel) rfl
theorem q_413 : Cond.selects "PluginRunner$Machine" y_Mc_takeAnswer y_Mc_takeAnswer ∈ TBL := inT 454 (by decide +kernel) rfl
set_option maxRecDepth 100000 in
theorem q_414 : Cond.code y_Mc_takeAnswer prog_6_method_7_code 2 (Option.none : Option FieldType) ∈ TBL := inT 455 rfl rfl
theorem q_415 : Cond.methodLink "PluginRunnerLaw" 48 y_PR_grant ∈ TBL := inT 456 (by decide +kernel) rfl
theorem q_416 : Cond.instanceMethod y_PR_grant ∈ TBL := inT 457 (by decide +kernel) rfl
theorem q_417 : Cond.selects "PluginRunner" y_PR_grant y_PR_grant ∈ TBL := inT 458 (by decide +kernel) rfl
set_option maxRecDepth 100000 in
theorem q_418 : Cond.code y_PR_grant prog_1_method_10_code 3 (Option.some FieldType.int) ∈ TBL := inT 459 rfl rfl
theorem q_419 : Cond.methodLink "PluginRunnerLaw" 53 y_PR_result ∈ TBL := inT 460 (by decide +kernel) rfl
theorem q_420 : Cond.instanceMethod y_PR_result ∈ TBL := inT 461 (by decide +kernel) rfl
theorem q_421 : Cond.selects "PluginRunner" y_PR_result y_PR_result ∈ TBL := inT 462 (by decide +kernel) rfl
set_option maxRecDepth 100000 in
theorem q_422 : Cond.code y_PR_result prog_1_method_11_code 1 (Option.some FieldType.long) ∈ TBL := inT 463 rfl rfl
theorem q_423 : Cond.methodLink "PluginRunnerLaw" 58 y_PR_memory ∈ TBL := inT 464 (by decide +kernel) rfl
theorem q_424 : Cond.instanceMethod y_PR_memory ∈ TBL := inT 465 (by decide +kernel) rfl
theorem q_425 : Cond.selects "PluginRunner" y_PR_memory y_PR_memory ∈ TBL := inT 466 (by decide +kernel) rfl
set_option maxRecDepth 100000 in
theorem q_426 : Cond.code y_PR_memory prog_1_method_12_code 2 (Option.some FieldType.long) ∈ TBL := inT 467 rfl rfl
theorem q_427 : Cond.constantLong "PluginRunner" 112 (-1000000000000 : Int64) ∈ TBL := inT 468 (by decide +kernel) rfl
theorem q_428 : Cond.methodLink "PluginRunnerLaw" 63 y_PR_poke ∈ TBL := inT 469 (by decide +kernel) rfl
theorem q_429 : Cond.instanceMethod y_PR_poke ∈ TBL := inT 470 (by decide +kernel) rfl
theorem q_430 : Cond.selects "PluginRunner" y_PR_poke y_PR_poke ∈ TBL := inT 471 (by decide +kernel) rfl
set_option maxRecDepth 100000 in
theorem q_431 : Cond.code y_PR_poke prog_1_method_13_code 3 (Option.some FieldType.int) ∈ TBL := inT 472 rfl rfl
theorem q_432 : Cond.methodLink "PluginRunnerLaw" 68 y_PR_state ∈ TBL := inT 473 (by decide +kernel) rfl
theorem q_433 : Cond.instanceMethod y_PR_state ∈ TBL := inT 474 (by decide +kernel) rfl
theorem q_434 : Cond.selects "PluginRunner" y_PR_state y_PR_state ∈ TBL := inT 475 (by decide +kernel) rfl
set_option maxRecDepth 100000 in
theorem q_435 : Cond.code y_PR_state prog_1_method_14_code 2 (Option.some FieldType.int) ∈ TBL := inT 476 rfl rfl
theorem q_436 : Cond.methodLink "PluginRunner" 117 y_Mc_innermost ∈ TBL := inT 477 (by decide +kernel) rfl
theorem q_437 : Cond.methodLink "PluginRunnerLaw" 72 y_PR_count ∈ TBL := inT 478 (by decide +kernel) rfl
theorem q_438 : Cond.instanceMethod y_PR_count ∈ TBL := inT 479 (by decide +kernel) rfl
theorem q_439 : Cond.selects "PluginRunner" y_PR_count y_PR_count ∈ TBL := inT 480 (by decide +kernel) rfl
set_option maxRecDepth 100000 in
theorem q_440 : Cond.code y_PR_count prog_1_method_15_code 2 (Option.some FieldType.int) ∈ TBL := inT 481 rfl rfl
theorem q_441 : Cond.classLink "PluginRunnerLaw" 10 "PluginRunnerModel" ∈ TBL := inT 482 (by decide +kernel) rfl
theorem q_442 : Cond.instantiable "PluginRunnerModel" 30 ∈ TBL := inT 483 (by decide +kernel) rfl
theorem q_443 : Cond.methodLink "PluginRunnerLaw" 12 y_Mo_init ∈ TBL := inT 484 (by decide +kernel) rfl
theorem q_444 : Cond.instanceMethod y_Mo_init ∈ TBL := inT 485 (by decide +kernel) rfl
set_option maxRecDepth 100000 in
theorem q_445 : Cond.code y_Mo_init prog_10_method_1_code 1 (Option.none : Option FieldType) ∈ TBL := inT 486 rfl rfl
theorem q_446 : Cond.methodLink "PluginRunnerModel" 1 y_Obj_init ∈ TBL := inT 487 (by decide +kernel) rfl
theorem q_447 : Cond.fieldLink "PluginRunnerModel" 7 "PluginRunnerModel" "takes" "[I" ∈ TBL := inT 488 (by decide +kernel) rfl
theorem q_448 : Cond.fieldLink "PluginRunnerModel" 13 "PluginRunnerModel" "gives" "[I" ∈ TBL := inT 489 (by decide +kernel) rfl
theorem q_449 : Cond.fieldLink "PluginRunnerModel" 16 "PluginRunnerModel" "more" "[I" ∈ TBL := inT 490 (by decide +kernel) rfl
theorem q_450 : Cond.fieldLink "PluginRunnerModel" 19 "PluginRunnerModel" "length" "[I" ∈ TBL := inT 491 (by decide +kernel) rfl
theorem q_451 : Cond.fieldLink "PluginRunnerModel" 22 "PluginRunnerModel" "op" "[I" ∈ TBL := inT 492 (by decide +kernel) rfl
theorem q_452 : Cond.fieldLink "PluginRunnerModel" 25 "PluginRunnerModel" "arg" "[I" ∈ TBL := inT 493 (by decide +kernel) rfl
theorem q_453 : Cond.fieldLink "PluginRunnerModel" 67 "PluginRunnerModel" "functions" "I" ∈ TBL := inT 494 (by decide +kernel) rfl
theorem q_454 : Cond.fieldLink "PluginRunnerModel" 100 "PluginRunnerModel" "fault" "I" ∈ TBL := inT 495 (by decide +kernel) rfl
theorem q_455 : Cond.fieldLink "PluginRunnerModel" 57 "PluginRunnerModel" "checked" "Z" ∈ TBL := inT 496 (by decide +kernel) rfl
theorem q_456 : Cond.fieldLink "PluginRunnerModel" 28 "PluginRunnerModel" "opened" "[I" ∈ TBL := inT 497 (by decide +kernel) rfl
theorem q_457 : Cond.fieldLink "PluginRunnerModel" 31 "PluginRunnerModel" "base" "[I" ∈ TBL := inT 498 (by decide +kernel) rfl
theorem q_458 : Cond.fieldLink "PluginRunnerModel" 77 "PluginRunnerModel" "open" "I" ∈ TBL := inT 499 (by decide +kernel) rfl
theorem q_459 : Cond.fieldLink "PluginRunnerModel" 91 "PluginRunnerModel" "height" "I" ∈ TBL := inT 500 (by decide +kernel) rfl
theorem q_460 : Cond.fieldLink "PluginRunnerModel" 80 "PluginRunnerModel" "dead" "Z" ∈ TBL := inT 501 (by decide +kernel) rfl
theorem q_461 : Cond.fieldLink "PluginRunnerModel" 34 "PluginRunnerModel" "running" "[I" ∈ TBL := inT 502 (by decide +kernel) rfl
theorem q_462 : Cond.fieldLink "PluginRunnerModel" 37 "PluginRunnerModel" "next" "[I" ∈ TBL := inT 503 (by decide +kernel) rfl
theorem q_463 : Cond.fieldLink "PluginRunnerModel" 40 "PluginRunnerModel" "locals" "[I" ∈ TBL := inT 504 (by decide +kernel) rfl
theorem q_464 : Cond.fieldLink "PluginRunnerModel" 43 "PluginRunnerModel" "stack" "[I" ∈ TBL := inT 505 (by decide +kernel) rfl
theorem q_465 : Cond.fieldLink "PluginRunnerModel" 61 "PluginRunnerModel" "depth" "I" ∈ TBL := inT 506 (by decide +kernel) rfl
theorem q_466 : Cond.fieldLink "PluginRunnerModel" 64 "PluginRunnerModel" "size" "I" ∈ TBL := inT 507 (by decide +kernel) rfl
theorem q_467 : Cond.fieldLink "PluginRunnerModel" 46 "PluginRunnerModel" "waits" "I" ∈ TBL := inT 508 (by decide +kernel) rfl
theorem q_468 : Cond.fieldLink "PluginRunnerModel" 153 "PluginRunnerModel" "askedWith" "I" ∈ TBL := inT 509 (by decide +kernel) rfl
theorem q_469 : Cond.fieldLink "PluginRunnerModel" 111 "PluginRunnerModel" "trap" "I" ∈ TBL := inT 510 (by decide +kernel) rfl
theorem q_470 : Cond.fieldLink "PluginRunnerModel" 50 "PluginRunnerModel" "cells" "[I" ∈ TBL := inT 511 (by decide +kernel) rfl
theorem q_471 : Cond.fieldLink "PluginRunnerModel" 53 "PluginRunnerModel" "granted" "[Z" ∈ TBL := inT 512 (by decide +kernel) rfl
theorem q_472 : Cond.fieldLink "PluginRunnerModel" 117 "PluginRunnerModel" "hasResult" "Z" ∈ TBL := inT 513 (by decide +kernel) rfl
theorem q_473 : Cond.fieldLink "PluginRunnerModel" 124 "PluginRunnerModel" "result" "I" ∈ TBL := inT 514 (by decide +kernel) rfl
theorem q_474 : Cond.fieldLink "PluginRunnerModel" 156 "PluginRunnerModel" "fuelUsed" "I" ∈ TBL := inT 515 (by decide +kernel) rfl
theorem q_475 : Cond.fieldLink "PluginRunnerModel" 114 "PluginRunnerModel" "ended" "I" ∈ TBL := inT 516 (by decide +kernel) rfl
theorem q_476 : Cond.fieldLink "PluginRunnerModel" 162 "PluginRunnerModel" "trapped" "I" ∈ TBL := inT 517 (by decide +kernel) rfl
theorem q_538 : Cond.methodLink "PluginRunnerLaw" 17 y_Mo_function ∈ TBL := inT 579 (by decide +kernel) rfl
theorem q_539 : Cond.instanceMethod y_Mo_function ∈ TBL := inT 580 (by decide +kernel) rfl
theorem q_540 : Cond.selects "PluginRunnerModel" y_Mo_function y_Mo_function ∈ TBL := inT 581 (by decide +kernel) rfl
set_option maxRecDepth 100000 in
theorem q_541 : Cond.code y_Mo_function prog_10_method_4_code 4 (Option.some FieldType.int) ∈ TBL := inT 582 rfl rfl
theorem q_542 : Cond.methodLink "PluginRunnerModel" 70 y_Mo_changed ∈ TBL := inT 583 (by decide +kernel) rfl
theorem q_544 : Cond.instanceMethod y_Mo_changed ∈ TBL := inT 585 (by decide +kernel) rfl
set_option maxRecDepth 100000 in
theorem q_545 : Cond.code y_Mo_changed prog_10_method_2_code 1 (Option.none : Option FieldType) ∈ TBL := inT 586 rfl rfl
theorem q_546 : Cond.methodLink "PluginRunnerLaw" 21 y_Mo_emit ∈ TBL := inT 587 (by decide +kernel) rfl
theorem q_547 : Cond.instanceMethod y_Mo_emit ∈ TBL := inT 588 (by decide +kernel) rfl
theorem q_548 : Cond.selects "PluginRunnerModel" y_Mo_emit y_Mo_emit ∈ TBL := inT 589 (by decide +kernel) rfl
set_option maxRecDepth 100000 in
theorem q_549 : Cond.code y_Mo_emit prog_10_method_5_code 4 (Option.some FieldType.int) ∈ TBL := inT 590 rfl rfl
theorem q_550 : Cond.methodLink "PluginRunnerModel" 73 y_Mo_no ∈ TBL := inT 591 (by decide +kernel) rfl
theorem q_552 : Cond.instanceMethod y_Mo_no ∈ TBL := inT 593 (by decide +kernel) rfl
set_option maxRecDepth 100000 in
theorem q_553 : Cond.code y_Mo_no prog_10_method_3_code 2 (Option.some FieldType.boolean) ∈ TBL := inT 594 rfl rfl
theorem q_554 : Cond.methodLink "PluginRunnerLaw" 26 y_Mo_erase ∈ TBL := inT 595 (by decide +kernel) rfl
theorem q_555 : Cond.instanceMethod y_Mo_erase ∈ TBL := inT 596 (by decide +kernel) rfl
theorem q_556 : Cond.selects "PluginRunnerModel" y_Mo_erase y_Mo_erase ∈ TBL := inT 597 (by decide +kernel) rfl
set_option maxRecDepth 100000 in
theorem q_557 : Cond.code y_Mo_erase prog_10_method_6_code 2 (Option.some FieldType.int) ∈ TBL := inT 598 rfl rfl
theorem q_558 : Cond.methodLink "PluginRunnerLaw" 31 y_Mo_check ∈ TBL := inT 599 (by decide +kernel) rfl
theorem q_559 : Cond.instanceMethod y_Mo_check ∈ TBL := inT 600 (by decide +kernel) rfl
theorem q_560 : Cond.selects "PluginRunnerModel" y_Mo_check y_Mo_check ∈ TBL := inT 601 (by decide +kernel) rfl
set_option maxRecDepth 100000 in
theorem q_561 : Cond.code y_Mo_check prog_10_method_12_code 3 (Option.some FieldType.int) ∈ TBL := inT 602 rfl rfl
theorem q_562 : Cond.methodLink "PluginRunnerModel" 103 y_Mo_checkOne ∈ TBL := inT 603 (by decide +kernel) rfl
theorem q_564 : Cond.instanceMethod y_Mo_checkOne ∈ TBL := inT 605 (by decide +kernel) rfl
set_option maxRecDepth 100000 in
theorem q_565 : Cond.code y_Mo_checkOne prog_10_method_11_code 3 (Option.some FieldType.int) ∈ TBL := inT 606 rfl rfl
theorem q_566 : Cond.methodLink "PluginRunnerModel" 97 y_Mo_examine ∈ TBL := inT 607 (by decide +kernel) rfl
theorem q_568 : Cond.instanceMethod y_Mo_examine ∈ TBL := inT 609 (by decide +kernel) rfl
set_option maxRecDepth 100000 in
theorem q_569 : Cond.code y_Mo_examine prog_10_method_10_code 7 (Option.some FieldType.int) ∈ TBL := inT 610 rfl rfl
theorem q_570 : Cond.methodLink "PluginRunnerModel" 83 y_Mo_badArgument ∈ TBL := inT 611 (by decide +kernel) rfl
theorem q_572 : Cond.instanceMethod y_Mo_badArgument ∈ TBL := inT 613 (by decide +kernel) rfl
set_option maxRecDepth 100000 in
theorem q_573 : Cond.code y_Mo_badArgument prog_10_method_9_code 5 (Option.some FieldType.boolean) ∈ TBL := inT 614 rfl rfl
theorem q_574 : Cond.methodLink "PluginRunnerModel" 87 y_Mo_taken ∈ TBL := inT 615 (by decide +kernel) rfl
theorem q_576 : Cond.instanceMethod y_Mo_taken ∈ TBL := inT 617 (by decide +kernel) rfl
set_option maxRecDepth 100000 in
theorem q_577 : Cond.code y_Mo_taken prog_10_method_7_code 3 (Option.some FieldType.int) ∈ TBL := inT 618 rfl rfl
theorem q_578 : Cond.methodLink "PluginRunnerModel" 94 y_Mo_put ∈ TBL := inT 619 (by decide +kernel) rfl
theorem q_580 : Cond.instanceMethod y_Mo_put ∈ TBL := inT 621 (by decide +kernel) rfl
set_option maxRecDepth 100000 in
theorem q_581 : Cond.code y_Mo_put prog_10_method_8_code 3 (Option.some FieldType.int) ∈ TBL := inT 622 rfl rfl
theorem q_582 : Cond.methodLink "PluginRunnerLaw" 35 y_Mo_fault ∈ TBL := inT 623 (by decide +kernel) rfl
theorem q_583 : Cond.instanceMethod y_Mo_fault ∈ TBL := inT 624 (by decide +kernel) rfl
theorem q_584 : Cond.selects "PluginRunnerModel" y_Mo_fault y_Mo_fault ∈ TBL := inT 625 (by decide +kernel) rfl
set_option maxRecDepth 100000 in
theorem q_585 : Cond.code y_Mo_fault prog_10_method_13_code 1 (Option.some FieldType.int) ∈ TBL := inT 626 rfl rfl
theorem q_586 : Cond.methodLink "PluginRunnerLaw" 39 y_Mo_start ∈ TBL := inT 627 (by decide +kernel) rfl
theorem q_587 : Cond.instanceMethod y_Mo_start ∈ TBL := inT 628 (by decide +kernel) rfl
theorem q_588 : Cond.selects "PluginRunnerModel" y_Mo_start y_Mo_start ∈ TBL := inT 629 (by decide +kernel) rfl
set_option maxRecDepth 100000 in
theorem q_589 : Cond.code y_Mo_start prog_10_method_15_code 4 (Option.some FieldType.int) ∈ TBL := inT 630 rfl rfl
theorem q_590 : Cond.methodLink "PluginRunnerModel" 107 y_Mo_enter ∈ TBL := inT 631 (by decide +kernel) rfl
theorem q_592 : Cond.instanceMethod y_Mo_enter ∈ TBL := inT 633 (by decide +kernel) rfl
set_option maxRecDepth 100000 in
theorem q_593 : Cond.code y_Mo_enter prog_10_method_14_code 3 (Option.none : Option FieldType) ∈ TBL := inT 634 rfl rfl
theorem q_594 : Cond.methodLink "PluginRunnerLaw" 43 y_Mo_resume ∈ TBL := inT 635 (by decide +kernel) rfl
theorem q_595 : Cond.instanceMethod y_Mo_resume ∈ TBL := inT 636 (by decide +kernel) rfl
theorem q_596 : Cond.selects "PluginRunnerModel" y_Mo_resume y_Mo_resume ∈ TBL := inT 637 (by decide +kernel) rfl
set_option maxRecDepth 100000 in
theorem q_597 : Cond.code y_Mo_resume prog_10_method_25_code 3 (Option.some FieldType.int) ∈ TBL := inT 638 rfl rfl
theorem q_598 : Cond.methodLink "PluginRunnerModel" 127 y_Mo_leave ∈ TBL := inT 639 (by decide +kernel) rfl
theorem q_600 : Cond.instanceMethod y_Mo_leave ∈ TBL := inT 641 (by decide +kernel) rfl
set_option maxRecDepth 100000 in
theorem q_601 : Cond.code y_Mo_leave prog_10_method_18_code 2 (Option.none : Option FieldType) ∈ TBL := inT 642 rfl rfl
theorem q_602 : Cond.methodLink "PluginRunnerModel" 120 y_Mo_pop ∈ TBL := inT 643 (by decide +kernel) rfl
theorem q_604 : Cond.instanceMethod y_Mo_pop ∈ TBL := inT 645 (by decide +kernel) rfl
set_option maxRecDepth 100000 in
theorem q_605 : Cond.code y_Mo_pop prog_10_method_17_code 1 (Option.some FieldType.int) ∈ TBL := inT 646 rfl rfl
theorem q_606 : Cond.methodLink "PluginRunnerModel" 159 y_Mo_step ∈ TBL := inT 647 (by decide +kernel) rfl
theorem q_608 : Cond.instanceMethod y_Mo_step ∈ TBL := inT 649 (by decide +kernel) rfl
set_option maxRecDepth 100000 in
theorem q_609 : Cond.code y_Mo_step prog_10_method_23_code 5 (Option.none : Option FieldType) ∈ TBL := inT 650 rfl rfl
theorem q_610 : Cond.methodLink "PluginRunnerModel" 131 y_Mo_push ∈ TBL := inT 651 (by decide +kernel) rfl
theorem q_612 : Cond.instanceMethod y_Mo_push ∈ TBL := inT 653 (by decide +kernel) rfl
set_option maxRecDepth 100000 in
theorem q_613 : Cond.code y_Mo_push prog_10_method_16_code 2 (Option.none : Option FieldType) ∈ TBL := inT 654 rfl rfl
theorem q_614 : Cond.methodLink "PluginRunnerModel" 136 y_Mo_arithmetic ∈ TBL := inT 655 (by decide +kernel) rfl
theorem q_616 : Cond.instanceMethod y_Mo_arithmetic ∈ TBL := inT 657 (by decide +kernel) rfl
set_option maxRecDepth 100000 in
theorem q_617 : Cond.code y_Mo_arithmetic prog_10_method_21_code 4 (Option.none : Option FieldType) ∈ TBL := inT 658 rfl rfl
theorem q_618 : Cond.constant "PluginRunnerModel" 130 (-2147483648 : Int32) ∈ TBL := inT 659 (by decide +kernel) rfl
theorem q_619 : Cond.methodLink "PluginRunnerModel" 139 y_Mo_store ∈ TBL := inT 660 (by decide +kernel) rfl
theorem q_621 : Cond.instanceMethod y_Mo_store ∈ TBL := inT 662 (by decide +kernel) rfl
set_option maxRecDepth 100000 in
theorem q_622 : Cond.code y_Mo_store prog_10_method_22_code 6 (Option.none : Option FieldType) ∈ TBL := inT 663 rfl rfl
theorem q_623 : Cond.constantLong "PluginRunnerModel" 134 (31 : Int64) ∈ TBL := inT 664 (by decide +kernel) rfl
theorem q_624 : Cond.methodLink "PluginRunnerModel" 143 y_Mo_branch ∈ TBL := inT 665 (by decide +kernel) rfl
theorem q_626 : Cond.instanceMethod y_Mo_branch ∈ TBL := inT 667 (by decide +kernel) rfl
set_option maxRecDepth 100000 in
theorem q_627 : Cond.code y_Mo_branch prog_10_method_19_code 8 (Option.none : Option FieldType) ∈ TBL := inT 668 rfl rfl
theorem q_628 : Cond.methodLink "PluginRunnerModel" 147 y_Mo_call ∈ TBL := inT 669 (by decide +kernel) rfl
theorem q_630 : Cond.instanceMethod y_Mo_call ∈ TBL := inT 671 (by decide +kernel) rfl
set_option maxRecDepth 100000 in
theorem q_631 : Cond.code y_Mo_call prog_10_method_20_code 3 (Option.none : Option FieldType) ∈ TBL := inT 672 rfl rfl
theorem q_632 : Cond.methodLink "PluginRunnerModel" 150 y_Mo_ask ∈ TBL := inT 673 (by decide +kernel) rfl
theorem q_634 : Cond.instanceMethod y_Mo_ask ∈ TBL := inT 675 (by decide +kernel) rfl
set_option maxRecDepth 100000 in
theorem q_635 : Cond.code y_Mo_ask prog_10_method_24_code 2 (Option.none : Option FieldType) ∈ TBL := inT 676 rfl rfl
theorem q_636 : Cond.methodLink "PluginRunnerLaw" 47 y_Mo_reply ∈ TBL := inT 677 (by decide +kernel) rfl
theorem q_637 : Cond.instanceMethod y_Mo_reply ∈ TBL := inT 678 (by decide +kernel) rfl
theorem q_638 : Cond.selects "PluginRunnerModel" y_Mo_reply y_Mo_reply ∈ TBL := inT 679 (by decide +kernel) rfl
set_option maxRecDepth 100000 in
theorem q_639 : Cond.code y_Mo_reply prog_10_method_26_code 2 (Option.some FieldType.int) ∈ TBL := inT 680 rfl rfl
theorem q_640 : Cond.methodLink "PluginRunnerLaw" 52 y_Mo_grant ∈ TBL := inT 681 (by decide +kernel) rfl
theorem q_641 : Cond.instanceMethod y_Mo_grant ∈ TBL := inT 682 (by decide +kernel) rfl
theorem q_642 : Cond.selects "PluginRunnerModel" y_Mo_grant y_Mo_grant ∈ TBL := inT 683 (by decide +kernel) rfl
set_option maxRecDepth 100000 in
theorem q_643 : Cond.code y_Mo_grant prog_10_method_27_code 3 (Option.some FieldType.int) ∈ TBL := inT 684 rfl rfl
theorem q_644 : Cond.methodLink "PluginRunnerLaw" 57 y_Mo_result ∈ TBL := inT 685 (by decide +kernel) rfl
theorem q_645 : Cond.instanceMethod y_Mo_result ∈ TBL := inT 686 (by decide +kernel) rfl
theorem q_646 : Cond.selects "PluginRunnerModel" y_Mo_result y_Mo_result ∈ TBL := inT 687 (by decide +kernel) rfl
set_option maxRecDepth 100000 in
theorem q_647 : Cond.code y_Mo_result prog_10_method_28_code 1 (Option.some FieldType.long) ∈ TBL := inT 688 rfl rfl
theorem q_648 : Cond.constantLong "PluginRunnerModel" 165 (-1000000000000 : Int64) ∈ TBL := inT 689 (by decide +kernel) rfl
theorem q_649 : Cond.methodLink "PluginRunnerLaw" 62 y_Mo_memory ∈ TBL := inT 690 (by decide +kernel) rfl
theorem q_650 : Cond.instanceMethod y_Mo_memory ∈ TBL := inT 691 (by decide +kernel) rfl
theorem q_651 : Cond.selects "PluginRunnerModel" y_Mo_memory y_Mo_memory ∈ TBL := inT 692 (by decide +kernel) rfl
set_option maxRecDepth 100000 in
theorem q_652 : Cond.code y_Mo_memory prog_10_method_29_code 2 (Option.some FieldType.long) ∈ TBL := inT 693 rfl rfl
theorem q_653 : Cond.methodLink "PluginRunnerLaw" 67 y_Mo_poke ∈ TBL := inT 694 (by decide +kernel) rfl
theorem q_654 : Cond.instanceMethod y_Mo_poke ∈ TBL := inT 695 (by decide +kernel) rfl
theorem q_655 : Cond.selects "PluginRunnerModel" y_Mo_poke y_Mo_poke ∈ TBL := inT 696 (by decide +kernel) rfl
set_option maxRecDepth 100000 in
theorem q_656 : Cond.code y_Mo_poke prog_10_method_30_code 3 (Option.some FieldType.int) ∈ TBL := inT 697 rfl rfl
theorem q_657 : Cond.methodLink "PluginRunnerLaw" 71 y_Mo_state ∈ TBL := inT 698 (by decide +kernel) rfl
theorem q_658 : Cond.instanceMethod y_Mo_state ∈ TBL := inT 699 (by decide +kernel) rfl
theorem q_659 : Cond.selects "PluginRunnerModel" y_Mo_state y_Mo_state ∈ TBL := inT 700 (by decide +kernel) rfl
set_option maxRecDepth 100000 in
theorem q_660 : Cond.code y_Mo_state prog_10_method_31_code 2 (Option.some FieldType.int) ∈ TBL := inT 701 rfl rfl
theorem q_661 : Cond.methodLink "PluginRunnerLaw" 75 y_Mo_count ∈ TBL := inT 702 (by decide +kernel) rfl
theorem q_662 : Cond.instanceMethod y_Mo_count ∈ TBL := inT 703 (by decide +kernel) rfl
theorem q_663 : Cond.selects "PluginRunnerModel" y_Mo_count y_Mo_count ∈ TBL := inT 704 (by decide +kernel) rfl
set_option maxRecDepth 100000 in
theorem q_664 : Cond.code y_Mo_count prog_10_method_32_code 2 (Option.some FieldType.int) ∈ TBL := inT 705 rfl rfl
theorem qp_0 : Cond.selects "PluginRunner" y_PR_forgetCheckAndRun y_PR_forgetCheckAndRun ∈ TBL := inT 0 (by decide +kernel) rfl
theorem qp_1 : Cond.selects "PluginRunner$Machine" y_Mc_stopWaiting y_Mc_stopWaiting ∈ TBL := inT 1 (by decide +kernel) rfl
theorem qp_2 : Cond.selects "PluginRunner$Checker" y_Ck_goThrough y_Ck_goThrough ∈ TBL := inT 2 (by decide +kernel) rfl
theorem qp_3 : Cond.selects "PluginRunner$Checker" y_Ck_sortOf y_Ck_sortOf ∈ TBL := inT 3 (by decide +kernel) rfl
theorem qp_4 : Cond.selects "PluginRunner$Checker" y_Ck_isArgument y_Ck_isArgument ∈ TBL := inT 4 (by decide +kernel) rfl
theorem qp_5 : Cond.selects "PluginRunner$Checker" y_Ck_closesWell y_Ck_closesWell ∈ TBL := inT 5 (by decide +kernel) rfl
theorem qp_6 : Cond.selects "PluginRunner$Checker" y_Ck_leavesWell y_Ck_leavesWell ∈ TBL := inT 6 (by decide +kernel) rfl
theorem qp_7 : Cond.selects "PluginRunner$Checker" y_Ck_pass y_Ck_pass ∈ TBL := inT 7 (by decide +kernel) rfl
theorem qp_8 : Cond.selects "PluginRunner$Checker" y_Ck_sortOfTheEnd y_Ck_sortOfTheEnd ∈ TBL := inT 8 (by decide +kernel) rfl
theorem qp_9 : Cond.selects "PluginRunner$Machine" y_Mc_enter y_Mc_enter ∈ TBL := inT 9 (by decide +kernel) rfl
theorem qp_10 : Cond.selects "PluginRunner$Machine" y_Mc_leaveFinished y_Mc_leaveFinished ∈ TBL := inT 10 (by decide +kernel) rfl
theorem qp_11 : Cond.selects "PluginRunner$Machine" y_Mc_keepResult y_Mc_keepResult ∈ TBL := inT 11 (by decide +kernel) rfl
theorem qp_12 : Cond.selects "PluginRunner$Machine" y_Mc_step y_Mc_step ∈ TBL := inT 12 (by decide +kernel) rfl
theorem qp_13 : Cond.selects "PluginRunner$Machine" y_Mc_put y_Mc_put ∈ TBL := inT 13 (by decide +kernel) rfl
theorem qp_14 : Cond.selects "PluginRunner$Machine" y_Mc_trap y_Mc_trap ∈ TBL := inT 14 (by decide +kernel) rfl
theorem qp_15 : Cond.selects "PluginRunner$Machine" y_Mc_take y_Mc_take ∈ TBL := inT 15 (by decide +kernel) rfl
theorem qp_16 : Cond.selects "PluginRunner$Machine" y_Mc_load y_Mc_load ∈ TBL := inT 16 (by decide +kernel) rfl
theorem qp_17 : Cond.selects "PluginRunner$Machine" y_Mc_store y_Mc_store ∈ TBL := inT 17 (by decide +kernel) rfl
theorem qp_18 : Cond.selects "PluginRunner$Function" y_Fn_openingOf y_Fn_openingOf ∈ TBL := inT 18 (by decide +kernel) rfl
theorem qp_19 : Cond.selects "PluginRunner$Function" y_Fn_behindEndOf y_Fn_behindEndOf ∈ TBL := inT 19 (by decide +kernel) rfl
theorem qp_20 : Cond.selects "PluginRunner$Machine" y_Mc_call y_Mc_call ∈ TBL := inT 20 (by decide +kernel) rfl
theorem qp_21 : Cond.selects "PluginRunner$Machine" y_Mc_ask y_Mc_ask ∈ TBL := inT 21 (by decide +kernel) rfl
theorem qp_22 : Cond.selects "PluginRunner$Machine" y_Mc_calculate y_Mc_calculate ∈ TBL := inT 22 (by decide +kernel) rfl
theorem qp_23 : Cond.selects "PluginRunner$Machine" y_Mc_divide y_Mc_divide ∈ TBL := inT 23 (by decide +kernel) rfl
theorem qp_24 : Cond.selects "PluginRunnerModel" y_Mo_changed y_Mo_changed ∈ TBL := inT 24 (by decide +kernel) rfl
theorem qp_25 : Cond.selects "PluginRunnerModel" y_Mo_no y_Mo_no ∈ TBL := inT 25 (by decide +kernel) rfl
theorem qp_26 : Cond.selects "PluginRunnerModel" y_Mo_checkOne y_Mo_checkOne ∈ TBL := inT 26 (by decide +kernel) rfl
theorem qp_27 : Cond.selects "PluginRunnerModel" y_Mo_examine y_Mo_examine ∈ TBL := inT 27 (by decide +kernel) rfl
theorem qp_28 : Cond.selects "PluginRunnerModel" y_Mo_badArgument y_Mo_badArgument ∈ TBL := inT 28 (by decide +kernel) rfl
theorem qp_29 : Cond.selects "PluginRunnerModel" y_Mo_taken y_Mo_taken ∈ TBL := inT 29 (by decide +kernel) rfl
theorem qp_30 : Cond.selects "PluginRunnerModel" y_Mo_put y_Mo_put ∈ TBL := inT 30 (by decide +kernel) rfl
theorem qp_31 : Cond.selects "PluginRunnerModel" y_Mo_enter y_Mo_enter ∈ TBL := inT 31 (by decide +kernel) rfl
theorem qp_32 : Cond.selects "PluginRunnerModel" y_Mo_leave y_Mo_leave ∈ TBL := inT 32 (by decide +kernel) rfl
theorem qp_33 : Cond.selects "PluginRunnerModel" y_Mo_pop y_Mo_pop ∈ TBL := inT 33 (by decide +kernel) rfl
theorem qp_34 : Cond.selects "PluginRunnerModel" y_Mo_step y_Mo_step ∈ TBL := inT 34 (by decide +kernel) rfl
theorem qp_35 : Cond.selects "PluginRunnerModel" y_Mo_push y_Mo_push ∈ TBL := inT 35 (by decide +kernel) rfl
theorem qp_36 : Cond.selects "PluginRunnerModel" y_Mo_arithmetic y_Mo_arithmetic ∈ TBL := inT 36 (by decide +kernel) rfl
theorem qp_37 : Cond.selects "PluginRunnerModel" y_Mo_store y_Mo_store ∈ TBL := inT 37 (by decide +kernel) rfl
theorem qp_38 : Cond.selects "PluginRunnerModel" y_Mo_branch y_Mo_branch ∈ TBL := inT 38 (by decide +kernel) rfl
theorem qp_39 : Cond.selects "PluginRunnerModel" y_Mo_call y_Mo_call ∈ TBL := inT 39 (by decide +kernel) rfl
theorem qp_40 : Cond.selects "PluginRunnerModel" y_Mo_ask y_Mo_ask ∈ TBL := inT 40 (by decide +kernel) rfl
end
section
/-- the state of both objects: what cell c holds at place j; the one long -/
abbrev vS : Type := (Nat → Nat → Int32) × Int64
abbrev nt (x : Int32) : Nat := x.toNatClampNeg
def sv (V : vS) (c j : Nat) (x : Int32) : vS := (fun a => if a = c then upd (V.1 c) j x else V.1 a, V.2)
def sj (V : vS) (x : Int64) : vS := (V.1, x)
theorem sv_self (V : vS) (c j : Nat) (x : Int32) : (sv V c j x).1 c = upd (V.1 c) j x := if_pos rfl
theorem sv_ne (V : vS) {c j a : Nat} {x : Int32} (h : a ≠ c) : (sv V c j x).1 a = V.1 a := if_neg h
theorem sv_eq (V : vS) (c j : Nat) (x : Int32) : (sv V c j x).1 c j = x := by rw [sv_self]; exact pk_us
theorem sv_at (V : vS) {c j k : Nat} {x : Int32} (h : k ≠ j) : (sv V c j x).1 c k = V.1 c k := by rw [sv_self]; exact pk_un h
theorem sv_2 (V : vS) (c j : Nat) (x : Int32) : (sv V c j x).2 = V.2 := rfl
/-- the classes and slots; the addresses; the array classes; the two tables' addresses -/
abbrev gT : Type := va_G × (Nat → Nat) × (ClassId × ClassId × ClassId × ClassId) × (Nat × Nat)
def ga (g : gT) (k : Nat) : Nat := g.2.1 k
def gcI (g : gT) : ClassId := g.2.2.1.1
def gcZ (g : gT) : ClassId := g.2.2.1.2.1
def gcF (g : gT) : ClassId := g.2.2.1.2.2.1
def gcR (g : gT) : ClassId := g.2.2.1.2.2.2
def gtT (g : gT) : Nat := g.2.2.2.1
def gtP (g : gT) : Nat := g.2.2.2.2
def gty (g : gT) : List (ClassId × FieldType) := [(gcI g, .int), (gcZ g, .boolean), (gcF g, .object R_Fn), (gcR g, .object R_Fr)]
def gA (g : gT) : Nat → Prop := fun q => ∃ k, k < 49 ∧ q = ga g k
def gd (g : gT) : Prop := ∀ i j, i < 49 → j < 49 → ga g i = ga g j → i = j
def ce (g : gT) (V : vS) (c : Nat) : va_E :=
  if c = 0 then .inr (0, [.ref (ga g 1), .ref (ga g 15), .ref (ga g 17), .int (V.1 c 3)]) else
  if c = 1 then .inr (1, [.ref (ga g 2), .int (V.1 c 1)]) else
  if c = 2 then .inl (gcF g, 4, .inr (.inr (.inr (.inr (fun j => some (ga g (3 + j))))))) else
  if c < 7 then .inr (2, [.ref (ga g (c + 4)), .ref (ga g (c + 8)), .int (V.1 c 2), .int (V.1 c 3), .int (V.1 c 4), .int (V.1 c 5)]) else
  if c < 15 then .inl (gcI g, 24, .inl (V.1 c)) else
  if c = 15 then .inr (3, [.ref (ga g 1), .ref (ga g 16), .int (V.1 c 2), .int (V.1 c 3), .int (V.1 c 4), .int (V.1 c 5), .int (V.1 c 6), .int (V.1 c 7)]) else
  if c = 16 then .inl (gcI g, 25, .inl (V.1 c)) else
  if c = 17 then .inr (4, [.ref (ga g 1), .ref (ga g 18), .ref (ga g 31), .ref (ga g 32), .ref (ga g 33), .int (V.1 c 5), .int (V.1 c 6), .int (V.1 c 7), .int (V.1 c 8), .int (V.1 c 9), .int (V.1 c 10), .int (V.1 c 11), .long V.2]) else
  if c = 18 then .inl (gcR g, 6, .inr (.inr (.inr (.inr (fun j => some (ga g (19 + j))))))) else
  if c < 25 then .inr (5, [.ref (ga g (c + 6)), .int (V.1 c 1), .int (V.1 c 2)]) else
  if c < 31 then .inl (gcI g, 5, .inl (V.1 c)) else
  if c = 31 then .inl (gcI g, 40, .inl (V.1 c)) else
  if c = 32 then .inl (gcI g, 32, .inl (V.1 c)) else
  if c = 33 then .inl (gcZ g, 4, .inl (V.1 c)) else
  if c = 34 then .inr (6, [.ref (ga g 35), .ref (ga g 36), .ref (ga g 37), .ref (ga g 38), .ref (ga g 39), .ref (ga g 40), .int (V.1 c 6), .int (V.1 c 7), .int (V.1 c 8), .ref (ga g 41), .ref (ga g 42), .int (V.1 c 11), .int (V.1 c 12), .int (V.1 c 13), .ref (ga g 43), .ref (ga g 44), .ref (ga g 45), .ref (ga g 46), .int (V.1 c 18), .int (V.1 c 19), .int (V.1 c 20), .int (V.1 c 21), .int (V.1 c 22), .ref (ga g 47), .ref (ga g 48), .int (V.1 c 25), .int (V.1 c 26), .int (V.1 c 27), .int (V.1 c 28), .int (V.1 c 29)]) else
  if c = 35 then .inl (gcI g, 4, .inl (V.1 c)) else
  if c = 36 then .inl (gcI g, 4, .inl (V.1 c)) else
  if c = 37 then .inl (gcI g, 4, .inl (V.1 c)) else
  if c = 38 then .inl (gcI g, 4, .inl (V.1 c)) else
  if c = 39 then .inl (gcI g, 96, .inl (V.1 c)) else
  if c = 40 then .inl (gcI g, 96, .inl (V.1 c)) else
  if c = 41 then .inl (gcI g, 26, .inl (V.1 c)) else
  if c = 42 then .inl (gcI g, 26, .inl (V.1 c)) else
  if c = 43 then .inl (gcI g, 7, .inl (V.1 c)) else
  if c = 44 then .inl (gcI g, 7, .inl (V.1 c)) else
  if c = 45 then .inl (gcI g, 35, .inl (V.1 c)) else
  if c = 46 then .inl (gcI g, 42, .inl (V.1 c)) else
  if c = 47 then .inl (gcI g, 32, .inl (V.1 c)) else
  .inl (gcZ g, 4, .inl (V.1 c))
def cw (g : gT) (V : vS) : va_W := (List.range 49).map (fun c => (ga g c, ce g V c))
theorem ce_congr {g : gT} {V V' : vS} {c : Nat} (h1 : V'.1 c = V.1 c) (h2 : V'.2 = V.2) : ce g V' c = ce g V c := by
  unfold ce
  rw [h1, h2]
theorem cw_get {g : gT} {V : vS} {c : Nat} (h : c < 49) : (cw g V)[c]? = some (ga g c, ce g V c) := by simp [cw, h]
theorem cw_at {g : gT} {V : vS} {c : Nat} {e : va_E} (h : c < 49) (he : ce g V c = e) : (cw g V)[c]? = some (ga g c, e) := by rw [cw_get h, he]
theorem cw_D {g : gT} {V : vS} (h : gd g) : va_D (gA g) (cw g V) := by
  have key : ∀ (k : Nat) (q : Nat × va_E), (cw g V)[k]? = some q → k < 49 ∧ q.1 = ga g k := by
    intro k q hk
    have hl : k < 49 := by simpa [cw] using (List.getElem?_eq_some_iff.mp hk).1
    rw [cw_get hl] at hk
    cases hk
    exact ⟨hl, rfl⟩
  refine ⟨fun i j x y hi hj hxy => ?_, fun k q hk => ⟨k, key k q hk⟩⟩
  obtain ⟨a1, a2⟩ := key i x hi
  obtain ⟨b1, b2⟩ := key j y hj
  exact h i j a1 b1 (by rw [← a2, ← b2]; exact hxy)
theorem cw_set {g : gT} {V V' : vS} {c : Nat} {e : va_E} (hc : c < 49) (he : ce g V' c = e) (hne : ∀ a, a ≠ c → ce g V' a = ce g V a) : (cw g V).set c (ga g c, e) = cw g V' := by
  apply List.ext_getElem?
  intro j
  have hl : (cw g V).length = 49 := by simp [cw]
  by_cases hj : j = c
  · subst hj
    rw [List.getElem?_set_self (by rw [hl]; exact hc), cw_get hc, he]
  · rw [List.getElem?_set_ne (Ne.symm hj)]
    by_cases hk : j < 49
    · rw [cw_get hk, cw_get hk, hne j hj]
    · rw [List.getElem?_eq_none (by rw [hl]; omega), List.getElem?_eq_none (by simp [cw]; omega)]
theorem cw_sv {g : gT} {V : vS} {c j : Nat} {x : Int32} {e : va_E} (hc : c < 49) (he : ce g (sv V c j x) c = e) : (cw g V).set c (ga g c, e) = cw g (sv V c j x) := cw_set hc he (fun _ h => ce_congr (sv_ne V h) rfl)
def tTakes : Nat → Int32 := fun j => ([0, 0, 1, 2, 2, 2, 2, 2, 2, 1, 1, 2, 0, 0, 0, 0, 1, 0, 1, 0] : List Int32).getD j 0
def tPuts : Nat → Int32 := fun j => ([1, 1, 0, 1, 1, 1, 1, 1, 1, 0, 1, 0, 0, 0, 0, 0, 0, 0, 1, 0] : List Int32).getD j 0
/-- what else stands: the two tables, the nest's links -/
def zf (g : gT) (U : State) (H : Heap) : Prop := va_Z R_Op "TAKES" "[I" (.ref (gtT g)) (gA g) U H ∧ va_T .int (gtT g) 20 (fun j => .int (tTakes j)) (gA g) U H ∧ va_Z R_Op "PUTS" "[I" (.ref (gtP g)) (gA g) U H ∧ va_T .int (gtP g) 20 (fun j => .int (tPuts j)) (gA g) U H ∧ va_Nw (Cond.methodLinkNest "PluginRunner$Checker" 104 y_PR_within "PluginRunner") U ∧ va_Nw (Cond.fieldLinkNest "PluginRunner$Program" 33 "PluginRunner$Op" "TAKES" "[I" "PluginRunner") U ∧ va_Nw (Cond.fieldLinkNest "PluginRunner$Program" 37 "PluginRunner$Op" "PUTS" "[I" "PluginRunner") U
def wd (g : gT) (V : vS) (U : State) : Prop := va_P g.1 vcl (cw g V) U.heap ∧ va_K g.1 vcl (gty g) U ∧ zf g U U.heap
def cx (g : gT) (p : Program) (s : State) (m : MethodId) (meth : Method) (c : Code) (args : Array Value) (own : String) (cc : ByteArray) (nL : Nat) (ret : Option FieldType) : Prop :=
  p.tables.exec = Jvm.exec ∧ c.code = cc ∧ meth.sig.returnType = ret ∧ c.maxLocals = nL ∧ s.vm.findClass own = some m.cls ∧ (∀ w ∈ TBL, w.before args s = true) ∧ meth.locks = false ∧ va_K g.1 vcl (gty g) s ∧ zf g s s.heap ∧ gd g
theorem zf_moved {g : gT} {s U : State} {H H1 : Heap} (hW : s.WarmedH U.vm) (hq : ∀ a : Nat, a < H.size → ¬ gA g a → H1[a]? = H[a]?) (h : zf g s H) : zf g U H1 := by
  obtain ⟨h1, h2, h3, h4, h5, h6, h7⟩ := h
  exact ⟨(h1.moved hW.alike).kept hq, (h2.moved hW.alike).kept hq, (h3.moved hW.alike).kept hq, (h4.moved hW.alike).kept hq, va_Nw.warmM hW h5, va_Nw.warmF hW h6, va_Nw.warmF hW h7⟩
theorem zf_same {g : gT} {u U : State} {H : Heap} (e : u.vm = U.vm) (h : zf g u H) : zf g U H := by
  have ha : u.vm.Alike U.vm := by rw [e]; exact Vm.Alike.refl _
  obtain ⟨h1, h2, h3, h4, h5, h6, h7⟩ := h
  exact ⟨h1.moved ha, h2.moved ha, h3.moved ha, h4.moved ha, va_Nw.same rfl e h5, va_Nw.same rfl e h6, va_Nw.same rfl e h7⟩
theorem wd_blind {g : gT} {V : vS} {As : List Value} : FrameBlind (va_Pc As (wd g V)) := fun a U f mk q => by
  obtain ⟨q0, qP, qK, qZ⟩ := q
  exact ⟨q0, qP, va_K.moved (u := U) (U := U.calling f mk a) (Vm.Alike.refl U.vm) qK, zf_same (u := U) (U := U.calling f mk a) rfl qZ⟩
theorem wd_pre {g : gT} {V : vS} {As : List Value} {s : State} {H : Heap} {locs : List Loc} (hK : va_K g.1 vcl (gty g) s) (hZ : zf g s s.heap) (hP : va_P g.1 vcl (cw g V) H) (hS : va_S (gA g) s.heap H locs) : ∀ U : State, U.heap = H → s.WarmedH U.vm → va_Pc As (wd g V) As.toArray U := fun U hU hW =>
  ⟨rfl, by rw [hU]; exact hP, va_K.moved hW.alike hK, by rw [hU]; exact zf_moved hW hS.2.1 hZ⟩
abbrev Bw (g : gT) (V : vS) (t : State) : Prop := va_P g.1 vcl (cw g V) t.heap
def Ci (g : gT) (l : Launch) (y : MethodName) (bs : ByteArray) (mL : Nat) (rt : Option FieldType) (rm : Room) (As : List Value) (V : vS) (k : Int32 → vS → Prop) : Prop := Met l y (Cond.code y bs mL rt :: TBL) rm (va_Pc As (wd g V)) (va_Qi k (Bw g) (gA g)) 0 0 (gA g)
def Cl (g : gT) (l : Launch) (y : MethodName) (bs : ByteArray) (mL : Nat) (rt : Option FieldType) (rm : Room) (As : List Value) (V : vS) (k : Int64 → vS → Prop) : Prop := Met l y (Cond.code y bs mL rt :: TBL) rm (va_Pc As (wd g V)) (va_Ql k (Bw g) (gA g)) 0 0 (gA g)
def Cv (g : gT) (l : Launch) (y : MethodName) (bs : ByteArray) (mL : Nat) (rt : Option FieldType) (rm : Room) (As : List Value) (V : vS) (k : vS → Prop) : Prop := Met l y (Cond.code y bs mL rt :: TBL) rm (va_Pc As (wd g V)) (va_Qv k (Bw g) (gA g)) 0 0 (gA g)
def Cr (g : gT) (l : Launch) (y : MethodName) (bs : ByteArray) (mL : Nat) (rt : Option FieldType) (rm : Room) (As : List Value) (V : vS) (k : Nat → vS → Prop) : Prop := Met l y (Cond.code y bs mL rt :: TBL) rm (va_Pc As (wd g V)) (va_Qr (S := Nat × vS) (fun u => (19 ≤ u.1 ∧ u.1 < 25) ∧ k u.1 u.2) (fun u a t => a = ga g u.1 ∧ Bw g u.2 t) (gA g)) 0 0 (gA g)
/-- what a callee is: its class, its code, that the tables know it; n ints and references come with it -/
def yV (C : String) (y : MethodName) (bs : ByteArray) (mL : Nat) (rt : Option FieldType) (n : Nat) : Prop := (y.cls = C ∧ y.cls ≠ "java/lang/invoke/MethodHandle" ∧ y.cls ≠ "java/lang/invoke/VarHandle" ∧ (parseMethodDescriptor y.desc).map (fun d => d.parameters.length) = some n) ∧ Cond.instanceMethod y ∈ TBL ∧ Cond.selects C y y ∈ TBL ∧ Cond.initialized C ∈ TBL ∧ Cond.code y bs mL rt ∈ TBL
def yS (y : MethodName) (bs : ByteArray) (mL : Nat) (rt : Option FieldType) (n : Nat) : Prop := (y.cls ≠ "java/lang/invoke/MethodHandle" ∧ y.cls ≠ "java/lang/invoke/VarHandle" ∧ (parseMethodDescriptor y.desc).map (fun d => d.parameters.length) = some n) ∧ Cond.static y ∈ TBL ∧ Cond.initialized y.cls ∈ TBL ∧ Cond.code y bs mL rt ∈ TBL
abbrev rmOk (rm R : Room) (mL : Nat) : Prop := rm.cells = 0 ∧ rm.slots = 0 ∧ rm.frames + 1 ≤ R.frames ∧ 8 + (mL + 11) + rm.locals ≤ R.locals
/-- the receiver -/
def isO (C : String) (b : Nat) : Prop := b < 49 ∧ ∀ (g : gT) (V : vS), ∃ (ci : Nat) (fs : List Value) (q : vw_C), ce g V b = .inr (ci, fs) ∧ vcl[ci]? = some q ∧ q.1 = C
def isI (b n : Nat) : Prop := b < 49 ∧ ∀ (g : gT) (V : vS), ce g V b = .inl (gcI g, n, .inl (V.1 b))
def isZ (b n : Nat) : Prop := b < 49 ∧ ∀ (g : gT) (V : vS), ce g V b = .inl (gcZ g, n, .inl (V.1 b))
theorem vp_lt {i : Int32} {n : Nat} (h : vp_in i n) : nt i < n := Nat.not_le.mp fun q => h (Or.inr q)
theorem fn_of {i : Int32} (h : vp_in i 4) : 3 ≤ 3 + nt i ∧ 3 + nt i < 7 := by have := vp_lt h; unfold nt at *; omega
theorem fr_of {i : Int32} (h : vp_in i 6) : 19 ≤ 19 + nt i ∧ 19 + nt i < 25 := by have := vp_lt h; unfold nt at *; omega
theorem goodC {ws : List Cond} {w : Cond} (h : w ∈ TBL) (hs : ∀ x ∈ ws, x ∈ TBL) : ∀ x ∈ ws ++ (w :: TBL), x ∈ TBL := fun x hx => by
  rcases List.mem_append.mp hx with h1 | h1
  · exact hs x h1
  · rcases List.mem_cons.mp h1 with h2 | h2
    · rw [h2]; exact h
    · exact h2
theorem ce_sj {g : gT} {V : vS} {x : Int64} {a : Nat} (h : a ≠ 17) : ce g (sj V x) a = ce g V a := by
  unfold ce sj
  by_cases h2 : a < 7
  · by_cases h0 : a = 0 <;> by_cases h1 : a = 1 <;> by_cases h3 : a = 2 <;> simp [h0, h1, h2, h3]
  · simp only [h, if_false]
theorem isO_PR : isO R_PR 0 := ⟨by decide, fun _ _ => ⟨0, _, _, rfl, rfl, rfl⟩⟩
theorem isO_Pg : isO R_Pg 1 := ⟨by decide, fun _ _ => ⟨1, _, _, rfl, rfl, rfl⟩⟩
theorem isO_Ck : isO R_Ck 15 := ⟨by decide, fun _ _ => ⟨3, _, _, rfl, rfl, rfl⟩⟩
theorem isO_Mc : isO R_Mc 17 := ⟨by decide, fun _ _ => ⟨4, _, _, rfl, rfl, rfl⟩⟩
theorem isO_Mo : isO R_Mo 34 := ⟨by decide, fun _ _ => ⟨6, _, _, rfl, rfl, rfl⟩⟩
theorem ce_Fn {f : Nat} (h : 3 ≤ f ∧ f < 7) (g : gT) (V : vS) : ce g V f = .inr (2, [.ref (ga g (f + 4)), .ref (ga g (f + 8)), .int (V.1 f 2), .int (V.1 f 3), .int (V.1 f 4), .int (V.1 f 5)]) := by
  unfold ce
  rw [if_neg (by omega), if_neg (by omega), if_neg (by omega), if_pos h.2]
theorem ce_Fr {f : Nat} (h : 19 ≤ f ∧ f < 25) (g : gT) (V : vS) : ce g V f = .inr (5, [.ref (ga g (f + 6)), .int (V.1 f 1), .int (V.1 f 2)]) := by
  unfold ce
  rw [if_neg (by omega), if_neg (by omega), if_neg (by omega), if_neg (by omega), if_neg (by omega), if_neg (by omega), if_neg (by omega), if_neg (by omega), if_neg (by omega), if_pos h.2]
theorem isO_Fn {f : Nat} (h : 3 ≤ f ∧ f < 7) : isO R_Fn f := ⟨by omega, fun g V => ⟨2, _, _, ce_Fn h g V, rfl, rfl⟩⟩
theorem isO_Fr {f : Nat} (h : 19 ≤ f ∧ f < 25) : isO R_Fr f := ⟨by omega, fun g V => ⟨5, _, _, ce_Fr h g V, rfl, rfl⟩⟩
theorem isI_cd {f : Nat} (h : 7 ≤ f ∧ f < 15) : isI f 24 := ⟨by omega, fun g V => by
  unfold ce
  rw [if_neg (by omega), if_neg (by omega), if_neg (by omega), if_neg (by omega), if_pos h.2]⟩
theorem isI_ops {f : Nat} (h : 3 ≤ f ∧ f < 7) : isI (f + 4) 24 := isI_cd (by omega)
theorem isI_args {f : Nat} (h : 3 ≤ f ∧ f < 7) : isI (f + 8) 24 := isI_cd (by omega)
theorem isI_loc {f : Nat} (h : 19 ≤ f ∧ f < 25) : isI (f + 6) 5 := ⟨by omega, fun g V => by
  unfold ce
  rw [if_neg (by omega), if_neg (by omega), if_neg (by omega), if_neg (by omega), if_neg (by omega), if_neg (by omega), if_neg (by omega), if_neg (by omega), if_neg (by omega), if_neg (by omega), if_pos (by omega)]⟩
theorem isI_16 : isI 16 25 := ⟨by decide, fun _ _ => rfl⟩
theorem isI_31 : isI 31 40 := ⟨by decide, fun _ _ => rfl⟩
theorem isI_32 : isI 32 32 := ⟨by decide, fun _ _ => rfl⟩
theorem isI_35 : isI 35 4 := ⟨by decide, fun _ _ => rfl⟩
theorem isI_36 : isI 36 4 := ⟨by decide, fun _ _ => rfl⟩
theorem isI_37 : isI 37 4 := ⟨by decide, fun _ _ => rfl⟩
theorem isI_38 : isI 38 4 := ⟨by decide, fun _ _ => rfl⟩
theorem isI_39 : isI 39 96 := ⟨by decide, fun _ _ => rfl⟩
theorem isI_40 : isI 40 96 := ⟨by decide, fun _ _ => rfl⟩
theorem isI_41 : isI 41 26 := ⟨by decide, fun _ _ => rfl⟩
theorem isI_42 : isI 42 26 := ⟨by decide, fun _ _ => rfl⟩
theorem isI_43 : isI 43 7 := ⟨by decide, fun _ _ => rfl⟩
theorem isI_44 : isI 44 7 := ⟨by decide, fun _ _ => rfl⟩
theorem isI_45 : isI 45 35 := ⟨by decide, fun _ _ => rfl⟩
theorem isI_46 : isI 46 42 := ⟨by decide, fun _ _ => rfl⟩
theorem isI_47 : isI 47 32 := ⟨by decide, fun _ _ => rfl⟩
theorem isZ_33 : isZ 33 4 := ⟨by decide, fun _ _ => rfl⟩
theorem isZ_48 : isZ 48 4 := ⟨by decide, fun _ _ => rfl⟩
end
section
section RWS
variable {p : Program} {l : Launch} {e : Env} {R : Room} {s : State} {m : MethodId} {args : Array Value} {below : List Frame} {meth : Method} {c : Code} {H : Heap} {locs : List Loc} {cells slots : Nat} {Q : State → Prop}
variable {g : gT} {V : vS} {own : String} {cc : ByteArray} {nL pc idx : Nat} {ret : Option FieldType} {ls : Array Slot} {rest : List Value}
theorem rw_iald (X : cx g p s m meth c args own cc nL ret) (hP : va_P g.1 vcl (cw g V) H) {b n : Nat} (ha : isI b n) {i : Int32} (hin : vp_in i n) (hdg : decode cc pc = .ok (.iaload, 1))
    (kk : W p l e R s m args below meth c H locs cells slots Q (F0 m (pc + 1) ls (.int (V.1 b (nt i)) :: rest))) : W p l e R s m args below meth c H locs cells slots Q (F0 m pc ls (.int i :: .ref (ga g b) :: rest)) :=
  va_iald X.1 X.2.1 X.2.2.2.2.2.2.2.1 hP b 0 (cw_at ha.1 (ha.2 g V)) rfl hin hdg kk
theorem rw_zald (X : cx g p s m meth c args own cc nL ret) (hP : va_P g.1 vcl (cw g V) H) {b n : Nat} (ha : isZ b n) {i : Int32} (hin : vp_in i n) (hdg : decode cc pc = .ok (.baload, 1))
    (kk : W p l e R s m args below meth c H locs cells slots Q (F0 m (pc + 1) ls (.int (V.1 b (nt i)) :: rest))) : W p l e R s m args below meth c H locs cells slots Q (F0 m pc ls (.int i :: .ref (ga g b) :: rest)) :=
  va_zald X.1 X.2.1 X.2.2.2.2.2.2.2.1 hP b 1 (cw_at ha.1 (ha.2 g V)) rfl hin hdg kk
theorem rw_iast (X : cx g p s m meth c args own cc nL ret) (hP : va_P g.1 vcl (cw g V) H) (hS : va_S (gA g) s.heap H locs) {b n : Nat} (ha : isI b n) {i x : Int32} (hin : vp_in i n) (hdg : decode cc pc = .ok (.iastore, 1))
    (kk : ∀ (V1 : vS) (H1 : Heap) (locs1 : List Loc), V1 = sv V b (nt i) x → va_P g.1 vcl (cw g V1) H1 → va_S (gA g) s.heap H1 locs1 → W p l e R s m args below meth c H1 locs1 cells slots Q (F0 m (pc + 1) ls rest)) : W p l e R s m args below meth c H locs cells slots Q (F0 m pc ls (.int x :: .int i :: .ref (ga g b) :: rest)) := by
  refine va_iast X.1 X.2.1 X.2.2.2.2.2.2.2.1 hP (cw_D X.2.2.2.2.2.2.2.2.2) hS b 0 (cw_at ha.1 (ha.2 g V)) rfl hin hdg (fun H1 locs1 h1 h2 h3 => kk _ H1 locs1 rfl ?_ h3)
  rwa [cw_sv (j := nt i) (x := x) ha.1 (by rw [ha.2, sv_self])] at h1
theorem rw_zast (X : cx g p s m meth c args own cc nL ret) (hP : va_P g.1 vcl (cw g V) H) (hS : va_S (gA g) s.heap H locs) {b n : Nat} (ha : isZ b n) {i x : Int32} (hin : vp_in i n) (hdg : decode cc pc = .ok (.bastore, 1))
    (kk : ∀ (V1 : vS) (H1 : Heap) (locs1 : List Loc), V1 = sv V b (nt i) (vp_nar .boolean x) → va_P g.1 vcl (cw g V1) H1 → va_S (gA g) s.heap H1 locs1 → W p l e R s m args below meth c H1 locs1 cells slots Q (F0 m (pc + 1) ls rest)) : W p l e R s m args below meth c H locs cells slots Q (F0 m pc ls (.int x :: .int i :: .ref (ga g b) :: rest)) := by
  refine va_zast X.1 X.2.1 X.2.2.2.2.2.2.2.1 hP (cw_D X.2.2.2.2.2.2.2.2.2) hS b 1 (cw_at ha.1 (ha.2 g V)) rfl hin hdg (fun H1 locs1 h1 h2 h3 => kk _ H1 locs1 rfl ?_ h3)
  rwa [cw_sv (j := nt i) (x := vp_nar .boolean x) ha.1 (by rw [ha.2, sv_self])] at h1
theorem rw_ilen (X : cx g p s m meth c args own cc nL ret) (hP : va_P g.1 vcl (cw g V) H) {b n : Nat} (ha : isI b n) {v : Int32} (hv : Int32.ofNat n = v) (hdg : decode cc pc = .ok (.arraylength, 1))
    (kk : W p l e R s m args below meth c H locs cells slots Q (F0 m (pc + 1) ls (.int v :: rest))) : W p l e R s m args below meth c H locs cells slots Q (F0 m pc ls (.ref (ga g b) :: rest)) :=
  va_alen X.1 X.2.1 X.2.2.2.2.2.2.2.1 hP b 0 (cw_at ha.1 (ha.2 g V)) (ty := .int) rfl hv hdg kk
theorem rw_aaldF (X : cx g p s m meth c args own cc nL ret) (hP : va_P g.1 vcl (cw g V) H) {i : Int32} (hin : vp_in i 4) (hdg : decode cc pc = .ok (.aaload, 1))
    (kk : W p l e R s m args below meth c H locs cells slots Q (F0 m (pc + 1) ls (.ref (ga g (3 + nt i)) :: rest))) : W p l e R s m args below meth c H locs cells slots Q (F0 m pc ls (.int i :: .ref (ga g 2) :: rest)) :=
  va_aldq X.1 X.2.1 X.2.2.2.2.2.2.2.1 hP 2 2 (cw_at (e := .inl (gcF g, 4, .inr (.inr (.inr (.inr (fun j => some (ga g (3 + j)))))))) (by decide) rfl) rfl hin hdg kk
theorem rw_aaldR (X : cx g p s m meth c args own cc nL ret) (hP : va_P g.1 vcl (cw g V) H) {i : Int32} (hin : vp_in i 6) (hdg : decode cc pc = .ok (.aaload, 1))
    (kk : W p l e R s m args below meth c H locs cells slots Q (F0 m (pc + 1) ls (.ref (ga g (19 + nt i)) :: rest))) : W p l e R s m args below meth c H locs cells slots Q (F0 m pc ls (.int i :: .ref (ga g 18) :: rest)) :=
  va_aldq X.1 X.2.1 X.2.2.2.2.2.2.2.1 hP 18 3 (cw_at (e := .inl (gcR g, 6, .inr (.inr (.inr (.inr (fun j => some (ga g (19 + j)))))))) (by decide) rfl) rfl hin hdg kk
theorem rw_bit {x : Int32} (h : x = 0 ∨ x = 1) : narrow .boolean (.int x) = .int x ∧ fits .boolean (.int x) = true := by
  rcases h with rfl | rfl <;> exact ⟨rfl, rfl⟩
theorem rw_iret {k : Int32 → vS → Prop} {v : Int32} (X : cx g p s m meth c args own cc nL (some .int)) (hP : va_P g.1 vcl (cw g V) H) (hS : va_S (gA g) s.heap H locs) (h : k v V) (hdg : decode cc pc = .ok (.ireturn, 1)) : W p l e R s m args below meth c H locs cells slots (MQ below (va_Qi k (Bw g) (gA g)) args s cells slots (gA g)) (F0 m pc ls [.int v]) :=
  W.iret X.1 X.2.1 X.2.2.1 (fun t ht hW => ⟨⟨v, V, rfl, h, by show va_P _ _ _ t.heap; rw [ht]; exact hP⟩, hS.F ht⟩) hS.2.2 hdg (hlocks := X.2.2.2.2.2.2.1)
theorem rw_zret {k : Int32 → vS → Prop} {v : Int32} (X : cx g p s m meth c args own cc nL (some .boolean)) (hP : va_P g.1 vcl (cw g V) H) (hS : va_S (gA g) s.heap H locs) (hv : v = 0 ∨ v = 1) (h : k v V) (hdg : decode cc pc = .ok (.ireturn, 1)) : W p l e R s m args below meth c H locs cells slots (MQ below (va_Qi k (Bw g) (gA g)) args s cells slots (gA g)) (F0 m pc ls [.int v]) :=
  W.zret X.1 X.2.1 X.2.2.1 (rw_bit hv).1 (fun t ht hW => ⟨⟨v, V, rfl, h, by show va_P _ _ _ t.heap; rw [ht]; exact hP⟩, hS.F ht⟩) hS.2.2 hdg (hlocks := X.2.2.2.2.2.2.1)
theorem rw_lret {k : Int64 → vS → Prop} {v : Int64} (X : cx g p s m meth c args own cc nL (some .long)) (hP : va_P g.1 vcl (cw g V) H) (hS : va_S (gA g) s.heap H locs) (h : k v V) (hdg : decode cc pc = .ok (.lreturn, 1)) : W p l e R s m args below meth c H locs cells slots (MQ below (va_Ql k (Bw g) (gA g)) args s cells slots (gA g)) (F0 m pc ls [.long v]) :=
  W.lret X.1 X.2.1 X.2.2.1 (fun t ht hW => ⟨⟨v, V, rfl, h, by show va_P _ _ _ t.heap; rw [ht]; exact hP⟩, hS.F ht⟩) hS.2.2 hdg (hlocks := X.2.2.2.2.2.2.1)
theorem rw_vret {k : vS → Prop} (X : cx g p s m meth c args own cc nL none) (hP : va_P g.1 vcl (cw g V) H) (hS : va_S (gA g) s.heap H locs) (h : k V) (hdg : decode cc pc = .ok (.return_, 1)) : W p l e R s m args below meth c H locs cells slots (MQ below (va_Qv k (Bw g) (gA g)) args s cells slots (gA g)) (F0 m pc ls []) :=
  W.vret X.1 X.2.1 X.2.2.1 (fun t ht hW => ⟨⟨V, rfl, h, by show va_P _ _ _ t.heap; rw [ht]; exact hP⟩, hS.F ht⟩) hS.2.2 hdg (hlocks := X.2.2.2.2.2.2.1)
theorem rw_aret {k : Nat → vS → Prop} {v : Nat} (X : cx g p s m meth c args own cc nL (some (.object R_Fr))) (hP : va_P g.1 vcl (cw g V) H) (hS : va_S (gA g) s.heap H locs) (hv : 19 ≤ v ∧ v < 25) (h : k v V) (hdg : decode cc pc = .ok (.areturn, 1)) : W p l e R s m args below meth c H locs cells slots (MQ below (va_Qr (S := Nat × vS) (fun u => (19 ≤ u.1 ∧ u.1 < 25) ∧ k u.1 u.2) (fun u a t => a = ga g u.1 ∧ Bw g u.2 t) (gA g)) args s cells slots (gA g)) (F0 m pc ls [.ref (ga g v)]) :=
  W.aret X.1 X.2.1 X.2.2.1 (Or.inl ⟨_, rfl⟩) (Or.inr ⟨_, rfl⟩) (fun t ht hW => ⟨⟨(v, V), ga g v, rfl, ⟨hv, h⟩, rfl, by show va_P _ _ _ t.heap; rw [ht]; exact hP⟩, hS.F ht⟩) hS.2.2 hdg (hlocks := X.2.2.2.2.2.2.1)
variable {C : String} {y : MethodName} {bs : ByteArray} {mL n b : Nat} {rt : Option FieldType} {rm : Room} {As st0 : List Value}
theorem rw_cwV (X : cx g p s m meth c args own cc nL ret) (Y : yV C y bs mL rt n) (hlink : Cond.methodLink own idx y ∈ TBL) (hR : rmOk rm R mL) : CallW R s args own C idx y bs mL rt (Cond.code y bs mL rt :: TBL) rm 0 0 n := by
  obtain ⟨h1, h2, h3, h4, h5⟩ := Y
  refine cwV n X.2.2.2.2.2.1 (goodT (goodC h5 ?_)) rfl hR.1 hR.2.1 h1 hR.2.2
  intro x hx
  simp only [List.mem_cons, List.not_mem_nil, or_false] at hx
  rcases hx with rfl | rfl | rfl | rfl <;> assumption
theorem rw_recv (X : cx g p s m meth c args own cc nL ret) (hP : va_P g.1 vcl (cw g V) H) (hO : isO C b) : ∃ cell : Cell, H[ga g b]? = some cell ∧ cell.vm.isStatics = false ∧ s.vm.findClass C = some cell.cls := by
  obtain ⟨ci, fs, q, h1, h2, h3⟩ := hO.2 g V
  rw [← h3]
  exact va_recv X.2.2.2.2.2.2.2.1 hP h2 (cw_at hO.1 h1)
theorem rw_cVi (X : cx g p s m meth c args own cc nL ret) (hP : va_P g.1 vcl (cw g V) H) (hS : va_S (gA g) s.heap H locs) (Y : yV C y bs mL rt n) (hO : isO C b) {k : Int32 → vS → Prop} (hM : Ci g l y bs mL rt rm (.ref (ga g b) :: As) V k) (hlink : Cond.methodLink own idx y ∈ TBL) (hR : rmOk rm R mL) (hn : As.length = n) (hst : st0 = As.reverse ++ .ref (ga g b) :: rest) (hls : ls.size = nL) (hr : (rest.map fun v => v.category).sum ≤ 8) (hcs : cells ≤ R.cells ∧ slots ≤ R.slots) (hdg : decode cc pc = .ok (.invokevirtual idx, 3))
    (kk : ∀ (r : Int32) (V1 : vS) (H1 : Heap) (locs1 : List Loc), k r V1 → va_P g.1 vcl (cw g V1) H1 → va_S (gA g) s.heap H1 locs1 → W p l e R s m args below meth c H1 locs1 cells slots Q (F0 m (pc + 3) ls (.int r :: rest))) : W p l e R s m args below meth c H locs cells slots Q (F0 m pc ls st0) := by
  refine va_calli (va_runV (As := As) (rest := rest) (b := ga g b) (C := C) (bytes := bs) (ret := rt) (n := n) ⟨X.1, X.2.1, X.2.2.2.1, X.2.2.2.2.1, X.2.2.2.2.2.1⟩ hM (rw_cwV X Y hlink hR) ⟨wd_blind, rw_recv X hP hO, wd_pre X.2.2.2.2.2.2.2.1 X.2.2.2.2.2.2.2.2.1 hP hS⟩ rfl hn hls hst (lv_room hr) hdg hcs) hS (fun q _ h => h) (fun q h => h) (fun r V1 t H1 locs1 ht hvm hw hB hz hk hS1 => ?_)
  exact kk _ V1 H1 locs1 hw (by rw [← ht]; exact hB) hS1
theorem rw_cSi (X : cx g p s m meth c args own cc nL ret) (hP : va_P g.1 vcl (cw g V) H) (hS : va_S (gA g) s.heap H locs) (Y : yS y bs mL rt n) {k : Int32 → vS → Prop} (hM : Ci g l y bs mL rt rm As V k) (hlink : Cond.methodLink own idx y ∈ TBL) (hR : rmOk rm R mL) (hn : As.length = n) (hst : st0 = As.reverse ++ rest) (hls : ls.size = nL) (hr : (rest.map fun v => v.category).sum ≤ 8) (hcs : cells ≤ R.cells ∧ slots ≤ R.slots) (hdg : decode cc pc = .ok (.invokestatic idx, 3))
    (kk : ∀ (r : Int32) (V1 : vS) (H1 : Heap) (locs1 : List Loc), k r V1 → va_P g.1 vcl (cw g V1) H1 → va_S (gA g) s.heap H1 locs1 → W p l e R s m args below meth c H1 locs1 cells slots Q (F0 m (pc + 3) ls (.int r :: rest))) : W p l e R s m args below meth c H locs cells slots Q (F0 m pc ls st0) := by
  have hG : ∀ x ∈ va_wsS own idx y (Cond.code y bs mL rt :: TBL), x ∈ TBL := goodC (ws := [.methodLink own idx y, .static y, .initialized y.cls]) Y.2.2.2 (fun x hx => by
    simp only [List.mem_cons, List.not_mem_nil, or_false] at hx
    rcases hx with h2 | h2 | h2
    · rw [h2]; exact hlink
    · rw [h2]; exact Y.2.1
    · rw [h2]; exact Y.2.2.1)
  refine va_calli (va_runS (As := As) (rest := rest) (bytes := bs) (ret := rt) (n := n) ⟨X.1, X.2.1, X.2.2.2.1, X.2.2.2.2.1, X.2.2.2.2.2.1⟩ hM (va_cwS n X.2.2.2.2.2.1 (goodT hG) rfl hR.1 hR.2.1 Y.1 hR.2.2) ⟨wd_blind, wd_pre X.2.2.2.2.2.2.2.1 X.2.2.2.2.2.2.2.2.1 hP hS⟩ rfl hn hls hst (lv_room hr) hdg hcs) hS (fun q _ h => h) (fun q h => h) (fun r V1 t H1 locs1 ht hvm hw hB hz hk hS1 => ?_)
  exact kk _ V1 H1 locs1 hw (by rw [← ht]; exact hB) hS1
theorem rw_cNi (X : cx g p s m meth c args own cc nL ret) (hP : va_P g.1 vcl (cw g V) H) (hS : va_S (gA g) s.heap H locs) (Y : yS y bs mL rt n) {host : String} {k : Int32 → vS → Prop} (hM : Ci g l y bs mL rt rm As V k) (hlink : va_Nw (.methodLinkNest own idx y host) s) (hR : rmOk rm R mL) (hn : As.length = n) (hst : st0 = As.reverse ++ rest) (hls : ls.size = nL) (hr : (rest.map fun v => v.category).sum ≤ 8) (hcs : cells ≤ R.cells ∧ slots ≤ R.slots) (hdg : decode cc pc = .ok (.invokestatic idx, 3))
    (kk : ∀ (r : Int32) (V1 : vS) (H1 : Heap) (locs1 : List Loc), k r V1 → va_P g.1 vcl (cw g V1) H1 → va_S (gA g) s.heap H1 locs1 → W p l e R s m args below meth c H1 locs1 cells slots Q (F0 m (pc + 3) ls (.int r :: rest))) : W p l e R s m args below meth c H locs cells slots Q (F0 m pc ls st0) := by
  have hG : ∀ x ∈ (Cond.code y bs mL rt :: TBL), x ∈ TBL := fun x hx => by
    rcases List.mem_cons.mp hx with h2 | h2
    · rw [h2]; exact Y.2.2.2
    · exact h2
  refine va_calli (va_runSN (As := As) (rest := rest) (bytes := bs) (ret := rt) (n := n) (host := host) ⟨X.1, X.2.1, X.2.2.2.1, X.2.2.2.2.1, X.2.2.2.2.2.1⟩ hM ⟨va_cnB n X.2.2.2.2.2.1 (goodT hG) rfl hR.1 hR.2.1 hlink (X.2.2.2.2.2.1 _ Y.2.2.1) Y.1 hR.2.2, X.2.2.2.2.2.1 _ Y.2.1, trivial⟩ ⟨wd_blind, wd_pre X.2.2.2.2.2.2.2.1 X.2.2.2.2.2.2.2.2.1 hP hS⟩ rfl hn hls hst (lv_room hr) hdg hcs) hS (fun q _ h => h) (fun q h => h) (fun r V1 t H1 locs1 ht hvm hw hB hz hk hS1 => ?_)
  exact kk _ V1 H1 locs1 hw (by rw [← ht]; exact hB) hS1
theorem rw_cVl (X : cx g p s m meth c args own cc nL ret) (hP : va_P g.1 vcl (cw g V) H) (hS : va_S (gA g) s.heap H locs) (Y : yV C y bs mL rt n) (hO : isO C b) {k : Int64 → vS → Prop} (hM : Cl g l y bs mL rt rm (.ref (ga g b) :: As) V k) (hlink : Cond.methodLink own idx y ∈ TBL) (hR : rmOk rm R mL) (hn : As.length = n) (hst : st0 = As.reverse ++ .ref (ga g b) :: rest) (hls : ls.size = nL) (hr : (rest.map fun v => v.category).sum ≤ 8) (hcs : cells ≤ R.cells ∧ slots ≤ R.slots) (hdg : decode cc pc = .ok (.invokevirtual idx, 3))
    (kk : ∀ (r : Int64) (V1 : vS) (H1 : Heap) (locs1 : List Loc), k r V1 → va_P g.1 vcl (cw g V1) H1 → va_S (gA g) s.heap H1 locs1 → W p l e R s m args below meth c H1 locs1 cells slots Q (F0 m (pc + 3) ls (.long r :: rest))) : W p l e R s m args below meth c H locs cells slots Q (F0 m pc ls st0) := by
  refine va_calll (va_runV (As := As) (rest := rest) (b := ga g b) (C := C) (bytes := bs) (ret := rt) (n := n) ⟨X.1, X.2.1, X.2.2.2.1, X.2.2.2.2.1, X.2.2.2.2.2.1⟩ hM (rw_cwV X Y hlink hR) ⟨wd_blind, rw_recv X hP hO, wd_pre X.2.2.2.2.2.2.2.1 X.2.2.2.2.2.2.2.2.1 hP hS⟩ rfl hn hls hst (lv_room hr) hdg hcs) hS (fun q _ h => h) (fun q h => h) (fun r V1 t H1 locs1 ht hvm hw hB hz hk hS1 => ?_)
  exact kk _ V1 H1 locs1 hw (by rw [← ht]; exact hB) hS1
theorem rw_cVv (X : cx g p s m meth c args own cc nL ret) (hP : va_P g.1 vcl (cw g V) H) (hS : va_S (gA g) s.heap H locs) (Y : yV C y bs mL rt n) (hO : isO C b) {k : vS → Prop} (hM : Cv g l y bs mL rt rm (.ref (ga g b) :: As) V k) (hlink : Cond.methodLink own idx y ∈ TBL) (hR : rmOk rm R mL) (hn : As.length = n) (hst : st0 = As.reverse ++ .ref (ga g b) :: rest) (hls : ls.size = nL) (hr : (rest.map fun v => v.category).sum ≤ 8) (hcs : cells ≤ R.cells ∧ slots ≤ R.slots) (hdg : decode cc pc = .ok (.invokevirtual idx, 3))
    (kk : ∀ (V1 : vS) (H1 : Heap) (locs1 : List Loc), k V1 → va_P g.1 vcl (cw g V1) H1 → va_S (gA g) s.heap H1 locs1 → W p l e R s m args below meth c H1 locs1 cells slots Q (F0 m (pc + 3) ls (rest))) : W p l e R s m args below meth c H locs cells slots Q (F0 m pc ls st0) := by
  refine va_callv (va_runV (As := As) (rest := rest) (b := ga g b) (C := C) (bytes := bs) (ret := rt) (n := n) ⟨X.1, X.2.1, X.2.2.2.1, X.2.2.2.2.1, X.2.2.2.2.2.1⟩ hM (rw_cwV X Y hlink hR) ⟨wd_blind, rw_recv X hP hO, wd_pre X.2.2.2.2.2.2.2.1 X.2.2.2.2.2.2.2.2.1 hP hS⟩ rfl hn hls hst (lv_room hr) hdg hcs) hS (fun q _ h => h) (fun q h => h) (fun V1 t H1 locs1 ht hvm hw hB hz hk hS1 => ?_)
  exact kk V1 H1 locs1 hw (by rw [← ht]; exact hB) hS1
theorem rw_cVr (X : cx g p s m meth c args own cc nL ret) (hP : va_P g.1 vcl (cw g V) H) (hS : va_S (gA g) s.heap H locs) (Y : yV C y bs mL rt n) (hO : isO C b) {k : Nat → vS → Prop} (hM : Cr g l y bs mL rt rm (.ref (ga g b) :: As) V k) (hlink : Cond.methodLink own idx y ∈ TBL) (hR : rmOk rm R mL) (hn : As.length = n) (hst : st0 = As.reverse ++ .ref (ga g b) :: rest) (hls : ls.size = nL) (hr : (rest.map fun v => v.category).sum ≤ 8) (hcs : cells ≤ R.cells ∧ slots ≤ R.slots) (hdg : decode cc pc = .ok (.invokevirtual idx, 3))
    (kk : ∀ (r : Nat) (V1 : vS) (H1 : Heap) (locs1 : List Loc), (19 ≤ r ∧ r < 25) → k r V1 → va_P g.1 vcl (cw g V1) H1 → va_S (gA g) s.heap H1 locs1 → W p l e R s m args below meth c H1 locs1 cells slots Q (F0 m (pc + 3) ls (.ref (ga g r) :: rest))) : W p l e R s m args below meth c H locs cells slots Q (F0 m pc ls st0) := by
  refine va_callr (va_runV (As := As) (rest := rest) (b := ga g b) (C := C) (bytes := bs) (ret := rt) (n := n) ⟨X.1, X.2.1, X.2.2.2.1, X.2.2.2.2.1, X.2.2.2.2.2.1⟩ hM (rw_cwV X Y hlink hR) ⟨wd_blind, rw_recv X hP hO, wd_pre X.2.2.2.2.2.2.2.1 X.2.2.2.2.2.2.2.2.1 hP hS⟩ rfl hn hls hst (lv_room hr) hdg hcs) hS (fun q _ h => h) (fun q h => h) (fun u a t H1 locs1 ht hvm hw hB hz hk hS1 => ?_)
  obtain ⟨rfl, hB⟩ := hB
  exact kk u.1 u.2 H1 locs1 hw.1 hw.2 (by rw [← ht]; exact hB) hS1
end RWS
section FLD
variable {p : Program} {l : Launch} {e : Env} {R : Room} {s : State} {m : MethodId} {args : Array Value} {below : List Frame} {meth : Method} {c : Code} {H : Heap} {locs : List Loc} {cells slots : Nat} {Q : State → Prop}
variable {g : gT} {V : vS} {own : String} {cc : ByteArray} {nL pc idx : Nat} {ret : Option FieldType} {ls : Array Slot} {rest : List Value}
theorem gf_PR_program (X : cx g p s m meth c args own cc nL ret) (hP : va_P g.1 vcl (cw g V) H) (hlink : Cond.fieldLink own idx R_PR "program" "LPluginRunner$Program;" ∈ TBL) (hdg : decode cc pc = .ok (.getfield idx, 3)) (kk : W p l e R s m args below meth c H locs cells slots Q (F0 m (pc + 3) ls (.ref (ga g 1) :: rest))) : W p l e R s m args below meth c H locs cells slots Q (F0 m pc ls (.ref (ga g 0) :: rest)) :=
  va_get (D := g.1) (ci := 0) (v := .ref (ga g 1)) (C := R_PR) (T := T_PR) (N := 4) X.1 X.2.1 X.2.2.2.2.2.1 in_PR X.2.2.2.2.1 X.2.2.2.2.2.2.2.1 hP 0 (cw_at (e := .inr (0, [.ref (ga g 1), .ref (ga g 15), .ref (ga g 17), .int (V.1 0 3)])) (by decide) rfl) rfl 0 (by decide) (X.2.2.2.2.2.1 _ hlink) (fun _ h9 => h9) rfl hdg kk
theorem gf_PR_checker (X : cx g p s m meth c args own cc nL ret) (hP : va_P g.1 vcl (cw g V) H) (hlink : Cond.fieldLink own idx R_PR "checker" "LPluginRunner$Checker;" ∈ TBL) (hdg : decode cc pc = .ok (.getfield idx, 3)) (kk : W p l e R s m args below meth c H locs cells slots Q (F0 m (pc + 3) ls (.ref (ga g 15) :: rest))) : W p l e R s m args below meth c H locs cells slots Q (F0 m pc ls (.ref (ga g 0) :: rest)) :=
  va_get (D := g.1) (ci := 0) (v := .ref (ga g 15)) (C := R_PR) (T := T_PR) (N := 4) X.1 X.2.1 X.2.2.2.2.2.1 in_PR X.2.2.2.2.1 X.2.2.2.2.2.2.2.1 hP 0 (cw_at (e := .inr (0, [.ref (ga g 1), .ref (ga g 15), .ref (ga g 17), .int (V.1 0 3)])) (by decide) rfl) rfl 1 (by decide) (X.2.2.2.2.2.1 _ hlink) (fun _ h9 => h9) rfl hdg kk
theorem gf_PR_machine (X : cx g p s m meth c args own cc nL ret) (hP : va_P g.1 vcl (cw g V) H) (hlink : Cond.fieldLink own idx R_PR "machine" "LPluginRunner$Machine;" ∈ TBL) (hdg : decode cc pc = .ok (.getfield idx, 3)) (kk : W p l e R s m args below meth c H locs cells slots Q (F0 m (pc + 3) ls (.ref (ga g 17) :: rest))) : W p l e R s m args below meth c H locs cells slots Q (F0 m pc ls (.ref (ga g 0) :: rest)) :=
  va_get (D := g.1) (ci := 0) (v := .ref (ga g 17)) (C := R_PR) (T := T_PR) (N := 4) X.1 X.2.1 X.2.2.2.2.2.1 in_PR X.2.2.2.2.1 X.2.2.2.2.2.2.2.1 hP 0 (cw_at (e := .inr (0, [.ref (ga g 1), .ref (ga g 15), .ref (ga g 17), .int (V.1 0 3)])) (by decide) rfl) rfl 2 (by decide) (X.2.2.2.2.2.1 _ hlink) (fun _ h9 => h9) rfl hdg kk
theorem gf_PR_checked (X : cx g p s m meth c args own cc nL ret) (hP : va_P g.1 vcl (cw g V) H) (hlink : Cond.fieldLink own idx R_PR "checked" "Z" ∈ TBL) (hdg : decode cc pc = .ok (.getfield idx, 3)) (kk : W p l e R s m args below meth c H locs cells slots Q (F0 m (pc + 3) ls (.int (V.1 0 3) :: rest))) : W p l e R s m args below meth c H locs cells slots Q (F0 m pc ls (.ref (ga g 0) :: rest)) :=
  va_get (D := g.1) (ci := 0) (v := .int (V.1 0 3)) (C := R_PR) (T := T_PR) (N := 4) X.1 X.2.1 X.2.2.2.2.2.1 in_PR X.2.2.2.2.1 X.2.2.2.2.2.2.2.1 hP 0 (cw_at (e := .inr (0, [.ref (ga g 1), .ref (ga g 15), .ref (ga g 17), .int (V.1 0 3)])) (by decide) rfl) rfl 3 (by decide) (X.2.2.2.2.2.1 _ hlink) (fun _ h9 => h9) rfl hdg kk
theorem pf_PR_checked (X : cx g p s m meth c args own cc nL ret) (hP : va_P g.1 vcl (cw g V) H) (hS : va_S (gA g) s.heap H locs) (hlink : Cond.fieldLink own idx R_PR "checked" "Z" ∈ TBL) {x : Int32} (hx : x = 0 ∨ x = 1) (hdg : decode cc pc = .ok (.putfield idx, 3)) (kk : ∀ (V1 : vS) (H1 : Heap) (locs1 : List Loc), V1 = sv V (0) 3 x → va_P g.1 vcl (cw g V1) H1 → va_S (gA g) s.heap H1 locs1 → W p l e R s m args below meth c H1 locs1 cells slots Q (F0 m (pc + 3) ls rest)) : W p l e R s m args below meth c H locs cells slots Q (F0 m pc ls (.int x :: .ref (ga g 0) :: rest)) := by
  refine va_put (D := g.1) (ci := 0) (v := .int x) (ty := .boolean) (C := R_PR) (T := T_PR) (N := 4) X.1 X.2.1 X.2.2.2.2.2.1 in_PR ty_PR ty_PR_ok nm_PR X.2.2.2.2.1 X.2.2.2.2.2.2.2.1 hP (cw_D X.2.2.2.2.2.2.2.2.2) hS 0 (cw_at (e := .inr (0, [.ref (ga g 1), .ref (ga g 15), .ref (ga g 17), .int (V.1 0 3)])) (by decide) rfl) rfl 3 (by decide) (X.2.2.2.2.2.1 _ hlink) (fun _ h9 => h9) rfl (by decide +kernel) (rw_bit hx).1 (rw_bit hx).2 (Nat.le_of_ble_eq_true rfl) hdg (fun H1 locs1 h1 h2 h3 => kk _ H1 locs1 rfl ?_ h3)
  have h1 : va_P g.1 vcl ((cw g V).set 0 (ga g 0, ce g (sv V 0 3 x) 0)) H1 := h1
  rwa [cw_sv (by decide) rfl] at h1
theorem gf_Pg_functions (X : cx g p s m meth c args own cc nL ret) (hP : va_P g.1 vcl (cw g V) H) (hlink : Cond.fieldLink own idx R_Pg "functions" "[LPluginRunner$Function;" ∈ TBL) (hdg : decode cc pc = .ok (.getfield idx, 3)) (kk : W p l e R s m args below meth c H locs cells slots Q (F0 m (pc + 3) ls (.ref (ga g 2) :: rest))) : W p l e R s m args below meth c H locs cells slots Q (F0 m pc ls (.ref (ga g 1) :: rest)) :=
  va_get (D := g.1) (ci := 1) (v := .ref (ga g 2)) (C := R_Pg) (T := T_Pg) (N := 2) X.1 X.2.1 X.2.2.2.2.2.1 in_Pg X.2.2.2.2.1 X.2.2.2.2.2.2.2.1 hP 1 (cw_at (e := .inr (1, [.ref (ga g 2), .int (V.1 1 1)])) (by decide) rfl) rfl 0 (by decide) (X.2.2.2.2.2.1 _ hlink) (fun _ h9 => h9) rfl hdg kk
theorem gf_Pg_size (X : cx g p s m meth c args own cc nL ret) (hP : va_P g.1 vcl (cw g V) H) (hlink : Cond.fieldLink own idx R_Pg "size" "I" ∈ TBL) (hdg : decode cc pc = .ok (.getfield idx, 3)) (kk : W p l e R s m args below meth c H locs cells slots Q (F0 m (pc + 3) ls (.int (V.1 1 1) :: rest))) : W p l e R s m args below meth c H locs cells slots Q (F0 m pc ls (.ref (ga g 1) :: rest)) :=
  va_get (D := g.1) (ci := 1) (v := .int (V.1 1 1)) (C := R_Pg) (T := T_Pg) (N := 2) X.1 X.2.1 X.2.2.2.2.2.1 in_Pg X.2.2.2.2.1 X.2.2.2.2.2.2.2.1 hP 1 (cw_at (e := .inr (1, [.ref (ga g 2), .int (V.1 1 1)])) (by decide) rfl) rfl 1 (by decide) (X.2.2.2.2.2.1 _ hlink) (fun _ h9 => h9) rfl hdg kk
theorem pf_Pg_size (X : cx g p s m meth c args own cc nL ret) (hP : va_P g.1 vcl (cw g V) H) (hS : va_S (gA g) s.heap H locs) (hlink : Cond.fieldLink own idx R_Pg "size" "I" ∈ TBL) {x : Int32} (hdg : decode cc pc = .ok (.putfield idx, 3)) (kk : ∀ (V1 : vS) (H1 : Heap) (locs1 : List Loc), V1 = sv V (1) 1 x → va_P g.1 vcl (cw g V1) H1 → va_S (gA g) s.heap H1 locs1 → W p l e R s m args below meth c H1 locs1 cells slots Q (F0 m (pc + 3) ls rest)) : W p l e R s m args below meth c H locs cells slots Q (F0 m pc ls (.int x :: .ref (ga g 1) :: rest)) := by
  refine va_put (D := g.1) (ci := 1) (v := .int x) (ty := .int) (C := R_Pg) (T := T_Pg) (N := 2) X.1 X.2.1 X.2.2.2.2.2.1 in_Pg ty_Pg ty_Pg_ok nm_Pg X.2.2.2.2.1 X.2.2.2.2.2.2.2.1 hP (cw_D X.2.2.2.2.2.2.2.2.2) hS 1 (cw_at (e := .inr (1, [.ref (ga g 2), .int (V.1 1 1)])) (by decide) rfl) rfl 1 (by decide) (X.2.2.2.2.2.1 _ hlink) (fun _ h9 => h9) rfl (by decide +kernel) rfl rfl (Nat.le_of_ble_eq_true rfl) hdg (fun H1 locs1 h1 h2 h3 => kk _ H1 locs1 rfl ?_ h3)
  have h1 : va_P g.1 vcl ((cw g V).set 1 (ga g 1, ce g (sv V 1 1 x) 1)) H1 := h1
  rwa [cw_sv (by decide) rfl] at h1
theorem gf_Fn_ops (X : cx g p s m meth c args own cc nL ret) (hP : va_P g.1 vcl (cw g V) H) {b : Nat} (hb0 : 3 ≤ b ∧ b < 7) (hlink : Cond.fieldLink own idx R_Fn "ops" "[I" ∈ TBL) (hdg : decode cc pc = .ok (.getfield idx, 3)) (kk : W p l e R s m args below meth c H locs cells slots Q (F0 m (pc + 3) ls (.ref (ga g (b + 4)) :: rest))) : W p l e R s m args below meth c H locs cells slots Q (F0 m pc ls (.ref (ga g b) :: rest)) :=
  va_get (D := g.1) (ci := 2) (v := .ref (ga g (b + 4))) (C := R_Fn) (T := T_Fn) (N := 6) X.1 X.2.1 X.2.2.2.2.2.1 in_Fn X.2.2.2.2.1 X.2.2.2.2.2.2.2.1 hP b (cw_at (by omega) (ce_Fn hb0 g V)) rfl 0 (by decide) (X.2.2.2.2.2.1 _ hlink) (fun _ h9 => h9) rfl hdg kk
theorem gf_Fn_arguments (X : cx g p s m meth c args own cc nL ret) (hP : va_P g.1 vcl (cw g V) H) {b : Nat} (hb0 : 3 ≤ b ∧ b < 7) (hlink : Cond.fieldLink own idx R_Fn "arguments" "[I" ∈ TBL) (hdg : decode cc pc = .ok (.getfield idx, 3)) (kk : W p l e R s m args below meth c H locs cells slots Q (F0 m (pc + 3) ls (.ref (ga g (b + 8)) :: rest))) : W p l e R s m args below meth c H locs cells slots Q (F0 m pc ls (.ref (ga g b) :: rest)) :=
  va_get (D := g.1) (ci := 2) (v := .ref (ga g (b + 8))) (C := R_Fn) (T := T_Fn) (N := 6) X.1 X.2.1 X.2.2.2.2.2.1 in_Fn X.2.2.2.2.1 X.2.2.2.2.2.2.2.1 hP b (cw_at (by omega) (ce_Fn hb0 g V)) rfl 1 (by decide) (X.2.2.2.2.2.1 _ hlink) (fun _ h9 => h9) rfl hdg kk
theorem gf_Fn_length (X : cx g p s m meth c args own cc nL ret) (hP : va_P g.1 vcl (cw g V) H) {b : Nat} (hb0 : 3 ≤ b ∧ b < 7) (hlink : Cond.fieldLink own idx R_Fn "length" "I" ∈ TBL) (hdg : decode cc pc = .ok (.getfield idx, 3)) (kk : W p l e R s m args below meth c H locs cells slots Q (F0 m (pc + 3) ls (.int (V.1 b 2) :: rest))) : W p l e R s m args below meth c H locs cells slots Q (F0 m pc ls (.ref (ga g b) :: rest)) :=
  va_get (D := g.1) (ci := 2) (v := .int (V.1 b 2)) (C := R_Fn) (T := T_Fn) (N := 6) X.1 X.2.1 X.2.2.2.2.2.1 in_Fn X.2.2.2.2.1 X.2.2.2.2.2.2.2.1 hP b (cw_at (by omega) (ce_Fn hb0 g V)) rfl 2 (by decide) (X.2.2.2.2.2.1 _ hlink) (fun _ h9 => h9) rfl hdg kk
theorem pf_Fn_length (X : cx g p s m meth c args own cc nL ret) (hP : va_P g.1 vcl (cw g V) H) (hS : va_S (gA g) s.heap H locs) {b : Nat} (hb0 : 3 ≤ b ∧ b < 7) (hlink : Cond.fieldLink own idx R_Fn "length" "I" ∈ TBL) {x : Int32} (hdg : decode cc pc = .ok (.putfield idx, 3)) (kk : ∀ (V1 : vS) (H1 : Heap) (locs1 : List Loc), V1 = sv V (b) 2 x → va_P g.1 vcl (cw g V1) H1 → va_S (gA g) s.heap H1 locs1 → W p l e R s m args below meth c H1 locs1 cells slots Q (F0 m (pc + 3) ls rest)) : W p l e R s m args below meth c H locs cells slots Q (F0 m pc ls (.int x :: .ref (ga g b) :: rest)) := by
  refine va_put (D := g.1) (ci := 2) (v := .int x) (ty := .int) (C := R_Fn) (T := T_Fn) (N := 6) X.1 X.2.1 X.2.2.2.2.2.1 in_Fn ty_Fn ty_Fn_ok nm_Fn X.2.2.2.2.1 X.2.2.2.2.2.2.2.1 hP (cw_D X.2.2.2.2.2.2.2.2.2) hS b (cw_at (by omega) (ce_Fn hb0 g V)) rfl 2 (by decide) (X.2.2.2.2.2.1 _ hlink) (fun _ h9 => h9) rfl (by decide +kernel) rfl rfl (Nat.le_of_ble_eq_true rfl) hdg (fun H1 locs1 h1 h2 h3 => kk _ H1 locs1 rfl ?_ h3)
  have h1 : va_P g.1 vcl ((cw g V).set b (ga g b, ce g (sv V b 2 x) b)) H1 := by rw [ce_Fn hb0, sv_self]; exact h1
  rwa [cw_sv (by omega) rfl] at h1
theorem gf_Fn_takes (X : cx g p s m meth c args own cc nL ret) (hP : va_P g.1 vcl (cw g V) H) {b : Nat} (hb0 : 3 ≤ b ∧ b < 7) (hlink : Cond.fieldLink own idx R_Fn "takes" "I" ∈ TBL) (hdg : decode cc pc = .ok (.getfield idx, 3)) (kk : W p l e R s m args below meth c H locs cells slots Q (F0 m (pc + 3) ls (.int (V.1 b 3) :: rest))) : W p l e R s m args below meth c H locs cells slots Q (F0 m pc ls (.ref (ga g b) :: rest)) :=
  va_get (D := g.1) (ci := 2) (v := .int (V.1 b 3)) (C := R_Fn) (T := T_Fn) (N := 6) X.1 X.2.1 X.2.2.2.2.2.1 in_Fn X.2.2.2.2.1 X.2.2.2.2.2.2.2.1 hP b (cw_at (by omega) (ce_Fn hb0 g V)) rfl 3 (by decide) (X.2.2.2.2.2.1 _ hlink) (fun _ h9 => h9) rfl hdg kk
theorem pf_Fn_takes (X : cx g p s m meth c args own cc nL ret) (hP : va_P g.1 vcl (cw g V) H) (hS : va_S (gA g) s.heap H locs) {b : Nat} (hb0 : 3 ≤ b ∧ b < 7) (hlink : Cond.fieldLink own idx R_Fn "takes" "I" ∈ TBL) {x : Int32} (hdg : decode cc pc = .ok (.putfield idx, 3)) (kk : ∀ (V1 : vS) (H1 : Heap) (locs1 : List Loc), V1 = sv V (b) 3 x → va_P g.1 vcl (cw g V1) H1 → va_S (gA g) s.heap H1 locs1 → W p l e R s m args below meth c H1 locs1 cells slots Q (F0 m (pc + 3) ls rest)) : W p l e R s m args below meth c H locs cells slots Q (F0 m pc ls (.int x :: .ref (ga g b) :: rest)) := by
  refine va_put (D := g.1) (ci := 2) (v := .int x) (ty := .int) (C := R_Fn) (T := T_Fn) (N := 6) X.1 X.2.1 X.2.2.2.2.2.1 in_Fn ty_Fn ty_Fn_ok nm_Fn X.2.2.2.2.1 X.2.2.2.2.2.2.2.1 hP (cw_D X.2.2.2.2.2.2.2.2.2) hS b (cw_at (by omega) (ce_Fn hb0 g V)) rfl 3 (by decide) (X.2.2.2.2.2.1 _ hlink) (fun _ h9 => h9) rfl (by decide +kernel) rfl rfl (Nat.le_of_ble_eq_true rfl) hdg (fun H1 locs1 h1 h2 h3 => kk _ H1 locs1 rfl ?_ h3)
  have h1 : va_P g.1 vcl ((cw g V).set b (ga g b, ce g (sv V b 3 x) b)) H1 := by rw [ce_Fn hb0, sv_self]; exact h1
  rwa [cw_sv (by omega) rfl] at h1
theorem gf_Fn_gives (X : cx g p s m meth c args own cc nL ret) (hP : va_P g.1 vcl (cw g V) H) {b : Nat} (hb0 : 3 ≤ b ∧ b < 7) (hlink : Cond.fieldLink own idx R_Fn "gives" "I" ∈ TBL) (hdg : decode cc pc = .ok (.getfield idx, 3)) (kk : W p l e R s m args below meth c H locs cells slots Q (F0 m (pc + 3) ls (.int (V.1 b 4) :: rest))) : W p l e R s m args below meth c H locs cells slots Q (F0 m pc ls (.ref (ga g b) :: rest)) :=
  va_get (D := g.1) (ci := 2) (v := .int (V.1 b 4)) (C := R_Fn) (T := T_Fn) (N := 6) X.1 X.2.1 X.2.2.2.2.2.1 in_Fn X.2.2.2.2.1 X.2.2.2.2.2.2.2.1 hP b (cw_at (by omega) (ce_Fn hb0 g V)) rfl 4 (by decide) (X.2.2.2.2.2.1 _ hlink) (fun _ h9 => h9) rfl hdg kk
theorem pf_Fn_gives (X : cx g p s m meth c args own cc nL ret) (hP : va_P g.1 vcl (cw g V) H) (hS : va_S (gA g) s.heap H locs) {b : Nat} (hb0 : 3 ≤ b ∧ b < 7) (hlink : Cond.fieldLink own idx R_Fn "gives" "I" ∈ TBL) {x : Int32} (hdg : decode cc pc = .ok (.putfield idx, 3)) (kk : ∀ (V1 : vS) (H1 : Heap) (locs1 : List Loc), V1 = sv V (b) 4 x → va_P g.1 vcl (cw g V1) H1 → va_S (gA g) s.heap H1 locs1 → W p l e R s m args below meth c H1 locs1 cells slots Q (F0 m (pc + 3) ls rest)) : W p l e R s m args below meth c H locs cells slots Q (F0 m pc ls (.int x :: .ref (ga g b) :: rest)) := by
  refine va_put (D := g.1) (ci := 2) (v := .int x) (ty := .int) (C := R_Fn) (T := T_Fn) (N := 6) X.1 X.2.1 X.2.2.2.2.2.1 in_Fn ty_Fn ty_Fn_ok nm_Fn X.2.2.2.2.1 X.2.2.2.2.2.2.2.1 hP (cw_D X.2.2.2.2.2.2.2.2.2) hS b (cw_at (by omega) (ce_Fn hb0 g V)) rfl 4 (by decide) (X.2.2.2.2.2.1 _ hlink) (fun _ h9 => h9) rfl (by decide +kernel) rfl rfl (Nat.le_of_ble_eq_true rfl) hdg (fun H1 locs1 h1 h2 h3 => kk _ H1 locs1 rfl ?_ h3)
  have h1 : va_P g.1 vcl ((cw g V).set b (ga g b, ce g (sv V b 4 x) b)) H1 := by rw [ce_Fn hb0, sv_self]; exact h1
  rwa [cw_sv (by omega) rfl] at h1
theorem gf_Fn_locals (X : cx g p s m meth c args own cc nL ret) (hP : va_P g.1 vcl (cw g V) H) {b : Nat} (hb0 : 3 ≤ b ∧ b < 7) (hlink : Cond.fieldLink own idx R_Fn "locals" "I" ∈ TBL) (hdg : decode cc pc = .ok (.getfield idx, 3)) (kk : W p l e R s m args below meth c H locs cells slots Q (F0 m (pc + 3) ls (.int (V.1 b 5) :: rest))) : W p l e R s m args below meth c H locs cells slots Q (F0 m pc ls (.ref (ga g b) :: rest)) :=
  va_get (D := g.1) (ci := 2) (v := .int (V.1 b 5)) (C := R_Fn) (T := T_Fn) (N := 6) X.1 X.2.1 X.2.2.2.2.2.1 in_Fn X.2.2.2.2.1 X.2.2.2.2.2.2.2.1 hP b (cw_at (by omega) (ce_Fn hb0 g V)) rfl 5 (by decide) (X.2.2.2.2.2.1 _ hlink) (fun _ h9 => h9) rfl hdg kk
theorem pf_Fn_locals (X : cx g p s m meth c args own cc nL ret) (hP : va_P g.1 vcl (cw g V) H) (hS : va_S (gA g) s.heap H locs) {b : Nat} (hb0 : 3 ≤ b ∧ b < 7) (hlink : Cond.fieldLink own idx R_Fn "locals" "I" ∈ TBL) {x : Int32} (hdg : decode cc pc = .ok (.putfield idx, 3)) (kk : ∀ (V1 : vS) (H1 : Heap) (locs1 : List Loc), V1 = sv V (b) 5 x → va_P g.1 vcl (cw g V1) H1 → va_S (gA g) s.heap H1 locs1 → W p l e R s m args below meth c H1 locs1 cells slots Q (F0 m (pc + 3) ls rest)) : W p l e R s m args below meth c H locs cells slots Q (F0 m pc ls (.int x :: .ref (ga g b) :: rest)) := by
  refine va_put (D := g.1) (ci := 2) (v := .int x) (ty := .int) (C := R_Fn) (T := T_Fn) (N := 6) X.1 X.2.1 X.2.2.2.2.2.1 in_Fn ty_Fn ty_Fn_ok nm_Fn X.2.2.2.2.1 X.2.2.2.2.2.2.2.1 hP (cw_D X.2.2.2.2.2.2.2.2.2) hS b (cw_at (by omega) (ce_Fn hb0 g V)) rfl 5 (by decide) (X.2.2.2.2.2.1 _ hlink) (fun _ h9 => h9) rfl (by decide +kernel) rfl rfl (Nat.le_of_ble_eq_true rfl) hdg (fun H1 locs1 h1 h2 h3 => kk _ H1 locs1 rfl ?_ h3)
  have h1 : va_P g.1 vcl ((cw g V).set b (ga g b, ce g (sv V b 5 x) b)) H1 := by rw [ce_Fn hb0, sv_self]; exact h1
  rwa [cw_sv (by omega) rfl] at h1
theorem gf_Ck_program (X : cx g p s m meth c args own cc nL ret) (hP : va_P g.1 vcl (cw g V) H) (hlink : Cond.fieldLink own idx R_Ck "program" "LPluginRunner$Program;" ∈ TBL) (hdg : decode cc pc = .ok (.getfield idx, 3)) (kk : W p l e R s m args below meth c H locs cells slots Q (F0 m (pc + 3) ls (.ref (ga g 1) :: rest))) : W p l e R s m args below meth c H locs cells slots Q (F0 m pc ls (.ref (ga g 15) :: rest)) :=
  va_get (D := g.1) (ci := 3) (v := .ref (ga g 1)) (C := R_Ck) (T := T_Ck) (N := 8) X.1 X.2.1 X.2.2.2.2.2.1 in_Ck X.2.2.2.2.1 X.2.2.2.2.2.2.2.1 hP 15 (cw_at (e := .inr (3, [.ref (ga g 1), .ref (ga g 16), .int (V.1 15 2), .int (V.1 15 3), .int (V.1 15 4), .int (V.1 15 5), .int (V.1 15 6), .int (V.1 15 7)])) (by decide) rfl) rfl 0 (by decide) (X.2.2.2.2.2.1 _ hlink) (fun _ h9 => h9) rfl hdg kk
theorem gf_Ck_bases (X : cx g p s m meth c args own cc nL ret) (hP : va_P g.1 vcl (cw g V) H) (hlink : Cond.fieldLink own idx R_Ck "bases" "[I" ∈ TBL) (hdg : decode cc pc = .ok (.getfield idx, 3)) (kk : W p l e R s m args below meth c H locs cells slots Q (F0 m (pc + 3) ls (.ref (ga g 16) :: rest))) : W p l e R s m args below meth c H locs cells slots Q (F0 m pc ls (.ref (ga g 15) :: rest)) :=
  va_get (D := g.1) (ci := 3) (v := .ref (ga g 16)) (C := R_Ck) (T := T_Ck) (N := 8) X.1 X.2.1 X.2.2.2.2.2.1 in_Ck X.2.2.2.2.1 X.2.2.2.2.2.2.2.1 hP 15 (cw_at (e := .inr (3, [.ref (ga g 1), .ref (ga g 16), .int (V.1 15 2), .int (V.1 15 3), .int (V.1 15 4), .int (V.1 15 5), .int (V.1 15 6), .int (V.1 15 7)])) (by decide) rfl) rfl 1 (by decide) (X.2.2.2.2.2.1 _ hlink) (fun _ h9 => h9) rfl hdg kk
theorem gf_Ck_open (X : cx g p s m meth c args own cc nL ret) (hP : va_P g.1 vcl (cw g V) H) (hlink : Cond.fieldLink own idx R_Ck "open" "I" ∈ TBL) (hdg : decode cc pc = .ok (.getfield idx, 3)) (kk : W p l e R s m args below meth c H locs cells slots Q (F0 m (pc + 3) ls (.int (V.1 15 2) :: rest))) : W p l e R s m args below meth c H locs cells slots Q (F0 m pc ls (.ref (ga g 15) :: rest)) :=
  va_get (D := g.1) (ci := 3) (v := .int (V.1 15 2)) (C := R_Ck) (T := T_Ck) (N := 8) X.1 X.2.1 X.2.2.2.2.2.1 in_Ck X.2.2.2.2.1 X.2.2.2.2.2.2.2.1 hP 15 (cw_at (e := .inr (3, [.ref (ga g 1), .ref (ga g 16), .int (V.1 15 2), .int (V.1 15 3), .int (V.1 15 4), .int (V.1 15 5), .int (V.1 15 6), .int (V.1 15 7)])) (by decide) rfl) rfl 2 (by decide) (X.2.2.2.2.2.1 _ hlink) (fun _ h9 => h9) rfl hdg kk
theorem pf_Ck_open (X : cx g p s m meth c args own cc nL ret) (hP : va_P g.1 vcl (cw g V) H) (hS : va_S (gA g) s.heap H locs) (hlink : Cond.fieldLink own idx R_Ck "open" "I" ∈ TBL) {x : Int32} (hdg : decode cc pc = .ok (.putfield idx, 3)) (kk : ∀ (V1 : vS) (H1 : Heap) (locs1 : List Loc), V1 = sv V (15) 2 x → va_P g.1 vcl (cw g V1) H1 → va_S (gA g) s.heap H1 locs1 → W p l e R s m args below meth c H1 locs1 cells slots Q (F0 m (pc + 3) ls rest)) : W p l e R s m args below meth c H locs cells slots Q (F0 m pc ls (.int x :: .ref (ga g 15) :: rest)) := by
  refine va_put (D := g.1) (ci := 3) (v := .int x) (ty := .int) (C := R_Ck) (T := T_Ck) (N := 8) X.1 X.2.1 X.2.2.2.2.2.1 in_Ck ty_Ck ty_Ck_ok nm_Ck X.2.2.2.2.1 X.2.2.2.2.2.2.2.1 hP (cw_D X.2.2.2.2.2.2.2.2.2) hS 15 (cw_at (e := .inr (3, [.ref (ga g 1), .ref (ga g 16), .int (V.1 15 2), .int (V.1 15 3), .int (V.1 15 4), .int (V.1 15 5), .int (V.1 15 6), .int (V.1 15 7)])) (by decide) rfl) rfl 2 (by decide) (X.2.2.2.2.2.1 _ hlink) (fun _ h9 => h9) rfl (by decide +kernel) rfl rfl (Nat.le_of_ble_eq_true rfl) hdg (fun H1 locs1 h1 h2 h3 => kk _ H1 locs1 rfl ?_ h3)
  have h1 : va_P g.1 vcl ((cw g V).set 15 (ga g 15, ce g (sv V 15 2 x) 15)) H1 := h1
  rwa [cw_sv (by decide) rfl] at h1
theorem gf_Ck_height (X : cx g p s m meth c args own cc nL ret) (hP : va_P g.1 vcl (cw g V) H) (hlink : Cond.fieldLink own idx R_Ck "height" "I" ∈ TBL) (hdg : decode cc pc = .ok (.getfield idx, 3)) (kk : W p l e R s m args below meth c H locs cells slots Q (F0 m (pc + 3) ls (.int (V.1 15 3) :: rest))) : W p l e R s m args below meth c H locs cells slots Q (F0 m pc ls (.ref (ga g 15) :: rest)) :=
  va_get (D := g.1) (ci := 3) (v := .int (V.1 15 3)) (C := R_Ck) (T := T_Ck) (N := 8) X.1 X.2.1 X.2.2.2.2.2.1 in_Ck X.2.2.2.2.1 X.2.2.2.2.2.2.2.1 hP 15 (cw_at (e := .inr (3, [.ref (ga g 1), .ref (ga g 16), .int (V.1 15 2), .int (V.1 15 3), .int (V.1 15 4), .int (V.1 15 5), .int (V.1 15 6), .int (V.1 15 7)])) (by decide) rfl) rfl 3 (by decide) (X.2.2.2.2.2.1 _ hlink) (fun _ h9 => h9) rfl hdg kk
theorem pf_Ck_height (X : cx g p s m meth c args own cc nL ret) (hP : va_P g.1 vcl (cw g V) H) (hS : va_S (gA g) s.heap H locs) (hlink : Cond.fieldLink own idx R_Ck "height" "I" ∈ TBL) {x : Int32} (hdg : decode cc pc = .ok (.putfield idx, 3)) (kk : ∀ (V1 : vS) (H1 : Heap) (locs1 : List Loc), V1 = sv V (15) 3 x → va_P g.1 vcl (cw g V1) H1 → va_S (gA g) s.heap H1 locs1 → W p l e R s m args below meth c H1 locs1 cells slots Q (F0 m (pc + 3) ls rest)) : W p l e R s m args below meth c H locs cells slots Q (F0 m pc ls (.int x :: .ref (ga g 15) :: rest)) := by
  refine va_put (D := g.1) (ci := 3) (v := .int x) (ty := .int) (C := R_Ck) (T := T_Ck) (N := 8) X.1 X.2.1 X.2.2.2.2.2.1 in_Ck ty_Ck ty_Ck_ok nm_Ck X.2.2.2.2.1 X.2.2.2.2.2.2.2.1 hP (cw_D X.2.2.2.2.2.2.2.2.2) hS 15 (cw_at (e := .inr (3, [.ref (ga g 1), .ref (ga g 16), .int (V.1 15 2), .int (V.1 15 3), .int (V.1 15 4), .int (V.1 15 5), .int (V.1 15 6), .int (V.1 15 7)])) (by decide) rfl) rfl 3 (by decide) (X.2.2.2.2.2.1 _ hlink) (fun _ h9 => h9) rfl (by decide +kernel) rfl rfl (Nat.le_of_ble_eq_true rfl) hdg (fun H1 locs1 h1 h2 h3 => kk _ H1 locs1 rfl ?_ h3)
  have h1 : va_P g.1 vcl ((cw g V).set 15 (ga g 15, ce g (sv V 15 3 x) 15)) H1 := h1
  rwa [cw_sv (by decide) rfl] at h1
theorem gf_Ck_behindLeaving (X : cx g p s m meth c args own cc nL ret) (hP : va_P g.1 vcl (cw g V) H) (hlink : Cond.fieldLink own idx R_Ck "behindLeaving" "Z" ∈ TBL) (hdg : decode cc pc = .ok (.getfield idx, 3)) (kk : W p l e R s m args below meth c H locs cells slots Q (F0 m (pc + 3) ls (.int (V.1 15 4) :: rest))) : W p l e R s m args below meth c H locs cells slots Q (F0 m pc ls (.ref (ga g 15) :: rest)) :=
  va_get (D := g.1) (ci := 3) (v := .int (V.1 15 4)) (C := R_Ck) (T := T_Ck) (N := 8) X.1 X.2.1 X.2.2.2.2.2.1 in_Ck X.2.2.2.2.1 X.2.2.2.2.2.2.2.1 hP 15 (cw_at (e := .inr (3, [.ref (ga g 1), .ref (ga g 16), .int (V.1 15 2), .int (V.1 15 3), .int (V.1 15 4), .int (V.1 15 5), .int (V.1 15 6), .int (V.1 15 7)])) (by decide) rfl) rfl 4 (by decide) (X.2.2.2.2.2.1 _ hlink) (fun _ h9 => h9) rfl hdg kk
theorem pf_Ck_behindLeaving (X : cx g p s m meth c args own cc nL ret) (hP : va_P g.1 vcl (cw g V) H) (hS : va_S (gA g) s.heap H locs) (hlink : Cond.fieldLink own idx R_Ck "behindLeaving" "Z" ∈ TBL) {x : Int32} (hx : x = 0 ∨ x = 1) (hdg : decode cc pc = .ok (.putfield idx, 3)) (kk : ∀ (V1 : vS) (H1 : Heap) (locs1 : List Loc), V1 = sv V (15) 4 x → va_P g.1 vcl (cw g V1) H1 → va_S (gA g) s.heap H1 locs1 → W p l e R s m args below meth c H1 locs1 cells slots Q (F0 m (pc + 3) ls rest)) : W p l e R s m args below meth c H locs cells slots Q (F0 m pc ls (.int x :: .ref (ga g 15) :: rest)) := by
  refine va_put (D := g.1) (ci := 3) (v := .int x) (ty := .boolean) (C := R_Ck) (T := T_Ck) (N := 8) X.1 X.2.1 X.2.2.2.2.2.1 in_Ck ty_Ck ty_Ck_ok nm_Ck X.2.2.2.2.1 X.2.2.2.2.2.2.2.1 hP (cw_D X.2.2.2.2.2.2.2.2.2) hS 15 (cw_at (e := .inr (3, [.ref (ga g 1), .ref (ga g 16), .int (V.1 15 2), .int (V.1 15 3), .int (V.1 15 4), .int (V.1 15 5), .int (V.1 15 6), .int (V.1 15 7)])) (by decide) rfl) rfl 4 (by decide) (X.2.2.2.2.2.1 _ hlink) (fun _ h9 => h9) rfl (by decide +kernel) (rw_bit hx).1 (rw_bit hx).2 (Nat.le_of_ble_eq_true rfl) hdg (fun H1 locs1 h1 h2 h3 => kk _ H1 locs1 rfl ?_ h3)
  have h1 : va_P g.1 vcl ((cw g V).set 15 (ga g 15, ce g (sv V 15 4 x) 15)) H1 := h1
  rwa [cw_sv (by decide) rfl] at h1
theorem gf_Ck_sort (X : cx g p s m meth c args own cc nL ret) (hP : va_P g.1 vcl (cw g V) H) (hlink : Cond.fieldLink own idx R_Ck "sort" "I" ∈ TBL) (hdg : decode cc pc = .ok (.getfield idx, 3)) (kk : W p l e R s m args below meth c H locs cells slots Q (F0 m (pc + 3) ls (.int (V.1 15 5) :: rest))) : W p l e R s m args below meth c H locs cells slots Q (F0 m pc ls (.ref (ga g 15) :: rest)) :=
  va_get (D := g.1) (ci := 3) (v := .int (V.1 15 5)) (C := R_Ck) (T := T_Ck) (N := 8) X.1 X.2.1 X.2.2.2.2.2.1 in_Ck X.2.2.2.2.1 X.2.2.2.2.2.2.2.1 hP 15 (cw_at (e := .inr (3, [.ref (ga g 1), .ref (ga g 16), .int (V.1 15 2), .int (V.1 15 3), .int (V.1 15 4), .int (V.1 15 5), .int (V.1 15 6), .int (V.1 15 7)])) (by decide) rfl) rfl 5 (by decide) (X.2.2.2.2.2.1 _ hlink) (fun _ h9 => h9) rfl hdg kk
theorem pf_Ck_sort (X : cx g p s m meth c args own cc nL ret) (hP : va_P g.1 vcl (cw g V) H) (hS : va_S (gA g) s.heap H locs) (hlink : Cond.fieldLink own idx R_Ck "sort" "I" ∈ TBL) {x : Int32} (hdg : decode cc pc = .ok (.putfield idx, 3)) (kk : ∀ (V1 : vS) (H1 : Heap) (locs1 : List Loc), V1 = sv V (15) 5 x → va_P g.1 vcl (cw g V1) H1 → va_S (gA g) s.heap H1 locs1 → W p l e R s m args below meth c H1 locs1 cells slots Q (F0 m (pc + 3) ls rest)) : W p l e R s m args below meth c H locs cells slots Q (F0 m pc ls (.int x :: .ref (ga g 15) :: rest)) := by
  refine va_put (D := g.1) (ci := 3) (v := .int x) (ty := .int) (C := R_Ck) (T := T_Ck) (N := 8) X.1 X.2.1 X.2.2.2.2.2.1 in_Ck ty_Ck ty_Ck_ok nm_Ck X.2.2.2.2.1 X.2.2.2.2.2.2.2.1 hP (cw_D X.2.2.2.2.2.2.2.2.2) hS 15 (cw_at (e := .inr (3, [.ref (ga g 1), .ref (ga g 16), .int (V.1 15 2), .int (V.1 15 3), .int (V.1 15 4), .int (V.1 15 5), .int (V.1 15 6), .int (V.1 15 7)])) (by decide) rfl) rfl 5 (by decide) (X.2.2.2.2.2.1 _ hlink) (fun _ h9 => h9) rfl (by decide +kernel) rfl rfl (Nat.le_of_ble_eq_true rfl) hdg (fun H1 locs1 h1 h2 h3 => kk _ H1 locs1 rfl ?_ h3)
  have h1 : va_P g.1 vcl ((cw g V).set 15 (ga g 15, ce g (sv V 15 5 x) 15)) H1 := h1
  rwa [cw_sv (by decide) rfl] at h1
theorem gf_Ck_faultyFunction (X : cx g p s m meth c args own cc nL ret) (hP : va_P g.1 vcl (cw g V) H) (hlink : Cond.fieldLink own idx R_Ck "faultyFunction" "I" ∈ TBL) (hdg : decode cc pc = .ok (.getfield idx, 3)) (kk : W p l e R s m args below meth c H locs cells slots Q (F0 m (pc + 3) ls (.int (V.1 15 6) :: rest))) : W p l e R s m args below meth c H locs cells slots Q (F0 m pc ls (.ref (ga g 15) :: rest)) :=
  va_get (D := g.1) (ci := 3) (v := .int (V.1 15 6)) (C := R_Ck) (T := T_Ck) (N := 8) X.1 X.2.1 X.2.2.2.2.2.1 in_Ck X.2.2.2.2.1 X.2.2.2.2.2.2.2.1 hP 15 (cw_at (e := .inr (3, [.ref (ga g 1), .ref (ga g 16), .int (V.1 15 2), .int (V.1 15 3), .int (V.1 15 4), .int (V.1 15 5), .int (V.1 15 6), .int (V.1 15 7)])) (by decide) rfl) rfl 6 (by decide) (X.2.2.2.2.2.1 _ hlink) (fun _ h9 => h9) rfl hdg kk
theorem pf_Ck_faultyFunction (X : cx g p s m meth c args own cc nL ret) (hP : va_P g.1 vcl (cw g V) H) (hS : va_S (gA g) s.heap H locs) (hlink : Cond.fieldLink own idx R_Ck "faultyFunction" "I" ∈ TBL) {x : Int32} (hdg : decode cc pc = .ok (.putfield idx, 3)) (kk : ∀ (V1 : vS) (H1 : Heap) (locs1 : List Loc), V1 = sv V (15) 6 x → va_P g.1 vcl (cw g V1) H1 → va_S (gA g) s.heap H1 locs1 → W p l e R s m args below meth c H1 locs1 cells slots Q (F0 m (pc + 3) ls rest)) : W p l e R s m args below meth c H locs cells slots Q (F0 m pc ls (.int x :: .ref (ga g 15) :: rest)) := by
  refine va_put (D := g.1) (ci := 3) (v := .int x) (ty := .int) (C := R_Ck) (T := T_Ck) (N := 8) X.1 X.2.1 X.2.2.2.2.2.1 in_Ck ty_Ck ty_Ck_ok nm_Ck X.2.2.2.2.1 X.2.2.2.2.2.2.2.1 hP (cw_D X.2.2.2.2.2.2.2.2.2) hS 15 (cw_at (e := .inr (3, [.ref (ga g 1), .ref (ga g 16), .int (V.1 15 2), .int (V.1 15 3), .int (V.1 15 4), .int (V.1 15 5), .int (V.1 15 6), .int (V.1 15 7)])) (by decide) rfl) rfl 6 (by decide) (X.2.2.2.2.2.1 _ hlink) (fun _ h9 => h9) rfl (by decide +kernel) rfl rfl (Nat.le_of_ble_eq_true rfl) hdg (fun H1 locs1 h1 h2 h3 => kk _ H1 locs1 rfl ?_ h3)
  have h1 : va_P g.1 vcl ((cw g V).set 15 (ga g 15, ce g (sv V 15 6 x) 15)) H1 := h1
  rwa [cw_sv (by decide) rfl] at h1
theorem gf_Ck_faultyInstruction (X : cx g p s m meth c args own cc nL ret) (hP : va_P g.1 vcl (cw g V) H) (hlink : Cond.fieldLink own idx R_Ck "faultyInstruction" "I" ∈ TBL) (hdg : decode cc pc = .ok (.getfield idx, 3)) (kk : W p l e R s m args below meth c H locs cells slots Q (F0 m (pc + 3) ls (.int (V.1 15 7) :: rest))) : W p l e R s m args below meth c H locs cells slots Q (F0 m pc ls (.ref (ga g 15) :: rest)) :=
  va_get (D := g.1) (ci := 3) (v := .int (V.1 15 7)) (C := R_Ck) (T := T_Ck) (N := 8) X.1 X.2.1 X.2.2.2.2.2.1 in_Ck X.2.2.2.2.1 X.2.2.2.2.2.2.2.1 hP 15 (cw_at (e := .inr (3, [.ref (ga g 1), .ref (ga g 16), .int (V.1 15 2), .int (V.1 15 3), .int (V.1 15 4), .int (V.1 15 5), .int (V.1 15 6), .int (V.1 15 7)])) (by decide) rfl) rfl 7 (by decide) (X.2.2.2.2.2.1 _ hlink) (fun _ h9 => h9) rfl hdg kk
theorem pf_Ck_faultyInstruction (X : cx g p s m meth c args own cc nL ret) (hP : va_P g.1 vcl (cw g V) H) (hS : va_S (gA g) s.heap H locs) (hlink : Cond.fieldLink own idx R_Ck "faultyInstruction" "I" ∈ TBL) {x : Int32} (hdg : decode cc pc = .ok (.putfield idx, 3)) (kk : ∀ (V1 : vS) (H1 : Heap) (locs1 : List Loc), V1 = sv V (15) 7 x → va_P g.1 vcl (cw g V1) H1 → va_S (gA g) s.heap H1 locs1 → W p l e R s m args below meth c H1 locs1 cells slots Q (F0 m (pc + 3) ls rest)) : W p l e R s m args below meth c H locs cells slots Q (F0 m pc ls (.int x :: .ref (ga g 15) :: rest)) := by
  refine va_put (D := g.1) (ci := 3) (v := .int x) (ty := .int) (C := R_Ck) (T := T_Ck) (N := 8) X.1 X.2.1 X.2.2.2.2.2.1 in_Ck ty_Ck ty_Ck_ok nm_Ck X.2.2.2.2.1 X.2.2.2.2.2.2.2.1 hP (cw_D X.2.2.2.2.2.2.2.2.2) hS 15 (cw_at (e := .inr (3, [.ref (ga g 1), .ref (ga g 16), .int (V.1 15 2), .int (V.1 15 3), .int (V.1 15 4), .int (V.1 15 5), .int (V.1 15 6), .int (V.1 15 7)])) (by decide) rfl) rfl 7 (by decide) (X.2.2.2.2.2.1 _ hlink) (fun _ h9 => h9) rfl (by decide +kernel) rfl rfl (Nat.le_of_ble_eq_true rfl) hdg (fun H1 locs1 h1 h2 h3 => kk _ H1 locs1 rfl ?_ h3)
  have h1 : va_P g.1 vcl ((cw g V).set 15 (ga g 15, ce g (sv V 15 7 x) 15)) H1 := h1
  rwa [cw_sv (by decide) rfl] at h1
theorem gf_Mc_program (X : cx g p s m meth c args own cc nL ret) (hP : va_P g.1 vcl (cw g V) H) (hlink : Cond.fieldLink own idx R_Mc "program" "LPluginRunner$Program;" ∈ TBL) (hdg : decode cc pc = .ok (.getfield idx, 3)) (kk : W p l e R s m args below meth c H locs cells slots Q (F0 m (pc + 3) ls (.ref (ga g 1) :: rest))) : W p l e R s m args below meth c H locs cells slots Q (F0 m pc ls (.ref (ga g 17) :: rest)) :=
  va_get (D := g.1) (ci := 4) (v := .ref (ga g 1)) (C := R_Mc) (T := T_Mc) (N := 13) X.1 X.2.1 X.2.2.2.2.2.1 in_Mc X.2.2.2.2.1 X.2.2.2.2.2.2.2.1 hP 17 (cw_at (e := .inr (4, [.ref (ga g 1), .ref (ga g 18), .ref (ga g 31), .ref (ga g 32), .ref (ga g 33), .int (V.1 17 5), .int (V.1 17 6), .int (V.1 17 7), .int (V.1 17 8), .int (V.1 17 9), .int (V.1 17 10), .int (V.1 17 11), .long V.2])) (by decide) rfl) rfl 0 (by decide) (X.2.2.2.2.2.1 _ hlink) (fun _ h9 => h9) rfl hdg kk
theorem gf_Mc_frames (X : cx g p s m meth c args own cc nL ret) (hP : va_P g.1 vcl (cw g V) H) (hlink : Cond.fieldLink own idx R_Mc "frames" "[LPluginRunner$Frame;" ∈ TBL) (hdg : decode cc pc = .ok (.getfield idx, 3)) (kk : W p l e R s m args below meth c H locs cells slots Q (F0 m (pc + 3) ls (.ref (ga g 18) :: rest))) : W p l e R s m args below meth c H locs cells slots Q (F0 m pc ls (.ref (ga g 17) :: rest)) :=
  va_get (D := g.1) (ci := 4) (v := .ref (ga g 18)) (C := R_Mc) (T := T_Mc) (N := 13) X.1 X.2.1 X.2.2.2.2.2.1 in_Mc X.2.2.2.2.1 X.2.2.2.2.2.2.2.1 hP 17 (cw_at (e := .inr (4, [.ref (ga g 1), .ref (ga g 18), .ref (ga g 31), .ref (ga g 32), .ref (ga g 33), .int (V.1 17 5), .int (V.1 17 6), .int (V.1 17 7), .int (V.1 17 8), .int (V.1 17 9), .int (V.1 17 10), .int (V.1 17 11), .long V.2])) (by decide) rfl) rfl 1 (by decide) (X.2.2.2.2.2.1 _ hlink) (fun _ h9 => h9) rfl hdg kk
theorem gf_Mc_stack (X : cx g p s m meth c args own cc nL ret) (hP : va_P g.1 vcl (cw g V) H) (hlink : Cond.fieldLink own idx R_Mc "stack" "[I" ∈ TBL) (hdg : decode cc pc = .ok (.getfield idx, 3)) (kk : W p l e R s m args below meth c H locs cells slots Q (F0 m (pc + 3) ls (.ref (ga g 31) :: rest))) : W p l e R s m args below meth c H locs cells slots Q (F0 m pc ls (.ref (ga g 17) :: rest)) :=
  va_get (D := g.1) (ci := 4) (v := .ref (ga g 31)) (C := R_Mc) (T := T_Mc) (N := 13) X.1 X.2.1 X.2.2.2.2.2.1 in_Mc X.2.2.2.2.1 X.2.2.2.2.2.2.2.1 hP 17 (cw_at (e := .inr (4, [.ref (ga g 1), .ref (ga g 18), .ref (ga g 31), .ref (ga g 32), .ref (ga g 33), .int (V.1 17 5), .int (V.1 17 6), .int (V.1 17 7), .int (V.1 17 8), .int (V.1 17 9), .int (V.1 17 10), .int (V.1 17 11), .long V.2])) (by decide) rfl) rfl 2 (by decide) (X.2.2.2.2.2.1 _ hlink) (fun _ h9 => h9) rfl hdg kk
theorem gf_Mc_cells (X : cx g p s m meth c args own cc nL ret) (hP : va_P g.1 vcl (cw g V) H) (hlink : Cond.fieldLink own idx R_Mc "cells" "[I" ∈ TBL) (hdg : decode cc pc = .ok (.getfield idx, 3)) (kk : W p l e R s m args below meth c H locs cells slots Q (F0 m (pc + 3) ls (.ref (ga g 32) :: rest))) : W p l e R s m args below meth c H locs cells slots Q (F0 m pc ls (.ref (ga g 17) :: rest)) :=
  va_get (D := g.1) (ci := 4) (v := .ref (ga g 32)) (C := R_Mc) (T := T_Mc) (N := 13) X.1 X.2.1 X.2.2.2.2.2.1 in_Mc X.2.2.2.2.1 X.2.2.2.2.2.2.2.1 hP 17 (cw_at (e := .inr (4, [.ref (ga g 1), .ref (ga g 18), .ref (ga g 31), .ref (ga g 32), .ref (ga g 33), .int (V.1 17 5), .int (V.1 17 6), .int (V.1 17 7), .int (V.1 17 8), .int (V.1 17 9), .int (V.1 17 10), .int (V.1 17 11), .long V.2])) (by decide) rfl) rfl 3 (by decide) (X.2.2.2.2.2.1 _ hlink) (fun _ h9 => h9) rfl hdg kk
theorem gf_Mc_granted (X : cx g p s m meth c args own cc nL ret) (hP : va_P g.1 vcl (cw g V) H) (hlink : Cond.fieldLink own idx R_Mc "granted" "[Z" ∈ TBL) (hdg : decode cc pc = .ok (.getfield idx, 3)) (kk : W p l e R s m args below meth c H locs cells slots Q (F0 m (pc + 3) ls (.ref (ga g 33) :: rest))) : W p l e R s m args below meth c H locs cells slots Q (F0 m pc ls (.ref (ga g 17) :: rest)) :=
  va_get (D := g.1) (ci := 4) (v := .ref (ga g 33)) (C := R_Mc) (T := T_Mc) (N := 13) X.1 X.2.1 X.2.2.2.2.2.1 in_Mc X.2.2.2.2.1 X.2.2.2.2.2.2.2.1 hP 17 (cw_at (e := .inr (4, [.ref (ga g 1), .ref (ga g 18), .ref (ga g 31), .ref (ga g 32), .ref (ga g 33), .int (V.1 17 5), .int (V.1 17 6), .int (V.1 17 7), .int (V.1 17 8), .int (V.1 17 9), .int (V.1 17 10), .int (V.1 17 11), .long V.2])) (by decide) rfl) rfl 4 (by decide) (X.2.2.2.2.2.1 _ hlink) (fun _ h9 => h9) rfl hdg kk
theorem gf_Mc_depth (X : cx g p s m meth c args own cc nL ret) (hP : va_P g.1 vcl (cw g V) H) (hlink : Cond.fieldLink own idx R_Mc "depth" "I" ∈ TBL) (hdg : decode cc pc = .ok (.getfield idx, 3)) (kk : W p l e R s m args below meth c H locs cells slots Q (F0 m (pc + 3) ls (.int (V.1 17 5) :: rest))) : W p l e R s m args below meth c H locs cells slots Q (F0 m pc ls (.ref (ga g 17) :: rest)) :=
  va_get (D := g.1) (ci := 4) (v := .int (V.1 17 5)) (C := R_Mc) (T := T_Mc) (N := 13) X.1 X.2.1 X.2.2.2.2.2.1 in_Mc X.2.2.2.2.1 X.2.2.2.2.2.2.2.1 hP 17 (cw_at (e := .inr (4, [.ref (ga g 1), .ref (ga g 18), .ref (ga g 31), .ref (ga g 32), .ref (ga g 33), .int (V.1 17 5), .int (V.1 17 6), .int (V.1 17 7), .int (V.1 17 8), .int (V.1 17 9), .int (V.1 17 10), .int (V.1 17 11), .long V.2])) (by decide) rfl) rfl 5 (by decide) (X.2.2.2.2.2.1 _ hlink) (fun _ h9 => h9) rfl hdg kk
theorem pf_Mc_depth (X : cx g p s m meth c args own cc nL ret) (hP : va_P g.1 vcl (cw g V) H) (hS : va_S (gA g) s.heap H locs) (hlink : Cond.fieldLink own idx R_Mc "depth" "I" ∈ TBL) {x : Int32} (hdg : decode cc pc = .ok (.putfield idx, 3)) (kk : ∀ (V1 : vS) (H1 : Heap) (locs1 : List Loc), V1 = sv V (17) 5 x → va_P g.1 vcl (cw g V1) H1 → va_S (gA g) s.heap H1 locs1 → W p l e R s m args below meth c H1 locs1 cells slots Q (F0 m (pc + 3) ls rest)) : W p l e R s m args below meth c H locs cells slots Q (F0 m pc ls (.int x :: .ref (ga g 17) :: rest)) := by
  refine va_put (D := g.1) (ci := 4) (v := .int x) (ty := .int) (C := R_Mc) (T := T_Mc) (N := 13) X.1 X.2.1 X.2.2.2.2.2.1 in_Mc ty_Mc ty_Mc_ok nm_Mc X.2.2.2.2.1 X.2.2.2.2.2.2.2.1 hP (cw_D X.2.2.2.2.2.2.2.2.2) hS 17 (cw_at (e := .inr (4, [.ref (ga g 1), .ref (ga g 18), .ref (ga g 31), .ref (ga g 32), .ref (ga g 33), .int (V.1 17 5), .int (V.1 17 6), .int (V.1 17 7), .int (V.1 17 8), .int (V.1 17 9), .int (V.1 17 10), .int (V.1 17 11), .long V.2])) (by decide) rfl) rfl 5 (by decide) (X.2.2.2.2.2.1 _ hlink) (fun _ h9 => h9) rfl (by decide +kernel) rfl rfl (Nat.le_of_ble_eq_true rfl) hdg (fun H1 locs1 h1 h2 h3 => kk _ H1 locs1 rfl ?_ h3)
  have h1 : va_P g.1 vcl ((cw g V).set 17 (ga g 17, ce g (sv V 17 5 x) 17)) H1 := h1
  rwa [cw_sv (by decide) rfl] at h1
theorem gf_Mc_values (X : cx g p s m meth c args own cc nL ret) (hP : va_P g.1 vcl (cw g V) H) (hlink : Cond.fieldLink own idx R_Mc "values" "I" ∈ TBL) (hdg : decode cc pc = .ok (.getfield idx, 3)) (kk : W p l e R s m args below meth c H locs cells slots Q (F0 m (pc + 3) ls (.int (V.1 17 6) :: rest))) : W p l e R s m args below meth c H locs cells slots Q (F0 m pc ls (.ref (ga g 17) :: rest)) :=
  va_get (D := g.1) (ci := 4) (v := .int (V.1 17 6)) (C := R_Mc) (T := T_Mc) (N := 13) X.1 X.2.1 X.2.2.2.2.2.1 in_Mc X.2.2.2.2.1 X.2.2.2.2.2.2.2.1 hP 17 (cw_at (e := .inr (4, [.ref (ga g 1), .ref (ga g 18), .ref (ga g 31), .ref (ga g 32), .ref (ga g 33), .int (V.1 17 5), .int (V.1 17 6), .int (V.1 17 7), .int (V.1 17 8), .int (V.1 17 9), .int (V.1 17 10), .int (V.1 17 11), .long V.2])) (by decide) rfl) rfl 6 (by decide) (X.2.2.2.2.2.1 _ hlink) (fun _ h9 => h9) rfl hdg kk
theorem pf_Mc_values (X : cx g p s m meth c args own cc nL ret) (hP : va_P g.1 vcl (cw g V) H) (hS : va_S (gA g) s.heap H locs) (hlink : Cond.fieldLink own idx R_Mc "values" "I" ∈ TBL) {x : Int32} (hdg : decode cc pc = .ok (.putfield idx, 3)) (kk : ∀ (V1 : vS) (H1 : Heap) (locs1 : List Loc), V1 = sv V (17) 6 x → va_P g.1 vcl (cw g V1) H1 → va_S (gA g) s.heap H1 locs1 → W p l e R s m args below meth c H1 locs1 cells slots Q (F0 m (pc + 3) ls rest)) : W p l e R s m args below meth c H locs cells slots Q (F0 m pc ls (.int x :: .ref (ga g 17) :: rest)) := by
  refine va_put (D := g.1) (ci := 4) (v := .int x) (ty := .int) (C := R_Mc) (T := T_Mc) (N := 13) X.1 X.2.1 X.2.2.2.2.2.1 in_Mc ty_Mc ty_Mc_ok nm_Mc X.2.2.2.2.1 X.2.2.2.2.2.2.2.1 hP (cw_D X.2.2.2.2.2.2.2.2.2) hS 17 (cw_at (e := .inr (4, [.ref (ga g 1), .ref (ga g 18), .ref (ga g 31), .ref (ga g 32), .ref (ga g 33), .int (V.1 17 5), .int (V.1 17 6), .int (V.1 17 7), .int (V.1 17 8), .int (V.1 17 9), .int (V.1 17 10), .int (V.1 17 11), .long V.2])) (by decide) rfl) rfl 6 (by decide) (X.2.2.2.2.2.1 _ hlink) (fun _ h9 => h9) rfl (by decide +kernel) rfl rfl (Nat.le_of_ble_eq_true rfl) hdg (fun H1 locs1 h1 h2 h3 => kk _ H1 locs1 rfl ?_ h3)
  have h1 : va_P g.1 vcl ((cw g V).set 17 (ga g 17, ce g (sv V 17 6 x) 17)) H1 := h1
  rwa [cw_sv (by decide) rfl] at h1
theorem gf_Mc_waitsFor (X : cx g p s m meth c args own cc nL ret) (hP : va_P g.1 vcl (cw g V) H) (hlink : Cond.fieldLink own idx R_Mc "waitsFor" "I" ∈ TBL) (hdg : decode cc pc = .ok (.getfield idx, 3)) (kk : W p l e R s m args below meth c H locs cells slots Q (F0 m (pc + 3) ls (.int (V.1 17 7) :: rest))) : W p l e R s m args below meth c H locs cells slots Q (F0 m pc ls (.ref (ga g 17) :: rest)) :=
  va_get (D := g.1) (ci := 4) (v := .int (V.1 17 7)) (C := R_Mc) (T := T_Mc) (N := 13) X.1 X.2.1 X.2.2.2.2.2.1 in_Mc X.2.2.2.2.1 X.2.2.2.2.2.2.2.1 hP 17 (cw_at (e := .inr (4, [.ref (ga g 1), .ref (ga g 18), .ref (ga g 31), .ref (ga g 32), .ref (ga g 33), .int (V.1 17 5), .int (V.1 17 6), .int (V.1 17 7), .int (V.1 17 8), .int (V.1 17 9), .int (V.1 17 10), .int (V.1 17 11), .long V.2])) (by decide) rfl) rfl 7 (by decide) (X.2.2.2.2.2.1 _ hlink) (fun _ h9 => h9) rfl hdg kk
theorem pf_Mc_waitsFor (X : cx g p s m meth c args own cc nL ret) (hP : va_P g.1 vcl (cw g V) H) (hS : va_S (gA g) s.heap H locs) (hlink : Cond.fieldLink own idx R_Mc "waitsFor" "I" ∈ TBL) {x : Int32} (hdg : decode cc pc = .ok (.putfield idx, 3)) (kk : ∀ (V1 : vS) (H1 : Heap) (locs1 : List Loc), V1 = sv V (17) 7 x → va_P g.1 vcl (cw g V1) H1 → va_S (gA g) s.heap H1 locs1 → W p l e R s m args below meth c H1 locs1 cells slots Q (F0 m (pc + 3) ls rest)) : W p l e R s m args below meth c H locs cells slots Q (F0 m pc ls (.int x :: .ref (ga g 17) :: rest)) := by
  refine va_put (D := g.1) (ci := 4) (v := .int x) (ty := .int) (C := R_Mc) (T := T_Mc) (N := 13) X.1 X.2.1 X.2.2.2.2.2.1 in_Mc ty_Mc ty_Mc_ok nm_Mc X.2.2.2.2.1 X.2.2.2.2.2.2.2.1 hP (cw_D X.2.2.2.2.2.2.2.2.2) hS 17 (cw_at (e := .inr (4, [.ref (ga g 1), .ref (ga g 18), .ref (ga g 31), .ref (ga g 32), .ref (ga g 33), .int (V.1 17 5), .int (V.1 17 6), .int (V.1 17 7), .int (V.1 17 8), .int (V.1 17 9), .int (V.1 17 10), .int (V.1 17 11), .long V.2])) (by decide) rfl) rfl 7 (by decide) (X.2.2.2.2.2.1 _ hlink) (fun _ h9 => h9) rfl (by decide +kernel) rfl rfl (Nat.le_of_ble_eq_true rfl) hdg (fun H1 locs1 h1 h2 h3 => kk _ H1 locs1 rfl ?_ h3)
  have h1 : va_P g.1 vcl ((cw g V).set 17 (ga g 17, ce g (sv V 17 7 x) 17)) H1 := h1
  rwa [cw_sv (by decide) rfl] at h1
theorem gf_Mc_asked (X : cx g p s m meth c args own cc nL ret) (hP : va_P g.1 vcl (cw g V) H) (hlink : Cond.fieldLink own idx R_Mc "asked" "I" ∈ TBL) (hdg : decode cc pc = .ok (.getfield idx, 3)) (kk : W p l e R s m args below meth c H locs cells slots Q (F0 m (pc + 3) ls (.int (V.1 17 8) :: rest))) : W p l e R s m args below meth c H locs cells slots Q (F0 m pc ls (.ref (ga g 17) :: rest)) :=
  va_get (D := g.1) (ci := 4) (v := .int (V.1 17 8)) (C := R_Mc) (T := T_Mc) (N := 13) X.1 X.2.1 X.2.2.2.2.2.1 in_Mc X.2.2.2.2.1 X.2.2.2.2.2.2.2.1 hP 17 (cw_at (e := .inr (4, [.ref (ga g 1), .ref (ga g 18), .ref (ga g 31), .ref (ga g 32), .ref (ga g 33), .int (V.1 17 5), .int (V.1 17 6), .int (V.1 17 7), .int (V.1 17 8), .int (V.1 17 9), .int (V.1 17 10), .int (V.1 17 11), .long V.2])) (by decide) rfl) rfl 8 (by decide) (X.2.2.2.2.2.1 _ hlink) (fun _ h9 => h9) rfl hdg kk
theorem pf_Mc_asked (X : cx g p s m meth c args own cc nL ret) (hP : va_P g.1 vcl (cw g V) H) (hS : va_S (gA g) s.heap H locs) (hlink : Cond.fieldLink own idx R_Mc "asked" "I" ∈ TBL) {x : Int32} (hdg : decode cc pc = .ok (.putfield idx, 3)) (kk : ∀ (V1 : vS) (H1 : Heap) (locs1 : List Loc), V1 = sv V (17) 8 x → va_P g.1 vcl (cw g V1) H1 → va_S (gA g) s.heap H1 locs1 → W p l e R s m args below meth c H1 locs1 cells slots Q (F0 m (pc + 3) ls rest)) : W p l e R s m args below meth c H locs cells slots Q (F0 m pc ls (.int x :: .ref (ga g 17) :: rest)) := by
  refine va_put (D := g.1) (ci := 4) (v := .int x) (ty := .int) (C := R_Mc) (T := T_Mc) (N := 13) X.1 X.2.1 X.2.2.2.2.2.1 in_Mc ty_Mc ty_Mc_ok nm_Mc X.2.2.2.2.1 X.2.2.2.2.2.2.2.1 hP (cw_D X.2.2.2.2.2.2.2.2.2) hS 17 (cw_at (e := .inr (4, [.ref (ga g 1), .ref (ga g 18), .ref (ga g 31), .ref (ga g 32), .ref (ga g 33), .int (V.1 17 5), .int (V.1 17 6), .int (V.1 17 7), .int (V.1 17 8), .int (V.1 17 9), .int (V.1 17 10), .int (V.1 17 11), .long V.2])) (by decide) rfl) rfl 8 (by decide) (X.2.2.2.2.2.1 _ hlink) (fun _ h9 => h9) rfl (by decide +kernel) rfl rfl (Nat.le_of_ble_eq_true rfl) hdg (fun H1 locs1 h1 h2 h3 => kk _ H1 locs1 rfl ?_ h3)
  have h1 : va_P g.1 vcl ((cw g V).set 17 (ga g 17, ce g (sv V 17 8 x) 17)) H1 := h1
  rwa [cw_sv (by decide) rfl] at h1
theorem gf_Mc_fuelUsed (X : cx g p s m meth c args own cc nL ret) (hP : va_P g.1 vcl (cw g V) H) (hlink : Cond.fieldLink own idx R_Mc "fuelUsed" "I" ∈ TBL) (hdg : decode cc pc = .ok (.getfield idx, 3)) (kk : W p l e R s m args below meth c H locs cells slots Q (F0 m (pc + 3) ls (.int (V.1 17 9) :: rest))) : W p l e R s m args below meth c H locs cells slots Q (F0 m pc ls (.ref (ga g 17) :: rest)) :=
  va_get (D := g.1) (ci := 4) (v := .int (V.1 17 9)) (C := R_Mc) (T := T_Mc) (N := 13) X.1 X.2.1 X.2.2.2.2.2.1 in_Mc X.2.2.2.2.1 X.2.2.2.2.2.2.2.1 hP 17 (cw_at (e := .inr (4, [.ref (ga g 1), .ref (ga g 18), .ref (ga g 31), .ref (ga g 32), .ref (ga g 33), .int (V.1 17 5), .int (V.1 17 6), .int (V.1 17 7), .int (V.1 17 8), .int (V.1 17 9), .int (V.1 17 10), .int (V.1 17 11), .long V.2])) (by decide) rfl) rfl 9 (by decide) (X.2.2.2.2.2.1 _ hlink) (fun _ h9 => h9) rfl hdg kk
theorem pf_Mc_fuelUsed (X : cx g p s m meth c args own cc nL ret) (hP : va_P g.1 vcl (cw g V) H) (hS : va_S (gA g) s.heap H locs) (hlink : Cond.fieldLink own idx R_Mc "fuelUsed" "I" ∈ TBL) {x : Int32} (hdg : decode cc pc = .ok (.putfield idx, 3)) (kk : ∀ (V1 : vS) (H1 : Heap) (locs1 : List Loc), V1 = sv V (17) 9 x → va_P g.1 vcl (cw g V1) H1 → va_S (gA g) s.heap H1 locs1 → W p l e R s m args below meth c H1 locs1 cells slots Q (F0 m (pc + 3) ls rest)) : W p l e R s m args below meth c H locs cells slots Q (F0 m pc ls (.int x :: .ref (ga g 17) :: rest)) := by
  refine va_put (D := g.1) (ci := 4) (v := .int x) (ty := .int) (C := R_Mc) (T := T_Mc) (N := 13) X.1 X.2.1 X.2.2.2.2.2.1 in_Mc ty_Mc ty_Mc_ok nm_Mc X.2.2.2.2.1 X.2.2.2.2.2.2.2.1 hP (cw_D X.2.2.2.2.2.2.2.2.2) hS 17 (cw_at (e := .inr (4, [.ref (ga g 1), .ref (ga g 18), .ref (ga g 31), .ref (ga g 32), .ref (ga g 33), .int (V.1 17 5), .int (V.1 17 6), .int (V.1 17 7), .int (V.1 17 8), .int (V.1 17 9), .int (V.1 17 10), .int (V.1 17 11), .long V.2])) (by decide) rfl) rfl 9 (by decide) (X.2.2.2.2.2.1 _ hlink) (fun _ h9 => h9) rfl (by decide +kernel) rfl rfl (Nat.le_of_ble_eq_true rfl) hdg (fun H1 locs1 h1 h2 h3 => kk _ H1 locs1 rfl ?_ h3)
  have h1 : va_P g.1 vcl ((cw g V).set 17 (ga g 17, ce g (sv V 17 9 x) 17)) H1 := h1
  rwa [cw_sv (by decide) rfl] at h1
theorem gf_Mc_runsEnded (X : cx g p s m meth c args own cc nL ret) (hP : va_P g.1 vcl (cw g V) H) (hlink : Cond.fieldLink own idx R_Mc "runsEnded" "I" ∈ TBL) (hdg : decode cc pc = .ok (.getfield idx, 3)) (kk : W p l e R s m args below meth c H locs cells slots Q (F0 m (pc + 3) ls (.int (V.1 17 10) :: rest))) : W p l e R s m args below meth c H locs cells slots Q (F0 m pc ls (.ref (ga g 17) :: rest)) :=
  va_get (D := g.1) (ci := 4) (v := .int (V.1 17 10)) (C := R_Mc) (T := T_Mc) (N := 13) X.1 X.2.1 X.2.2.2.2.2.1 in_Mc X.2.2.2.2.1 X.2.2.2.2.2.2.2.1 hP 17 (cw_at (e := .inr (4, [.ref (ga g 1), .ref (ga g 18), .ref (ga g 31), .ref (ga g 32), .ref (ga g 33), .int (V.1 17 5), .int (V.1 17 6), .int (V.1 17 7), .int (V.1 17 8), .int (V.1 17 9), .int (V.1 17 10), .int (V.1 17 11), .long V.2])) (by decide) rfl) rfl 10 (by decide) (X.2.2.2.2.2.1 _ hlink) (fun _ h9 => h9) rfl hdg kk
theorem pf_Mc_runsEnded (X : cx g p s m meth c args own cc nL ret) (hP : va_P g.1 vcl (cw g V) H) (hS : va_S (gA g) s.heap H locs) (hlink : Cond.fieldLink own idx R_Mc "runsEnded" "I" ∈ TBL) {x : Int32} (hdg : decode cc pc = .ok (.putfield idx, 3)) (kk : ∀ (V1 : vS) (H1 : Heap) (locs1 : List Loc), V1 = sv V (17) 10 x → va_P g.1 vcl (cw g V1) H1 → va_S (gA g) s.heap H1 locs1 → W p l e R s m args below meth c H1 locs1 cells slots Q (F0 m (pc + 3) ls rest)) : W p l e R s m args below meth c H locs cells slots Q (F0 m pc ls (.int x :: .ref (ga g 17) :: rest)) := by
  refine va_put (D := g.1) (ci := 4) (v := .int x) (ty := .int) (C := R_Mc) (T := T_Mc) (N := 13) X.1 X.2.1 X.2.2.2.2.2.1 in_Mc ty_Mc ty_Mc_ok nm_Mc X.2.2.2.2.1 X.2.2.2.2.2.2.2.1 hP (cw_D X.2.2.2.2.2.2.2.2.2) hS 17 (cw_at (e := .inr (4, [.ref (ga g 1), .ref (ga g 18), .ref (ga g 31), .ref (ga g 32), .ref (ga g 33), .int (V.1 17 5), .int (V.1 17 6), .int (V.1 17 7), .int (V.1 17 8), .int (V.1 17 9), .int (V.1 17 10), .int (V.1 17 11), .long V.2])) (by decide) rfl) rfl 10 (by decide) (X.2.2.2.2.2.1 _ hlink) (fun _ h9 => h9) rfl (by decide +kernel) rfl rfl (Nat.le_of_ble_eq_true rfl) hdg (fun H1 locs1 h1 h2 h3 => kk _ H1 locs1 rfl ?_ h3)
  have h1 : va_P g.1 vcl ((cw g V).set 17 (ga g 17, ce g (sv V 17 10 x) 17)) H1 := h1
  rwa [cw_sv (by decide) rfl] at h1
theorem gf_Mc_runsTrapped (X : cx g p s m meth c args own cc nL ret) (hP : va_P g.1 vcl (cw g V) H) (hlink : Cond.fieldLink own idx R_Mc "runsTrapped" "I" ∈ TBL) (hdg : decode cc pc = .ok (.getfield idx, 3)) (kk : W p l e R s m args below meth c H locs cells slots Q (F0 m (pc + 3) ls (.int (V.1 17 11) :: rest))) : W p l e R s m args below meth c H locs cells slots Q (F0 m pc ls (.ref (ga g 17) :: rest)) :=
  va_get (D := g.1) (ci := 4) (v := .int (V.1 17 11)) (C := R_Mc) (T := T_Mc) (N := 13) X.1 X.2.1 X.2.2.2.2.2.1 in_Mc X.2.2.2.2.1 X.2.2.2.2.2.2.2.1 hP 17 (cw_at (e := .inr (4, [.ref (ga g 1), .ref (ga g 18), .ref (ga g 31), .ref (ga g 32), .ref (ga g 33), .int (V.1 17 5), .int (V.1 17 6), .int (V.1 17 7), .int (V.1 17 8), .int (V.1 17 9), .int (V.1 17 10), .int (V.1 17 11), .long V.2])) (by decide) rfl) rfl 11 (by decide) (X.2.2.2.2.2.1 _ hlink) (fun _ h9 => h9) rfl hdg kk
theorem pf_Mc_runsTrapped (X : cx g p s m meth c args own cc nL ret) (hP : va_P g.1 vcl (cw g V) H) (hS : va_S (gA g) s.heap H locs) (hlink : Cond.fieldLink own idx R_Mc "runsTrapped" "I" ∈ TBL) {x : Int32} (hdg : decode cc pc = .ok (.putfield idx, 3)) (kk : ∀ (V1 : vS) (H1 : Heap) (locs1 : List Loc), V1 = sv V (17) 11 x → va_P g.1 vcl (cw g V1) H1 → va_S (gA g) s.heap H1 locs1 → W p l e R s m args below meth c H1 locs1 cells slots Q (F0 m (pc + 3) ls rest)) : W p l e R s m args below meth c H locs cells slots Q (F0 m pc ls (.int x :: .ref (ga g 17) :: rest)) := by
  refine va_put (D := g.1) (ci := 4) (v := .int x) (ty := .int) (C := R_Mc) (T := T_Mc) (N := 13) X.1 X.2.1 X.2.2.2.2.2.1 in_Mc ty_Mc ty_Mc_ok nm_Mc X.2.2.2.2.1 X.2.2.2.2.2.2.2.1 hP (cw_D X.2.2.2.2.2.2.2.2.2) hS 17 (cw_at (e := .inr (4, [.ref (ga g 1), .ref (ga g 18), .ref (ga g 31), .ref (ga g 32), .ref (ga g 33), .int (V.1 17 5), .int (V.1 17 6), .int (V.1 17 7), .int (V.1 17 8), .int (V.1 17 9), .int (V.1 17 10), .int (V.1 17 11), .long V.2])) (by decide) rfl) rfl 11 (by decide) (X.2.2.2.2.2.1 _ hlink) (fun _ h9 => h9) rfl (by decide +kernel) rfl rfl (Nat.le_of_ble_eq_true rfl) hdg (fun H1 locs1 h1 h2 h3 => kk _ H1 locs1 rfl ?_ h3)
  have h1 : va_P g.1 vcl ((cw g V).set 17 (ga g 17, ce g (sv V 17 11 x) 17)) H1 := h1
  rwa [cw_sv (by decide) rfl] at h1
theorem gf_Mc_latestResult (X : cx g p s m meth c args own cc nL ret) (hP : va_P g.1 vcl (cw g V) H) (hlink : Cond.fieldLink own idx R_Mc "latestResult" "J" ∈ TBL) (hdg : decode cc pc = .ok (.getfield idx, 3)) (kk : W p l e R s m args below meth c H locs cells slots Q (F0 m (pc + 3) ls (.long V.2 :: rest))) : W p l e R s m args below meth c H locs cells slots Q (F0 m pc ls (.ref (ga g 17) :: rest)) :=
  va_get (D := g.1) (ci := 4) (v := .long V.2) (C := R_Mc) (T := T_Mc) (N := 13) X.1 X.2.1 X.2.2.2.2.2.1 in_Mc X.2.2.2.2.1 X.2.2.2.2.2.2.2.1 hP 17 (cw_at (e := .inr (4, [.ref (ga g 1), .ref (ga g 18), .ref (ga g 31), .ref (ga g 32), .ref (ga g 33), .int (V.1 17 5), .int (V.1 17 6), .int (V.1 17 7), .int (V.1 17 8), .int (V.1 17 9), .int (V.1 17 10), .int (V.1 17 11), .long V.2])) (by decide) rfl) rfl 12 (by decide) (X.2.2.2.2.2.1 _ hlink) (fun _ h9 => h9) rfl hdg kk
theorem pf_Mc_latestResult (X : cx g p s m meth c args own cc nL ret) (hP : va_P g.1 vcl (cw g V) H) (hS : va_S (gA g) s.heap H locs) (hlink : Cond.fieldLink own idx R_Mc "latestResult" "J" ∈ TBL) {x : Int64} (hdg : decode cc pc = .ok (.putfield idx, 3)) (kk : ∀ (V1 : vS) (H1 : Heap) (locs1 : List Loc), V1 = sj V x → va_P g.1 vcl (cw g V1) H1 → va_S (gA g) s.heap H1 locs1 → W p l e R s m args below meth c H1 locs1 cells slots Q (F0 m (pc + 3) ls rest)) : W p l e R s m args below meth c H locs cells slots Q (F0 m pc ls (.long x :: .ref (ga g 17) :: rest)) := by
  refine va_put (D := g.1) (ci := 4) (v := .long x) (ty := .long) (C := R_Mc) (T := T_Mc) (N := 13) X.1 X.2.1 X.2.2.2.2.2.1 in_Mc ty_Mc ty_Mc_ok nm_Mc X.2.2.2.2.1 X.2.2.2.2.2.2.2.1 hP (cw_D X.2.2.2.2.2.2.2.2.2) hS 17 (cw_at (e := .inr (4, [.ref (ga g 1), .ref (ga g 18), .ref (ga g 31), .ref (ga g 32), .ref (ga g 33), .int (V.1 17 5), .int (V.1 17 6), .int (V.1 17 7), .int (V.1 17 8), .int (V.1 17 9), .int (V.1 17 10), .int (V.1 17 11), .long V.2])) (by decide) rfl) rfl 12 (by decide) (X.2.2.2.2.2.1 _ hlink) (fun _ h9 => h9) rfl (by decide +kernel) rfl rfl (Nat.le_of_ble_eq_true rfl) hdg (fun H1 locs1 h1 h2 h3 => kk _ H1 locs1 rfl ?_ h3)
  have h1 : va_P g.1 vcl ((cw g V).set 17 (ga g 17, ce g (sj V x) 17)) H1 := h1
  rwa [cw_set (by decide) rfl (fun a ha => ce_sj ha)] at h1
theorem gf_Fr_locals (X : cx g p s m meth c args own cc nL ret) (hP : va_P g.1 vcl (cw g V) H) {b : Nat} (hb0 : 19 ≤ b ∧ b < 25) (hlink : Cond.fieldLink own idx R_Fr "locals" "[I" ∈ TBL) (hdg : decode cc pc = .ok (.getfield idx, 3)) (kk : W p l e R s m args below meth c H locs cells slots Q (F0 m (pc + 3) ls (.ref (ga g (b + 6)) :: rest))) : W p l e R s m args below meth c H locs cells slots Q (F0 m pc ls (.ref (ga g b) :: rest)) :=
  va_get (D := g.1) (ci := 5) (v := .ref (ga g (b + 6))) (C := R_Fr) (T := T_Fr) (N := 3) X.1 X.2.1 X.2.2.2.2.2.1 in_Fr X.2.2.2.2.1 X.2.2.2.2.2.2.2.1 hP b (cw_at (by omega) (ce_Fr hb0 g V)) rfl 0 (by decide) (X.2.2.2.2.2.1 _ hlink) (fun _ h9 => h9) rfl hdg kk
theorem gf_Fr_number (X : cx g p s m meth c args own cc nL ret) (hP : va_P g.1 vcl (cw g V) H) {b : Nat} (hb0 : 19 ≤ b ∧ b < 25) (hlink : Cond.fieldLink own idx R_Fr "number" "I" ∈ TBL) (hdg : decode cc pc = .ok (.getfield idx, 3)) (kk : W p l e R s m args below meth c H locs cells slots Q (F0 m (pc + 3) ls (.int (V.1 b 1) :: rest))) : W p l e R s m args below meth c H locs cells slots Q (F0 m pc ls (.ref (ga g b) :: rest)) :=
  va_get (D := g.1) (ci := 5) (v := .int (V.1 b 1)) (C := R_Fr) (T := T_Fr) (N := 3) X.1 X.2.1 X.2.2.2.2.2.1 in_Fr X.2.2.2.2.1 X.2.2.2.2.2.2.2.1 hP b (cw_at (by omega) (ce_Fr hb0 g V)) rfl 1 (by decide) (X.2.2.2.2.2.1 _ hlink) (fun _ h9 => h9) rfl hdg kk
theorem pf_Fr_number (X : cx g p s m meth c args own cc nL ret) (hP : va_P g.1 vcl (cw g V) H) (hS : va_S (gA g) s.heap H locs) {b : Nat} (hb0 : 19 ≤ b ∧ b < 25) (hlink : Cond.fieldLink own idx R_Fr "number" "I" ∈ TBL) {x : Int32} (hdg : decode cc pc = .ok (.putfield idx, 3)) (kk : ∀ (V1 : vS) (H1 : Heap) (locs1 : List Loc), V1 = sv V (b) 1 x → va_P g.1 vcl (cw g V1) H1 → va_S (gA g) s.heap H1 locs1 → W p l e R s m args below meth c H1 locs1 cells slots Q (F0 m (pc + 3) ls rest)) : W p l e R s m args below meth c H locs cells slots Q (F0 m pc ls (.int x :: .ref (ga g b) :: rest)) := by
  refine va_put (D := g.1) (ci := 5) (v := .int x) (ty := .int) (C := R_Fr) (T := T_Fr) (N := 3) X.1 X.2.1 X.2.2.2.2.2.1 in_Fr ty_Fr ty_Fr_ok nm_Fr X.2.2.2.2.1 X.2.2.2.2.2.2.2.1 hP (cw_D X.2.2.2.2.2.2.2.2.2) hS b (cw_at (by omega) (ce_Fr hb0 g V)) rfl 1 (by decide) (X.2.2.2.2.2.1 _ hlink) (fun _ h9 => h9) rfl (by decide +kernel) rfl rfl (Nat.le_of_ble_eq_true rfl) hdg (fun H1 locs1 h1 h2 h3 => kk _ H1 locs1 rfl ?_ h3)
  have h1 : va_P g.1 vcl ((cw g V).set b (ga g b, ce g (sv V b 1 x) b)) H1 := by rw [ce_Fr hb0, sv_self]; exact h1
  rwa [cw_sv (by omega) rfl] at h1
theorem gf_Fr_next (X : cx g p s m meth c args own cc nL ret) (hP : va_P g.1 vcl (cw g V) H) {b : Nat} (hb0 : 19 ≤ b ∧ b < 25) (hlink : Cond.fieldLink own idx R_Fr "next" "I" ∈ TBL) (hdg : decode cc pc = .ok (.getfield idx, 3)) (kk : W p l e R s m args below meth c H locs cells slots Q (F0 m (pc + 3) ls (.int (V.1 b 2) :: rest))) : W p l e R s m args below meth c H locs cells slots Q (F0 m pc ls (.ref (ga g b) :: rest)) :=
  va_get (D := g.1) (ci := 5) (v := .int (V.1 b 2)) (C := R_Fr) (T := T_Fr) (N := 3) X.1 X.2.1 X.2.2.2.2.2.1 in_Fr X.2.2.2.2.1 X.2.2.2.2.2.2.2.1 hP b (cw_at (by omega) (ce_Fr hb0 g V)) rfl 2 (by decide) (X.2.2.2.2.2.1 _ hlink) (fun _ h9 => h9) rfl hdg kk
theorem pf_Fr_next (X : cx g p s m meth c args own cc nL ret) (hP : va_P g.1 vcl (cw g V) H) (hS : va_S (gA g) s.heap H locs) {b : Nat} (hb0 : 19 ≤ b ∧ b < 25) (hlink : Cond.fieldLink own idx R_Fr "next" "I" ∈ TBL) {x : Int32} (hdg : decode cc pc = .ok (.putfield idx, 3)) (kk : ∀ (V1 : vS) (H1 : Heap) (locs1 : List Loc), V1 = sv V (b) 2 x → va_P g.1 vcl (cw g V1) H1 → va_S (gA g) s.heap H1 locs1 → W p l e R s m args below meth c H1 locs1 cells slots Q (F0 m (pc + 3) ls rest)) : W p l e R s m args below meth c H locs cells slots Q (F0 m pc ls (.int x :: .ref (ga g b) :: rest)) := by
  refine va_put (D := g.1) (ci := 5) (v := .int x) (ty := .int) (C := R_Fr) (T := T_Fr) (N := 3) X.1 X.2.1 X.2.2.2.2.2.1 in_Fr ty_Fr ty_Fr_ok nm_Fr X.2.2.2.2.1 X.2.2.2.2.2.2.2.1 hP (cw_D X.2.2.2.2.2.2.2.2.2) hS b (cw_at (by omega) (ce_Fr hb0 g V)) rfl 2 (by decide) (X.2.2.2.2.2.1 _ hlink) (fun _ h9 => h9) rfl (by decide +kernel) rfl rfl (Nat.le_of_ble_eq_true rfl) hdg (fun H1 locs1 h1 h2 h3 => kk _ H1 locs1 rfl ?_ h3)
  have h1 : va_P g.1 vcl ((cw g V).set b (ga g b, ce g (sv V b 2 x) b)) H1 := by rw [ce_Fr hb0, sv_self]; exact h1
  rwa [cw_sv (by omega) rfl] at h1
theorem gf_Mo_takes (X : cx g p s m meth c args own cc nL ret) (hP : va_P g.1 vcl (cw g V) H) (hlink : Cond.fieldLink own idx R_Mo "takes" "[I" ∈ TBL) (hdg : decode cc pc = .ok (.getfield idx, 3)) (kk : W p l e R s m args below meth c H locs cells slots Q (F0 m (pc + 3) ls (.ref (ga g 35) :: rest))) : W p l e R s m args below meth c H locs cells slots Q (F0 m pc ls (.ref (ga g 34) :: rest)) :=
  va_get (D := g.1) (ci := 6) (v := .ref (ga g 35)) (C := R_Mo) (T := T_Mo) (N := 30) X.1 X.2.1 X.2.2.2.2.2.1 in_Mo X.2.2.2.2.1 X.2.2.2.2.2.2.2.1 hP 34 (cw_at (e := .inr (6, [.ref (ga g 35), .ref (ga g 36), .ref (ga g 37), .ref (ga g 38), .ref (ga g 39), .ref (ga g 40), .int (V.1 34 6), .int (V.1 34 7), .int (V.1 34 8), .ref (ga g 41), .ref (ga g 42), .int (V.1 34 11), .int (V.1 34 12), .int (V.1 34 13), .ref (ga g 43), .ref (ga g 44), .ref (ga g 45), .ref (ga g 46), .int (V.1 34 18), .int (V.1 34 19), .int (V.1 34 20), .int (V.1 34 21), .int (V.1 34 22), .ref (ga g 47), .ref (ga g 48), .int (V.1 34 25), .int (V.1 34 26), .int (V.1 34 27), .int (V.1 34 28), .int (V.1 34 29)])) (by decide) rfl) rfl 0 (by decide) (X.2.2.2.2.2.1 _ hlink) (fun _ h9 => h9) rfl hdg kk
theorem gf_Mo_gives (X : cx g p s m meth c args own cc nL ret) (hP : va_P g.1 vcl (cw g V) H) (hlink : Cond.fieldLink own idx R_Mo "gives" "[I" ∈ TBL) (hdg : decode cc pc = .ok (.getfield idx, 3)) (kk : W p l e R s m args below meth c H locs cells slots Q (F0 m (pc + 3) ls (.ref (ga g 36) :: rest))) : W p l e R s m args below meth c H locs cells slots Q (F0 m pc ls (.ref (ga g 34) :: rest)) :=
  va_get (D := g.1) (ci := 6) (v := .ref (ga g 36)) (C := R_Mo) (T := T_Mo) (N := 30) X.1 X.2.1 X.2.2.2.2.2.1 in_Mo X.2.2.2.2.1 X.2.2.2.2.2.2.2.1 hP 34 (cw_at (e := .inr (6, [.ref (ga g 35), .ref (ga g 36), .ref (ga g 37), .ref (ga g 38), .ref (ga g 39), .ref (ga g 40), .int (V.1 34 6), .int (V.1 34 7), .int (V.1 34 8), .ref (ga g 41), .ref (ga g 42), .int (V.1 34 11), .int (V.1 34 12), .int (V.1 34 13), .ref (ga g 43), .ref (ga g 44), .ref (ga g 45), .ref (ga g 46), .int (V.1 34 18), .int (V.1 34 19), .int (V.1 34 20), .int (V.1 34 21), .int (V.1 34 22), .ref (ga g 47), .ref (ga g 48), .int (V.1 34 25), .int (V.1 34 26), .int (V.1 34 27), .int (V.1 34 28), .int (V.1 34 29)])) (by decide) rfl) rfl 1 (by decide) (X.2.2.2.2.2.1 _ hlink) (fun _ h9 => h9) rfl hdg kk
theorem gf_Mo_more (X : cx g p s m meth c args own cc nL ret) (hP : va_P g.1 vcl (cw g V) H) (hlink : Cond.fieldLink own idx R_Mo "more" "[I" ∈ TBL) (hdg : decode cc pc = .ok (.getfield idx, 3)) (kk : W p l e R s m args below meth c H locs cells slots Q (F0 m (pc + 3) ls (.ref (ga g 37) :: rest))) : W p l e R s m args below meth c H locs cells slots Q (F0 m pc ls (.ref (ga g 34) :: rest)) :=
  va_get (D := g.1) (ci := 6) (v := .ref (ga g 37)) (C := R_Mo) (T := T_Mo) (N := 30) X.1 X.2.1 X.2.2.2.2.2.1 in_Mo X.2.2.2.2.1 X.2.2.2.2.2.2.2.1 hP 34 (cw_at (e := .inr (6, [.ref (ga g 35), .ref (ga g 36), .ref (ga g 37), .ref (ga g 38), .ref (ga g 39), .ref (ga g 40), .int (V.1 34 6), .int (V.1 34 7), .int (V.1 34 8), .ref (ga g 41), .ref (ga g 42), .int (V.1 34 11), .int (V.1 34 12), .int (V.1 34 13), .ref (ga g 43), .ref (ga g 44), .ref (ga g 45), .ref (ga g 46), .int (V.1 34 18), .int (V.1 34 19), .int (V.1 34 20), .int (V.1 34 21), .int (V.1 34 22), .ref (ga g 47), .ref (ga g 48), .int (V.1 34 25), .int (V.1 34 26), .int (V.1 34 27), .int (V.1 34 28), .int (V.1 34 29)])) (by decide) rfl) rfl 2 (by decide) (X.2.2.2.2.2.1 _ hlink) (fun _ h9 => h9) rfl hdg kk
theorem gf_Mo_length (X : cx g p s m meth c args own cc nL ret) (hP : va_P g.1 vcl (cw g V) H) (hlink : Cond.fieldLink own idx R_Mo "length" "[I" ∈ TBL) (hdg : decode cc pc = .ok (.getfield idx, 3)) (kk : W p l e R s m args below meth c H locs cells slots Q (F0 m (pc + 3) ls (.ref (ga g 38) :: rest))) : W p l e R s m args below meth c H locs cells slots Q (F0 m pc ls (.ref (ga g 34) :: rest)) :=
  va_get (D := g.1) (ci := 6) (v := .ref (ga g 38)) (C := R_Mo) (T := T_Mo) (N := 30) X.1 X.2.1 X.2.2.2.2.2.1 in_Mo X.2.2.2.2.1 X.2.2.2.2.2.2.2.1 hP 34 (cw_at (e := .inr (6, [.ref (ga g 35), .ref (ga g 36), .ref (ga g 37), .ref (ga g 38), .ref (ga g 39), .ref (ga g 40), .int (V.1 34 6), .int (V.1 34 7), .int (V.1 34 8), .ref (ga g 41), .ref (ga g 42), .int (V.1 34 11), .int (V.1 34 12), .int (V.1 34 13), .ref (ga g 43), .ref (ga g 44), .ref (ga g 45), .ref (ga g 46), .int (V.1 34 18), .int (V.1 34 19), .int (V.1 34 20), .int (V.1 34 21), .int (V.1 34 22), .ref (ga g 47), .ref (ga g 48), .int (V.1 34 25), .int (V.1 34 26), .int (V.1 34 27), .int (V.1 34 28), .int (V.1 34 29)])) (by decide) rfl) rfl 3 (by decide) (X.2.2.2.2.2.1 _ hlink) (fun _ h9 => h9) rfl hdg kk
theorem gf_Mo_op (X : cx g p s m meth c args own cc nL ret) (hP : va_P g.1 vcl (cw g V) H) (hlink : Cond.fieldLink own idx R_Mo "op" "[I" ∈ TBL) (hdg : decode cc pc = .ok (.getfield idx, 3)) (kk : W p l e R s m args below meth c H locs cells slots Q (F0 m (pc + 3) ls (.ref (ga g 39) :: rest))) : W p l e R s m args below meth c H locs cells slots Q (F0 m pc ls (.ref (ga g 34) :: rest)) :=
  va_get (D := g.1) (ci := 6) (v := .ref (ga g 39)) (C := R_Mo) (T := T_Mo) (N := 30) X.1 X.2.1 X.2.2.2.2.2.1 in_Mo X.2.2.2.2.1 X.2.2.2.2.2.2.2.1 hP 34 (cw_at (e := .inr (6, [.ref (ga g 35), .ref (ga g 36), .ref (ga g 37), .ref (ga g 38), .ref (ga g 39), .ref (ga g 40), .int (V.1 34 6), .int (V.1 34 7), .int (V.1 34 8), .ref (ga g 41), .ref (ga g 42), .int (V.1 34 11), .int (V.1 34 12), .int (V.1 34 13), .ref (ga g 43), .ref (ga g 44), .ref (ga g 45), .ref (ga g 46), .int (V.1 34 18), .int (V.1 34 19), .int (V.1 34 20), .int (V.1 34 21), .int (V.1 34 22), .ref (ga g 47), .ref (ga g 48), .int (V.1 34 25), .int (V.1 34 26), .int (V.1 34 27), .int (V.1 34 28), .int (V.1 34 29)])) (by decide) rfl) rfl 4 (by decide) (X.2.2.2.2.2.1 _ hlink) (fun _ h9 => h9) rfl hdg kk
theorem gf_Mo_arg (X : cx g p s m meth c args own cc nL ret) (hP : va_P g.1 vcl (cw g V) H) (hlink : Cond.fieldLink own idx R_Mo "arg" "[I" ∈ TBL) (hdg : decode cc pc = .ok (.getfield idx, 3)) (kk : W p l e R s m args below meth c H locs cells slots Q (F0 m (pc + 3) ls (.ref (ga g 40) :: rest))) : W p l e R s m args below meth c H locs cells slots Q (F0 m pc ls (.ref (ga g 34) :: rest)) :=
  va_get (D := g.1) (ci := 6) (v := .ref (ga g 40)) (C := R_Mo) (T := T_Mo) (N := 30) X.1 X.2.1 X.2.2.2.2.2.1 in_Mo X.2.2.2.2.1 X.2.2.2.2.2.2.2.1 hP 34 (cw_at (e := .inr (6, [.ref (ga g 35), .ref (ga g 36), .ref (ga g 37), .ref (ga g 38), .ref (ga g 39), .ref (ga g 40), .int (V.1 34 6), .int (V.1 34 7), .int (V.1 34 8), .ref (ga g 41), .ref (ga g 42), .int (V.1 34 11), .int (V.1 34 12), .int (V.1 34 13), .ref (ga g 43), .ref (ga g 44), .ref (ga g 45), .ref (ga g 46), .int (V.1 34 18), .int (V.1 34 19), .int (V.1 34 20), .int (V.1 34 21), .int (V.1 34 22), .ref (ga g 47), .ref (ga g 48), .int (V.1 34 25), .int (V.1 34 26), .int (V.1 34 27), .int (V.1 34 28), .int (V.1 34 29)])) (by decide) rfl) rfl 5 (by decide) (X.2.2.2.2.2.1 _ hlink) (fun _ h9 => h9) rfl hdg kk
theorem gf_Mo_functions (X : cx g p s m meth c args own cc nL ret) (hP : va_P g.1 vcl (cw g V) H) (hlink : Cond.fieldLink own idx R_Mo "functions" "I" ∈ TBL) (hdg : decode cc pc = .ok (.getfield idx, 3)) (kk : W p l e R s m args below meth c H locs cells slots Q (F0 m (pc + 3) ls (.int (V.1 34 6) :: rest))) : W p l e R s m args below meth c H locs cells slots Q (F0 m pc ls (.ref (ga g 34) :: rest)) :=
  va_get (D := g.1) (ci := 6) (v := .int (V.1 34 6)) (C := R_Mo) (T := T_Mo) (N := 30) X.1 X.2.1 X.2.2.2.2.2.1 in_Mo X.2.2.2.2.1 X.2.2.2.2.2.2.2.1 hP 34 (cw_at (e := .inr (6, [.ref (ga g 35), .ref (ga g 36), .ref (ga g 37), .ref (ga g 38), .ref (ga g 39), .ref (ga g 40), .int (V.1 34 6), .int (V.1 34 7), .int (V.1 34 8), .ref (ga g 41), .ref (ga g 42), .int (V.1 34 11), .int (V.1 34 12), .int (V.1 34 13), .ref (ga g 43), .ref (ga g 44), .ref (ga g 45), .ref (ga g 46), .int (V.1 34 18), .int (V.1 34 19), .int (V.1 34 20), .int (V.1 34 21), .int (V.1 34 22), .ref (ga g 47), .ref (ga g 48), .int (V.1 34 25), .int (V.1 34 26), .int (V.1 34 27), .int (V.1 34 28), .int (V.1 34 29)])) (by decide) rfl) rfl 6 (by decide) (X.2.2.2.2.2.1 _ hlink) (fun _ h9 => h9) rfl hdg kk
theorem pf_Mo_functions (X : cx g p s m meth c args own cc nL ret) (hP : va_P g.1 vcl (cw g V) H) (hS : va_S (gA g) s.heap H locs) (hlink : Cond.fieldLink own idx R_Mo "functions" "I" ∈ TBL) {x : Int32} (hdg : decode cc pc = .ok (.putfield idx, 3)) (kk : ∀ (V1 : vS) (H1 : Heap) (locs1 : List Loc), V1 = sv V (34) 6 x → va_P g.1 vcl (cw g V1) H1 → va_S (gA g) s.heap H1 locs1 → W p l e R s m args below meth c H1 locs1 cells slots Q (F0 m (pc + 3) ls rest)) : W p l e R s m args below meth c H locs cells slots Q (F0 m pc ls (.int x :: .ref (ga g 34) :: rest)) := by
  refine va_put (D := g.1) (ci := 6) (v := .int x) (ty := .int) (C := R_Mo) (T := T_Mo) (N := 30) X.1 X.2.1 X.2.2.2.2.2.1 in_Mo ty_Mo ty_Mo_ok nm_Mo X.2.2.2.2.1 X.2.2.2.2.2.2.2.1 hP (cw_D X.2.2.2.2.2.2.2.2.2) hS 34 (cw_at (e := .inr (6, [.ref (ga g 35), .ref (ga g 36), .ref (ga g 37), .ref (ga g 38), .ref (ga g 39), .ref (ga g 40), .int (V.1 34 6), .int (V.1 34 7), .int (V.1 34 8), .ref (ga g 41), .ref (ga g 42), .int (V.1 34 11), .int (V.1 34 12), .int (V.1 34 13), .ref (ga g 43), .ref (ga g 44), .ref (ga g 45), .ref (ga g 46), .int (V.1 34 18), .int (V.1 34 19), .int (V.1 34 20), .int (V.1 34 21), .int (V.1 34 22), .ref (ga g 47), .ref (ga g 48), .int (V.1 34 25), .int (V.1 34 26), .int (V.1 34 27), .int (V.1 34 28), .int (V.1 34 29)])) (by decide) rfl) rfl 6 (by decide) (X.2.2.2.2.2.1 _ hlink) (fun _ h9 => h9) rfl (by decide +kernel) rfl rfl (Nat.le_of_ble_eq_true rfl) hdg (fun H1 locs1 h1 h2 h3 => kk _ H1 locs1 rfl ?_ h3)
  have h1 : va_P g.1 vcl ((cw g V).set 34 (ga g 34, ce g (sv V 34 6 x) 34)) H1 := h1
  rwa [cw_sv (by decide) rfl] at h1
theorem gf_Mo_fault (X : cx g p s m meth c args own cc nL ret) (hP : va_P g.1 vcl (cw g V) H) (hlink : Cond.fieldLink own idx R_Mo "fault" "I" ∈ TBL) (hdg : decode cc pc = .ok (.getfield idx, 3)) (kk : W p l e R s m args below meth c H locs cells slots Q (F0 m (pc + 3) ls (.int (V.1 34 7) :: rest))) : W p l e R s m args below meth c H locs cells slots Q (F0 m pc ls (.ref (ga g 34) :: rest)) :=
  va_get (D := g.1) (ci := 6) (v := .int (V.1 34 7)) (C := R_Mo) (T := T_Mo) (N := 30) X.1 X.2.1 X.2.2.2.2.2.1 in_Mo X.2.2.2.2.1 X.2.2.2.2.2.2.2.1 hP 34 (cw_at (e := .inr (6, [.ref (ga g 35), .ref (ga g 36), .ref (ga g 37), .ref (ga g 38), .ref (ga g 39), .ref (ga g 40), .int (V.1 34 6), .int (V.1 34 7), .int (V.1 34 8), .ref (ga g 41), .ref (ga g 42), .int (V.1 34 11), .int (V.1 34 12), .int (V.1 34 13), .ref (ga g 43), .ref (ga g 44), .ref (ga g 45), .ref (ga g 46), .int (V.1 34 18), .int (V.1 34 19), .int (V.1 34 20), .int (V.1 34 21), .int (V.1 34 22), .ref (ga g 47), .ref (ga g 48), .int (V.1 34 25), .int (V.1 34 26), .int (V.1 34 27), .int (V.1 34 28), .int (V.1 34 29)])) (by decide) rfl) rfl 7 (by decide) (X.2.2.2.2.2.1 _ hlink) (fun _ h9 => h9) rfl hdg kk
theorem pf_Mo_fault (X : cx g p s m meth c args own cc nL ret) (hP : va_P g.1 vcl (cw g V) H) (hS : va_S (gA g) s.heap H locs) (hlink : Cond.fieldLink own idx R_Mo "fault" "I" ∈ TBL) {x : Int32} (hdg : decode cc pc = .ok (.putfield idx, 3)) (kk : ∀ (V1 : vS) (H1 : Heap) (locs1 : List Loc), V1 = sv V (34) 7 x → va_P g.1 vcl (cw g V1) H1 → va_S (gA g) s.heap H1 locs1 → W p l e R s m args below meth c H1 locs1 cells slots Q (F0 m (pc + 3) ls rest)) : W p l e R s m args below meth c H locs cells slots Q (F0 m pc ls (.int x :: .ref (ga g 34) :: rest)) := by
  refine va_put (D := g.1) (ci := 6) (v := .int x) (ty := .int) (C := R_Mo) (T := T_Mo) (N := 30) X.1 X.2.1 X.2.2.2.2.2.1 in_Mo ty_Mo ty_Mo_ok nm_Mo X.2.2.2.2.1 X.2.2.2.2.2.2.2.1 hP (cw_D X.2.2.2.2.2.2.2.2.2) hS 34 (cw_at (e := .inr (6, [.ref (ga g 35), .ref (ga g 36), .ref (ga g 37), .ref (ga g 38), .ref (ga g 39), .ref (ga g 40), .int (V.1 34 6), .int (V.1 34 7), .int (V.1 34 8), .ref (ga g 41), .ref (ga g 42), .int (V.1 34 11), .int (V.1 34 12), .int (V.1 34 13), .ref (ga g 43), .ref (ga g 44), .ref (ga g 45), .ref (ga g 46), .int (V.1 34 18), .int (V.1 34 19), .int (V.1 34 20), .int (V.1 34 21), .int (V.1 34 22), .ref (ga g 47), .ref (ga g 48), .int (V.1 34 25), .int (V.1 34 26), .int (V.1 34 27), .int (V.1 34 28), .int (V.1 34 29)])) (by decide) rfl) rfl 7 (by decide) (X.2.2.2.2.2.1 _ hlink) (fun _ h9 => h9) rfl (by decide +kernel) rfl rfl (Nat.le_of_ble_eq_true rfl) hdg (fun H1 locs1 h1 h2 h3 => kk _ H1 locs1 rfl ?_ h3)
  have h1 : va_P g.1 vcl ((cw g V).set 34 (ga g 34, ce g (sv V 34 7 x) 34)) H1 := h1
  rwa [cw_sv (by decide) rfl] at h1
theorem gf_Mo_checked (X : cx g p s m meth c args own cc nL ret) (hP : va_P g.1 vcl (cw g V) H) (hlink : Cond.fieldLink own idx R_Mo "checked" "Z" ∈ TBL) (hdg : decode cc pc = .ok (.getfield idx, 3)) (kk : W p l e R s m args below meth c H locs cells slots Q (F0 m (pc + 3) ls (.int (V.1 34 8) :: rest))) : W p l e R s m args below meth c H locs cells slots Q (F0 m pc ls (.ref (ga g 34) :: rest)) :=
  va_get (D := g.1) (ci := 6) (v := .int (V.1 34 8)) (C := R_Mo) (T := T_Mo) (N := 30) X.1 X.2.1 X.2.2.2.2.2.1 in_Mo X.2.2.2.2.1 X.2.2.2.2.2.2.2.1 hP 34 (cw_at (e := .inr (6, [.ref (ga g 35), .ref (ga g 36), .ref (ga g 37), .ref (ga g 38), .ref (ga g 39), .ref (ga g 40), .int (V.1 34 6), .int (V.1 34 7), .int (V.1 34 8), .ref (ga g 41), .ref (ga g 42), .int (V.1 34 11), .int (V.1 34 12), .int (V.1 34 13), .ref (ga g 43), .ref (ga g 44), .ref (ga g 45), .ref (ga g 46), .int (V.1 34 18), .int (V.1 34 19), .int (V.1 34 20), .int (V.1 34 21), .int (V.1 34 22), .ref (ga g 47), .ref (ga g 48), .int (V.1 34 25), .int (V.1 34 26), .int (V.1 34 27), .int (V.1 34 28), .int (V.1 34 29)])) (by decide) rfl) rfl 8 (by decide) (X.2.2.2.2.2.1 _ hlink) (fun _ h9 => h9) rfl hdg kk
theorem pf_Mo_checked (X : cx g p s m meth c args own cc nL ret) (hP : va_P g.1 vcl (cw g V) H) (hS : va_S (gA g) s.heap H locs) (hlink : Cond.fieldLink own idx R_Mo "checked" "Z" ∈ TBL) {x : Int32} (hx : x = 0 ∨ x = 1) (hdg : decode cc pc = .ok (.putfield idx, 3)) (kk : ∀ (V1 : vS) (H1 : Heap) (locs1 : List Loc), V1 = sv V (34) 8 x → va_P g.1 vcl (cw g V1) H1 → va_S (gA g) s.heap H1 locs1 → W p l e R s m args below meth c H1 locs1 cells slots Q (F0 m (pc + 3) ls rest)) : W p l e R s m args below meth c H locs cells slots Q (F0 m pc ls (.int x :: .ref (ga g 34) :: rest)) := by
  refine va_put (D := g.1) (ci := 6) (v := .int x) (ty := .boolean) (C := R_Mo) (T := T_Mo) (N := 30) X.1 X.2.1 X.2.2.2.2.2.1 in_Mo ty_Mo ty_Mo_ok nm_Mo X.2.2.2.2.1 X.2.2.2.2.2.2.2.1 hP (cw_D X.2.2.2.2.2.2.2.2.2) hS 34 (cw_at (e := .inr (6, [.ref (ga g 35), .ref (ga g 36), .ref (ga g 37), .ref (ga g 38), .ref (ga g 39), .ref (ga g 40), .int (V.1 34 6), .int (V.1 34 7), .int (V.1 34 8), .ref (ga g 41), .ref (ga g 42), .int (V.1 34 11), .int (V.1 34 12), .int (V.1 34 13), .ref (ga g 43), .ref (ga g 44), .ref (ga g 45), .ref (ga g 46), .int (V.1 34 18), .int (V.1 34 19), .int (V.1 34 20), .int (V.1 34 21), .int (V.1 34 22), .ref (ga g 47), .ref (ga g 48), .int (V.1 34 25), .int (V.1 34 26), .int (V.1 34 27), .int (V.1 34 28), .int (V.1 34 29)])) (by decide) rfl) rfl 8 (by decide) (X.2.2.2.2.2.1 _ hlink) (fun _ h9 => h9) rfl (by decide +kernel) (rw_bit hx).1 (rw_bit hx).2 (Nat.le_of_ble_eq_true rfl) hdg (fun H1 locs1 h1 h2 h3 => kk _ H1 locs1 rfl ?_ h3)
  have h1 : va_P g.1 vcl ((cw g V).set 34 (ga g 34, ce g (sv V 34 8 x) 34)) H1 := h1
  rwa [cw_sv (by decide) rfl] at h1
theorem gf_Mo_opened (X : cx g p s m meth c args own cc nL ret) (hP : va_P g.1 vcl (cw g V) H) (hlink : Cond.fieldLink own idx R_Mo "opened" "[I" ∈ TBL) (hdg : decode cc pc = .ok (.getfield idx, 3)) (kk : W p l e R s m args below meth c H locs cells slots Q (F0 m (pc + 3) ls (.ref (ga g 41) :: rest))) : W p l e R s m args below meth c H locs cells slots Q (F0 m pc ls (.ref (ga g 34) :: rest)) :=
  va_get (D := g.1) (ci := 6) (v := .ref (ga g 41)) (C := R_Mo) (T := T_Mo) (N := 30) X.1 X.2.1 X.2.2.2.2.2.1 in_Mo X.2.2.2.2.1 X.2.2.2.2.2.2.2.1 hP 34 (cw_at (e := .inr (6, [.ref (ga g 35), .ref (ga g 36), .ref (ga g 37), .ref (ga g 38), .ref (ga g 39), .ref (ga g 40), .int (V.1 34 6), .int (V.1 34 7), .int (V.1 34 8), .ref (ga g 41), .ref (ga g 42), .int (V.1 34 11), .int (V.1 34 12), .int (V.1 34 13), .ref (ga g 43), .ref (ga g 44), .ref (ga g 45), .ref (ga g 46), .int (V.1 34 18), .int (V.1 34 19), .int (V.1 34 20), .int (V.1 34 21), .int (V.1 34 22), .ref (ga g 47), .ref (ga g 48), .int (V.1 34 25), .int (V.1 34 26), .int (V.1 34 27), .int (V.1 34 28), .int (V.1 34 29)])) (by decide) rfl) rfl 9 (by decide) (X.2.2.2.2.2.1 _ hlink) (fun _ h9 => h9) rfl hdg kk
theorem gf_Mo_base (X : cx g p s m meth c args own cc nL ret) (hP : va_P g.1 vcl (cw g V) H) (hlink : Cond.fieldLink own idx R_Mo "base" "[I" ∈ TBL) (hdg : decode cc pc = .ok (.getfield idx, 3)) (kk : W p l e R s m args below meth c H locs cells slots Q (F0 m (pc + 3) ls (.ref (ga g 42) :: rest))) : W p l e R s m args below meth c H locs cells slots Q (F0 m pc ls (.ref (ga g 34) :: rest)) :=
  va_get (D := g.1) (ci := 6) (v := .ref (ga g 42)) (C := R_Mo) (T := T_Mo) (N := 30) X.1 X.2.1 X.2.2.2.2.2.1 in_Mo X.2.2.2.2.1 X.2.2.2.2.2.2.2.1 hP 34 (cw_at (e := .inr (6, [.ref (ga g 35), .ref (ga g 36), .ref (ga g 37), .ref (ga g 38), .ref (ga g 39), .ref (ga g 40), .int (V.1 34 6), .int (V.1 34 7), .int (V.1 34 8), .ref (ga g 41), .ref (ga g 42), .int (V.1 34 11), .int (V.1 34 12), .int (V.1 34 13), .ref (ga g 43), .ref (ga g 44), .ref (ga g 45), .ref (ga g 46), .int (V.1 34 18), .int (V.1 34 19), .int (V.1 34 20), .int (V.1 34 21), .int (V.1 34 22), .ref (ga g 47), .ref (ga g 48), .int (V.1 34 25), .int (V.1 34 26), .int (V.1 34 27), .int (V.1 34 28), .int (V.1 34 29)])) (by decide) rfl) rfl 10 (by decide) (X.2.2.2.2.2.1 _ hlink) (fun _ h9 => h9) rfl hdg kk
theorem gf_Mo_open (X : cx g p s m meth c args own cc nL ret) (hP : va_P g.1 vcl (cw g V) H) (hlink : Cond.fieldLink own idx R_Mo "open" "I" ∈ TBL) (hdg : decode cc pc = .ok (.getfield idx, 3)) (kk : W p l e R s m args below meth c H locs cells slots Q (F0 m (pc + 3) ls (.int (V.1 34 11) :: rest))) : W p l e R s m args below meth c H locs cells slots Q (F0 m pc ls (.ref (ga g 34) :: rest)) :=
  va_get (D := g.1) (ci := 6) (v := .int (V.1 34 11)) (C := R_Mo) (T := T_Mo) (N := 30) X.1 X.2.1 X.2.2.2.2.2.1 in_Mo X.2.2.2.2.1 X.2.2.2.2.2.2.2.1 hP 34 (cw_at (e := .inr (6, [.ref (ga g 35), .ref (ga g 36), .ref (ga g 37), .ref (ga g 38), .ref (ga g 39), .ref (ga g 40), .int (V.1 34 6), .int (V.1 34 7), .int (V.1 34 8), .ref (ga g 41), .ref (ga g 42), .int (V.1 34 11), .int (V.1 34 12), .int (V.1 34 13), .ref (ga g 43), .ref (ga g 44), .ref (ga g 45), .ref (ga g 46), .int (V.1 34 18), .int (V.1 34 19), .int (V.1 34 20), .int (V.1 34 21), .int (V.1 34 22), .ref (ga g 47), .ref (ga g 48), .int (V.1 34 25), .int (V.1 34 26), .int (V.1 34 27), .int (V.1 34 28), .int (V.1 34 29)])) (by decide) rfl) rfl 11 (by decide) (X.2.2.2.2.2.1 _ hlink) (fun _ h9 => h9) rfl hdg kk
theorem pf_Mo_open (X : cx g p s m meth c args own cc nL ret) (hP : va_P g.1 vcl (cw g V) H) (hS : va_S (gA g) s.heap H locs) (hlink : Cond.fieldLink own idx R_Mo "open" "I" ∈ TBL) {x : Int32} (hdg : decode cc pc = .ok (.putfield idx, 3)) (kk : ∀ (V1 : vS) (H1 : Heap) (locs1 : List Loc), V1 = sv V (34) 11 x → va_P g.1 vcl (cw g V1) H1 → va_S (gA g) s.heap H1 locs1 → W p l e R s m args below meth c H1 locs1 cells slots Q (F0 m (pc + 3) ls rest)) : W p l e R s m args below meth c H locs cells slots Q (F0 m pc ls (.int x :: .ref (ga g 34) :: rest)) := by
  refine va_put (D := g.1) (ci := 6) (v := .int x) (ty := .int) (C := R_Mo) (T := T_Mo) (N := 30) X.1 X.2.1 X.2.2.2.2.2.1 in_Mo ty_Mo ty_Mo_ok nm_Mo X.2.2.2.2.1 X.2.2.2.2.2.2.2.1 hP (cw_D X.2.2.2.2.2.2.2.2.2) hS 34 (cw_at (e := .inr (6, [.ref (ga g 35), .ref (ga g 36), .ref (ga g 37), .ref (ga g 38), .ref (ga g 39), .ref (ga g 40), .int (V.1 34 6), .int (V.1 34 7), .int (V.1 34 8), .ref (ga g 41), .ref (ga g 42), .int (V.1 34 11), .int (V.1 34 12), .int (V.1 34 13), .ref (ga g 43), .ref (ga g 44), .ref (ga g 45), .ref (ga g 46), .int (V.1 34 18), .int (V.1 34 19), .int (V.1 34 20), .int (V.1 34 21), .int (V.1 34 22), .ref (ga g 47), .ref (ga g 48), .int (V.1 34 25), .int (V.1 34 26), .int (V.1 34 27), .int (V.1 34 28), .int (V.1 34 29)])) (by decide) rfl) rfl 11 (by decide) (X.2.2.2.2.2.1 _ hlink) (fun _ h9 => h9) rfl (by decide +kernel) rfl rfl (Nat.le_of_ble_eq_true rfl) hdg (fun H1 locs1 h1 h2 h3 => kk _ H1 locs1 rfl ?_ h3)
  have h1 : va_P g.1 vcl ((cw g V).set 34 (ga g 34, ce g (sv V 34 11 x) 34)) H1 := h1
  rwa [cw_sv (by decide) rfl] at h1
theorem gf_Mo_height (X : cx g p s m meth c args own cc nL ret) (hP : va_P g.1 vcl (cw g V) H) (hlink : Cond.fieldLink own idx R_Mo "height" "I" ∈ TBL) (hdg : decode cc pc = .ok (.getfield idx, 3)) (kk : W p l e R s m args below meth c H locs cells slots Q (F0 m (pc + 3) ls (.int (V.1 34 12) :: rest))) : W p l e R s m args below meth c H locs cells slots Q (F0 m pc ls (.ref (ga g 34) :: rest)) :=
  va_get (D := g.1) (ci := 6) (v := .int (V.1 34 12)) (C := R_Mo) (T := T_Mo) (N := 30) X.1 X.2.1 X.2.2.2.2.2.1 in_Mo X.2.2.2.2.1 X.2.2.2.2.2.2.2.1 hP 34 (cw_at (e := .inr (6, [.ref (ga g 35), .ref (ga g 36), .ref (ga g 37), .ref (ga g 38), .ref (ga g 39), .ref (ga g 40), .int (V.1 34 6), .int (V.1 34 7), .int (V.1 34 8), .ref (ga g 41), .ref (ga g 42), .int (V.1 34 11), .int (V.1 34 12), .int (V.1 34 13), .ref (ga g 43), .ref (ga g 44), .ref (ga g 45), .ref (ga g 46), .int (V.1 34 18), .int (V.1 34 19), .int (V.1 34 20), .int (V.1 34 21), .int (V.1 34 22), .ref (ga g 47), .ref (ga g 48), .int (V.1 34 25), .int (V.1 34 26), .int (V.1 34 27), .int (V.1 34 28), .int (V.1 34 29)])) (by decide) rfl) rfl 12 (by decide) (X.2.2.2.2.2.1 _ hlink) (fun _ h9 => h9) rfl hdg kk
theorem pf_Mo_height (X : cx g p s m meth c args own cc nL ret) (hP : va_P g.1 vcl (cw g V) H) (hS : va_S (gA g) s.heap H locs) (hlink : Cond.fieldLink own idx R_Mo "height" "I" ∈ TBL) {x : Int32} (hdg : decode cc pc = .ok (.putfield idx, 3)) (kk : ∀ (V1 : vS) (H1 : Heap) (locs1 : List Loc), V1 = sv V (34) 12 x → va_P g.1 vcl (cw g V1) H1 → va_S (gA g) s.heap H1 locs1 → W p l e R s m args below meth c H1 locs1 cells slots Q (F0 m (pc + 3) ls rest)) : W p l e R s m args below meth c H locs cells slots Q (F0 m pc ls (.int x :: .ref (ga g 34) :: rest)) := by
  refine va_put (D := g.1) (ci := 6) (v := .int x) (ty := .int) (C := R_Mo) (T := T_Mo) (N := 30) X.1 X.2.1 X.2.2.2.2.2.1 in_Mo ty_Mo ty_Mo_ok nm_Mo X.2.2.2.2.1 X.2.2.2.2.2.2.2.1 hP (cw_D X.2.2.2.2.2.2.2.2.2) hS 34 (cw_at (e := .inr (6, [.ref (ga g 35), .ref (ga g 36), .ref (ga g 37), .ref (ga g 38), .ref (ga g 39), .ref (ga g 40), .int (V.1 34 6), .int (V.1 34 7), .int (V.1 34 8), .ref (ga g 41), .ref (ga g 42), .int (V.1 34 11), .int (V.1 34 12), .int (V.1 34 13), .ref (ga g 43), .ref (ga g 44), .ref (ga g 45), .ref (ga g 46), .int (V.1 34 18), .int (V.1 34 19), .int (V.1 34 20), .int (V.1 34 21), .int (V.1 34 22), .ref (ga g 47), .ref (ga g 48), .int (V.1 34 25), .int (V.1 34 26), .int (V.1 34 27), .int (V.1 34 28), .int (V.1 34 29)])) (by decide) rfl) rfl 12 (by decide) (X.2.2.2.2.2.1 _ hlink) (fun _ h9 => h9) rfl (by decide +kernel) rfl rfl (Nat.le_of_ble_eq_true rfl) hdg (fun H1 locs1 h1 h2 h3 => kk _ H1 locs1 rfl ?_ h3)
  have h1 : va_P g.1 vcl ((cw g V).set 34 (ga g 34, ce g (sv V 34 12 x) 34)) H1 := h1
  rwa [cw_sv (by decide) rfl] at h1
theorem gf_Mo_dead (X : cx g p s m meth c args own cc nL ret) (hP : va_P g.1 vcl (cw g V) H) (hlink : Cond.fieldLink own idx R_Mo "dead" "Z" ∈ TBL) (hdg : decode cc pc = .ok (.getfield idx, 3)) (kk : W p l e R s m args below meth c H locs cells slots Q (F0 m (pc + 3) ls (.int (V.1 34 13) :: rest))) : W p l e R s m args below meth c H locs cells slots Q (F0 m pc ls (.ref (ga g 34) :: rest)) :=
  va_get (D := g.1) (ci := 6) (v := .int (V.1 34 13)) (C := R_Mo) (T := T_Mo) (N := 30) X.1 X.2.1 X.2.2.2.2.2.1 in_Mo X.2.2.2.2.1 X.2.2.2.2.2.2.2.1 hP 34 (cw_at (e := .inr (6, [.ref (ga g 35), .ref (ga g 36), .ref (ga g 37), .ref (ga g 38), .ref (ga g 39), .ref (ga g 40), .int (V.1 34 6), .int (V.1 34 7), .int (V.1 34 8), .ref (ga g 41), .ref (ga g 42), .int (V.1 34 11), .int (V.1 34 12), .int (V.1 34 13), .ref (ga g 43), .ref (ga g 44), .ref (ga g 45), .ref (ga g 46), .int (V.1 34 18), .int (V.1 34 19), .int (V.1 34 20), .int (V.1 34 21), .int (V.1 34 22), .ref (ga g 47), .ref (ga g 48), .int (V.1 34 25), .int (V.1 34 26), .int (V.1 34 27), .int (V.1 34 28), .int (V.1 34 29)])) (by decide) rfl) rfl 13 (by decide) (X.2.2.2.2.2.1 _ hlink) (fun _ h9 => h9) rfl hdg kk
theorem pf_Mo_dead (X : cx g p s m meth c args own cc nL ret) (hP : va_P g.1 vcl (cw g V) H) (hS : va_S (gA g) s.heap H locs) (hlink : Cond.fieldLink own idx R_Mo "dead" "Z" ∈ TBL) {x : Int32} (hx : x = 0 ∨ x = 1) (hdg : decode cc pc = .ok (.putfield idx, 3)) (kk : ∀ (V1 : vS) (H1 : Heap) (locs1 : List Loc), V1 = sv V (34) 13 x → va_P g.1 vcl (cw g V1) H1 → va_S (gA g) s.heap H1 locs1 → W p l e R s m args below meth c H1 locs1 cells slots Q (F0 m (pc + 3) ls rest)) : W p l e R s m args below meth c H locs cells slots Q (F0 m pc ls (.int x :: .ref (ga g 34) :: rest)) := by
  refine va_put (D := g.1) (ci := 6) (v := .int x) (ty := .boolean) (C := R_Mo) (T := T_Mo) (N := 30) X.1 X.2.1 X.2.2.2.2.2.1 in_Mo ty_Mo ty_Mo_ok nm_Mo X.2.2.2.2.1 X.2.2.2.2.2.2.2.1 hP (cw_D X.2.2.2.2.2.2.2.2.2) hS 34 (cw_at (e := .inr (6, [.ref (ga g 35), .ref (ga g 36), .ref (ga g 37), .ref (ga g 38), .ref (ga g 39), .ref (ga g 40), .int (V.1 34 6), .int (V.1 34 7), .int (V.1 34 8), .ref (ga g 41), .ref (ga g 42), .int (V.1 34 11), .int (V.1 34 12), .int (V.1 34 13), .ref (ga g 43), .ref (ga g 44), .ref (ga g 45), .ref (ga g 46), .int (V.1 34 18), .int (V.1 34 19), .int (V.1 34 20), .int (V.1 34 21), .int (V.1 34 22), .ref (ga g 47), .ref (ga g 48), .int (V.1 34 25), .int (V.1 34 26), .int (V.1 34 27), .int (V.1 34 28), .int (V.1 34 29)])) (by decide) rfl) rfl 13 (by decide) (X.2.2.2.2.2.1 _ hlink) (fun _ h9 => h9) rfl (by decide +kernel) (rw_bit hx).1 (rw_bit hx).2 (Nat.le_of_ble_eq_true rfl) hdg (fun H1 locs1 h1 h2 h3 => kk _ H1 locs1 rfl ?_ h3)
  have h1 : va_P g.1 vcl ((cw g V).set 34 (ga g 34, ce g (sv V 34 13 x) 34)) H1 := h1
  rwa [cw_sv (by decide) rfl] at h1
theorem gf_Mo_running (X : cx g p s m meth c args own cc nL ret) (hP : va_P g.1 vcl (cw g V) H) (hlink : Cond.fieldLink own idx R_Mo "running" "[I" ∈ TBL) (hdg : decode cc pc = .ok (.getfield idx, 3)) (kk : W p l e R s m args below meth c H locs cells slots Q (F0 m (pc + 3) ls (.ref (ga g 43) :: rest))) : W p l e R s m args below meth c H locs cells slots Q (F0 m pc ls (.ref (ga g 34) :: rest)) :=
  va_get (D := g.1) (ci := 6) (v := .ref (ga g 43)) (C := R_Mo) (T := T_Mo) (N := 30) X.1 X.2.1 X.2.2.2.2.2.1 in_Mo X.2.2.2.2.1 X.2.2.2.2.2.2.2.1 hP 34 (cw_at (e := .inr (6, [.ref (ga g 35), .ref (ga g 36), .ref (ga g 37), .ref (ga g 38), .ref (ga g 39), .ref (ga g 40), .int (V.1 34 6), .int (V.1 34 7), .int (V.1 34 8), .ref (ga g 41), .ref (ga g 42), .int (V.1 34 11), .int (V.1 34 12), .int (V.1 34 13), .ref (ga g 43), .ref (ga g 44), .ref (ga g 45), .ref (ga g 46), .int (V.1 34 18), .int (V.1 34 19), .int (V.1 34 20), .int (V.1 34 21), .int (V.1 34 22), .ref (ga g 47), .ref (ga g 48), .int (V.1 34 25), .int (V.1 34 26), .int (V.1 34 27), .int (V.1 34 28), .int (V.1 34 29)])) (by decide) rfl) rfl 14 (by decide) (X.2.2.2.2.2.1 _ hlink) (fun _ h9 => h9) rfl hdg kk
theorem gf_Mo_next (X : cx g p s m meth c args own cc nL ret) (hP : va_P g.1 vcl (cw g V) H) (hlink : Cond.fieldLink own idx R_Mo "next" "[I" ∈ TBL) (hdg : decode cc pc = .ok (.getfield idx, 3)) (kk : W p l e R s m args below meth c H locs cells slots Q (F0 m (pc + 3) ls (.ref (ga g 44) :: rest))) : W p l e R s m args below meth c H locs cells slots Q (F0 m pc ls (.ref (ga g 34) :: rest)) :=
  va_get (D := g.1) (ci := 6) (v := .ref (ga g 44)) (C := R_Mo) (T := T_Mo) (N := 30) X.1 X.2.1 X.2.2.2.2.2.1 in_Mo X.2.2.2.2.1 X.2.2.2.2.2.2.2.1 hP 34 (cw_at (e := .inr (6, [.ref (ga g 35), .ref (ga g 36), .ref (ga g 37), .ref (ga g 38), .ref (ga g 39), .ref (ga g 40), .int (V.1 34 6), .int (V.1 34 7), .int (V.1 34 8), .ref (ga g 41), .ref (ga g 42), .int (V.1 34 11), .int (V.1 34 12), .int (V.1 34 13), .ref (ga g 43), .ref (ga g 44), .ref (ga g 45), .ref (ga g 46), .int (V.1 34 18), .int (V.1 34 19), .int (V.1 34 20), .int (V.1 34 21), .int (V.1 34 22), .ref (ga g 47), .ref (ga g 48), .int (V.1 34 25), .int (V.1 34 26), .int (V.1 34 27), .int (V.1 34 28), .int (V.1 34 29)])) (by decide) rfl) rfl 15 (by decide) (X.2.2.2.2.2.1 _ hlink) (fun _ h9 => h9) rfl hdg kk
theorem gf_Mo_locals (X : cx g p s m meth c args own cc nL ret) (hP : va_P g.1 vcl (cw g V) H) (hlink : Cond.fieldLink own idx R_Mo "locals" "[I" ∈ TBL) (hdg : decode cc pc = .ok (.getfield idx, 3)) (kk : W p l e R s m args below meth c H locs cells slots Q (F0 m (pc + 3) ls (.ref (ga g 45) :: rest))) : W p l e R s m args below meth c H locs cells slots Q (F0 m pc ls (.ref (ga g 34) :: rest)) :=
  va_get (D := g.1) (ci := 6) (v := .ref (ga g 45)) (C := R_Mo) (T := T_Mo) (N := 30) X.1 X.2.1 X.2.2.2.2.2.1 in_Mo X.2.2.2.2.1 X.2.2.2.2.2.2.2.1 hP 34 (cw_at (e := .inr (6, [.ref (ga g 35), .ref (ga g 36), .ref (ga g 37), .ref (ga g 38), .ref (ga g 39), .ref (ga g 40), .int (V.1 34 6), .int (V.1 34 7), .int (V.1 34 8), .ref (ga g 41), .ref (ga g 42), .int (V.1 34 11), .int (V.1 34 12), .int (V.1 34 13), .ref (ga g 43), .ref (ga g 44), .ref (ga g 45), .ref (ga g 46), .int (V.1 34 18), .int (V.1 34 19), .int (V.1 34 20), .int (V.1 34 21), .int (V.1 34 22), .ref (ga g 47), .ref (ga g 48), .int (V.1 34 25), .int (V.1 34 26), .int (V.1 34 27), .int (V.1 34 28), .int (V.1 34 29)])) (by decide) rfl) rfl 16 (by decide) (X.2.2.2.2.2.1 _ hlink) (fun _ h9 => h9) rfl hdg kk
theorem gf_Mo_stack (X : cx g p s m meth c args own cc nL ret) (hP : va_P g.1 vcl (cw g V) H) (hlink : Cond.fieldLink own idx R_Mo "stack" "[I" ∈ TBL) (hdg : decode cc pc = .ok (.getfield idx, 3)) (kk : W p l e R s m args below meth c H locs cells slots Q (F0 m (pc + 3) ls (.ref (ga g 46) :: rest))) : W p l e R s m args below meth c H locs cells slots Q (F0 m pc ls (.ref (ga g 34) :: rest)) :=
  va_get (D := g.1) (ci := 6) (v := .ref (ga g 46)) (C := R_Mo) (T := T_Mo) (N := 30) X.1 X.2.1 X.2.2.2.2.2.1 in_Mo X.2.2.2.2.1 X.2.2.2.2.2.2.2.1 hP 34 (cw_at (e := .inr (6, [.ref (ga g 35), .ref (ga g 36), .ref (ga g 37), .ref (ga g 38), .ref (ga g 39), .ref (ga g 40), .int (V.1 34 6), .int (V.1 34 7), .int (V.1 34 8), .ref (ga g 41), .ref (ga g 42), .int (V.1 34 11), .int (V.1 34 12), .int (V.1 34 13), .ref (ga g 43), .ref (ga g 44), .ref (ga g 45), .ref (ga g 46), .int (V.1 34 18), .int (V.1 34 19), .int (V.1 34 20), .int (V.1 34 21), .int (V.1 34 22), .ref (ga g 47), .ref (ga g 48), .int (V.1 34 25), .int (V.1 34 26), .int (V.1 34 27), .int (V.1 34 28), .int (V.1 34 29)])) (by decide) rfl) rfl 17 (by decide) (X.2.2.2.2.2.1 _ hlink) (fun _ h9 => h9) rfl hdg kk
theorem gf_Mo_depth (X : cx g p s m meth c args own cc nL ret) (hP : va_P g.1 vcl (cw g V) H) (hlink : Cond.fieldLink own idx R_Mo "depth" "I" ∈ TBL) (hdg : decode cc pc = .ok (.getfield idx, 3)) (kk : W p l e R s m args below meth c H locs cells slots Q (F0 m (pc + 3) ls (.int (V.1 34 18) :: rest))) : W p l e R s m args below meth c H locs cells slots Q (F0 m pc ls (.ref (ga g 34) :: rest)) :=
  va_get (D := g.1) (ci := 6) (v := .int (V.1 34 18)) (C := R_Mo) (T := T_Mo) (N := 30) X.1 X.2.1 X.2.2.2.2.2.1 in_Mo X.2.2.2.2.1 X.2.2.2.2.2.2.2.1 hP 34 (cw_at (e := .inr (6, [.ref (ga g 35), .ref (ga g 36), .ref (ga g 37), .ref (ga g 38), .ref (ga g 39), .ref (ga g 40), .int (V.1 34 6), .int (V.1 34 7), .int (V.1 34 8), .ref (ga g 41), .ref (ga g 42), .int (V.1 34 11), .int (V.1 34 12), .int (V.1 34 13), .ref (ga g 43), .ref (ga g 44), .ref (ga g 45), .ref (ga g 46), .int (V.1 34 18), .int (V.1 34 19), .int (V.1 34 20), .int (V.1 34 21), .int (V.1 34 22), .ref (ga g 47), .ref (ga g 48), .int (V.1 34 25), .int (V.1 34 26), .int (V.1 34 27), .int (V.1 34 28), .int (V.1 34 29)])) (by decide) rfl) rfl 18 (by decide) (X.2.2.2.2.2.1 _ hlink) (fun _ h9 => h9) rfl hdg kk
theorem pf_Mo_depth (X : cx g p s m meth c args own cc nL ret) (hP : va_P g.1 vcl (cw g V) H) (hS : va_S (gA g) s.heap H locs) (hlink : Cond.fieldLink own idx R_Mo "depth" "I" ∈ TBL) {x : Int32} (hdg : decode cc pc = .ok (.putfield idx, 3)) (kk : ∀ (V1 : vS) (H1 : Heap) (locs1 : List Loc), V1 = sv V (34) 18 x → va_P g.1 vcl (cw g V1) H1 → va_S (gA g) s.heap H1 locs1 → W p l e R s m args below meth c H1 locs1 cells slots Q (F0 m (pc + 3) ls rest)) : W p l e R s m args below meth c H locs cells slots Q (F0 m pc ls (.int x :: .ref (ga g 34) :: rest)) := by
  refine va_put (D := g.1) (ci := 6) (v := .int x) (ty := .int) (C := R_Mo) (T := T_Mo) (N := 30) X.1 X.2.1 X.2.2.2.2.2.1 in_Mo ty_Mo ty_Mo_ok nm_Mo X.2.2.2.2.1 X.2.2.2.2.2.2.2.1 hP (cw_D X.2.2.2.2.2.2.2.2.2) hS 34 (cw_at (e := .inr (6, [.ref (ga g 35), .ref (ga g 36), .ref (ga g 37), .ref (ga g 38), .ref (ga g 39), .ref (ga g 40), .int (V.1 34 6), .int (V.1 34 7), .int (V.1 34 8), .ref (ga g 41), .ref (ga g 42), .int (V.1 34 11), .int (V.1 34 12), .int (V.1 34 13), .ref (ga g 43), .ref (ga g 44), .ref (ga g 45), .ref (ga g 46), .int (V.1 34 18), .int (V.1 34 19), .int (V.1 34 20), .int (V.1 34 21), .int (V.1 34 22), .ref (ga g 47), .ref (ga g 48), .int (V.1 34 25), .int (V.1 34 26), .int (V.1 34 27), .int (V.1 34 28), .int (V.1 34 29)])) (by decide) rfl) rfl 18 (by decide) (X.2.2.2.2.2.1 _ hlink) (fun _ h9 => h9) rfl (by decide +kernel) rfl rfl (Nat.le_of_ble_eq_true rfl) hdg (fun H1 locs1 h1 h2 h3 => kk _ H1 locs1 rfl ?_ h3)
  have h1 : va_P g.1 vcl ((cw g V).set 34 (ga g 34, ce g (sv V 34 18 x) 34)) H1 := h1
  rwa [cw_sv (by decide) rfl] at h1
theorem gf_Mo_size (X : cx g p s m meth c args own cc nL ret) (hP : va_P g.1 vcl (cw g V) H) (hlink : Cond.fieldLink own idx R_Mo "size" "I" ∈ TBL) (hdg : decode cc pc = .ok (.getfield idx, 3)) (kk : W p l e R s m args below meth c H locs cells slots Q (F0 m (pc + 3) ls (.int (V.1 34 19) :: rest))) : W p l e R s m args below meth c H locs cells slots Q (F0 m pc ls (.ref (ga g 34) :: rest)) :=
  va_get (D := g.1) (ci := 6) (v := .int (V.1 34 19)) (C := R_Mo) (T := T_Mo) (N := 30) X.1 X.2.1 X.2.2.2.2.2.1 in_Mo X.2.2.2.2.1 X.2.2.2.2.2.2.2.1 hP 34 (cw_at (e := .inr (6, [.ref (ga g 35), .ref (ga g 36), .ref (ga g 37), .ref (ga g 38), .ref (ga g 39), .ref (ga g 40), .int (V.1 34 6), .int (V.1 34 7), .int (V.1 34 8), .ref (ga g 41), .ref (ga g 42), .int (V.1 34 11), .int (V.1 34 12), .int (V.1 34 13), .ref (ga g 43), .ref (ga g 44), .ref (ga g 45), .ref (ga g 46), .int (V.1 34 18), .int (V.1 34 19), .int (V.1 34 20), .int (V.1 34 21), .int (V.1 34 22), .ref (ga g 47), .ref (ga g 48), .int (V.1 34 25), .int (V.1 34 26), .int (V.1 34 27), .int (V.1 34 28), .int (V.1 34 29)])) (by decide) rfl) rfl 19 (by decide) (X.2.2.2.2.2.1 _ hlink) (fun _ h9 => h9) rfl hdg kk
theorem pf_Mo_size (X : cx g p s m meth c args own cc nL ret) (hP : va_P g.1 vcl (cw g V) H) (hS : va_S (gA g) s.heap H locs) (hlink : Cond.fieldLink own idx R_Mo "size" "I" ∈ TBL) {x : Int32} (hdg : decode cc pc = .ok (.putfield idx, 3)) (kk : ∀ (V1 : vS) (H1 : Heap) (locs1 : List Loc), V1 = sv V (34) 19 x → va_P g.1 vcl (cw g V1) H1 → va_S (gA g) s.heap H1 locs1 → W p l e R s m args below meth c H1 locs1 cells slots Q (F0 m (pc + 3) ls rest)) : W p l e R s m args below meth c H locs cells slots Q (F0 m pc ls (.int x :: .ref (ga g 34) :: rest)) := by
  refine va_put (D := g.1) (ci := 6) (v := .int x) (ty := .int) (C := R_Mo) (T := T_Mo) (N := 30) X.1 X.2.1 X.2.2.2.2.2.1 in_Mo ty_Mo ty_Mo_ok nm_Mo X.2.2.2.2.1 X.2.2.2.2.2.2.2.1 hP (cw_D X.2.2.2.2.2.2.2.2.2) hS 34 (cw_at (e := .inr (6, [.ref (ga g 35), .ref (ga g 36), .ref (ga g 37), .ref (ga g 38), .ref (ga g 39), .ref (ga g 40), .int (V.1 34 6), .int (V.1 34 7), .int (V.1 34 8), .ref (ga g 41), .ref (ga g 42), .int (V.1 34 11), .int (V.1 34 12), .int (V.1 34 13), .ref (ga g 43), .ref (ga g 44), .ref (ga g 45), .ref (ga g 46), .int (V.1 34 18), .int (V.1 34 19), .int (V.1 34 20), .int (V.1 34 21), .int (V.1 34 22), .ref (ga g 47), .ref (ga g 48), .int (V.1 34 25), .int (V.1 34 26), .int (V.1 34 27), .int (V.1 34 28), .int (V.1 34 29)])) (by decide) rfl) rfl 19 (by decide) (X.2.2.2.2.2.1 _ hlink) (fun _ h9 => h9) rfl (by decide +kernel) rfl rfl (Nat.le_of_ble_eq_true rfl) hdg (fun H1 locs1 h1 h2 h3 => kk _ H1 locs1 rfl ?_ h3)
  have h1 : va_P g.1 vcl ((cw g V).set 34 (ga g 34, ce g (sv V 34 19 x) 34)) H1 := h1
  rwa [cw_sv (by decide) rfl] at h1
theorem gf_Mo_waits (X : cx g p s m meth c args own cc nL ret) (hP : va_P g.1 vcl (cw g V) H) (hlink : Cond.fieldLink own idx R_Mo "waits" "I" ∈ TBL) (hdg : decode cc pc = .ok (.getfield idx, 3)) (kk : W p l e R s m args below meth c H locs cells slots Q (F0 m (pc + 3) ls (.int (V.1 34 20) :: rest))) : W p l e R s m args below meth c H locs cells slots Q (F0 m pc ls (.ref (ga g 34) :: rest)) :=
  va_get (D := g.1) (ci := 6) (v := .int (V.1 34 20)) (C := R_Mo) (T := T_Mo) (N := 30) X.1 X.2.1 X.2.2.2.2.2.1 in_Mo X.2.2.2.2.1 X.2.2.2.2.2.2.2.1 hP 34 (cw_at (e := .inr (6, [.ref (ga g 35), .ref (ga g 36), .ref (ga g 37), .ref (ga g 38), .ref (ga g 39), .ref (ga g 40), .int (V.1 34 6), .int (V.1 34 7), .int (V.1 34 8), .ref (ga g 41), .ref (ga g 42), .int (V.1 34 11), .int (V.1 34 12), .int (V.1 34 13), .ref (ga g 43), .ref (ga g 44), .ref (ga g 45), .ref (ga g 46), .int (V.1 34 18), .int (V.1 34 19), .int (V.1 34 20), .int (V.1 34 21), .int (V.1 34 22), .ref (ga g 47), .ref (ga g 48), .int (V.1 34 25), .int (V.1 34 26), .int (V.1 34 27), .int (V.1 34 28), .int (V.1 34 29)])) (by decide) rfl) rfl 20 (by decide) (X.2.2.2.2.2.1 _ hlink) (fun _ h9 => h9) rfl hdg kk
theorem pf_Mo_waits (X : cx g p s m meth c args own cc nL ret) (hP : va_P g.1 vcl (cw g V) H) (hS : va_S (gA g) s.heap H locs) (hlink : Cond.fieldLink own idx R_Mo "waits" "I" ∈ TBL) {x : Int32} (hdg : decode cc pc = .ok (.putfield idx, 3)) (kk : ∀ (V1 : vS) (H1 : Heap) (locs1 : List Loc), V1 = sv V (34) 20 x → va_P g.1 vcl (cw g V1) H1 → va_S (gA g) s.heap H1 locs1 → W p l e R s m args below meth c H1 locs1 cells slots Q (F0 m (pc + 3) ls rest)) : W p l e R s m args below meth c H locs cells slots Q (F0 m pc ls (.int x :: .ref (ga g 34) :: rest)) := by
  refine va_put (D := g.1) (ci := 6) (v := .int x) (ty := .int) (C := R_Mo) (T := T_Mo) (N := 30) X.1 X.2.1 X.2.2.2.2.2.1 in_Mo ty_Mo ty_Mo_ok nm_Mo X.2.2.2.2.1 X.2.2.2.2.2.2.2.1 hP (cw_D X.2.2.2.2.2.2.2.2.2) hS 34 (cw_at (e := .inr (6, [.ref (ga g 35), .ref (ga g 36), .ref (ga g 37), .ref (ga g 38), .ref (ga g 39), .ref (ga g 40), .int (V.1 34 6), .int (V.1 34 7), .int (V.1 34 8), .ref (ga g 41), .ref (ga g 42), .int (V.1 34 11), .int (V.1 34 12), .int (V.1 34 13), .ref (ga g 43), .ref (ga g 44), .ref (ga g 45), .ref (ga g 46), .int (V.1 34 18), .int (V.1 34 19), .int (V.1 34 20), .int (V.1 34 21), .int (V.1 34 22), .ref (ga g 47), .ref (ga g 48), .int (V.1 34 25), .int (V.1 34 26), .int (V.1 34 27), .int (V.1 34 28), .int (V.1 34 29)])) (by decide) rfl) rfl 20 (by decide) (X.2.2.2.2.2.1 _ hlink) (fun _ h9 => h9) rfl (by decide +kernel) rfl rfl (Nat.le_of_ble_eq_true rfl) hdg (fun H1 locs1 h1 h2 h3 => kk _ H1 locs1 rfl ?_ h3)
  have h1 : va_P g.1 vcl ((cw g V).set 34 (ga g 34, ce g (sv V 34 20 x) 34)) H1 := h1
  rwa [cw_sv (by decide) rfl] at h1
theorem gf_Mo_askedWith (X : cx g p s m meth c args own cc nL ret) (hP : va_P g.1 vcl (cw g V) H) (hlink : Cond.fieldLink own idx R_Mo "askedWith" "I" ∈ TBL) (hdg : decode cc pc = .ok (.getfield idx, 3)) (kk : W p l e R s m args below meth c H locs cells slots Q (F0 m (pc + 3) ls (.int (V.1 34 21) :: rest))) : W p l e R s m args below meth c H locs cells slots Q (F0 m pc ls (.ref (ga g 34) :: rest)) :=
  va_get (D := g.1) (ci := 6) (v := .int (V.1 34 21)) (C := R_Mo) (T := T_Mo) (N := 30) X.1 X.2.1 X.2.2.2.2.2.1 in_Mo X.2.2.2.2.1 X.2.2.2.2.2.2.2.1 hP 34 (cw_at (e := .inr (6, [.ref (ga g 35), .ref (ga g 36), .ref (ga g 37), .ref (ga g 38), .ref (ga g 39), .ref (ga g 40), .int (V.1 34 6), .int (V.1 34 7), .int (V.1 34 8), .ref (ga g 41), .ref (ga g 42), .int (V.1 34 11), .int (V.1 34 12), .int (V.1 34 13), .ref (ga g 43), .ref (ga g 44), .ref (ga g 45), .ref (ga g 46), .int (V.1 34 18), .int (V.1 34 19), .int (V.1 34 20), .int (V.1 34 21), .int (V.1 34 22), .ref (ga g 47), .ref (ga g 48), .int (V.1 34 25), .int (V.1 34 26), .int (V.1 34 27), .int (V.1 34 28), .int (V.1 34 29)])) (by decide) rfl) rfl 21 (by decide) (X.2.2.2.2.2.1 _ hlink) (fun _ h9 => h9) rfl hdg kk
theorem pf_Mo_askedWith (X : cx g p s m meth c args own cc nL ret) (hP : va_P g.1 vcl (cw g V) H) (hS : va_S (gA g) s.heap H locs) (hlink : Cond.fieldLink own idx R_Mo "askedWith" "I" ∈ TBL) {x : Int32} (hdg : decode cc pc = .ok (.putfield idx, 3)) (kk : ∀ (V1 : vS) (H1 : Heap) (locs1 : List Loc), V1 = sv V (34) 21 x → va_P g.1 vcl (cw g V1) H1 → va_S (gA g) s.heap H1 locs1 → W p l e R s m args below meth c H1 locs1 cells slots Q (F0 m (pc + 3) ls rest)) : W p l e R s m args below meth c H locs cells slots Q (F0 m pc ls (.int x :: .ref (ga g 34) :: rest)) := by
  refine va_put (D := g.1) (ci := 6) (v := .int x) (ty := .int) (C := R_Mo) (T := T_Mo) (N := 30) X.1 X.2.1 X.2.2.2.2.2.1 in_Mo ty_Mo ty_Mo_ok nm_Mo X.2.2.2.2.1 X.2.2.2.2.2.2.2.1 hP (cw_D X.2.2.2.2.2.2.2.2.2) hS 34 (cw_at (e := .inr (6, [.ref (ga g 35), .ref (ga g 36), .ref (ga g 37), .ref (ga g 38), .ref (ga g 39), .ref (ga g 40), .int (V.1 34 6), .int (V.1 34 7), .int (V.1 34 8), .ref (ga g 41), .ref (ga g 42), .int (V.1 34 11), .int (V.1 34 12), .int (V.1 34 13), .ref (ga g 43), .ref (ga g 44), .ref (ga g 45), .ref (ga g 46), .int (V.1 34 18), .int (V.1 34 19), .int (V.1 34 20), .int (V.1 34 21), .int (V.1 34 22), .ref (ga g 47), .ref (ga g 48), .int (V.1 34 25), .int (V.1 34 26), .int (V.1 34 27), .int (V.1 34 28), .int (V.1 34 29)])) (by decide) rfl) rfl 21 (by decide) (X.2.2.2.2.2.1 _ hlink) (fun _ h9 => h9) rfl (by decide +kernel) rfl rfl (Nat.le_of_ble_eq_true rfl) hdg (fun H1 locs1 h1 h2 h3 => kk _ H1 locs1 rfl ?_ h3)
  have h1 : va_P g.1 vcl ((cw g V).set 34 (ga g 34, ce g (sv V 34 21 x) 34)) H1 := h1
  rwa [cw_sv (by decide) rfl] at h1
theorem gf_Mo_trap (X : cx g p s m meth c args own cc nL ret) (hP : va_P g.1 vcl (cw g V) H) (hlink : Cond.fieldLink own idx R_Mo "trap" "I" ∈ TBL) (hdg : decode cc pc = .ok (.getfield idx, 3)) (kk : W p l e R s m args below meth c H locs cells slots Q (F0 m (pc + 3) ls (.int (V.1 34 22) :: rest))) : W p l e R s m args below meth c H locs cells slots Q (F0 m pc ls (.ref (ga g 34) :: rest)) :=
  va_get (D := g.1) (ci := 6) (v := .int (V.1 34 22)) (C := R_Mo) (T := T_Mo) (N := 30) X.1 X.2.1 X.2.2.2.2.2.1 in_Mo X.2.2.2.2.1 X.2.2.2.2.2.2.2.1 hP 34 (cw_at (e := .inr (6, [.ref (ga g 35), .ref (ga g 36), .ref (ga g 37), .ref (ga g 38), .ref (ga g 39), .ref (ga g 40), .int (V.1 34 6), .int (V.1 34 7), .int (V.1 34 8), .ref (ga g 41), .ref (ga g 42), .int (V.1 34 11), .int (V.1 34 12), .int (V.1 34 13), .ref (ga g 43), .ref (ga g 44), .ref (ga g 45), .ref (ga g 46), .int (V.1 34 18), .int (V.1 34 19), .int (V.1 34 20), .int (V.1 34 21), .int (V.1 34 22), .ref (ga g 47), .ref (ga g 48), .int (V.1 34 25), .int (V.1 34 26), .int (V.1 34 27), .int (V.1 34 28), .int (V.1 34 29)])) (by decide) rfl) rfl 22 (by decide) (X.2.2.2.2.2.1 _ hlink) (fun _ h9 => h9) rfl hdg kk
theorem pf_Mo_trap (X : cx g p s m meth c args own cc nL ret) (hP : va_P g.1 vcl (cw g V) H) (hS : va_S (gA g) s.heap H locs) (hlink : Cond.fieldLink own idx R_Mo "trap" "I" ∈ TBL) {x : Int32} (hdg : decode cc pc = .ok (.putfield idx, 3)) (kk : ∀ (V1 : vS) (H1 : Heap) (locs1 : List Loc), V1 = sv V (34) 22 x → va_P g.1 vcl (cw g V1) H1 → va_S (gA g) s.heap H1 locs1 → W p l e R s m args below meth c H1 locs1 cells slots Q (F0 m (pc + 3) ls rest)) : W p l e R s m args below meth c H locs cells slots Q (F0 m pc ls (.int x :: .ref (ga g 34) :: rest)) := by
  refine va_put (D := g.1) (ci := 6) (v := .int x) (ty := .int) (C := R_Mo) (T := T_Mo) (N := 30) X.1 X.2.1 X.2.2.2.2.2.1 in_Mo ty_Mo ty_Mo_ok nm_Mo X.2.2.2.2.1 X.2.2.2.2.2.2.2.1 hP (cw_D X.2.2.2.2.2.2.2.2.2) hS 34 (cw_at (e := .inr (6, [.ref (ga g 35), .ref (ga g 36), .ref (ga g 37), .ref (ga g 38), .ref (ga g 39), .ref (ga g 40), .int (V.1 34 6), .int (V.1 34 7), .int (V.1 34 8), .ref (ga g 41), .ref (ga g 42), .int (V.1 34 11), .int (V.1 34 12), .int (V.1 34 13), .ref (ga g 43), .ref (ga g 44), .ref (ga g 45), .ref (ga g 46), .int (V.1 34 18), .int (V.1 34 19), .int (V.1 34 20), .int (V.1 34 21), .int (V.1 34 22), .ref (ga g 47), .ref (ga g 48), .int (V.1 34 25), .int (V.1 34 26), .int (V.1 34 27), .int (V.1 34 28), .int (V.1 34 29)])) (by decide) rfl) rfl 22 (by decide) (X.2.2.2.2.2.1 _ hlink) (fun _ h9 => h9) rfl (by decide +kernel) rfl rfl (Nat.le_of_ble_eq_true rfl) hdg (fun H1 locs1 h1 h2 h3 => kk _ H1 locs1 rfl ?_ h3)
  have h1 : va_P g.1 vcl ((cw g V).set 34 (ga g 34, ce g (sv V 34 22 x) 34)) H1 := h1
  rwa [cw_sv (by decide) rfl] at h1
theorem gf_Mo_cells (X : cx g p s m meth c args own cc nL ret) (hP : va_P g.1 vcl (cw g V) H) (hlink : Cond.fieldLink own idx R_Mo "cells" "[I" ∈ TBL) (hdg : decode cc pc = .ok (.getfield idx, 3)) (kk : W p l e R s m args below meth c H locs cells slots Q (F0 m (pc + 3) ls (.ref (ga g 47) :: rest))) : W p l e R s m args below meth c H locs cells slots Q (F0 m pc ls (.ref (ga g 34) :: rest)) :=
  va_get (D := g.1) (ci := 6) (v := .ref (ga g 47)) (C := R_Mo) (T := T_Mo) (N := 30) X.1 X.2.1 X.2.2.2.2.2.1 in_Mo X.2.2.2.2.1 X.2.2.2.2.2.2.2.1 hP 34 (cw_at (e := .inr (6, [.ref (ga g 35), .ref (ga g 36), .ref (ga g 37), .ref (ga g 38), .ref (ga g 39), .ref (ga g 40), .int (V.1 34 6), .int (V.1 34 7), .int (V.1 34 8), .ref (ga g 41), .ref (ga g 42), .int (V.1 34 11), .int (V.1 34 12), .int (V.1 34 13), .ref (ga g 43), .ref (ga g 44), .ref (ga g 45), .ref (ga g 46), .int (V.1 34 18), .int (V.1 34 19), .int (V.1 34 20), .int (V.1 34 21), .int (V.1 34 22), .ref (ga g 47), .ref (ga g 48), .int (V.1 34 25), .int (V.1 34 26), .int (V.1 34 27), .int (V.1 34 28), .int (V.1 34 29)])) (by decide) rfl) rfl 23 (by decide) (X.2.2.2.2.2.1 _ hlink) (fun _ h9 => h9) rfl hdg kk
theorem gf_Mo_granted (X : cx g p s m meth c args own cc nL ret) (hP : va_P g.1 vcl (cw g V) H) (hlink : Cond.fieldLink own idx R_Mo "granted" "[Z" ∈ TBL) (hdg : decode cc pc = .ok (.getfield idx, 3)) (kk : W p l e R s m args below meth c H locs cells slots Q (F0 m (pc + 3) ls (.ref (ga g 48) :: rest))) : W p l e R s m args below meth c H locs cells slots Q (F0 m pc ls (.ref (ga g 34) :: rest)) :=
  va_get (D := g.1) (ci := 6) (v := .ref (ga g 48)) (C := R_Mo) (T := T_Mo) (N := 30) X.1 X.2.1 X.2.2.2.2.2.1 in_Mo X.2.2.2.2.1 X.2.2.2.2.2.2.2.1 hP 34 (cw_at (e := .inr (6, [.ref (ga g 35), .ref (ga g 36), .ref (ga g 37), .ref (ga g 38), .ref (ga g 39), .ref (ga g 40), .int (V.1 34 6), .int (V.1 34 7), .int (V.1 34 8), .ref (ga g 41), .ref (ga g 42), .int (V.1 34 11), .int (V.1 34 12), .int (V.1 34 13), .ref (ga g 43), .ref (ga g 44), .ref (ga g 45), .ref (ga g 46), .int (V.1 34 18), .int (V.1 34 19), .int (V.1 34 20), .int (V.1 34 21), .int (V.1 34 22), .ref (ga g 47), .ref (ga g 48), .int (V.1 34 25), .int (V.1 34 26), .int (V.1 34 27), .int (V.1 34 28), .int (V.1 34 29)])) (by decide) rfl) rfl 24 (by decide) (X.2.2.2.2.2.1 _ hlink) (fun _ h9 => h9) rfl hdg kk
theorem gf_Mo_hasResult (X : cx g p s m meth c args own cc nL ret) (hP : va_P g.1 vcl (cw g V) H) (hlink : Cond.fieldLink own idx R_Mo "hasResult" "Z" ∈ TBL) (hdg : decode cc pc = .ok (.getfield idx, 3)) (kk : W p l e R s m args below meth c H locs cells slots Q (F0 m (pc + 3) ls (.int (V.1 34 25) :: rest))) : W p l e R s m args below meth c H locs cells slots Q (F0 m pc ls (.ref (ga g 34) :: rest)) :=
  va_get (D := g.1) (ci := 6) (v := .int (V.1 34 25)) (C := R_Mo) (T := T_Mo) (N := 30) X.1 X.2.1 X.2.2.2.2.2.1 in_Mo X.2.2.2.2.1 X.2.2.2.2.2.2.2.1 hP 34 (cw_at (e := .inr (6, [.ref (ga g 35), .ref (ga g 36), .ref (ga g 37), .ref (ga g 38), .ref (ga g 39), .ref (ga g 40), .int (V.1 34 6), .int (V.1 34 7), .int (V.1 34 8), .ref (ga g 41), .ref (ga g 42), .int (V.1 34 11), .int (V.1 34 12), .int (V.1 34 13), .ref (ga g 43), .ref (ga g 44), .ref (ga g 45), .ref (ga g 46), .int (V.1 34 18), .int (V.1 34 19), .int (V.1 34 20), .int (V.1 34 21), .int (V.1 34 22), .ref (ga g 47), .ref (ga g 48), .int (V.1 34 25), .int (V.1 34 26), .int (V.1 34 27), .int (V.1 34 28), .int (V.1 34 29)])) (by decide) rfl) rfl 25 (by decide) (X.2.2.2.2.2.1 _ hlink) (fun _ h9 => h9) rfl hdg kk
theorem pf_Mo_hasResult (X : cx g p s m meth c args own cc nL ret) (hP : va_P g.1 vcl (cw g V) H) (hS : va_S (gA g) s.heap H locs) (hlink : Cond.fieldLink own idx R_Mo "hasResult" "Z" ∈ TBL) {x : Int32} (hx : x = 0 ∨ x = 1) (hdg : decode cc pc = .ok (.putfield idx, 3)) (kk : ∀ (V1 : vS) (H1 : Heap) (locs1 : List Loc), V1 = sv V (34) 25 x → va_P g.1 vcl (cw g V1) H1 → va_S (gA g) s.heap H1 locs1 → W p l e R s m args below meth c H1 locs1 cells slots Q (F0 m (pc + 3) ls rest)) : W p l e R s m args below meth c H locs cells slots Q (F0 m pc ls (.int x :: .ref (ga g 34) :: rest)) := by
  refine va_put (D := g.1) (ci := 6) (v := .int x) (ty := .boolean) (C := R_Mo) (T := T_Mo) (N := 30) X.1 X.2.1 X.2.2.2.2.2.1 in_Mo ty_Mo ty_Mo_ok nm_Mo X.2.2.2.2.1 X.2.2.2.2.2.2.2.1 hP (cw_D X.2.2.2.2.2.2.2.2.2) hS 34 (cw_at (e := .inr (6, [.ref (ga g 35), .ref (ga g 36), .ref (ga g 37), .ref (ga g 38), .ref (ga g 39), .ref (ga g 40), .int (V.1 34 6), .int (V.1 34 7), .int (V.1 34 8), .ref (ga g 41), .ref (ga g 42), .int (V.1 34 11), .int (V.1 34 12), .int (V.1 34 13), .ref (ga g 43), .ref (ga g 44), .ref (ga g 45), .ref (ga g 46), .int (V.1 34 18), .int (V.1 34 19), .int (V.1 34 20), .int (V.1 34 21), .int (V.1 34 22), .ref (ga g 47), .ref (ga g 48), .int (V.1 34 25), .int (V.1 34 26), .int (V.1 34 27), .int (V.1 34 28), .int (V.1 34 29)])) (by decide) rfl) rfl 25 (by decide) (X.2.2.2.2.2.1 _ hlink) (fun _ h9 => h9) rfl (by decide +kernel) (rw_bit hx).1 (rw_bit hx).2 (Nat.le_of_ble_eq_true rfl) hdg (fun H1 locs1 h1 h2 h3 => kk _ H1 locs1 rfl ?_ h3)
  have h1 : va_P g.1 vcl ((cw g V).set 34 (ga g 34, ce g (sv V 34 25 x) 34)) H1 := h1
  rwa [cw_sv (by decide) rfl] at h1
theorem gf_Mo_result (X : cx g p s m meth c args own cc nL ret) (hP : va_P g.1 vcl (cw g V) H) (hlink : Cond.fieldLink own idx R_Mo "result" "I" ∈ TBL) (hdg : decode cc pc = .ok (.getfield idx, 3)) (kk : W p l e R s m args below meth c H locs cells slots Q (F0 m (pc + 3) ls (.int (V.1 34 26) :: rest))) : W p l e R s m args below meth c H locs cells slots Q (F0 m pc ls (.ref (ga g 34) :: rest)) :=
  va_get (D := g.1) (ci := 6) (v := .int (V.1 34 26)) (C := R_Mo) (T := T_Mo) (N := 30) X.1 X.2.1 X.2.2.2.2.2.1 in_Mo X.2.2.2.2.1 X.2.2.2.2.2.2.2.1 hP 34 (cw_at (e := .inr (6, [.ref (ga g 35), .ref (ga g 36), .ref (ga g 37), .ref (ga g 38), .ref (ga g 39), .ref (ga g 40), .int (V.1 34 6), .int (V.1 34 7), .int (V.1 34 8), .ref (ga g 41), .ref (ga g 42), .int (V.1 34 11), .int (V.1 34 12), .int (V.1 34 13), .ref (ga g 43), .ref (ga g 44), .ref (ga g 45), .ref (ga g 46), .int (V.1 34 18), .int (V.1 34 19), .int (V.1 34 20), .int (V.1 34 21), .int (V.1 34 22), .ref (ga g 47), .ref (ga g 48), .int (V.1 34 25), .int (V.1 34 26), .int (V.1 34 27), .int (V.1 34 28), .int (V.1 34 29)])) (by decide) rfl) rfl 26 (by decide) (X.2.2.2.2.2.1 _ hlink) (fun _ h9 => h9) rfl hdg kk
theorem pf_Mo_result (X : cx g p s m meth c args own cc nL ret) (hP : va_P g.1 vcl (cw g V) H) (hS : va_S (gA g) s.heap H locs) (hlink : Cond.fieldLink own idx R_Mo "result" "I" ∈ TBL) {x : Int32} (hdg : decode cc pc = .ok (.putfield idx, 3)) (kk : ∀ (V1 : vS) (H1 : Heap) (locs1 : List Loc), V1 = sv V (34) 26 x → va_P g.1 vcl (cw g V1) H1 → va_S (gA g) s.heap H1 locs1 → W p l e R s m args below meth c H1 locs1 cells slots Q (F0 m (pc + 3) ls rest)) : W p l e R s m args below meth c H locs cells slots Q (F0 m pc ls (.int x :: .ref (ga g 34) :: rest)) := by
  refine va_put (D := g.1) (ci := 6) (v := .int x) (ty := .int) (C := R_Mo) (T := T_Mo) (N := 30) X.1 X.2.1 X.2.2.2.2.2.1 in_Mo ty_Mo ty_Mo_ok nm_Mo X.2.2.2.2.1 X.2.2.2.2.2.2.2.1 hP (cw_D X.2.2.2.2.2.2.2.2.2) hS 34 (cw_at (e := .inr (6, [.ref (ga g 35), .ref (ga g 36), .ref (ga g 37), .ref (ga g 38), .ref (ga g 39), .ref (ga g 40), .int (V.1 34 6), .int (V.1 34 7), .int (V.1 34 8), .ref (ga g 41), .ref (ga g 42), .int (V.1 34 11), .int (V.1 34 12), .int (V.1 34 13), .ref (ga g 43), .ref (ga g 44), .ref (ga g 45), .ref (ga g 46), .int (V.1 34 18), .int (V.1 34 19), .int (V.1 34 20), .int (V.1 34 21), .int (V.1 34 22), .ref (ga g 47), .ref (ga g 48), .int (V.1 34 25), .int (V.1 34 26), .int (V.1 34 27), .int (V.1 34 28), .int (V.1 34 29)])) (by decide) rfl) rfl 26 (by decide) (X.2.2.2.2.2.1 _ hlink) (fun _ h9 => h9) rfl (by decide +kernel) rfl rfl (Nat.le_of_ble_eq_true rfl) hdg (fun H1 locs1 h1 h2 h3 => kk _ H1 locs1 rfl ?_ h3)
  have h1 : va_P g.1 vcl ((cw g V).set 34 (ga g 34, ce g (sv V 34 26 x) 34)) H1 := h1
  rwa [cw_sv (by decide) rfl] at h1
theorem gf_Mo_fuelUsed (X : cx g p s m meth c args own cc nL ret) (hP : va_P g.1 vcl (cw g V) H) (hlink : Cond.fieldLink own idx R_Mo "fuelUsed" "I" ∈ TBL) (hdg : decode cc pc = .ok (.getfield idx, 3)) (kk : W p l e R s m args below meth c H locs cells slots Q (F0 m (pc + 3) ls (.int (V.1 34 27) :: rest))) : W p l e R s m args below meth c H locs cells slots Q (F0 m pc ls (.ref (ga g 34) :: rest)) :=
  va_get (D := g.1) (ci := 6) (v := .int (V.1 34 27)) (C := R_Mo) (T := T_Mo) (N := 30) X.1 X.2.1 X.2.2.2.2.2.1 in_Mo X.2.2.2.2.1 X.2.2.2.2.2.2.2.1 hP 34 (cw_at (e := .inr (6, [.ref (ga g 35), .ref (ga g 36), .ref (ga g 37), .ref (ga g 38), .ref (ga g 39), .ref (ga g 40), .int (V.1 34 6), .int (V.1 34 7), .int (V.1 34 8), .ref (ga g 41), .ref (ga g 42), .int (V.1 34 11), .int (V.1 34 12), .int (V.1 34 13), .ref (ga g 43), .ref (ga g 44), .ref (ga g 45), .ref (ga g 46), .int (V.1 34 18), .int (V.1 34 19), .int (V.1 34 20), .int (V.1 34 21), .int (V.1 34 22), .ref (ga g 47), .ref (ga g 48), .int (V.1 34 25), .int (V.1 34 26), .int (V.1 34 27), .int (V.1 34 28), .int (V.1 34 29)])) (by decide) rfl) rfl 27 (by decide) (X.2.2.2.2.2.1 _ hlink) (fun _ h9 => h9) rfl hdg kk
theorem pf_Mo_fuelUsed (X : cx g p s m meth c args own cc nL ret) (hP : va_P g.1 vcl (cw g V) H) (hS : va_S (gA g) s.heap H locs) (hlink : Cond.fieldLink own idx R_Mo "fuelUsed" "I" ∈ TBL) {x : Int32} (hdg : decode cc pc = .ok (.putfield idx, 3)) (kk : ∀ (V1 : vS) (H1 : Heap) (locs1 : List Loc), V1 = sv V (34) 27 x → va_P g.1 vcl (cw g V1) H1 → va_S (gA g) s.heap H1 locs1 → W p l e R s m args below meth c H1 locs1 cells slots Q (F0 m (pc + 3) ls rest)) : W p l e R s m args below meth c H locs cells slots Q (F0 m pc ls (.int x :: .ref (ga g 34) :: rest)) := by
  refine va_put (D := g.1) (ci := 6) (v := .int x) (ty := .int) (C := R_Mo) (T := T_Mo) (N := 30) X.1 X.2.1 X.2.2.2.2.2.1 in_Mo ty_Mo ty_Mo_ok nm_Mo X.2.2.2.2.1 X.2.2.2.2.2.2.2.1 hP (cw_D X.2.2.2.2.2.2.2.2.2) hS 34 (cw_at (e := .inr (6, [.ref (ga g 35), .ref (ga g 36), .ref (ga g 37), .ref (ga g 38), .ref (ga g 39), .ref (ga g 40), .int (V.1 34 6), .int (V.1 34 7), .int (V.1 34 8), .ref (ga g 41), .ref (ga g 42), .int (V.1 34 11), .int (V.1 34 12), .int (V.1 34 13), .ref (ga g 43), .ref (ga g 44), .ref (ga g 45), .ref (ga g 46), .int (V.1 34 18), .int (V.1 34 19), .int (V.1 34 20), .int (V.1 34 21), .int (V.1 34 22), .ref (ga g 47), .ref (ga g 48), .int (V.1 34 25), .int (V.1 34 26), .int (V.1 34 27), .int (V.1 34 28), .int (V.1 34 29)])) (by decide) rfl) rfl 27 (by decide) (X.2.2.2.2.2.1 _ hlink) (fun _ h9 => h9) rfl (by decide +kernel) rfl rfl (Nat.le_of_ble_eq_true rfl) hdg (fun H1 locs1 h1 h2 h3 => kk _ H1 locs1 rfl ?_ h3)
  have h1 : va_P g.1 vcl ((cw g V).set 34 (ga g 34, ce g (sv V 34 27 x) 34)) H1 := h1
  rwa [cw_sv (by decide) rfl] at h1
theorem gf_Mo_ended (X : cx g p s m meth c args own cc nL ret) (hP : va_P g.1 vcl (cw g V) H) (hlink : Cond.fieldLink own idx R_Mo "ended" "I" ∈ TBL) (hdg : decode cc pc = .ok (.getfield idx, 3)) (kk : W p l e R s m args below meth c H locs cells slots Q (F0 m (pc + 3) ls (.int (V.1 34 28) :: rest))) : W p l e R s m args below meth c H locs cells slots Q (F0 m pc ls (.ref (ga g 34) :: rest)) :=
  va_get (D := g.1) (ci := 6) (v := .int (V.1 34 28)) (C := R_Mo) (T := T_Mo) (N := 30) X.1 X.2.1 X.2.2.2.2.2.1 in_Mo X.2.2.2.2.1 X.2.2.2.2.2.2.2.1 hP 34 (cw_at (e := .inr (6, [.ref (ga g 35), .ref (ga g 36), .ref (ga g 37), .ref (ga g 38), .ref (ga g 39), .ref (ga g 40), .int (V.1 34 6), .int (V.1 34 7), .int (V.1 34 8), .ref (ga g 41), .ref (ga g 42), .int (V.1 34 11), .int (V.1 34 12), .int (V.1 34 13), .ref (ga g 43), .ref (ga g 44), .ref (ga g 45), .ref (ga g 46), .int (V.1 34 18), .int (V.1 34 19), .int (V.1 34 20), .int (V.1 34 21), .int (V.1 34 22), .ref (ga g 47), .ref (ga g 48), .int (V.1 34 25), .int (V.1 34 26), .int (V.1 34 27), .int (V.1 34 28), .int (V.1 34 29)])) (by decide) rfl) rfl 28 (by decide) (X.2.2.2.2.2.1 _ hlink) (fun _ h9 => h9) rfl hdg kk
theorem pf_Mo_ended (X : cx g p s m meth c args own cc nL ret) (hP : va_P g.1 vcl (cw g V) H) (hS : va_S (gA g) s.heap H locs) (hlink : Cond.fieldLink own idx R_Mo "ended" "I" ∈ TBL) {x : Int32} (hdg : decode cc pc = .ok (.putfield idx, 3)) (kk : ∀ (V1 : vS) (H1 : Heap) (locs1 : List Loc), V1 = sv V (34) 28 x → va_P g.1 vcl (cw g V1) H1 → va_S (gA g) s.heap H1 locs1 → W p l e R s m args below meth c H1 locs1 cells slots Q (F0 m (pc + 3) ls rest)) : W p l e R s m args below meth c H locs cells slots Q (F0 m pc ls (.int x :: .ref (ga g 34) :: rest)) := by
  refine va_put (D := g.1) (ci := 6) (v := .int x) (ty := .int) (C := R_Mo) (T := T_Mo) (N := 30) X.1 X.2.1 X.2.2.2.2.2.1 in_Mo ty_Mo ty_Mo_ok nm_Mo X.2.2.2.2.1 X.2.2.2.2.2.2.2.1 hP (cw_D X.2.2.2.2.2.2.2.2.2) hS 34 (cw_at (e := .inr (6, [.ref (ga g 35), .ref (ga g 36), .ref (ga g 37), .ref (ga g 38), .ref (ga g 39), .ref (ga g 40), .int (V.1 34 6), .int (V.1 34 7), .int (V.1 34 8), .ref (ga g 41), .ref (ga g 42), .int (V.1 34 11), .int (V.1 34 12), .int (V.1 34 13), .ref (ga g 43), .ref (ga g 44), .ref (ga g 45), .ref (ga g 46), .int (V.1 34 18), .int (V.1 34 19), .int (V.1 34 20), .int (V.1 34 21), .int (V.1 34 22), .ref (ga g 47), .ref (ga g 48), .int (V.1 34 25), .int (V.1 34 26), .int (V.1 34 27), .int (V.1 34 28), .int (V.1 34 29)])) (by decide) rfl) rfl 28 (by decide) (X.2.2.2.2.2.1 _ hlink) (fun _ h9 => h9) rfl (by decide +kernel) rfl rfl (Nat.le_of_ble_eq_true rfl) hdg (fun H1 locs1 h1 h2 h3 => kk _ H1 locs1 rfl ?_ h3)
  have h1 : va_P g.1 vcl ((cw g V).set 34 (ga g 34, ce g (sv V 34 28 x) 34)) H1 := h1
  rwa [cw_sv (by decide) rfl] at h1
theorem gf_Mo_trapped (X : cx g p s m meth c args own cc nL ret) (hP : va_P g.1 vcl (cw g V) H) (hlink : Cond.fieldLink own idx R_Mo "trapped" "I" ∈ TBL) (hdg : decode cc pc = .ok (.getfield idx, 3)) (kk : W p l e R s m args below meth c H locs cells slots Q (F0 m (pc + 3) ls (.int (V.1 34 29) :: rest))) : W p l e R s m args below meth c H locs cells slots Q (F0 m pc ls (.ref (ga g 34) :: rest)) :=
  va_get (D := g.1) (ci := 6) (v := .int (V.1 34 29)) (C := R_Mo) (T := T_Mo) (N := 30) X.1 X.2.1 X.2.2.2.2.2.1 in_Mo X.2.2.2.2.1 X.2.2.2.2.2.2.2.1 hP 34 (cw_at (e := .inr (6, [.ref (ga g 35), .ref (ga g 36), .ref (ga g 37), .ref (ga g 38), .ref (ga g 39), .ref (ga g 40), .int (V.1 34 6), .int (V.1 34 7), .int (V.1 34 8), .ref (ga g 41), .ref (ga g 42), .int (V.1 34 11), .int (V.1 34 12), .int (V.1 34 13), .ref (ga g 43), .ref (ga g 44), .ref (ga g 45), .ref (ga g 46), .int (V.1 34 18), .int (V.1 34 19), .int (V.1 34 20), .int (V.1 34 21), .int (V.1 34 22), .ref (ga g 47), .ref (ga g 48), .int (V.1 34 25), .int (V.1 34 26), .int (V.1 34 27), .int (V.1 34 28), .int (V.1 34 29)])) (by decide) rfl) rfl 29 (by decide) (X.2.2.2.2.2.1 _ hlink) (fun _ h9 => h9) rfl hdg kk
theorem pf_Mo_trapped (X : cx g p s m meth c args own cc nL ret) (hP : va_P g.1 vcl (cw g V) H) (hS : va_S (gA g) s.heap H locs) (hlink : Cond.fieldLink own idx R_Mo "trapped" "I" ∈ TBL) {x : Int32} (hdg : decode cc pc = .ok (.putfield idx, 3)) (kk : ∀ (V1 : vS) (H1 : Heap) (locs1 : List Loc), V1 = sv V (34) 29 x → va_P g.1 vcl (cw g V1) H1 → va_S (gA g) s.heap H1 locs1 → W p l e R s m args below meth c H1 locs1 cells slots Q (F0 m (pc + 3) ls rest)) : W p l e R s m args below meth c H locs cells slots Q (F0 m pc ls (.int x :: .ref (ga g 34) :: rest)) := by
  refine va_put (D := g.1) (ci := 6) (v := .int x) (ty := .int) (C := R_Mo) (T := T_Mo) (N := 30) X.1 X.2.1 X.2.2.2.2.2.1 in_Mo ty_Mo ty_Mo_ok nm_Mo X.2.2.2.2.1 X.2.2.2.2.2.2.2.1 hP (cw_D X.2.2.2.2.2.2.2.2.2) hS 34 (cw_at (e := .inr (6, [.ref (ga g 35), .ref (ga g 36), .ref (ga g 37), .ref (ga g 38), .ref (ga g 39), .ref (ga g 40), .int (V.1 34 6), .int (V.1 34 7), .int (V.1 34 8), .ref (ga g 41), .ref (ga g 42), .int (V.1 34 11), .int (V.1 34 12), .int (V.1 34 13), .ref (ga g 43), .ref (ga g 44), .ref (ga g 45), .ref (ga g 46), .int (V.1 34 18), .int (V.1 34 19), .int (V.1 34 20), .int (V.1 34 21), .int (V.1 34 22), .ref (ga g 47), .ref (ga g 48), .int (V.1 34 25), .int (V.1 34 26), .int (V.1 34 27), .int (V.1 34 28), .int (V.1 34 29)])) (by decide) rfl) rfl 29 (by decide) (X.2.2.2.2.2.1 _ hlink) (fun _ h9 => h9) rfl (by decide +kernel) rfl rfl (Nat.le_of_ble_eq_true rfl) hdg (fun H1 locs1 h1 h2 h3 => kk _ H1 locs1 rfl ?_ h3)
  have h1 : va_P g.1 vcl ((cw g V).set 34 (ga g 34, ce g (sv V 34 29 x) 34)) H1 := h1
  rwa [cw_sv (by decide) rfl] at h1
theorem gs_TAKES (X : cx g p s m meth c args own cc nL ret) (hS : va_S (gA g) s.heap H locs) {ref host : String} (hlink : va_Nw (.fieldLinkNest own idx R_Op "TAKES" "[I" host) s) (hdg : decode cc pc = .ok (.getstatic idx, 3)) (kk : W p l e R s m args below meth c H locs cells slots Q (F0 m (pc + 3) ls (.ref (gtT g) :: rest))) : W p l e R s m args below meth c H locs cells slots Q (F0 m pc ls rest) :=
  va_getsN X.1 X.2.1 X.2.2.2.2.2.2.2.2.1.1 hS X.2.2.2.2.1 (va_Nw.use rfl hlink) (fun _ h9 => h9) hdg kk
theorem gs_PUTS (X : cx g p s m meth c args own cc nL ret) (hS : va_S (gA g) s.heap H locs) {ref host : String} (hlink : va_Nw (.fieldLinkNest own idx R_Op "PUTS" "[I" host) s) (hdg : decode cc pc = .ok (.getstatic idx, 3)) (kk : W p l e R s m args below meth c H locs cells slots Q (F0 m (pc + 3) ls (.ref (gtP g) :: rest))) : W p l e R s m args below meth c H locs cells slots Q (F0 m pc ls rest) :=
  va_getsN X.1 X.2.1 X.2.2.2.2.2.2.2.2.1.2.2.1 hS X.2.2.2.2.1 (va_Nw.use rfl hlink) (fun _ h9 => h9) hdg kk
theorem gl_TAKES (X : cx g p s m meth c args own cc nL ret) (hS : va_S (gA g) s.heap H locs) {i : Int32} (hin : vp_in i 20) (hdg : decode cc pc = .ok (.iaload, 1)) (kk : W p l e R s m args below meth c H locs cells slots Q (F0 m (pc + 1) ls (.int (tTakes (nt i)) :: rest))) : W p l e R s m args below meth c H locs cells slots Q (F0 m pc ls (.int i :: .ref (gtT g) :: rest)) :=
  va_ti X.1 X.2.1 X.2.2.2.2.2.2.2.2.1.2.1 hS hin rfl hdg kk
theorem gl_PUTS (X : cx g p s m meth c args own cc nL ret) (hS : va_S (gA g) s.heap H locs) {i : Int32} (hin : vp_in i 20) (hdg : decode cc pc = .ok (.iaload, 1)) (kk : W p l e R s m args below meth c H locs cells slots Q (F0 m (pc + 1) ls (.int (tPuts (nt i)) :: rest))) : W p l e R s m args below meth c H locs cells slots Q (F0 m pc ls (.int i :: .ref (gtP g) :: rest)) :=
  va_ti X.1 X.2.1 X.2.2.2.2.2.2.2.2.1.2.2.2.1 hS hin rfl hdg kk
end FLD
end
section
section MM
variable {p : Program} {l : Launch} {e : Env} {s : State} {m : MethodId} {args : Array Value} {below : List Frame} {meth : Method} {c : Code} {H : Heap} {locs : List Loc}
variable {g : gT} {ls : Array Slot}
/-! PR.within -/
theorem d_PR_within_0 : decode prog_1_method_17_code 0 = .ok (.iload_n 0, 1) := by decide +kernel
theorem d_PR_within_1 : decode prog_1_method_17_code 1 = .ok (.ifCond .lt 12, 3) := by decide +kernel
theorem d_PR_within_4 : decode prog_1_method_17_code 4 = .ok (.iload_n 0, 1) := by decide +kernel
theorem d_PR_within_5 : decode prog_1_method_17_code 5 = .ok (.iload_n 1, 1) := by decide +kernel
theorem d_PR_within_6 : decode prog_1_method_17_code 6 = .ok (.if_icmp .gt 7, 3) := by decide +kernel
theorem d_PR_within_9 : decode prog_1_method_17_code 9 = .ok (.iconst 1, 1) := by decide +kernel
theorem d_PR_within_10 : decode prog_1_method_17_code 10 = .ok (.goto 4, 3) := by decide +kernel
theorem d_PR_within_13 : decode prog_1_method_17_code 13 = .ok (.iconst 0, 1) := by decide +kernel
theorem d_PR_within_14 : decode prog_1_method_17_code 14 = .ok (.ireturn, 1) := by decide +kernel
abbrev rm_PR_within : Room := { frames := 0, cells := 0, slots := 0, locals := 0 }
def p_PR_within_b14 (k : Int32 → vS → Prop) (V : vS) (s0 : Int32) : Prop := (s0 = 0 ∨ s0 = 1) ∧ (k s0 V)
set_option maxRecDepth 100000 in
set_option maxHeartbeats 4000000 in
theorem t_PR_within_b14 {k : Int32 → vS → Prop} (X : cx g p s m meth c args R_PR prog_1_method_17_code 2 (some .boolean)) {V : vS} {s0 : Int32} (h : p_PR_within_b14 k V s0) (hP : va_P g.1 vcl (cw g V) H) (hS : va_S (gA g) s.heap H locs) (hl : lv_has ls 2 []) : W p l e rm_PR_within s m args below meth c H locs 0 0 (MQ below (va_Qi k (Bw g) (gA g)) args s 0 0 (gA g)) (F0 m 14 ls [.int s0]) := by
  obtain ⟨hx, hb, -, -, hown, hts, -, -, hz, hG⟩ := id X
  unfold p_PR_within_b14 at h
  obtain ⟨hb1, h⟩ := h
  exact rw_zret X hP hS hb1 h d_PR_within_14
def p_PR_within_b13 (k : Int32 → vS → Prop) (V : vS) : Prop := p_PR_within_b14 k V 0
set_option maxRecDepth 100000 in
set_option maxHeartbeats 4000000 in
theorem t_PR_within_b13 {k : Int32 → vS → Prop} (X : cx g p s m meth c args R_PR prog_1_method_17_code 2 (some .boolean)) {V : vS} (h : p_PR_within_b13 k V) (hP : va_P g.1 vcl (cw g V) H) (hS : va_S (gA g) s.heap H locs) (hl : lv_has ls 2 []) : W p l e rm_PR_within s m args below meth c H locs 0 0 (MQ below (va_Qi k (Bw g) (gA g)) args s 0 0 (gA g)) (F0 m 13 ls []) := by
  obtain ⟨hx, hb, -, -, hown, hts, -, -, hz, hG⟩ := id X
  unfold p_PR_within_b13 at h
  refine lv_iconst (v := 0) hx hb d_PR_within_13 (by decide) ?_
  exact t_PR_within_b14 X h hP hS (lv_sub hl [] rfl)
def p_PR_within (k : Int32 → vS → Prop) (V : vS) (x0 : Int32) (x1 : Int32) : Prop := (x0 < 0 → (p_PR_within_b13 k V)) ∧ (¬ x0 < 0 → ((x1 < x0 → (p_PR_within_b13 k V)) ∧ (¬ x1 < x0 → (p_PR_within_b14 k V 1))))
set_option maxRecDepth 100000 in
set_option maxHeartbeats 4000000 in
theorem c_PR_within {l : Launch} {g : gT} (hG : gd g) {V : vS} {x0 : Int32} {x1 : Int32} {k : Int32 → vS → Prop} (h : p_PR_within k V x0 x1) : Ci g l y_PR_within prog_1_method_17_code 2 (some .boolean) rm_PR_within [.int x0, .int x1] V k := by
  unfold Ci
  refine Met.ofW (cc := prog_1_method_17_code) (maxL := 2) (ret := some .boolean) (by decide) rfl ?_
  intro p e s m args below meth c s₁ B hml hv
  obtain ⟨rfl, hP, hK, hZ⟩ := hv
  have X : cx g p s m meth c [.int x0, .int x1].toArray R_PR prog_1_method_17_code 2 (some .boolean) := ⟨B.exec, B.bytes, B.returns, hml, findClass_of_methodNamed B.named, fun w hw => atoms_spec (ws := Cond.code y_PR_within prog_1_method_17_code 2 (some .boolean) :: TBL) B.pre w (List.mem_cons_of_mem _ hw), B.notSynchronized, hK, hZ, hG⟩
  have hl := lv_entry [.int x0, .int x1] (n := 2) (Nat.le_of_ble_eq_true rfl)
  rw [lg_entry_eq]
  generalize (lg_sl [.int x0, .int x1] ++ List.replicate (2 - (lg_sl [.int x0, .int x1]).length) Slot.unset).toArray = ls at hl ⊢
  have hl : lv_has ls 2 [(0, .int x0), (1, .int x1)] := hl
  have hS : va_S (gA g) s.heap s.heap [] := va_S.rf
  obtain ⟨hx, hb, -, -, hown, hts, -, -, hz, -⟩ := id X
  show W p l e rm_PR_within s m _ below meth c s.heap [] 0 0 (MQ below (va_Qi k (Bw g) (gA g)) _ s 0 0 (gA g)) (F0 m 0 ls [])
  unfold p_PR_within at h
  refine lv_iload_n hx hb d_PR_within_0 rfl (lv_at hl 0 rfl) ?_
  refine lv_if_lt (tgt := 13) hx hb d_PR_within_1 (by decide) (fun c1 => ?_) (fun c1 => ?_)
  · have h := h.1 c1
    exact t_PR_within_b13 X h hP hS (lv_sub hl [] rfl)
  · have h := h.2 c1
    refine lv_iload_n hx hb d_PR_within_4 rfl (lv_at hl 0 rfl) ?_
    refine lv_iload_n hx hb d_PR_within_5 rfl (lv_at hl 1 rfl) ?_
    refine lv_icmp_gt (tgt := 13) hx hb d_PR_within_6 (by decide) (fun c2 => ?_) (fun c2 => ?_)
    · have h := h.1 c2
      exact t_PR_within_b13 X h hP hS (lv_sub hl [] rfl)
    · have h := h.2 c2
      refine lv_iconst (v := 1) hx hb d_PR_within_9 (by decide) ?_
      refine lv_goto (tgt := 14) hx hb d_PR_within_10 (by decide) ?_
      exact t_PR_within_b14 X h hP hS (lv_sub hl [] rfl)
theorem ys_PR_within : yS y_PR_within prog_1_method_17_code 2 (some .boolean) 2 := ⟨by decide +kernel, q_209, q_1, q_210⟩
/-! Op.opensPart -/
theorem d_Op_opensPart_0 : decode prog_7_method_2_code 0 = .ok (.iload_n 0, 1) := by decide +kernel
theorem d_Op_opensPart_1 : decode prog_7_method_2_code 1 = .ok (.bipush 12, 2) := by decide +kernel
theorem d_Op_opensPart_3 : decode prog_7_method_2_code 3 = .ok (.if_icmp .eq 9, 3) := by decide +kernel
theorem d_Op_opensPart_6 : decode prog_7_method_2_code 6 = .ok (.iload_n 0, 1) := by decide +kernel
theorem d_Op_opensPart_7 : decode prog_7_method_2_code 7 = .ok (.bipush 13, 2) := by decide +kernel
theorem d_Op_opensPart_9 : decode prog_7_method_2_code 9 = .ok (.if_icmp .ne 7, 3) := by decide +kernel
theorem d_Op_opensPart_12 : decode prog_7_method_2_code 12 = .ok (.iconst 1, 1) := by decide +kernel
theorem d_Op_opensPart_13 : decode prog_7_method_2_code 13 = .ok (.goto 4, 3) := by decide +kernel
theorem d_Op_opensPart_16 : decode prog_7_method_2_code 16 = .ok (.iconst 0, 1) := by decide +kernel
theorem d_Op_opensPart_17 : decode prog_7_method_2_code 17 = .ok (.ireturn, 1) := by decide +kernel
abbrev rm_Op_opensPart : Room := { frames := 0, cells := 0, slots := 0, locals := 0 }
def p_Op_opensPart_b17 (k : Int32 → vS → Prop) (V : vS) (s0 : Int32) : Prop := (s0 = 0 ∨ s0 = 1) ∧ (k s0 V)
set_option maxRecDepth 100000 in
set_option maxHeartbeats 4000000 in
theorem t_Op_opensPart_b17 {k : Int32 → vS → Prop} (X : cx g p s m meth c args R_Op prog_7_method_2_code 1 (some .boolean)) {V : vS} {s0 : Int32} (h : p_Op_opensPart_b17 k V s0) (hP : va_P g.1 vcl (cw g V) H) (hS : va_S (gA g) s.heap H locs) (hl : lv_has ls 1 []) : W p l e rm_Op_opensPart s m args below meth c H locs 0 0 (MQ below (va_Qi k (Bw g) (gA g)) args s 0 0 (gA g)) (F0 m 17 ls [.int s0]) := by
  obtain ⟨hx, hb, -, -, hown, hts, -, -, hz, hG⟩ := id X
  unfold p_Op_opensPart_b17 at h
  obtain ⟨hb1, h⟩ := h
  exact rw_zret X hP hS hb1 h d_Op_opensPart_17
def p_Op_opensPart_b12 (k : Int32 → vS → Prop) (V : vS) : Prop := p_Op_opensPart_b17 k V 1
set_option maxRecDepth 100000 in
set_option maxHeartbeats 4000000 in
theorem t_Op_opensPart_b12 {k : Int32 → vS → Prop} (X : cx g p s m meth c args R_Op prog_7_method_2_code 1 (some .boolean)) {V : vS} (h : p_Op_opensPart_b12 k V) (hP : va_P g.1 vcl (cw g V) H) (hS : va_S (gA g) s.heap H locs) (hl : lv_has ls 1 []) : W p l e rm_Op_opensPart s m args below meth c H locs 0 0 (MQ below (va_Qi k (Bw g) (gA g)) args s 0 0 (gA g)) (F0 m 12 ls []) := by
  obtain ⟨hx, hb, -, -, hown, hts, -, -, hz, hG⟩ := id X
  unfold p_Op_opensPart_b12 at h
  refine lv_iconst (v := 1) hx hb d_Op_opensPart_12 (by decide) ?_
  refine lv_goto (tgt := 17) hx hb d_Op_opensPart_13 (by decide) ?_
  exact t_Op_opensPart_b17 X h hP hS (lv_sub hl [] rfl)
def p_Op_opensPart (k : Int32 → vS → Prop) (V : vS) (x0 : Int32) : Prop := (x0 = 12 → (p_Op_opensPart_b12 k V)) ∧ (¬ x0 = 12 → ((x0 = 13 → (p_Op_opensPart_b12 k V)) ∧ (¬ x0 = 13 → (p_Op_opensPart_b17 k V 0))))
set_option maxRecDepth 100000 in
set_option maxHeartbeats 4000000 in
theorem c_Op_opensPart {l : Launch} {g : gT} (hG : gd g) {V : vS} {x0 : Int32} {k : Int32 → vS → Prop} (h : p_Op_opensPart k V x0) : Ci g l y_Op_opensPart prog_7_method_2_code 1 (some .boolean) rm_Op_opensPart [.int x0] V k := by
  unfold Ci
  refine Met.ofW (cc := prog_7_method_2_code) (maxL := 1) (ret := some .boolean) (by decide) rfl ?_
  intro p e s m args below meth c s₁ B hml hv
  obtain ⟨rfl, hP, hK, hZ⟩ := hv
  have X : cx g p s m meth c [.int x0].toArray R_Op prog_7_method_2_code 1 (some .boolean) := ⟨B.exec, B.bytes, B.returns, hml, findClass_of_methodNamed B.named, fun w hw => atoms_spec (ws := Cond.code y_Op_opensPart prog_7_method_2_code 1 (some .boolean) :: TBL) B.pre w (List.mem_cons_of_mem _ hw), B.notSynchronized, hK, hZ, hG⟩
  have hl := lv_entry [.int x0] (n := 1) (Nat.le_of_ble_eq_true rfl)
  rw [lg_entry_eq]
  generalize (lg_sl [.int x0] ++ List.replicate (1 - (lg_sl [.int x0]).length) Slot.unset).toArray = ls at hl ⊢
  have hl : lv_has ls 1 [(0, .int x0)] := hl
  have hS : va_S (gA g) s.heap s.heap [] := va_S.rf
  obtain ⟨hx, hb, -, -, hown, hts, -, -, hz, -⟩ := id X
  show W p l e rm_Op_opensPart s m _ below meth c s.heap [] 0 0 (MQ below (va_Qi k (Bw g) (gA g)) _ s 0 0 (gA g)) (F0 m 0 ls [])
  unfold p_Op_opensPart at h
  refine lv_iload_n hx hb d_Op_opensPart_0 rfl (lv_at hl 0 rfl) ?_
  refine lv_bipush (v := 12) hx hb d_Op_opensPart_1 (by decide) ?_
  refine lv_icmp_eq (tgt := 12) hx hb d_Op_opensPart_3 (by decide) (fun c1 => ?_) (fun c1 => ?_)
  · have h := h.1 c1
    exact t_Op_opensPart_b12 X h hP hS (lv_sub hl [] rfl)
  · have h := h.2 c1
    refine lv_iload_n hx hb d_Op_opensPart_6 rfl (lv_at hl 0 rfl) ?_
    refine lv_bipush (v := 13) hx hb d_Op_opensPart_7 (by decide) ?_
    refine lv_icmp_ne (tgt := 16) hx hb d_Op_opensPart_9 (by decide) (fun c2 => ?_) (fun c2 => ?_)
    · have h := h.2 c2
      refine lv_iconst (v := 0) hx hb d_Op_opensPart_16 (by decide) ?_
      exact t_Op_opensPart_b17 X h hP hS (lv_sub hl [] rfl)
    · have h := h.1 c2
      exact t_Op_opensPart_b12 X h hP hS (lv_sub hl [] rfl)
theorem ys_Op_opensPart : yS y_Op_opensPart prog_7_method_2_code 1 (some .boolean) 1 := ⟨by decide +kernel, q_293, q_8, q_294⟩
/-! Op.neverGoesOn -/
theorem d_Op_neverGoesOn_0 : decode prog_7_method_3_code 0 = .ok (.iload_n 0, 1) := by decide +kernel
theorem d_Op_neverGoesOn_1 : decode prog_7_method_3_code 1 = .ok (.bipush 15, 2) := by decide +kernel
theorem d_Op_neverGoesOn_3 : decode prog_7_method_3_code 3 = .ok (.if_icmp .eq 9, 3) := by decide +kernel
theorem d_Op_neverGoesOn_6 : decode prog_7_method_3_code 6 = .ok (.iload_n 0, 1) := by decide +kernel
theorem d_Op_neverGoesOn_7 : decode prog_7_method_3_code 7 = .ok (.bipush 19, 2) := by decide +kernel
theorem d_Op_neverGoesOn_9 : decode prog_7_method_3_code 9 = .ok (.if_icmp .ne 7, 3) := by decide +kernel
theorem d_Op_neverGoesOn_12 : decode prog_7_method_3_code 12 = .ok (.iconst 1, 1) := by decide +kernel
theorem d_Op_neverGoesOn_13 : decode prog_7_method_3_code 13 = .ok (.goto 4, 3) := by decide +kernel
theorem d_Op_neverGoesOn_16 : decode prog_7_method_3_code 16 = .ok (.iconst 0, 1) := by decide +kernel
theorem d_Op_neverGoesOn_17 : decode prog_7_method_3_code 17 = .ok (.ireturn, 1) := by decide +kernel
abbrev rm_Op_neverGoesOn : Room := { frames := 0, cells := 0, slots := 0, locals := 0 }
def p_Op_neverGoesOn_b17 (k : Int32 → vS → Prop) (V : vS) (s0 : Int32) : Prop := (s0 = 0 ∨ s0 = 1) ∧ (k s0 V)
set_option maxRecDepth 100000 in
set_option maxHeartbeats 4000000 in
theorem t_Op_neverGoesOn_b17 {k : Int32 → vS → Prop} (X : cx g p s m meth c args R_Op prog_7_method_3_code 1 (some .boolean)) {V : vS} {s0 : Int32} (h : p_Op_neverGoesOn_b17 k V s0) (hP : va_P g.1 vcl (cw g V) H) (hS : va_S (gA g) s.heap H locs) (hl : lv_has ls 1 []) : W p l e rm_Op_neverGoesOn s m args below meth c H locs 0 0 (MQ below (va_Qi k (Bw g) (gA g)) args s 0 0 (gA g)) (F0 m 17 ls [.int s0]) := by
  obtain ⟨hx, hb, -, -, hown, hts, -, -, hz, hG⟩ := id X
  unfold p_Op_neverGoesOn_b17 at h
  obtain ⟨hb1, h⟩ := h
  exact rw_zret X hP hS hb1 h d_Op_neverGoesOn_17
def p_Op_neverGoesOn_b12 (k : Int32 → vS → Prop) (V : vS) : Prop := p_Op_neverGoesOn_b17 k V 1
set_option maxRecDepth 100000 in
set_option maxHeartbeats 4000000 in
theorem t_Op_neverGoesOn_b12 {k : Int32 → vS → Prop} (X : cx g p s m meth c args R_Op prog_7_method_3_code 1 (some .boolean)) {V : vS} (h : p_Op_neverGoesOn_b12 k V) (hP : va_P g.1 vcl (cw g V) H) (hS : va_S (gA g) s.heap H locs) (hl : lv_has ls 1 []) : W p l e rm_Op_neverGoesOn s m args below meth c H locs 0 0 (MQ below (va_Qi k (Bw g) (gA g)) args s 0 0 (gA g)) (F0 m 12 ls []) := by
  obtain ⟨hx, hb, -, -, hown, hts, -, -, hz, hG⟩ := id X
  unfold p_Op_neverGoesOn_b12 at h
  refine lv_iconst (v := 1) hx hb d_Op_neverGoesOn_12 (by decide) ?_
  refine lv_goto (tgt := 17) hx hb d_Op_neverGoesOn_13 (by decide) ?_
  exact t_Op_neverGoesOn_b17 X h hP hS (lv_sub hl [] rfl)
def p_Op_neverGoesOn (k : Int32 → vS → Prop) (V : vS) (x0 : Int32) : Prop := (x0 = 15 → (p_Op_neverGoesOn_b12 k V)) ∧ (¬ x0 = 15 → ((x0 = 19 → (p_Op_neverGoesOn_b12 k V)) ∧ (¬ x0 = 19 → (p_Op_neverGoesOn_b17 k V 0))))
set_option maxRecDepth 100000 in
set_option maxHeartbeats 4000000 in
theorem c_Op_neverGoesOn {l : Launch} {g : gT} (hG : gd g) {V : vS} {x0 : Int32} {k : Int32 → vS → Prop} (h : p_Op_neverGoesOn k V x0) : Ci g l y_Op_neverGoesOn prog_7_method_3_code 1 (some .boolean) rm_Op_neverGoesOn [.int x0] V k := by
  unfold Ci
  refine Met.ofW (cc := prog_7_method_3_code) (maxL := 1) (ret := some .boolean) (by decide) rfl ?_
  intro p e s m args below meth c s₁ B hml hv
  obtain ⟨rfl, hP, hK, hZ⟩ := hv
  have X : cx g p s m meth c [.int x0].toArray R_Op prog_7_method_3_code 1 (some .boolean) := ⟨B.exec, B.bytes, B.returns, hml, findClass_of_methodNamed B.named, fun w hw => atoms_spec (ws := Cond.code y_Op_neverGoesOn prog_7_method_3_code 1 (some .boolean) :: TBL) B.pre w (List.mem_cons_of_mem _ hw), B.notSynchronized, hK, hZ, hG⟩
  have hl := lv_entry [.int x0] (n := 1) (Nat.le_of_ble_eq_true rfl)
  rw [lg_entry_eq]
  generalize (lg_sl [.int x0] ++ List.replicate (1 - (lg_sl [.int x0]).length) Slot.unset).toArray = ls at hl ⊢
  have hl : lv_has ls 1 [(0, .int x0)] := hl
  have hS : va_S (gA g) s.heap s.heap [] := va_S.rf
  obtain ⟨hx, hb, -, -, hown, hts, -, -, hz, -⟩ := id X
  show W p l e rm_Op_neverGoesOn s m _ below meth c s.heap [] 0 0 (MQ below (va_Qi k (Bw g) (gA g)) _ s 0 0 (gA g)) (F0 m 0 ls [])
  unfold p_Op_neverGoesOn at h
  refine lv_iload_n hx hb d_Op_neverGoesOn_0 rfl (lv_at hl 0 rfl) ?_
  refine lv_bipush (v := 15) hx hb d_Op_neverGoesOn_1 (by decide) ?_
  refine lv_icmp_eq (tgt := 12) hx hb d_Op_neverGoesOn_3 (by decide) (fun c1 => ?_) (fun c1 => ?_)
  · have h := h.1 c1
    exact t_Op_neverGoesOn_b12 X h hP hS (lv_sub hl [] rfl)
  · have h := h.2 c1
    refine lv_iload_n hx hb d_Op_neverGoesOn_6 rfl (lv_at hl 0 rfl) ?_
    refine lv_bipush (v := 19) hx hb d_Op_neverGoesOn_7 (by decide) ?_
    refine lv_icmp_ne (tgt := 16) hx hb d_Op_neverGoesOn_9 (by decide) (fun c2 => ?_) (fun c2 => ?_)
    · have h := h.2 c2
      refine lv_iconst (v := 0) hx hb d_Op_neverGoesOn_16 (by decide) ?_
      exact t_Op_neverGoesOn_b17 X h hP hS (lv_sub hl [] rfl)
    · have h := h.1 c2
      exact t_Op_neverGoesOn_b12 X h hP hS (lv_sub hl [] rfl)
theorem ys_Op_neverGoesOn : yS y_Op_neverGoesOn prog_7_method_3_code 1 (some .boolean) 1 := ⟨by decide +kernel, q_290, q_8, q_291⟩
/-! Mc.isCell -/
theorem d_Mc_isCell_0 : decode prog_6_method_16_code 0 = .ok (.lload_n 0, 1) := by decide +kernel
theorem d_Mc_isCell_1 : decode prog_6_method_16_code 1 = .ok (.lconst 0, 1) := by decide +kernel
theorem d_Mc_isCell_2 : decode prog_6_method_16_code 2 = .ok (.lcmp, 1) := by decide +kernel
theorem d_Mc_isCell_3 : decode prog_6_method_16_code 3 = .ok (.ifCond .lt 15, 3) := by decide +kernel
theorem d_Mc_isCell_6 : decode prog_6_method_16_code 6 = .ok (.lload_n 0, 1) := by decide +kernel
theorem d_Mc_isCell_7 : decode prog_6_method_16_code 7 = .ok (.ldc2_w 161, 3) := by decide +kernel
theorem d_Mc_isCell_10 : decode prog_6_method_16_code 10 = .ok (.lcmp, 1) := by decide +kernel
theorem d_Mc_isCell_11 : decode prog_6_method_16_code 11 = .ok (.ifCond .ge 7, 3) := by decide +kernel
theorem d_Mc_isCell_14 : decode prog_6_method_16_code 14 = .ok (.iconst 1, 1) := by decide +kernel
theorem d_Mc_isCell_15 : decode prog_6_method_16_code 15 = .ok (.goto 4, 3) := by decide +kernel
theorem d_Mc_isCell_18 : decode prog_6_method_16_code 18 = .ok (.iconst 0, 1) := by decide +kernel
theorem d_Mc_isCell_19 : decode prog_6_method_16_code 19 = .ok (.ireturn, 1) := by decide +kernel
abbrev rm_Mc_isCell : Room := { frames := 0, cells := 0, slots := 0, locals := 0 }
def p_Mc_isCell_b19 (k : Int32 → vS → Prop) (V : vS) (s0 : Int32) : Prop := (s0 = 0 ∨ s0 = 1) ∧ (k s0 V)
set_option maxRecDepth 100000 in
set_option maxHeartbeats 4000000 in
theorem t_Mc_isCell_b19 {k : Int32 → vS → Prop} (X : cx g p s m meth c args R_Mc prog_6_method_16_code 2 (some .boolean)) {V : vS} {s0 : Int32} (h : p_Mc_isCell_b19 k V s0) (hP : va_P g.1 vcl (cw g V) H) (hS : va_S (gA g) s.heap H locs) (hl : lv_has ls 2 []) : W p l e rm_Mc_isCell s m args below meth c H locs 0 0 (MQ below (va_Qi k (Bw g) (gA g)) args s 0 0 (gA g)) (F0 m 19 ls [.int s0]) := by
  obtain ⟨hx, hb, -, -, hown, hts, -, -, hz, hG⟩ := id X
  unfold p_Mc_isCell_b19 at h
  obtain ⟨hb1, h⟩ := h
  exact rw_zret X hP hS hb1 h d_Mc_isCell_19
def p_Mc_isCell_b18 (k : Int32 → vS → Prop) (V : vS) : Prop := p_Mc_isCell_b19 k V 0
set_option maxRecDepth 100000 in
set_option maxHeartbeats 4000000 in
theorem t_Mc_isCell_b18 {k : Int32 → vS → Prop} (X : cx g p s m meth c args R_Mc prog_6_method_16_code 2 (some .boolean)) {V : vS} (h : p_Mc_isCell_b18 k V) (hP : va_P g.1 vcl (cw g V) H) (hS : va_S (gA g) s.heap H locs) (hl : lv_has ls 2 []) : W p l e rm_Mc_isCell s m args below meth c H locs 0 0 (MQ below (va_Qi k (Bw g) (gA g)) args s 0 0 (gA g)) (F0 m 18 ls []) := by
  obtain ⟨hx, hb, -, -, hown, hts, -, -, hz, hG⟩ := id X
  unfold p_Mc_isCell_b18 at h
  refine lv_iconst (v := 0) hx hb d_Mc_isCell_18 (by decide) ?_
  exact t_Mc_isCell_b19 X h hP hS (lv_sub hl [] rfl)
def p_Mc_isCell (k : Int32 → vS → Prop) (V : vS) (x0 : Int64) : Prop := ((lg_cmp x0 0) < 0 → (p_Mc_isCell_b18 k V)) ∧ (¬ (lg_cmp x0 0) < 0 → ((0 ≤ (lg_cmp x0 32) → (p_Mc_isCell_b18 k V)) ∧ (¬ 0 ≤ (lg_cmp x0 32) → (p_Mc_isCell_b19 k V 1))))
set_option maxRecDepth 100000 in
set_option maxHeartbeats 4000000 in
theorem c_Mc_isCell {l : Launch} {g : gT} (hG : gd g) {V : vS} {x0 : Int64} {k : Int32 → vS → Prop} (h : p_Mc_isCell k V x0) : Ci g l y_Mc_isCell prog_6_method_16_code 2 (some .boolean) rm_Mc_isCell [.long x0] V k := by
  unfold Ci
  refine Met.ofW (cc := prog_6_method_16_code) (maxL := 2) (ret := some .boolean) (by decide) rfl ?_
  intro p e s m args below meth c s₁ B hml hv
  obtain ⟨rfl, hP, hK, hZ⟩ := hv
  have X : cx g p s m meth c [.long x0].toArray R_Mc prog_6_method_16_code 2 (some .boolean) := ⟨B.exec, B.bytes, B.returns, hml, findClass_of_methodNamed B.named, fun w hw => atoms_spec (ws := Cond.code y_Mc_isCell prog_6_method_16_code 2 (some .boolean) :: TBL) B.pre w (List.mem_cons_of_mem _ hw), B.notSynchronized, hK, hZ, hG⟩
  have hl := lv_entry [.long x0] (n := 2) (Nat.le_of_ble_eq_true rfl)
  rw [lg_entry_eq]
  generalize (lg_sl [.long x0] ++ List.replicate (2 - (lg_sl [.long x0]).length) Slot.unset).toArray = ls at hl ⊢
  have hl : lv_has ls 2 [(0, .long x0)] := hl
  have hS : va_S (gA g) s.heap s.heap [] := va_S.rf
  obtain ⟨hx, hb, -, -, hown, hts, -, -, hz, -⟩ := id X
  show W p l e rm_Mc_isCell s m _ below meth c s.heap [] 0 0 (MQ below (va_Qi k (Bw g) (gA g)) _ s 0 0 (gA g)) (F0 m 0 ls [])
  unfold p_Mc_isCell at h
  refine lv_lload_n hx hb d_Mc_isCell_0 rfl (lv_at hl 0 rfl) ?_
  refine lv_lconst (v := 0) hx hb d_Mc_isCell_1 (by decide) ?_
  refine W.lcmp hx hb d_Mc_isCell_2 ?_
  refine lv_if_lt (tgt := 18) hx hb d_Mc_isCell_3 (by decide) (fun c1 => ?_) (fun c1 => ?_)
  · have h := h.1 c1
    exact t_Mc_isCell_b18 X h hP hS (lv_sub hl [] rfl)
  · have h := h.2 c1
    refine lv_lload_n hx hb d_Mc_isCell_6 rfl (lv_at hl 0 rfl) ?_
    refine lv_ldc2 (v := 32) hx hb hown (hts _ q_372) d_Mc_isCell_7 ?_
    refine W.lcmp hx hb d_Mc_isCell_10 ?_
    refine lv_if_ge (tgt := 18) hx hb d_Mc_isCell_11 (by decide) (fun c2 => ?_) (fun c2 => ?_)
    · have h := h.1 c2
      exact t_Mc_isCell_b18 X h hP hS (lv_sub hl [] rfl)
    · have h := h.2 c2
      refine lv_iconst (v := 1) hx hb d_Mc_isCell_14 (by decide) ?_
      refine lv_goto (tgt := 19) hx hb d_Mc_isCell_15 (by decide) ?_
      exact t_Mc_isCell_b19 X h hP hS (lv_sub hl [] rfl)
theorem ys_Mc_isCell : yS y_Mc_isCell prog_6_method_16_code 2 (some .boolean) 1 := ⟨by decide +kernel, q_370, q_5, q_371⟩
/-! Mc.isUnderWay -/
theorem d_Mc_isUnderWay_0 : decode prog_6_method_2_code 0 = .ok (.aload_n 0, 1) := by decide +kernel
theorem d_Mc_isUnderWay_1 : decode prog_6_method_2_code 1 = .ok (.getfield 28, 3) := by decide +kernel
theorem d_Mc_isUnderWay_4 : decode prog_6_method_2_code 4 = .ok (.ifCond .le 7, 3) := by decide +kernel
theorem d_Mc_isUnderWay_7 : decode prog_6_method_2_code 7 = .ok (.iconst 1, 1) := by decide +kernel
theorem d_Mc_isUnderWay_8 : decode prog_6_method_2_code 8 = .ok (.goto 4, 3) := by decide +kernel
theorem d_Mc_isUnderWay_11 : decode prog_6_method_2_code 11 = .ok (.iconst 0, 1) := by decide +kernel
theorem d_Mc_isUnderWay_12 : decode prog_6_method_2_code 12 = .ok (.ireturn, 1) := by decide +kernel
abbrev rm_Mc_isUnderWay : Room := { frames := 0, cells := 0, slots := 0, locals := 0 }
def p_Mc_isUnderWay_b12 (k : Int32 → vS → Prop) (V : vS) (s0 : Int32) : Prop := (s0 = 0 ∨ s0 = 1) ∧ (k s0 V)
set_option maxRecDepth 100000 in
set_option maxHeartbeats 4000000 in
theorem t_Mc_isUnderWay_b12 {k : Int32 → vS → Prop} (X : cx g p s m meth c args R_Mc prog_6_method_2_code 1 (some .boolean)) {V : vS} {s0 : Int32} (h : p_Mc_isUnderWay_b12 k V s0) (hP : va_P g.1 vcl (cw g V) H) (hS : va_S (gA g) s.heap H locs) (hl : lv_has ls 1 []) : W p l e rm_Mc_isUnderWay s m args below meth c H locs 0 0 (MQ below (va_Qi k (Bw g) (gA g)) args s 0 0 (gA g)) (F0 m 12 ls [.int s0]) := by
  obtain ⟨hx, hb, -, -, hown, hts, -, -, hz, hG⟩ := id X
  unfold p_Mc_isUnderWay_b12 at h
  obtain ⟨hb1, h⟩ := h
  exact rw_zret X hP hS hb1 h d_Mc_isUnderWay_12
def p_Mc_isUnderWay (k : Int32 → vS → Prop) (V : vS) : Prop := ((V.1 17 5) ≤ 0 → (p_Mc_isUnderWay_b12 k V 0)) ∧ (¬ (V.1 17 5) ≤ 0 → (p_Mc_isUnderWay_b12 k V 1))
set_option maxRecDepth 100000 in
set_option maxHeartbeats 4000000 in
theorem c_Mc_isUnderWay {l : Launch} {g : gT} (hG : gd g) {V : vS} {k : Int32 → vS → Prop} (h : p_Mc_isUnderWay k V) : Ci g l y_Mc_isUnderWay prog_6_method_2_code 1 (some .boolean) rm_Mc_isUnderWay [.ref (ga g 17)] V k := by
  unfold Ci
  refine Met.ofW (cc := prog_6_method_2_code) (maxL := 1) (ret := some .boolean) (by decide) rfl ?_
  intro p e s m args below meth c s₁ B hml hv
  obtain ⟨rfl, hP, hK, hZ⟩ := hv
  have X : cx g p s m meth c [.ref (ga g 17)].toArray R_Mc prog_6_method_2_code 1 (some .boolean) := ⟨B.exec, B.bytes, B.returns, hml, findClass_of_methodNamed B.named, fun w hw => atoms_spec (ws := Cond.code y_Mc_isUnderWay prog_6_method_2_code 1 (some .boolean) :: TBL) B.pre w (List.mem_cons_of_mem _ hw), B.notSynchronized, hK, hZ, hG⟩
  have hl := lv_entry [.ref (ga g 17)] (n := 1) (Nat.le_of_ble_eq_true rfl)
  rw [lg_entry_eq]
  generalize (lg_sl [.ref (ga g 17)] ++ List.replicate (1 - (lg_sl [.ref (ga g 17)]).length) Slot.unset).toArray = ls at hl ⊢
  have hl : lv_has ls 1 [(0, .ref (ga g 17))] := hl
  have hS : va_S (gA g) s.heap s.heap [] := va_S.rf
  obtain ⟨hx, hb, -, -, hown, hts, -, -, hz, -⟩ := id X
  show W p l e rm_Mc_isUnderWay s m _ below meth c s.heap [] 0 0 (MQ below (va_Qi k (Bw g) (gA g)) _ s 0 0 (gA g)) (F0 m 0 ls [])
  unfold p_Mc_isUnderWay at h
  refine lv_aload_n hx hb d_Mc_isUnderWay_0 rfl (lv_at hl 0 rfl) ?_
  refine gf_Mc_depth X hP q_148 d_Mc_isUnderWay_1 ?_
  refine lv_if_le (tgt := 11) hx hb d_Mc_isUnderWay_4 (by decide) (fun c1 => ?_) (fun c1 => ?_)
  · have h := h.1 c1
    refine lv_iconst (v := 0) hx hb d_Mc_isUnderWay_11 (by decide) ?_
    exact t_Mc_isUnderWay_b12 X h hP hS (lv_sub hl [] rfl)
  · have h := h.2 c1
    refine lv_iconst (v := 1) hx hb d_Mc_isUnderWay_7 (by decide) ?_
    refine lv_goto (tgt := 12) hx hb d_Mc_isUnderWay_8 (by decide) ?_
    exact t_Mc_isUnderWay_b12 X h hP hS (lv_sub hl [] rfl)
theorem yv_Mc_isUnderWay : yV R_Mc y_Mc_isUnderWay prog_6_method_2_code 1 (some .boolean) 0 := ⟨by decide +kernel, q_325, q_326, q_5, q_327⟩
/-! Mc.isWaiting -/
theorem d_Mc_isWaiting_0 : decode prog_6_method_3_code 0 = .ok (.aload_n 0, 1) := by decide +kernel
theorem d_Mc_isWaiting_1 : decode prog_6_method_3_code 1 = .ok (.getfield 35, 3) := by decide +kernel
theorem d_Mc_isWaiting_4 : decode prog_6_method_3_code 4 = .ok (.iconst (-1), 1) := by decide +kernel
theorem d_Mc_isWaiting_5 : decode prog_6_method_3_code 5 = .ok (.if_icmp .eq 7, 3) := by decide +kernel
theorem d_Mc_isWaiting_8 : decode prog_6_method_3_code 8 = .ok (.iconst 1, 1) := by decide +kernel
theorem d_Mc_isWaiting_9 : decode prog_6_method_3_code 9 = .ok (.goto 4, 3) := by decide +kernel
theorem d_Mc_isWaiting_12 : decode prog_6_method_3_code 12 = .ok (.iconst 0, 1) := by decide +kernel
theorem d_Mc_isWaiting_13 : decode prog_6_method_3_code 13 = .ok (.ireturn, 1) := by decide +kernel
abbrev rm_Mc_isWaiting : Room := { frames := 0, cells := 0, slots := 0, locals := 0 }
def p_Mc_isWaiting_b13 (k : Int32 → vS → Prop) (V : vS) (s0 : Int32) : Prop := (s0 = 0 ∨ s0 = 1) ∧ (k s0 V)
set_option maxRecDepth 100000 in
set_option maxHeartbeats 4000000 in
theorem t_Mc_isWaiting_b13 {k : Int32 → vS → Prop} (X : cx g p s m meth c args R_Mc prog_6_method_3_code 1 (some .boolean)) {V : vS} {s0 : Int32} (h : p_Mc_isWaiting_b13 k V s0) (hP : va_P g.1 vcl (cw g V) H) (hS : va_S (gA g) s.heap H locs) (hl : lv_has ls 1 []) : W p l e rm_Mc_isWaiting s m args below meth c H locs 0 0 (MQ below (va_Qi k (Bw g) (gA g)) args s 0 0 (gA g)) (F0 m 13 ls [.int s0]) := by
  obtain ⟨hx, hb, -, -, hown, hts, -, -, hz, hG⟩ := id X
  unfold p_Mc_isWaiting_b13 at h
  obtain ⟨hb1, h⟩ := h
  exact rw_zret X hP hS hb1 h d_Mc_isWaiting_13
def p_Mc_isWaiting (k : Int32 → vS → Prop) (V : vS) : Prop := ((V.1 17 7) = (-1) → (p_Mc_isWaiting_b13 k V 0)) ∧ (¬ (V.1 17 7) = (-1) → (p_Mc_isWaiting_b13 k V 1))
set_option maxRecDepth 100000 in
set_option maxHeartbeats 4000000 in
theorem c_Mc_isWaiting {l : Launch} {g : gT} (hG : gd g) {V : vS} {k : Int32 → vS → Prop} (h : p_Mc_isWaiting k V) : Ci g l y_Mc_isWaiting prog_6_method_3_code 1 (some .boolean) rm_Mc_isWaiting [.ref (ga g 17)] V k := by
  unfold Ci
  refine Met.ofW (cc := prog_6_method_3_code) (maxL := 1) (ret := some .boolean) (by decide) rfl ?_
  intro p e s m args below meth c s₁ B hml hv
  obtain ⟨rfl, hP, hK, hZ⟩ := hv
  have X : cx g p s m meth c [.ref (ga g 17)].toArray R_Mc prog_6_method_3_code 1 (some .boolean) := ⟨B.exec, B.bytes, B.returns, hml, findClass_of_methodNamed B.named, fun w hw => atoms_spec (ws := Cond.code y_Mc_isWaiting prog_6_method_3_code 1 (some .boolean) :: TBL) B.pre w (List.mem_cons_of_mem _ hw), B.notSynchronized, hK, hZ, hG⟩
  have hl := lv_entry [.ref (ga g 17)] (n := 1) (Nat.le_of_ble_eq_true rfl)
  rw [lg_entry_eq]
  generalize (lg_sl [.ref (ga g 17)] ++ List.replicate (1 - (lg_sl [.ref (ga g 17)]).length) Slot.unset).toArray = ls at hl ⊢
  have hl : lv_has ls 1 [(0, .ref (ga g 17))] := hl
  have hS : va_S (gA g) s.heap s.heap [] := va_S.rf
  obtain ⟨hx, hb, -, -, hown, hts, -, -, hz, -⟩ := id X
  show W p l e rm_Mc_isWaiting s m _ below meth c s.heap [] 0 0 (MQ below (va_Qi k (Bw g) (gA g)) _ s 0 0 (gA g)) (F0 m 0 ls [])
  unfold p_Mc_isWaiting at h
  refine lv_aload_n hx hb d_Mc_isWaiting_0 rfl (lv_at hl 0 rfl) ?_
  refine gf_Mc_waitsFor X hP q_152 d_Mc_isWaiting_1 ?_
  refine lv_iconst (v := (-1)) hx hb d_Mc_isWaiting_4 (by decide) ?_
  refine lv_icmp_eq (tgt := 12) hx hb d_Mc_isWaiting_5 (by decide) (fun c1 => ?_) (fun c1 => ?_)
  · have h := h.1 c1
    refine lv_iconst (v := 0) hx hb d_Mc_isWaiting_12 (by decide) ?_
    exact t_Mc_isWaiting_b13 X h hP hS (lv_sub hl [] rfl)
  · have h := h.2 c1
    refine lv_iconst (v := 1) hx hb d_Mc_isWaiting_8 (by decide) ?_
    refine lv_goto (tgt := 13) hx hb d_Mc_isWaiting_9 (by decide) ?_
    exact t_Mc_isWaiting_b13 X h hP hS (lv_sub hl [] rfl)
theorem yv_Mc_isWaiting : yV R_Mc y_Mc_isWaiting prog_6_method_3_code 1 (some .boolean) 0 := ⟨by decide +kernel, q_329, q_330, q_5, q_331⟩
/-! Mc.innermost -/
theorem d_Mc_innermost_0 : decode prog_6_method_4_code 0 = .ok (.aload_n 0, 1) := by decide +kernel
theorem d_Mc_innermost_1 : decode prog_6_method_4_code 1 = .ok (.getfield 11, 3) := by decide +kernel
theorem d_Mc_innermost_4 : decode prog_6_method_4_code 4 = .ok (.aload_n 0, 1) := by decide +kernel
theorem d_Mc_innermost_5 : decode prog_6_method_4_code 5 = .ok (.getfield 28, 3) := by decide +kernel
theorem d_Mc_innermost_8 : decode prog_6_method_4_code 8 = .ok (.iconst 1, 1) := by decide +kernel
theorem d_Mc_innermost_9 : decode prog_6_method_4_code 9 = .ok (.isub, 1) := by decide +kernel
theorem d_Mc_innermost_10 : decode prog_6_method_4_code 10 = .ok (.aaload, 1) := by decide +kernel
theorem d_Mc_innermost_11 : decode prog_6_method_4_code 11 = .ok (.areturn, 1) := by decide +kernel
abbrev rm_Mc_innermost : Room := { frames := 0, cells := 0, slots := 0, locals := 0 }
def p_Mc_innermost (k : Nat → vS → Prop) (V : vS) : Prop := vp_in ((V.1 17 5) - 1) 6 ∧ (k (19 + nt ((V.1 17 5) - 1)) V)
set_option maxRecDepth 100000 in
set_option maxHeartbeats 4000000 in
theorem c_Mc_innermost {l : Launch} {g : gT} (hG : gd g) {V : vS} {k : Nat → vS → Prop} (h : p_Mc_innermost k V) : Cr g l y_Mc_innermost prog_6_method_4_code 1 (some (.object R_Fr)) rm_Mc_innermost [.ref (ga g 17)] V k := by
  unfold Cr
  refine Met.ofW (cc := prog_6_method_4_code) (maxL := 1) (ret := some (.object R_Fr)) (by decide) rfl ?_
  intro p e s m args below meth c s₁ B hml hv
  obtain ⟨rfl, hP, hK, hZ⟩ := hv
  have X : cx g p s m meth c [.ref (ga g 17)].toArray R_Mc prog_6_method_4_code 1 (some (.object R_Fr)) := ⟨B.exec, B.bytes, B.returns, hml, findClass_of_methodNamed B.named, fun w hw => atoms_spec (ws := Cond.code y_Mc_innermost prog_6_method_4_code 1 (some (.object R_Fr)) :: TBL) B.pre w (List.mem_cons_of_mem _ hw), B.notSynchronized, hK, hZ, hG⟩
  have hl := lv_entry [.ref (ga g 17)] (n := 1) (Nat.le_of_ble_eq_true rfl)
  rw [lg_entry_eq]
  generalize (lg_sl [.ref (ga g 17)] ++ List.replicate (1 - (lg_sl [.ref (ga g 17)]).length) Slot.unset).toArray = ls at hl ⊢
  have hl : lv_has ls 1 [(0, .ref (ga g 17))] := hl
  have hS : va_S (gA g) s.heap s.heap [] := va_S.rf
  obtain ⟨hx, hb, -, -, hown, hts, -, -, hz, -⟩ := id X
  show W p l e rm_Mc_innermost s m _ below meth c s.heap [] 0 0 (MQ below (va_Qr (S := Nat × vS) (fun u => (19 ≤ u.1 ∧ u.1 < 25) ∧ k u.1 u.2) (fun u a t => a = ga g u.1 ∧ Bw g u.2 t) (gA g)) _ s 0 0 (gA g)) (F0 m 0 ls [])
  unfold p_Mc_innermost at h
  refine lv_aload_n hx hb d_Mc_innermost_0 rfl (lv_at hl 0 rfl) ?_
  refine gf_Mc_frames X hP q_142 d_Mc_innermost_1 ?_
  refine lv_aload_n hx hb d_Mc_innermost_4 rfl (lv_at hl 0 rfl) ?_
  refine gf_Mc_depth X hP q_148 d_Mc_innermost_5 ?_
  refine lv_iconst (v := 1) hx hb d_Mc_innermost_8 (by decide) ?_
  refine lv_isub hx hb d_Mc_innermost_9 ?_
  obtain ⟨hi1, h⟩ := h
  refine rw_aaldR X hP hi1 d_Mc_innermost_10 ?_
  exact rw_aret X hP hS (fr_of hi1) h d_Mc_innermost_11
theorem yv_Mc_innermost : yV R_Mc y_Mc_innermost prog_6_method_4_code 1 (some (.object R_Fr)) 0 := ⟨by decide +kernel, q_341, q_342, q_5, q_343⟩
/-! Mc.stopWaiting -/
theorem d_Mc_stopWaiting_0 : decode prog_6_method_23_code 0 = .ok (.aload_n 0, 1) := by decide +kernel
theorem d_Mc_stopWaiting_1 : decode prog_6_method_23_code 1 = .ok (.iconst (-1), 1) := by decide +kernel
theorem d_Mc_stopWaiting_2 : decode prog_6_method_23_code 2 = .ok (.putfield 35, 3) := by decide +kernel
theorem d_Mc_stopWaiting_5 : decode prog_6_method_23_code 5 = .ok (.aload_n 0, 1) := by decide +kernel
theorem d_Mc_stopWaiting_6 : decode prog_6_method_23_code 6 = .ok (.iconst 0, 1) := by decide +kernel
theorem d_Mc_stopWaiting_7 : decode prog_6_method_23_code 7 = .ok (.putfield 38, 3) := by decide +kernel
theorem d_Mc_stopWaiting_10 : decode prog_6_method_23_code 10 = .ok (.return_, 1) := by decide +kernel
abbrev rm_Mc_stopWaiting : Room := { frames := 0, cells := 0, slots := 0, locals := 0 }
def p_Mc_stopWaiting (k : vS → Prop) (V : vS) : Prop := ∀ V1 : vS, V1 = sv V 17 7 (-1) → (∀ V2 : vS, V2 = sv V1 17 8 0 → (k V2))
set_option maxRecDepth 100000 in
set_option maxHeartbeats 4000000 in
theorem c_Mc_stopWaiting {l : Launch} {g : gT} (hG : gd g) {V : vS} {k : vS → Prop} (h : p_Mc_stopWaiting k V) : Cv g l y_Mc_stopWaiting prog_6_method_23_code 1 (none) rm_Mc_stopWaiting [.ref (ga g 17)] V k := by
  unfold Cv
  refine Met.ofW (cc := prog_6_method_23_code) (maxL := 1) (ret := none) (by decide) rfl ?_
  intro p e s m args below meth c s₁ B hml hv
  obtain ⟨rfl, hP, hK, hZ⟩ := hv
  have X : cx g p s m meth c [.ref (ga g 17)].toArray R_Mc prog_6_method_23_code 1 (none) := ⟨B.exec, B.bytes, B.returns, hml, findClass_of_methodNamed B.named, fun w hw => atoms_spec (ws := Cond.code y_Mc_stopWaiting prog_6_method_23_code 1 (none) :: TBL) B.pre w (List.mem_cons_of_mem _ hw), B.notSynchronized, hK, hZ, hG⟩
  have hl := lv_entry [.ref (ga g 17)] (n := 1) (Nat.le_of_ble_eq_true rfl)
  rw [lg_entry_eq]
  generalize (lg_sl [.ref (ga g 17)] ++ List.replicate (1 - (lg_sl [.ref (ga g 17)]).length) Slot.unset).toArray = ls at hl ⊢
  have hl : lv_has ls 1 [(0, .ref (ga g 17))] := hl
  have hS : va_S (gA g) s.heap s.heap [] := va_S.rf
  obtain ⟨hx, hb, -, -, hown, hts, -, -, hz, -⟩ := id X
  show W p l e rm_Mc_stopWaiting s m _ below meth c s.heap [] 0 0 (MQ below (va_Qv k (Bw g) (gA g)) _ s 0 0 (gA g)) (F0 m 0 ls [])
  unfold p_Mc_stopWaiting at h
  refine lv_aload_n hx hb d_Mc_stopWaiting_0 rfl (lv_at hl 0 rfl) ?_
  refine lv_iconst (v := (-1)) hx hb d_Mc_stopWaiting_1 (by decide) ?_
  refine pf_Mc_waitsFor X hP hS q_152 d_Mc_stopWaiting_2 (fun V1 H locs eV1 hP hS => ?_)
  have h := h V1 eV1
  refine lv_aload_n hx hb d_Mc_stopWaiting_5 rfl (lv_at hl 0 rfl) ?_
  refine lv_iconst (v := 0) hx hb d_Mc_stopWaiting_6 (by decide) ?_
  refine pf_Mc_asked X hP hS q_154 d_Mc_stopWaiting_7 (fun V2 H locs eV2 hP hS => ?_)
  have h := h V2 eV2
  exact rw_vret X hP hS h d_Mc_stopWaiting_10
theorem yv_Mc_stopWaiting : yV R_Mc y_Mc_stopWaiting prog_6_method_23_code 1 (none) 0 := ⟨by decide +kernel, q_221, qp_1, q_5, q_222⟩
/-! Mc.dropRun -/
theorem d_Mc_dropRun_0 : decode prog_6_method_5_code 0 = .ok (.aload_n 0, 1) := by decide +kernel
theorem d_Mc_dropRun_1 : decode prog_6_method_5_code 1 = .ok (.iconst 0, 1) := by decide +kernel
theorem d_Mc_dropRun_2 : decode prog_6_method_5_code 2 = .ok (.putfield 28, 3) := by decide +kernel
theorem d_Mc_dropRun_5 : decode prog_6_method_5_code 5 = .ok (.aload_n 0, 1) := by decide +kernel
theorem d_Mc_dropRun_6 : decode prog_6_method_5_code 6 = .ok (.iconst 0, 1) := by decide +kernel
theorem d_Mc_dropRun_7 : decode prog_6_method_5_code 7 = .ok (.putfield 32, 3) := by decide +kernel
theorem d_Mc_dropRun_10 : decode prog_6_method_5_code 10 = .ok (.aload_n 0, 1) := by decide +kernel
theorem d_Mc_dropRun_11 : decode prog_6_method_5_code 11 = .ok (.invokevirtual 61, 3) := by decide +kernel
theorem d_Mc_dropRun_14 : decode prog_6_method_5_code 14 = .ok (.return_, 1) := by decide +kernel
abbrev rm_Mc_dropRun : Room := { frames := 1, cells := 0, slots := 0, locals := 20 }
def p_Mc_dropRun (k : vS → Prop) (V : vS) : Prop := ∀ V1 : vS, V1 = sv V 17 5 0 → (∀ V2 : vS, V2 = sv V1 17 6 0 → (p_Mc_stopWaiting (fun V3 => k V3) V2))
set_option maxRecDepth 100000 in
set_option maxHeartbeats 4000000 in
theorem c_Mc_dropRun {l : Launch} {g : gT} (hG : gd g) {V : vS} {k : vS → Prop} (h : p_Mc_dropRun k V) : Cv g l y_Mc_dropRun prog_6_method_5_code 1 (none) rm_Mc_dropRun [.ref (ga g 17)] V k := by
  unfold Cv
  refine Met.ofW (cc := prog_6_method_5_code) (maxL := 1) (ret := none) (by decide) rfl ?_
  intro p e s m args below meth c s₁ B hml hv
  obtain ⟨rfl, hP, hK, hZ⟩ := hv
  have X : cx g p s m meth c [.ref (ga g 17)].toArray R_Mc prog_6_method_5_code 1 (none) := ⟨B.exec, B.bytes, B.returns, hml, findClass_of_methodNamed B.named, fun w hw => atoms_spec (ws := Cond.code y_Mc_dropRun prog_6_method_5_code 1 (none) :: TBL) B.pre w (List.mem_cons_of_mem _ hw), B.notSynchronized, hK, hZ, hG⟩
  have hl := lv_entry [.ref (ga g 17)] (n := 1) (Nat.le_of_ble_eq_true rfl)
  rw [lg_entry_eq]
  generalize (lg_sl [.ref (ga g 17)] ++ List.replicate (1 - (lg_sl [.ref (ga g 17)]).length) Slot.unset).toArray = ls at hl ⊢
  have hl : lv_has ls 1 [(0, .ref (ga g 17))] := hl
  have hS : va_S (gA g) s.heap s.heap [] := va_S.rf
  obtain ⟨hx, hb, -, -, hown, hts, -, -, hz, -⟩ := id X
  show W p l e rm_Mc_dropRun s m _ below meth c s.heap [] 0 0 (MQ below (va_Qv k (Bw g) (gA g)) _ s 0 0 (gA g)) (F0 m 0 ls [])
  unfold p_Mc_dropRun at h
  refine lv_aload_n hx hb d_Mc_dropRun_0 rfl (lv_at hl 0 rfl) ?_
  refine lv_iconst (v := 0) hx hb d_Mc_dropRun_1 (by decide) ?_
  refine pf_Mc_depth X hP hS q_148 d_Mc_dropRun_2 (fun V1 H locs eV1 hP hS => ?_)
  have h := h V1 eV1
  refine lv_aload_n hx hb d_Mc_dropRun_5 rfl (lv_at hl 0 rfl) ?_
  refine lv_iconst (v := 0) hx hb d_Mc_dropRun_6 (by decide) ?_
  refine pf_Mc_values X hP hS q_150 d_Mc_dropRun_7 (fun V2 H locs eV2 hP hS => ?_)
  have h := h V2 eV2
  refine lv_aload_n hx hb d_Mc_dropRun_10 rfl (lv_at hl 0 rfl) ?_
  refine rw_cVv (rest := []) X hP hS yv_Mc_stopWaiting isO_Mc (c_Mc_stopWaiting hG h) q_219 ⟨rfl, rfl, by decide, by decide⟩ rfl rfl hl.1 (Nat.le_of_ble_eq_true rfl) ⟨Nat.zero_le _, Nat.zero_le _⟩ d_Mc_dropRun_11 (fun V3 H locs h hP hS => ?_)
  exact rw_vret X hP hS h d_Mc_dropRun_14
theorem yv_Mc_dropRun : yV R_Mc y_Mc_dropRun prog_6_method_5_code 1 (none) 0 := ⟨by decide +kernel, q_216, q_217, q_5, q_218⟩
/-! Mc.trap -/
theorem d_Mc_trap_0 : decode prog_6_method_22_code 0 = .ok (.aload_n 0, 1) := by decide +kernel
theorem d_Mc_trap_1 : decode prog_6_method_22_code 1 = .ok (.dup, 1) := by decide +kernel
theorem d_Mc_trap_2 : decode prog_6_method_22_code 2 = .ok (.getfield 47, 3) := by decide +kernel
theorem d_Mc_trap_5 : decode prog_6_method_22_code 5 = .ok (.iconst 1, 1) := by decide +kernel
theorem d_Mc_trap_6 : decode prog_6_method_22_code 6 = .ok (.iadd, 1) := by decide +kernel
theorem d_Mc_trap_7 : decode prog_6_method_22_code 7 = .ok (.putfield 47, 3) := by decide +kernel
theorem d_Mc_trap_10 : decode prog_6_method_22_code 10 = .ok (.aload_n 0, 1) := by decide +kernel
theorem d_Mc_trap_11 : decode prog_6_method_22_code 11 = .ok (.invokevirtual 64, 3) := by decide +kernel
theorem d_Mc_trap_14 : decode prog_6_method_22_code 14 = .ok (.iload_n 1, 1) := by decide +kernel
theorem d_Mc_trap_15 : decode prog_6_method_22_code 15 = .ok (.ireturn, 1) := by decide +kernel
abbrev rm_Mc_trap : Room := { frames := 2, cells := 0, slots := 0, locals := 40 }
def p_Mc_trap (k : Int32 → vS → Prop) (V : vS) (x1 : Int32) : Prop := ∀ V1 : vS, V1 = sv V 17 11 ((V.1 17 11) + 1) → (p_Mc_dropRun (fun V2 => k x1 V2) V1)
set_option maxRecDepth 100000 in
set_option maxHeartbeats 4000000 in
theorem c_Mc_trap {l : Launch} {g : gT} (hG : gd g) {V : vS} {x1 : Int32} {k : Int32 → vS → Prop} (h : p_Mc_trap k V x1) : Ci g l y_Mc_trap prog_6_method_22_code 2 (some .int) rm_Mc_trap [.ref (ga g 17), .int x1] V k := by
  unfold Ci
  refine Met.ofW (cc := prog_6_method_22_code) (maxL := 2) (ret := some .int) (by decide) rfl ?_
  intro p e s m args below meth c s₁ B hml hv
  obtain ⟨rfl, hP, hK, hZ⟩ := hv
  have X : cx g p s m meth c [.ref (ga g 17), .int x1].toArray R_Mc prog_6_method_22_code 2 (some .int) := ⟨B.exec, B.bytes, B.returns, hml, findClass_of_methodNamed B.named, fun w hw => atoms_spec (ws := Cond.code y_Mc_trap prog_6_method_22_code 2 (some .int) :: TBL) B.pre w (List.mem_cons_of_mem _ hw), B.notSynchronized, hK, hZ, hG⟩
  have hl := lv_entry [.ref (ga g 17), .int x1] (n := 2) (Nat.le_of_ble_eq_true rfl)
  rw [lg_entry_eq]
  generalize (lg_sl [.ref (ga g 17), .int x1] ++ List.replicate (2 - (lg_sl [.ref (ga g 17), .int x1]).length) Slot.unset).toArray = ls at hl ⊢
  have hl : lv_has ls 2 [(0, .ref (ga g 17)), (1, .int x1)] := hl
  have hS : va_S (gA g) s.heap s.heap [] := va_S.rf
  obtain ⟨hx, hb, -, -, hown, hts, -, -, hz, -⟩ := id X
  show W p l e rm_Mc_trap s m _ below meth c s.heap [] 0 0 (MQ below (va_Qi k (Bw g) (gA g)) _ s 0 0 (gA g)) (F0 m 0 ls [])
  unfold p_Mc_trap at h
  refine lv_aload_n hx hb d_Mc_trap_0 rfl (lv_at hl 0 rfl) ?_
  refine lv_dup hx hb d_Mc_trap_1 rfl ?_
  refine gf_Mc_runsTrapped X hP q_160 d_Mc_trap_2 ?_
  refine lv_iconst (v := 1) hx hb d_Mc_trap_5 (by decide) ?_
  refine lv_iadd hx hb d_Mc_trap_6 ?_
  refine pf_Mc_runsTrapped X hP hS q_160 d_Mc_trap_7 (fun V1 H locs eV1 hP hS => ?_)
  have h := h V1 eV1
  refine lv_aload_n hx hb d_Mc_trap_10 rfl (lv_at hl 0 rfl) ?_
  refine rw_cVv (rest := []) X hP hS yv_Mc_dropRun isO_Mc (c_Mc_dropRun hG h) q_311 ⟨rfl, rfl, by decide, by decide⟩ rfl rfl hl.1 (Nat.le_of_ble_eq_true rfl) ⟨Nat.zero_le _, Nat.zero_le _⟩ d_Mc_trap_11 (fun V2 H locs h hP hS => ?_)
  refine lv_iload_n hx hb d_Mc_trap_14 rfl (lv_at hl 1 rfl) ?_
  exact rw_iret X hP hS h d_Mc_trap_15
theorem yv_Mc_trap : yV R_Mc y_Mc_trap prog_6_method_22_code 2 (some .int) 1 := ⟨by decide +kernel, q_359, qp_14, q_5, q_360⟩
/-! Mc.put -/
theorem d_Mc_put_0 : decode prog_6_method_20_code 0 = .ok (.aload_n 0, 1) := by decide +kernel
theorem d_Mc_put_1 : decode prog_6_method_20_code 1 = .ok (.getfield 32, 3) := by decide +kernel
theorem d_Mc_put_4 : decode prog_6_method_20_code 4 = .ok (.bipush 40, 2) := by decide +kernel
theorem d_Mc_put_6 : decode prog_6_method_20_code 6 = .ok (.if_icmp .ne 10, 3) := by decide +kernel
theorem d_Mc_put_9 : decode prog_6_method_20_code 9 = .ok (.aload_n 0, 1) := by decide +kernel
theorem d_Mc_put_10 : decode prog_6_method_20_code 10 = .ok (.bipush 13, 2) := by decide +kernel
theorem d_Mc_put_12 : decode prog_6_method_20_code 12 = .ok (.invokevirtual 154, 3) := by decide +kernel
theorem d_Mc_put_15 : decode prog_6_method_20_code 15 = .ok (.ireturn, 1) := by decide +kernel
theorem d_Mc_put_16 : decode prog_6_method_20_code 16 = .ok (.aload_n 0, 1) := by decide +kernel
theorem d_Mc_put_17 : decode prog_6_method_20_code 17 = .ok (.getfield 17, 3) := by decide +kernel
theorem d_Mc_put_20 : decode prog_6_method_20_code 20 = .ok (.aload_n 0, 1) := by decide +kernel
theorem d_Mc_put_21 : decode prog_6_method_20_code 21 = .ok (.getfield 32, 3) := by decide +kernel
theorem d_Mc_put_24 : decode prog_6_method_20_code 24 = .ok (.iload_n 1, 1) := by decide +kernel
theorem d_Mc_put_25 : decode prog_6_method_20_code 25 = .ok (.iastore, 1) := by decide +kernel
theorem d_Mc_put_26 : decode prog_6_method_20_code 26 = .ok (.aload_n 0, 1) := by decide +kernel
theorem d_Mc_put_27 : decode prog_6_method_20_code 27 = .ok (.dup, 1) := by decide +kernel
theorem d_Mc_put_28 : decode prog_6_method_20_code 28 = .ok (.getfield 32, 3) := by decide +kernel
theorem d_Mc_put_31 : decode prog_6_method_20_code 31 = .ok (.iconst 1, 1) := by decide +kernel
theorem d_Mc_put_32 : decode prog_6_method_20_code 32 = .ok (.iadd, 1) := by decide +kernel
theorem d_Mc_put_33 : decode prog_6_method_20_code 33 = .ok (.putfield 32, 3) := by decide +kernel
theorem d_Mc_put_36 : decode prog_6_method_20_code 36 = .ok (.iconst 0, 1) := by decide +kernel
theorem d_Mc_put_37 : decode prog_6_method_20_code 37 = .ok (.ireturn, 1) := by decide +kernel
abbrev rm_Mc_put : Room := { frames := 3, cells := 0, slots := 0, locals := 61 }
def p_Mc_put (k : Int32 → vS → Prop) (V : vS) (x1 : Int32) : Prop := ((V.1 17 6) = 40 → (p_Mc_trap (fun r6 V5 => k r6 V5) V 13)) ∧ (¬ (V.1 17 6) = 40 → (vp_in (V.1 17 6) 40 ∧ ∀ V3 : vS, V3 = sv V 31 (nt (V.1 17 6)) x1 → (∀ V4 : vS, V4 = sv V3 17 6 ((V3.1 17 6) + 1) → (k 0 V4))))
set_option maxRecDepth 100000 in
set_option maxHeartbeats 4000000 in
theorem c_Mc_put {l : Launch} {g : gT} (hG : gd g) {V : vS} {x1 : Int32} {k : Int32 → vS → Prop} (h : p_Mc_put k V x1) : Ci g l y_Mc_put prog_6_method_20_code 2 (some .int) rm_Mc_put [.ref (ga g 17), .int x1] V k := by
  unfold Ci
  refine Met.ofW (cc := prog_6_method_20_code) (maxL := 2) (ret := some .int) (by decide) rfl ?_
  intro p e s m args below meth c s₁ B hml hv
  obtain ⟨rfl, hP, hK, hZ⟩ := hv
  have X : cx g p s m meth c [.ref (ga g 17), .int x1].toArray R_Mc prog_6_method_20_code 2 (some .int) := ⟨B.exec, B.bytes, B.returns, hml, findClass_of_methodNamed B.named, fun w hw => atoms_spec (ws := Cond.code y_Mc_put prog_6_method_20_code 2 (some .int) :: TBL) B.pre w (List.mem_cons_of_mem _ hw), B.notSynchronized, hK, hZ, hG⟩
  have hl := lv_entry [.ref (ga g 17), .int x1] (n := 2) (Nat.le_of_ble_eq_true rfl)
  rw [lg_entry_eq]
  generalize (lg_sl [.ref (ga g 17), .int x1] ++ List.replicate (2 - (lg_sl [.ref (ga g 17), .int x1]).length) Slot.unset).toArray = ls at hl ⊢
  have hl : lv_has ls 2 [(0, .ref (ga g 17)), (1, .int x1)] := hl
  have hS : va_S (gA g) s.heap s.heap [] := va_S.rf
  obtain ⟨hx, hb, -, -, hown, hts, -, -, hz, -⟩ := id X
  show W p l e rm_Mc_put s m _ below meth c s.heap [] 0 0 (MQ below (va_Qi k (Bw g) (gA g)) _ s 0 0 (gA g)) (F0 m 0 ls [])
  unfold p_Mc_put at h
  refine lv_aload_n hx hb d_Mc_put_0 rfl (lv_at hl 0 rfl) ?_
  refine gf_Mc_values X hP q_150 d_Mc_put_1 ?_
  refine lv_bipush (v := 40) hx hb d_Mc_put_4 (by decide) ?_
  refine lv_icmp_ne (tgt := 16) hx hb d_Mc_put_6 (by decide) (fun c1 => ?_) (fun c1 => ?_)
  · have h := h.2 c1
    refine lv_aload_n hx hb d_Mc_put_16 rfl (lv_at hl 0 rfl) ?_
    refine gf_Mc_stack X hP q_143 d_Mc_put_17 ?_
    refine lv_aload_n hx hb d_Mc_put_20 rfl (lv_at hl 0 rfl) ?_
    refine gf_Mc_values X hP q_150 d_Mc_put_21 ?_
    refine lv_iload_n hx hb d_Mc_put_24 rfl (lv_at hl 1 rfl) ?_
    obtain ⟨hi2, h⟩ := h
    refine rw_iast X hP hS isI_31 hi2 d_Mc_put_25 (fun V3 H locs eV3 hP hS => ?_)
    have h := h V3 eV3
    refine lv_aload_n hx hb d_Mc_put_26 rfl (lv_at hl 0 rfl) ?_
    refine lv_dup hx hb d_Mc_put_27 rfl ?_
    refine gf_Mc_values X hP q_150 d_Mc_put_28 ?_
    refine lv_iconst (v := 1) hx hb d_Mc_put_31 (by decide) ?_
    refine lv_iadd hx hb d_Mc_put_32 ?_
    refine pf_Mc_values X hP hS q_150 d_Mc_put_33 (fun V4 H locs eV4 hP hS => ?_)
    have h := h V4 eV4
    refine lv_iconst (v := 0) hx hb d_Mc_put_36 (by decide) ?_
    exact rw_iret X hP hS h d_Mc_put_37
  · have h := h.1 c1
    refine lv_aload_n hx hb d_Mc_put_9 rfl (lv_at hl 0 rfl) ?_
    refine lv_bipush (v := 13) hx hb d_Mc_put_10 (by decide) ?_
    refine rw_cVi (rest := []) X hP hS yv_Mc_trap isO_Mc (c_Mc_trap hG h) q_357 ⟨rfl, rfl, by decide, by decide⟩ rfl rfl hl.1 (Nat.le_of_ble_eq_true rfl) ⟨Nat.zero_le _, Nat.zero_le _⟩ d_Mc_put_12 (fun r6 V5 H locs h hP hS => ?_)
    exact rw_iret X hP hS h d_Mc_put_15
theorem yv_Mc_put : yV R_Mc y_Mc_put prog_6_method_20_code 2 (some .int) 1 := ⟨by decide +kernel, q_355, qp_13, q_5, q_356⟩
/-! Mc.take -/
theorem d_Mc_take_0 : decode prog_6_method_21_code 0 = .ok (.aload_n 0, 1) := by decide +kernel
theorem d_Mc_take_1 : decode prog_6_method_21_code 1 = .ok (.dup, 1) := by decide +kernel
theorem d_Mc_take_2 : decode prog_6_method_21_code 2 = .ok (.getfield 32, 3) := by decide +kernel
theorem d_Mc_take_5 : decode prog_6_method_21_code 5 = .ok (.iconst 1, 1) := by decide +kernel
theorem d_Mc_take_6 : decode prog_6_method_21_code 6 = .ok (.isub, 1) := by decide +kernel
theorem d_Mc_take_7 : decode prog_6_method_21_code 7 = .ok (.putfield 32, 3) := by decide +kernel
theorem d_Mc_take_10 : decode prog_6_method_21_code 10 = .ok (.aload_n 0, 1) := by decide +kernel
theorem d_Mc_take_11 : decode prog_6_method_21_code 11 = .ok (.getfield 17, 3) := by decide +kernel
theorem d_Mc_take_14 : decode prog_6_method_21_code 14 = .ok (.aload_n 0, 1) := by decide +kernel
theorem d_Mc_take_15 : decode prog_6_method_21_code 15 = .ok (.getfield 32, 3) := by decide +kernel
theorem d_Mc_take_18 : decode prog_6_method_21_code 18 = .ok (.iaload, 1) := by decide +kernel
theorem d_Mc_take_19 : decode prog_6_method_21_code 19 = .ok (.ireturn, 1) := by decide +kernel
abbrev rm_Mc_take : Room := { frames := 0, cells := 0, slots := 0, locals := 0 }
def p_Mc_take (k : Int32 → vS → Prop) (V : vS) : Prop := ∀ V1 : vS, V1 = sv V 17 6 ((V.1 17 6) - 1) → (vp_in (V1.1 17 6) 40 ∧ (k (V1.1 31 (nt (V1.1 17 6))) V1))
set_option maxRecDepth 100000 in
set_option maxHeartbeats 4000000 in
theorem c_Mc_take {l : Launch} {g : gT} (hG : gd g) {V : vS} {k : Int32 → vS → Prop} (h : p_Mc_take k V) : Ci g l y_Mc_take prog_6_method_21_code 1 (some .int) rm_Mc_take [.ref (ga g 17)] V k := by
  unfold Ci
  refine Met.ofW (cc := prog_6_method_21_code) (maxL := 1) (ret := some .int) (by decide) rfl ?_
  intro p e s m args below meth c s₁ B hml hv
  obtain ⟨rfl, hP, hK, hZ⟩ := hv
  have X : cx g p s m meth c [.ref (ga g 17)].toArray R_Mc prog_6_method_21_code 1 (some .int) := ⟨B.exec, B.bytes, B.returns, hml, findClass_of_methodNamed B.named, fun w hw => atoms_spec (ws := Cond.code y_Mc_take prog_6_method_21_code 1 (some .int) :: TBL) B.pre w (List.mem_cons_of_mem _ hw), B.notSynchronized, hK, hZ, hG⟩
  have hl := lv_entry [.ref (ga g 17)] (n := 1) (Nat.le_of_ble_eq_true rfl)
  rw [lg_entry_eq]
  generalize (lg_sl [.ref (ga g 17)] ++ List.replicate (1 - (lg_sl [.ref (ga g 17)]).length) Slot.unset).toArray = ls at hl ⊢
  have hl : lv_has ls 1 [(0, .ref (ga g 17))] := hl
  have hS : va_S (gA g) s.heap s.heap [] := va_S.rf
  obtain ⟨hx, hb, -, -, hown, hts, -, -, hz, -⟩ := id X
  show W p l e rm_Mc_take s m _ below meth c s.heap [] 0 0 (MQ below (va_Qi k (Bw g) (gA g)) _ s 0 0 (gA g)) (F0 m 0 ls [])
  unfold p_Mc_take at h
  refine lv_aload_n hx hb d_Mc_take_0 rfl (lv_at hl 0 rfl) ?_
  refine lv_dup hx hb d_Mc_take_1 rfl ?_
  refine gf_Mc_values X hP q_150 d_Mc_take_2 ?_
  refine lv_iconst (v := 1) hx hb d_Mc_take_5 (by decide) ?_
  refine lv_isub hx hb d_Mc_take_6 ?_
  refine pf_Mc_values X hP hS q_150 d_Mc_take_7 (fun V1 H locs eV1 hP hS => ?_)
  have h := h V1 eV1
  refine lv_aload_n hx hb d_Mc_take_10 rfl (lv_at hl 0 rfl) ?_
  refine gf_Mc_stack X hP q_143 d_Mc_take_11 ?_
  refine lv_aload_n hx hb d_Mc_take_14 rfl (lv_at hl 0 rfl) ?_
  refine gf_Mc_values X hP q_150 d_Mc_take_15 ?_
  obtain ⟨hi2, h⟩ := h
  refine rw_iald X hP isI_31 hi2 d_Mc_take_18 ?_
  exact rw_iret X hP hS h d_Mc_take_19
theorem yv_Mc_take : yV R_Mc y_Mc_take prog_6_method_21_code 1 (some .int) 0 := ⟨by decide +kernel, q_363, qp_15, q_5, q_364⟩
/-! Fr.begin -/
theorem d_Fr_begin_0 : decode prog_4_method_2_code 0 = .ok (.aload_n 0, 1) := by decide +kernel
theorem d_Fr_begin_1 : decode prog_4_method_2_code 1 = .ok (.iload_n 1, 1) := by decide +kernel
theorem d_Fr_begin_2 : decode prog_4_method_2_code 2 = .ok (.putfield 15, 3) := by decide +kernel
theorem d_Fr_begin_5 : decode prog_4_method_2_code 5 = .ok (.aload_n 0, 1) := by decide +kernel
theorem d_Fr_begin_6 : decode prog_4_method_2_code 6 = .ok (.iconst 0, 1) := by decide +kernel
theorem d_Fr_begin_7 : decode prog_4_method_2_code 7 = .ok (.putfield 19, 3) := by decide +kernel
theorem d_Fr_begin_10 : decode prog_4_method_2_code 10 = .ok (.iconst 0, 1) := by decide +kernel
theorem d_Fr_begin_11 : decode prog_4_method_2_code 11 = .ok (.istore_n 2, 1) := by decide +kernel
theorem d_Fr_begin_12 : decode prog_4_method_2_code 12 = .ok (.iload_n 2, 1) := by decide +kernel
theorem d_Fr_begin_13 : decode prog_4_method_2_code 13 = .ok (.aload_n 0, 1) := by decide +kernel
theorem d_Fr_begin_14 : decode prog_4_method_2_code 14 = .ok (.getfield 9, 3) := by decide +kernel
theorem d_Fr_begin_17 : decode prog_4_method_2_code 17 = .ok (.arraylength, 1) := by decide +kernel
theorem d_Fr_begin_18 : decode prog_4_method_2_code 18 = .ok (.if_icmp .ge 16, 3) := by decide +kernel
theorem d_Fr_begin_21 : decode prog_4_method_2_code 21 = .ok (.aload_n 0, 1) := by decide +kernel
theorem d_Fr_begin_22 : decode prog_4_method_2_code 22 = .ok (.getfield 9, 3) := by decide +kernel
theorem d_Fr_begin_25 : decode prog_4_method_2_code 25 = .ok (.iload_n 2, 1) := by decide +kernel
theorem d_Fr_begin_26 : decode prog_4_method_2_code 26 = .ok (.iconst 0, 1) := by decide +kernel
theorem d_Fr_begin_27 : decode prog_4_method_2_code 27 = .ok (.iastore, 1) := by decide +kernel
theorem d_Fr_begin_28 : decode prog_4_method_2_code 28 = .ok (.iinc 2 1, 3) := by decide +kernel
theorem d_Fr_begin_31 : decode prog_4_method_2_code 31 = .ok (.goto (-19), 3) := by decide +kernel
theorem d_Fr_begin_34 : decode prog_4_method_2_code 34 = .ok (.return_, 1) := by decide +kernel
abbrev rm_Fr_begin : Room := { frames := 0, cells := 0, slots := 0, locals := 0 }
def p_Fr_begin_b12 (k : vS → Prop) : Nat → vS → Nat → Int32 → Prop
  | 0, _, _, _ => False
  | n + 1, V, f0, x2 => (5 ≤ x2 → (k V)) ∧ (¬ 5 ≤ x2 → (vp_in x2 5 ∧ ∀ V3 : vS, V3 = sv V (f0 + 6) (nt x2) 0 → (∀ y4 : Int32, y4 = x2 + 1 → ((p_Fr_begin_b12 k n) V3 f0 y4))))
set_option maxRecDepth 100000 in
set_option maxHeartbeats 4000000 in
theorem t_Fr_begin_b12 {k : vS → Prop} (X : cx g p s m meth c args R_Fr prog_4_method_2_code 3 (none)) : ∀ (n : Nat) (V : vS) (f0 : Nat) (x2 : Int32) (hf0 : 19 ≤ f0 ∧ f0 < 25), p_Fr_begin_b12 k n V f0 x2 → ∀ (H : Heap) (locs : List Loc) (ls : Array Slot), va_P g.1 vcl (cw g V) H → va_S (gA g) s.heap H locs → lv_has ls 3 [(0, .ref (ga g f0)), (2, .int x2)] → W p l e rm_Fr_begin s m args below meth c H locs 0 0 (MQ below (va_Qv k (Bw g) (gA g)) args s 0 0 (gA g)) (F0 m 12 ls []) := by
  obtain ⟨hx, hb, -, -, hown, hts, -, -, hz, hG⟩ := id X
  intro n
  induction n with
  | zero =>
    intro V f0 x2 hf0 h
    exact h.elim
  | succ n ih =>
    intro V f0 x2 hf0 h H locs ls hP hS hl
    unfold p_Fr_begin_b12 at h
    refine lv_iload_n hx hb d_Fr_begin_12 rfl (lv_at hl 1 rfl) ?_
    refine lv_aload_n hx hb d_Fr_begin_13 rfl (lv_at hl 0 rfl) ?_
    refine gf_Fr_locals X hP hf0 q_125 d_Fr_begin_14 ?_
    refine rw_ilen (v := 5) X hP (isI_loc hf0) rfl d_Fr_begin_17 ?_
    refine lv_icmp_ge (tgt := 34) hx hb d_Fr_begin_18 (by decide) (fun c1 => ?_) (fun c1 => ?_)
    · have h := h.1 c1
      exact rw_vret X hP hS h d_Fr_begin_34
    · have h := h.2 c1
      refine lv_aload_n hx hb d_Fr_begin_21 rfl (lv_at hl 0 rfl) ?_
      refine gf_Fr_locals X hP hf0 q_125 d_Fr_begin_22 ?_
      refine lv_iload_n hx hb d_Fr_begin_25 rfl (lv_at hl 1 rfl) ?_
      refine lv_iconst (v := 0) hx hb d_Fr_begin_26 (by decide) ?_
      obtain ⟨hi2, h⟩ := h
      refine rw_iast X hP hS (isI_loc hf0) hi2 d_Fr_begin_27 (fun V3 H locs eV3 hP hS => ?_)
      have h := h V3 eV3
      obtain ⟨y4, ey4⟩ : ∃ z : Int32, z = x2 + 1 := ⟨_, rfl⟩
      have h := h y4 ey4
      refine lv_iinc (v := y4) (lv' := [(2, .int y4), (0, .ref (ga g f0))]) hx hb d_Fr_begin_28 hl (k := 1) rfl (by rw [ey4]; rfl) (by decide) rfl (fun ls hl => ?_)
      refine lv_goto (tgt := 12) hx hb d_Fr_begin_31 (by decide) ?_
      exact ih V3 f0 y4 hf0 h _ _ _ hP hS (lv_sub hl [1, 0] rfl)
def p_Fr_begin (k : vS → Prop) (V : vS) (f0 : Nat) (x1 : Int32) : Prop := ∀ V1 : vS, V1 = sv V f0 1 x1 → (∀ V2 : vS, V2 = sv V1 f0 2 0 → (∃ n, p_Fr_begin_b12 k n V2 f0 0))
set_option maxRecDepth 100000 in
set_option maxHeartbeats 4000000 in
theorem c_Fr_begin {l : Launch} {g : gT} (hG : gd g) {V : vS} {f0 : Nat} {x1 : Int32} (hf0 : 19 ≤ f0 ∧ f0 < 25) {k : vS → Prop} (h : p_Fr_begin k V f0 x1) : Cv g l y_Fr_begin prog_4_method_2_code 3 (none) rm_Fr_begin [.ref (ga g f0), .int x1] V k := by
  unfold Cv
  refine Met.ofW (cc := prog_4_method_2_code) (maxL := 3) (ret := none) (by decide) rfl ?_
  intro p e s m args below meth c s₁ B hml hv
  obtain ⟨rfl, hP, hK, hZ⟩ := hv
  have X : cx g p s m meth c [.ref (ga g f0), .int x1].toArray R_Fr prog_4_method_2_code 3 (none) := ⟨B.exec, B.bytes, B.returns, hml, findClass_of_methodNamed B.named, fun w hw => atoms_spec (ws := Cond.code y_Fr_begin prog_4_method_2_code 3 (none) :: TBL) B.pre w (List.mem_cons_of_mem _ hw), B.notSynchronized, hK, hZ, hG⟩
  have hl := lv_entry [.ref (ga g f0), .int x1] (n := 3) (Nat.le_of_ble_eq_true rfl)
  rw [lg_entry_eq]
  generalize (lg_sl [.ref (ga g f0), .int x1] ++ List.replicate (3 - (lg_sl [.ref (ga g f0), .int x1]).length) Slot.unset).toArray = ls at hl ⊢
  have hl : lv_has ls 3 [(0, .ref (ga g f0)), (1, .int x1)] := hl
  have hS : va_S (gA g) s.heap s.heap [] := va_S.rf
  obtain ⟨hx, hb, -, -, hown, hts, -, -, hz, -⟩ := id X
  show W p l e rm_Fr_begin s m _ below meth c s.heap [] 0 0 (MQ below (va_Qv k (Bw g) (gA g)) _ s 0 0 (gA g)) (F0 m 0 ls [])
  unfold p_Fr_begin at h
  refine lv_aload_n hx hb d_Fr_begin_0 rfl (lv_at hl 0 rfl) ?_
  refine lv_iload_n hx hb d_Fr_begin_1 rfl (lv_at hl 1 rfl) ?_
  refine pf_Fr_number X hP hS hf0 q_127 d_Fr_begin_2 (fun V1 H locs eV1 hP hS => ?_)
  have h := h V1 eV1
  refine lv_aload_n hx hb d_Fr_begin_5 rfl (lv_at hl 0 rfl) ?_
  refine lv_iconst (v := 0) hx hb d_Fr_begin_6 (by decide) ?_
  refine pf_Fr_next X hP hS hf0 q_130 d_Fr_begin_7 (fun V2 H locs eV2 hP hS => ?_)
  have h := h V2 eV2
  refine lv_iconst (v := 0) hx hb d_Fr_begin_10 (by decide) ?_
  refine lv_istore_n (lv' := [(2, .int 0), (0, .ref (ga g f0)), (1, .int x1)]) hx hb d_Fr_begin_11 rfl hl (by decide) rfl (fun ls hl => ?_)
  obtain ⟨n, h⟩ := h
  exact t_Fr_begin_b12 X n V2 f0 0 hf0 h _ _ _ hP hS (lv_sub hl [1, 0] rfl)
theorem yv_Fr_begin : yV R_Fr y_Fr_begin prog_4_method_2_code 3 (none) 1 := ⟨by decide +kernel, q_317, q_318, q_6, q_319⟩
/-! Mc.enter -/
theorem d_Mc_enter_0 : decode prog_6_method_19_code 0 = .ok (.aload_n 0, 1) := by decide +kernel
theorem d_Mc_enter_1 : decode prog_6_method_19_code 1 = .ok (.getfield 11, 3) := by decide +kernel
theorem d_Mc_enter_4 : decode prog_6_method_19_code 4 = .ok (.aload_n 0, 1) := by decide +kernel
theorem d_Mc_enter_5 : decode prog_6_method_19_code 5 = .ok (.getfield 28, 3) := by decide +kernel
theorem d_Mc_enter_8 : decode prog_6_method_19_code 8 = .ok (.aaload, 1) := by decide +kernel
theorem d_Mc_enter_9 : decode prog_6_method_19_code 9 = .ok (.astore_n 2, 1) := by decide +kernel
theorem d_Mc_enter_10 : decode prog_6_method_19_code 10 = .ok (.aload_n 2, 1) := by decide +kernel
theorem d_Mc_enter_11 : decode prog_6_method_19_code 11 = .ok (.iload_n 1, 1) := by decide +kernel
theorem d_Mc_enter_12 : decode prog_6_method_19_code 12 = .ok (.invokevirtual 163, 3) := by decide +kernel
theorem d_Mc_enter_15 : decode prog_6_method_19_code 15 = .ok (.aload_n 0, 1) := by decide +kernel
theorem d_Mc_enter_16 : decode prog_6_method_19_code 16 = .ok (.dup, 1) := by decide +kernel
theorem d_Mc_enter_17 : decode prog_6_method_19_code 17 = .ok (.getfield 28, 3) := by decide +kernel
theorem d_Mc_enter_20 : decode prog_6_method_19_code 20 = .ok (.iconst 1, 1) := by decide +kernel
theorem d_Mc_enter_21 : decode prog_6_method_19_code 21 = .ok (.iadd, 1) := by decide +kernel
theorem d_Mc_enter_22 : decode prog_6_method_19_code 22 = .ok (.putfield 28, 3) := by decide +kernel
theorem d_Mc_enter_25 : decode prog_6_method_19_code 25 = .ok (.aload_n 2, 1) := by decide +kernel
theorem d_Mc_enter_26 : decode prog_6_method_19_code 26 = .ok (.areturn, 1) := by decide +kernel
abbrev rm_Mc_enter : Room := { frames := 1, cells := 0, slots := 0, locals := 22 }
def p_Mc_enter (k : Nat → vS → Prop) (V : vS) (x1 : Int32) : Prop := vp_in (V.1 17 5) 6 ∧ (p_Fr_begin (fun V2 => ∀ V4 : vS, V4 = sv V2 17 5 ((V2.1 17 5) + 1) → (k (19 + nt (V.1 17 5)) V4)) V (19 + nt (V.1 17 5)) x1)
set_option maxRecDepth 100000 in
set_option maxHeartbeats 4000000 in
theorem c_Mc_enter {l : Launch} {g : gT} (hG : gd g) {V : vS} {x1 : Int32} {k : Nat → vS → Prop} (h : p_Mc_enter k V x1) : Cr g l y_Mc_enter prog_6_method_19_code 3 (some (.object R_Fr)) rm_Mc_enter [.ref (ga g 17), .int x1] V k := by
  unfold Cr
  refine Met.ofW (cc := prog_6_method_19_code) (maxL := 3) (ret := some (.object R_Fr)) (by decide) rfl ?_
  intro p e s m args below meth c s₁ B hml hv
  obtain ⟨rfl, hP, hK, hZ⟩ := hv
  have X : cx g p s m meth c [.ref (ga g 17), .int x1].toArray R_Mc prog_6_method_19_code 3 (some (.object R_Fr)) := ⟨B.exec, B.bytes, B.returns, hml, findClass_of_methodNamed B.named, fun w hw => atoms_spec (ws := Cond.code y_Mc_enter prog_6_method_19_code 3 (some (.object R_Fr)) :: TBL) B.pre w (List.mem_cons_of_mem _ hw), B.notSynchronized, hK, hZ, hG⟩
  have hl := lv_entry [.ref (ga g 17), .int x1] (n := 3) (Nat.le_of_ble_eq_true rfl)
  rw [lg_entry_eq]
  generalize (lg_sl [.ref (ga g 17), .int x1] ++ List.replicate (3 - (lg_sl [.ref (ga g 17), .int x1]).length) Slot.unset).toArray = ls at hl ⊢
  have hl : lv_has ls 3 [(0, .ref (ga g 17)), (1, .int x1)] := hl
  have hS : va_S (gA g) s.heap s.heap [] := va_S.rf
  obtain ⟨hx, hb, -, -, hown, hts, -, -, hz, -⟩ := id X
  show W p l e rm_Mc_enter s m _ below meth c s.heap [] 0 0 (MQ below (va_Qr (S := Nat × vS) (fun u => (19 ≤ u.1 ∧ u.1 < 25) ∧ k u.1 u.2) (fun u a t => a = ga g u.1 ∧ Bw g u.2 t) (gA g)) _ s 0 0 (gA g)) (F0 m 0 ls [])
  unfold p_Mc_enter at h
  refine lv_aload_n hx hb d_Mc_enter_0 rfl (lv_at hl 0 rfl) ?_
  refine gf_Mc_frames X hP q_142 d_Mc_enter_1 ?_
  refine lv_aload_n hx hb d_Mc_enter_4 rfl (lv_at hl 0 rfl) ?_
  refine gf_Mc_depth X hP q_148 d_Mc_enter_5 ?_
  obtain ⟨hi1, h⟩ := h
  refine rw_aaldR X hP hi1 d_Mc_enter_8 ?_
  refine lv_astore_n (lv' := [(2, .ref (ga g (19 + nt (V.1 17 5)))), (0, .ref (ga g 17)), (1, .int x1)]) hx hb d_Mc_enter_9 rfl hl (by decide) rfl (fun ls hl => ?_)
  refine lv_aload_n hx hb d_Mc_enter_10 rfl (lv_at hl 0 rfl) ?_
  refine lv_iload_n hx hb d_Mc_enter_11 rfl (lv_at hl 2 rfl) ?_
  refine rw_cVv (rest := []) X hP hS yv_Fr_begin (isO_Fr (fr_of hi1)) (c_Fr_begin hG (fr_of hi1) h) q_316 ⟨rfl, rfl, by decide, by decide⟩ rfl rfl hl.1 (Nat.le_of_ble_eq_true rfl) ⟨Nat.zero_le _, Nat.zero_le _⟩ d_Mc_enter_12 (fun V2 H locs h hP hS => ?_)
  refine lv_aload_n hx hb d_Mc_enter_15 rfl (lv_at hl 1 rfl) ?_
  refine lv_dup hx hb d_Mc_enter_16 rfl ?_
  refine gf_Mc_depth X hP q_148 d_Mc_enter_17 ?_
  refine lv_iconst (v := 1) hx hb d_Mc_enter_20 (by decide) ?_
  refine lv_iadd hx hb d_Mc_enter_21 ?_
  refine pf_Mc_depth X hP hS q_148 d_Mc_enter_22 (fun V4 H locs eV4 hP hS => ?_)
  have h := h V4 eV4
  refine lv_aload_n hx hb d_Mc_enter_25 rfl (lv_at hl 0 rfl) ?_
  exact rw_aret X hP hS (fr_of hi1) h d_Mc_enter_26
theorem yv_Mc_enter : yV R_Mc y_Mc_enter prog_6_method_19_code 3 (some (.object R_Fr)) 1 := ⟨by decide +kernel, q_314, qp_9, q_5, q_315⟩
/-! Pg.has -/
theorem d_Pg_has_0 : decode prog_8_method_2_code 0 = .ok (.iload_n 1, 1) := by decide +kernel
theorem d_Pg_has_1 : decode prog_8_method_2_code 1 = .ok (.ifCond .lt 15, 3) := by decide +kernel
theorem d_Pg_has_4 : decode prog_8_method_2_code 4 = .ok (.iload_n 1, 1) := by decide +kernel
theorem d_Pg_has_5 : decode prog_8_method_2_code 5 = .ok (.aload_n 0, 1) := by decide +kernel
theorem d_Pg_has_6 : decode prog_8_method_2_code 6 = .ok (.getfield 17, 3) := by decide +kernel
theorem d_Pg_has_9 : decode prog_8_method_2_code 9 = .ok (.if_icmp .ge 7, 3) := by decide +kernel
theorem d_Pg_has_12 : decode prog_8_method_2_code 12 = .ok (.iconst 1, 1) := by decide +kernel
theorem d_Pg_has_13 : decode prog_8_method_2_code 13 = .ok (.goto 4, 3) := by decide +kernel
theorem d_Pg_has_16 : decode prog_8_method_2_code 16 = .ok (.iconst 0, 1) := by decide +kernel
theorem d_Pg_has_17 : decode prog_8_method_2_code 17 = .ok (.ireturn, 1) := by decide +kernel
abbrev rm_Pg_has : Room := { frames := 0, cells := 0, slots := 0, locals := 0 }
def p_Pg_has_b17 (k : Int32 → vS → Prop) (V : vS) (s0 : Int32) : Prop := (s0 = 0 ∨ s0 = 1) ∧ (k s0 V)
set_option maxRecDepth 100000 in
set_option maxHeartbeats 4000000 in
theorem t_Pg_has_b17 {k : Int32 → vS → Prop} (X : cx g p s m meth c args R_Pg prog_8_method_2_code 2 (some .boolean)) {V : vS} {s0 : Int32} (h : p_Pg_has_b17 k V s0) (hP : va_P g.1 vcl (cw g V) H) (hS : va_S (gA g) s.heap H locs) (hl : lv_has ls 2 []) : W p l e rm_Pg_has s m args below meth c H locs 0 0 (MQ below (va_Qi k (Bw g) (gA g)) args s 0 0 (gA g)) (F0 m 17 ls [.int s0]) := by
  obtain ⟨hx, hb, -, -, hown, hts, -, -, hz, hG⟩ := id X
  unfold p_Pg_has_b17 at h
  obtain ⟨hb1, h⟩ := h
  exact rw_zret X hP hS hb1 h d_Pg_has_17
def p_Pg_has_b16 (k : Int32 → vS → Prop) (V : vS) : Prop := p_Pg_has_b17 k V 0
set_option maxRecDepth 100000 in
set_option maxHeartbeats 4000000 in
theorem t_Pg_has_b16 {k : Int32 → vS → Prop} (X : cx g p s m meth c args R_Pg prog_8_method_2_code 2 (some .boolean)) {V : vS} (h : p_Pg_has_b16 k V) (hP : va_P g.1 vcl (cw g V) H) (hS : va_S (gA g) s.heap H locs) (hl : lv_has ls 2 []) : W p l e rm_Pg_has s m args below meth c H locs 0 0 (MQ below (va_Qi k (Bw g) (gA g)) args s 0 0 (gA g)) (F0 m 16 ls []) := by
  obtain ⟨hx, hb, -, -, hown, hts, -, -, hz, hG⟩ := id X
  unfold p_Pg_has_b16 at h
  refine lv_iconst (v := 0) hx hb d_Pg_has_16 (by decide) ?_
  exact t_Pg_has_b17 X h hP hS (lv_sub hl [] rfl)
def p_Pg_has (k : Int32 → vS → Prop) (V : vS) (x1 : Int32) : Prop := (x1 < 0 → (p_Pg_has_b16 k V)) ∧ (¬ x1 < 0 → (((V.1 1 1) ≤ x1 → (p_Pg_has_b16 k V)) ∧ (¬ (V.1 1 1) ≤ x1 → (p_Pg_has_b17 k V 1))))
set_option maxRecDepth 100000 in
set_option maxHeartbeats 4000000 in
theorem c_Pg_has {l : Launch} {g : gT} (hG : gd g) {V : vS} {x1 : Int32} {k : Int32 → vS → Prop} (h : p_Pg_has k V x1) : Ci g l y_Pg_has prog_8_method_2_code 2 (some .boolean) rm_Pg_has [.ref (ga g 1), .int x1] V k := by
  unfold Ci
  refine Met.ofW (cc := prog_8_method_2_code) (maxL := 2) (ret := some .boolean) (by decide) rfl ?_
  intro p e s m args below meth c s₁ B hml hv
  obtain ⟨rfl, hP, hK, hZ⟩ := hv
  have X : cx g p s m meth c [.ref (ga g 1), .int x1].toArray R_Pg prog_8_method_2_code 2 (some .boolean) := ⟨B.exec, B.bytes, B.returns, hml, findClass_of_methodNamed B.named, fun w hw => atoms_spec (ws := Cond.code y_Pg_has prog_8_method_2_code 2 (some .boolean) :: TBL) B.pre w (List.mem_cons_of_mem _ hw), B.notSynchronized, hK, hZ, hG⟩
  have hl := lv_entry [.ref (ga g 1), .int x1] (n := 2) (Nat.le_of_ble_eq_true rfl)
  rw [lg_entry_eq]
  generalize (lg_sl [.ref (ga g 1), .int x1] ++ List.replicate (2 - (lg_sl [.ref (ga g 1), .int x1]).length) Slot.unset).toArray = ls at hl ⊢
  have hl : lv_has ls 2 [(0, .ref (ga g 1)), (1, .int x1)] := hl
  have hS : va_S (gA g) s.heap s.heap [] := va_S.rf
  obtain ⟨hx, hb, -, -, hown, hts, -, -, hz, -⟩ := id X
  show W p l e rm_Pg_has s m _ below meth c s.heap [] 0 0 (MQ below (va_Qi k (Bw g) (gA g)) _ s 0 0 (gA g)) (F0 m 0 ls [])
  unfold p_Pg_has at h
  refine lv_iload_n hx hb d_Pg_has_0 rfl (lv_at hl 1 rfl) ?_
  refine lv_if_lt (tgt := 16) hx hb d_Pg_has_1 (by decide) (fun c1 => ?_) (fun c1 => ?_)
  · have h := h.1 c1
    exact t_Pg_has_b16 X h hP hS (lv_sub hl [] rfl)
  · have h := h.2 c1
    refine lv_iload_n hx hb d_Pg_has_4 rfl (lv_at hl 1 rfl) ?_
    refine lv_aload_n hx hb d_Pg_has_5 rfl (lv_at hl 0 rfl) ?_
    refine gf_Pg_size X hP q_69 d_Pg_has_6 ?_
    refine lv_icmp_ge (tgt := 16) hx hb d_Pg_has_9 (by decide) (fun c2 => ?_) (fun c2 => ?_)
    · have h := h.1 c2
      exact t_Pg_has_b16 X h hP hS (lv_sub hl [] rfl)
    · have h := h.2 c2
      refine lv_iconst (v := 1) hx hb d_Pg_has_12 (by decide) ?_
      refine lv_goto (tgt := 17) hx hb d_Pg_has_13 (by decide) ?_
      exact t_Pg_has_b17 X h hP hS (lv_sub hl [] rfl)
theorem yv_Pg_has : yV R_Pg y_Pg_has prog_8_method_2_code 2 (some .boolean) 1 := ⟨by decide +kernel, q_232, q_233, q_2, q_234⟩
/-! Pg.add -/
theorem d_Pg_add_0 : decode prog_8_method_3_code 0 = .ok (.aload_n 0, 1) := by decide +kernel
theorem d_Pg_add_1 : decode prog_8_method_3_code 1 = .ok (.getfield 17, 3) := by decide +kernel
theorem d_Pg_add_4 : decode prog_8_method_3_code 4 = .ok (.istore 4, 2) := by decide +kernel
theorem d_Pg_add_6 : decode prog_8_method_3_code 6 = .ok (.aload_n 0, 1) := by decide +kernel
theorem d_Pg_add_7 : decode prog_8_method_3_code 7 = .ok (.getfield 11, 3) := by decide +kernel
theorem d_Pg_add_10 : decode prog_8_method_3_code 10 = .ok (.iload 4, 2) := by decide +kernel
theorem d_Pg_add_12 : decode prog_8_method_3_code 12 = .ok (.aaload, 1) := by decide +kernel
theorem d_Pg_add_13 : decode prog_8_method_3_code 13 = .ok (.iload_n 1, 1) := by decide +kernel
theorem d_Pg_add_14 : decode prog_8_method_3_code 14 = .ok (.putfield 22, 3) := by decide +kernel
theorem d_Pg_add_17 : decode prog_8_method_3_code 17 = .ok (.aload_n 0, 1) := by decide +kernel
theorem d_Pg_add_18 : decode prog_8_method_3_code 18 = .ok (.getfield 11, 3) := by decide +kernel
theorem d_Pg_add_21 : decode prog_8_method_3_code 21 = .ok (.iload 4, 2) := by decide +kernel
theorem d_Pg_add_23 : decode prog_8_method_3_code 23 = .ok (.aaload, 1) := by decide +kernel
theorem d_Pg_add_24 : decode prog_8_method_3_code 24 = .ok (.iload_n 2, 1) := by decide +kernel
theorem d_Pg_add_25 : decode prog_8_method_3_code 25 = .ok (.putfield 25, 3) := by decide +kernel
theorem d_Pg_add_28 : decode prog_8_method_3_code 28 = .ok (.aload_n 0, 1) := by decide +kernel
theorem d_Pg_add_29 : decode prog_8_method_3_code 29 = .ok (.getfield 11, 3) := by decide +kernel
theorem d_Pg_add_32 : decode prog_8_method_3_code 32 = .ok (.iload 4, 2) := by decide +kernel
theorem d_Pg_add_34 : decode prog_8_method_3_code 34 = .ok (.aaload, 1) := by decide +kernel
theorem d_Pg_add_35 : decode prog_8_method_3_code 35 = .ok (.iload_n 3, 1) := by decide +kernel
theorem d_Pg_add_36 : decode prog_8_method_3_code 36 = .ok (.putfield 28, 3) := by decide +kernel
theorem d_Pg_add_39 : decode prog_8_method_3_code 39 = .ok (.aload_n 0, 1) := by decide +kernel
theorem d_Pg_add_40 : decode prog_8_method_3_code 40 = .ok (.iload 4, 2) := by decide +kernel
theorem d_Pg_add_42 : decode prog_8_method_3_code 42 = .ok (.iconst 1, 1) := by decide +kernel
theorem d_Pg_add_43 : decode prog_8_method_3_code 43 = .ok (.iadd, 1) := by decide +kernel
theorem d_Pg_add_44 : decode prog_8_method_3_code 44 = .ok (.putfield 17, 3) := by decide +kernel
theorem d_Pg_add_47 : decode prog_8_method_3_code 47 = .ok (.iload 4, 2) := by decide +kernel
theorem d_Pg_add_49 : decode prog_8_method_3_code 49 = .ok (.ireturn, 1) := by decide +kernel
abbrev rm_Pg_add : Room := { frames := 0, cells := 0, slots := 0, locals := 0 }
def p_Pg_add (k : Int32 → vS → Prop) (V : vS) (x1 : Int32) (x2 : Int32) (x3 : Int32) : Prop := ∀ y1 : Int32, y1 = V.1 1 1 → (vp_in y1 4 ∧ (∀ V3 : vS, V3 = sv V (3 + nt y1) 3 x1 → (vp_in y1 4 ∧ (∀ V5 : vS, V5 = sv V3 (3 + nt y1) 4 x2 → (vp_in y1 4 ∧ (∀ V7 : vS, V7 = sv V5 (3 + nt y1) 5 x3 → (∀ V8 : vS, V8 = sv V7 1 1 (y1 + 1) → (k y1 V8))))))))
set_option maxRecDepth 100000 in
set_option maxHeartbeats 4000000 in
theorem c_Pg_add {l : Launch} {g : gT} (hG : gd g) {V : vS} {x1 : Int32} {x2 : Int32} {x3 : Int32} {k : Int32 → vS → Prop} (h : p_Pg_add k V x1 x2 x3) : Ci g l y_Pg_add prog_8_method_3_code 5 (some .int) rm_Pg_add [.ref (ga g 1), .int x1, .int x2, .int x3] V k := by
  unfold Ci
  refine Met.ofW (cc := prog_8_method_3_code) (maxL := 5) (ret := some .int) (by decide) rfl ?_
  intro p e s m args below meth c s₁ B hml hv
  obtain ⟨rfl, hP, hK, hZ⟩ := hv
  have X : cx g p s m meth c [.ref (ga g 1), .int x1, .int x2, .int x3].toArray R_Pg prog_8_method_3_code 5 (some .int) := ⟨B.exec, B.bytes, B.returns, hml, findClass_of_methodNamed B.named, fun w hw => atoms_spec (ws := Cond.code y_Pg_add prog_8_method_3_code 5 (some .int) :: TBL) B.pre w (List.mem_cons_of_mem _ hw), B.notSynchronized, hK, hZ, hG⟩
  have hl := lv_entry [.ref (ga g 1), .int x1, .int x2, .int x3] (n := 5) (Nat.le_of_ble_eq_true rfl)
  rw [lg_entry_eq]
  generalize (lg_sl [.ref (ga g 1), .int x1, .int x2, .int x3] ++ List.replicate (5 - (lg_sl [.ref (ga g 1), .int x1, .int x2, .int x3]).length) Slot.unset).toArray = ls at hl ⊢
  have hl : lv_has ls 5 [(0, .ref (ga g 1)), (1, .int x1), (2, .int x2), (3, .int x3)] := hl
  have hS : va_S (gA g) s.heap s.heap [] := va_S.rf
  obtain ⟨hx, hb, -, -, hown, hts, -, -, hz, -⟩ := id X
  show W p l e rm_Pg_add s m _ below meth c s.heap [] 0 0 (MQ below (va_Qi k (Bw g) (gA g)) _ s 0 0 (gA g)) (F0 m 0 ls [])
  unfold p_Pg_add at h
  refine lv_aload_n hx hb d_Pg_add_0 rfl (lv_at hl 0 rfl) ?_
  refine gf_Pg_size X hP q_69 d_Pg_add_1 ?_
  refine lv_topi (fun y1 ey1 => ?_)
  have h := h y1 ey1
  refine lv_istore (lv' := [(4, .int y1), (0, .ref (ga g 1)), (1, .int x1), (2, .int x2), (3, .int x3)]) hx hb d_Pg_add_4 hl (by decide) rfl (fun ls hl => ?_)
  refine lv_aload_n hx hb d_Pg_add_6 rfl (lv_at hl 1 rfl) ?_
  refine gf_Pg_functions X hP q_65 d_Pg_add_7 ?_
  refine lv_iload hx hb d_Pg_add_10 (lv_at hl 0 rfl) ?_
  obtain ⟨hi2, h⟩ := h
  refine rw_aaldF X hP hi2 d_Pg_add_12 ?_
  refine lv_iload_n hx hb d_Pg_add_13 rfl (lv_at hl 2 rfl) ?_
  refine pf_Fn_takes X hP hS (fn_of hi2) q_41 d_Pg_add_14 (fun V3 H locs eV3 hP hS => ?_)
  have h := h V3 eV3
  refine lv_aload_n hx hb d_Pg_add_17 rfl (lv_at hl 1 rfl) ?_
  refine gf_Pg_functions X hP q_65 d_Pg_add_18 ?_
  refine lv_iload hx hb d_Pg_add_21 (lv_at hl 0 rfl) ?_
  obtain ⟨hi4, h⟩ := h
  refine rw_aaldF X hP hi4 d_Pg_add_23 ?_
  refine lv_iload_n hx hb d_Pg_add_24 rfl (lv_at hl 3 rfl) ?_
  refine pf_Fn_gives X hP hS (fn_of hi4) q_45 d_Pg_add_25 (fun V5 H locs eV5 hP hS => ?_)
  have h := h V5 eV5
  refine lv_aload_n hx hb d_Pg_add_28 rfl (lv_at hl 1 rfl) ?_
  refine gf_Pg_functions X hP q_65 d_Pg_add_29 ?_
  refine lv_iload hx hb d_Pg_add_32 (lv_at hl 0 rfl) ?_
  obtain ⟨hi6, h⟩ := h
  refine rw_aaldF X hP hi6 d_Pg_add_34 ?_
  refine lv_iload_n hx hb d_Pg_add_35 rfl (lv_at hl 4 rfl) ?_
  refine pf_Fn_locals X hP hS (fn_of hi6) q_49 d_Pg_add_36 (fun V7 H locs eV7 hP hS => ?_)
  have h := h V7 eV7
  refine lv_aload_n hx hb d_Pg_add_39 rfl (lv_at hl 1 rfl) ?_
  refine lv_iload hx hb d_Pg_add_40 (lv_at hl 0 rfl) ?_
  refine lv_iconst (v := 1) hx hb d_Pg_add_42 (by decide) ?_
  refine lv_iadd hx hb d_Pg_add_43 ?_
  refine pf_Pg_size X hP hS q_69 d_Pg_add_44 (fun V8 H locs eV8 hP hS => ?_)
  have h := h V8 eV8
  refine lv_iload hx hb d_Pg_add_47 (lv_at hl 0 rfl) ?_
  exact rw_iret X hP hS h d_Pg_add_49
theorem yv_Pg_add : yV R_Pg y_Pg_add prog_8_method_3_code 5 (some .int) 3 := ⟨by decide +kernel, q_224, q_225, q_2, q_226⟩
/-! Pg.taken -/
theorem d_Pg_taken_0 : decode prog_8_method_4_code 0 = .ok (.iload_n 1, 1) := by decide +kernel
theorem d_Pg_taken_1 : decode prog_8_method_4_code 1 = .ok (.bipush 17, 2) := by decide +kernel
theorem d_Pg_taken_3 : decode prog_8_method_4_code 3 = .ok (.if_icmp .ne 15, 3) := by decide +kernel
theorem d_Pg_taken_6 : decode prog_8_method_4_code 6 = .ok (.aload_n 0, 1) := by decide +kernel
theorem d_Pg_taken_7 : decode prog_8_method_4_code 7 = .ok (.getfield 11, 3) := by decide +kernel
theorem d_Pg_taken_10 : decode prog_8_method_4_code 10 = .ok (.iload_n 2, 1) := by decide +kernel
theorem d_Pg_taken_11 : decode prog_8_method_4_code 11 = .ok (.aaload, 1) := by decide +kernel
theorem d_Pg_taken_12 : decode prog_8_method_4_code 12 = .ok (.getfield 22, 3) := by decide +kernel
theorem d_Pg_taken_15 : decode prog_8_method_4_code 15 = .ok (.goto 8, 3) := by decide +kernel
theorem d_Pg_taken_18 : decode prog_8_method_4_code 18 = .ok (.getstatic 33, 3) := by decide +kernel
theorem d_Pg_taken_21 : decode prog_8_method_4_code 21 = .ok (.iload_n 1, 1) := by decide +kernel
theorem d_Pg_taken_22 : decode prog_8_method_4_code 22 = .ok (.iaload, 1) := by decide +kernel
theorem d_Pg_taken_23 : decode prog_8_method_4_code 23 = .ok (.ireturn, 1) := by decide +kernel
abbrev rm_Pg_taken : Room := { frames := 0, cells := 0, slots := 0, locals := 0 }
def p_Pg_taken_b23 (k : Int32 → vS → Prop) (V : vS) (s0 : Int32) : Prop := k s0 V
set_option maxRecDepth 100000 in
set_option maxHeartbeats 4000000 in
theorem t_Pg_taken_b23 {k : Int32 → vS → Prop} (X : cx g p s m meth c args R_Pg prog_8_method_4_code 3 (some .int)) {V : vS} {s0 : Int32} (h : p_Pg_taken_b23 k V s0) (hP : va_P g.1 vcl (cw g V) H) (hS : va_S (gA g) s.heap H locs) (hl : lv_has ls 3 []) : W p l e rm_Pg_taken s m args below meth c H locs 0 0 (MQ below (va_Qi k (Bw g) (gA g)) args s 0 0 (gA g)) (F0 m 23 ls [.int s0]) := by
  obtain ⟨hx, hb, -, -, hown, hts, -, -, hz, hG⟩ := id X
  unfold p_Pg_taken_b23 at h
  exact rw_iret X hP hS h d_Pg_taken_23
def p_Pg_taken (k : Int32 → vS → Prop) (V : vS) (x1 : Int32) (x2 : Int32) : Prop := (x1 = 17 → (vp_in x2 4 ∧ (p_Pg_taken_b23 k V (V.1 (3 + nt x2) 3)))) ∧ (¬ x1 = 17 → (vp_in x1 20 ∧ (p_Pg_taken_b23 k V (tTakes (nt x1)))))
set_option maxRecDepth 100000 in
set_option maxHeartbeats 4000000 in
theorem c_Pg_taken {l : Launch} {g : gT} (hG : gd g) {V : vS} {x1 : Int32} {x2 : Int32} {k : Int32 → vS → Prop} (h : p_Pg_taken k V x1 x2) : Ci g l y_Pg_taken prog_8_method_4_code 3 (some .int) rm_Pg_taken [.ref (ga g 1), .int x1, .int x2] V k := by
  unfold Ci
  refine Met.ofW (cc := prog_8_method_4_code) (maxL := 3) (ret := some .int) (by decide) rfl ?_
  intro p e s m args below meth c s₁ B hml hv
  obtain ⟨rfl, hP, hK, hZ⟩ := hv
  have X : cx g p s m meth c [.ref (ga g 1), .int x1, .int x2].toArray R_Pg prog_8_method_4_code 3 (some .int) := ⟨B.exec, B.bytes, B.returns, hml, findClass_of_methodNamed B.named, fun w hw => atoms_spec (ws := Cond.code y_Pg_taken prog_8_method_4_code 3 (some .int) :: TBL) B.pre w (List.mem_cons_of_mem _ hw), B.notSynchronized, hK, hZ, hG⟩
  have hl := lv_entry [.ref (ga g 1), .int x1, .int x2] (n := 3) (Nat.le_of_ble_eq_true rfl)
  rw [lg_entry_eq]
  generalize (lg_sl [.ref (ga g 1), .int x1, .int x2] ++ List.replicate (3 - (lg_sl [.ref (ga g 1), .int x1, .int x2]).length) Slot.unset).toArray = ls at hl ⊢
  have hl : lv_has ls 3 [(0, .ref (ga g 1)), (1, .int x1), (2, .int x2)] := hl
  have hS : va_S (gA g) s.heap s.heap [] := va_S.rf
  obtain ⟨hx, hb, -, -, hown, hts, -, -, hz, -⟩ := id X
  show W p l e rm_Pg_taken s m _ below meth c s.heap [] 0 0 (MQ below (va_Qi k (Bw g) (gA g)) _ s 0 0 (gA g)) (F0 m 0 ls [])
  unfold p_Pg_taken at h
  refine lv_iload_n hx hb d_Pg_taken_0 rfl (lv_at hl 1 rfl) ?_
  refine lv_bipush (v := 17) hx hb d_Pg_taken_1 (by decide) ?_
  refine lv_icmp_ne (tgt := 18) hx hb d_Pg_taken_3 (by decide) (fun c1 => ?_) (fun c1 => ?_)
  · have h := h.2 c1
    refine gs_TAKES (ref := R_Op) (host := R_PR) X hS hz.2.2.2.2.2.1 d_Pg_taken_18 ?_
    refine lv_iload_n hx hb d_Pg_taken_21 rfl (lv_at hl 1 rfl) ?_
    obtain ⟨hi2, h⟩ := h
    refine gl_TAKES X hS hi2 d_Pg_taken_22 ?_
    exact t_Pg_taken_b23 X h hP hS (lv_sub hl [] rfl)
  · have h := h.1 c1
    refine lv_aload_n hx hb d_Pg_taken_6 rfl (lv_at hl 0 rfl) ?_
    refine gf_Pg_functions X hP q_65 d_Pg_taken_7 ?_
    refine lv_iload_n hx hb d_Pg_taken_10 rfl (lv_at hl 2 rfl) ?_
    obtain ⟨hi3, h⟩ := h
    refine rw_aaldF X hP hi3 d_Pg_taken_11 ?_
    refine gf_Fn_takes X hP (fn_of hi3) q_41 d_Pg_taken_12 ?_
    refine lv_goto (tgt := 23) hx hb d_Pg_taken_15 (by decide) ?_
    exact t_Pg_taken_b23 X h hP hS (lv_sub hl [] rfl)
theorem yv_Pg_taken : yV R_Pg y_Pg_taken prog_8_method_4_code 3 (some .int) 2 := ⟨by decide +kernel, q_266, q_267, q_2, q_268⟩
/-! Pg.put -/
theorem d_Pg_put_0 : decode prog_8_method_5_code 0 = .ok (.iload_n 1, 1) := by decide +kernel
theorem d_Pg_put_1 : decode prog_8_method_5_code 1 = .ok (.bipush 17, 2) := by decide +kernel
theorem d_Pg_put_3 : decode prog_8_method_5_code 3 = .ok (.if_icmp .ne 15, 3) := by decide +kernel
theorem d_Pg_put_6 : decode prog_8_method_5_code 6 = .ok (.aload_n 0, 1) := by decide +kernel
theorem d_Pg_put_7 : decode prog_8_method_5_code 7 = .ok (.getfield 11, 3) := by decide +kernel
theorem d_Pg_put_10 : decode prog_8_method_5_code 10 = .ok (.iload_n 2, 1) := by decide +kernel
theorem d_Pg_put_11 : decode prog_8_method_5_code 11 = .ok (.aaload, 1) := by decide +kernel
theorem d_Pg_put_12 : decode prog_8_method_5_code 12 = .ok (.getfield 25, 3) := by decide +kernel
theorem d_Pg_put_15 : decode prog_8_method_5_code 15 = .ok (.goto 8, 3) := by decide +kernel
theorem d_Pg_put_18 : decode prog_8_method_5_code 18 = .ok (.getstatic 37, 3) := by decide +kernel
theorem d_Pg_put_21 : decode prog_8_method_5_code 21 = .ok (.iload_n 1, 1) := by decide +kernel
theorem d_Pg_put_22 : decode prog_8_method_5_code 22 = .ok (.iaload, 1) := by decide +kernel
theorem d_Pg_put_23 : decode prog_8_method_5_code 23 = .ok (.ireturn, 1) := by decide +kernel
abbrev rm_Pg_put : Room := { frames := 0, cells := 0, slots := 0, locals := 0 }
def p_Pg_put_b23 (k : Int32 → vS → Prop) (V : vS) (s0 : Int32) : Prop := k s0 V
set_option maxRecDepth 100000 in
set_option maxHeartbeats 4000000 in
theorem t_Pg_put_b23 {k : Int32 → vS → Prop} (X : cx g p s m meth c args R_Pg prog_8_method_5_code 3 (some .int)) {V : vS} {s0 : Int32} (h : p_Pg_put_b23 k V s0) (hP : va_P g.1 vcl (cw g V) H) (hS : va_S (gA g) s.heap H locs) (hl : lv_has ls 3 []) : W p l e rm_Pg_put s m args below meth c H locs 0 0 (MQ below (va_Qi k (Bw g) (gA g)) args s 0 0 (gA g)) (F0 m 23 ls [.int s0]) := by
  obtain ⟨hx, hb, -, -, hown, hts, -, -, hz, hG⟩ := id X
  unfold p_Pg_put_b23 at h
  exact rw_iret X hP hS h d_Pg_put_23
def p_Pg_put (k : Int32 → vS → Prop) (V : vS) (x1 : Int32) (x2 : Int32) : Prop := (x1 = 17 → (vp_in x2 4 ∧ (p_Pg_put_b23 k V (V.1 (3 + nt x2) 4)))) ∧ (¬ x1 = 17 → (vp_in x1 20 ∧ (p_Pg_put_b23 k V (tPuts (nt x1)))))
set_option maxRecDepth 100000 in
set_option maxHeartbeats 4000000 in
theorem c_Pg_put {l : Launch} {g : gT} (hG : gd g) {V : vS} {x1 : Int32} {x2 : Int32} {k : Int32 → vS → Prop} (h : p_Pg_put k V x1 x2) : Ci g l y_Pg_put prog_8_method_5_code 3 (some .int) rm_Pg_put [.ref (ga g 1), .int x1, .int x2] V k := by
  unfold Ci
  refine Met.ofW (cc := prog_8_method_5_code) (maxL := 3) (ret := some .int) (by decide) rfl ?_
  intro p e s m args below meth c s₁ B hml hv
  obtain ⟨rfl, hP, hK, hZ⟩ := hv
  have X : cx g p s m meth c [.ref (ga g 1), .int x1, .int x2].toArray R_Pg prog_8_method_5_code 3 (some .int) := ⟨B.exec, B.bytes, B.returns, hml, findClass_of_methodNamed B.named, fun w hw => atoms_spec (ws := Cond.code y_Pg_put prog_8_method_5_code 3 (some .int) :: TBL) B.pre w (List.mem_cons_of_mem _ hw), B.notSynchronized, hK, hZ, hG⟩
  have hl := lv_entry [.ref (ga g 1), .int x1, .int x2] (n := 3) (Nat.le_of_ble_eq_true rfl)
  rw [lg_entry_eq]
  generalize (lg_sl [.ref (ga g 1), .int x1, .int x2] ++ List.replicate (3 - (lg_sl [.ref (ga g 1), .int x1, .int x2]).length) Slot.unset).toArray = ls at hl ⊢
  have hl : lv_has ls 3 [(0, .ref (ga g 1)), (1, .int x1), (2, .int x2)] := hl
  have hS : va_S (gA g) s.heap s.heap [] := va_S.rf
  obtain ⟨hx, hb, -, -, hown, hts, -, -, hz, -⟩ := id X
  show W p l e rm_Pg_put s m _ below meth c s.heap [] 0 0 (MQ below (va_Qi k (Bw g) (gA g)) _ s 0 0 (gA g)) (F0 m 0 ls [])
  unfold p_Pg_put at h
  refine lv_iload_n hx hb d_Pg_put_0 rfl (lv_at hl 1 rfl) ?_
  refine lv_bipush (v := 17) hx hb d_Pg_put_1 (by decide) ?_
  refine lv_icmp_ne (tgt := 18) hx hb d_Pg_put_3 (by decide) (fun c1 => ?_) (fun c1 => ?_)
  · have h := h.2 c1
    refine gs_PUTS (ref := R_Op) (host := R_PR) X hS hz.2.2.2.2.2.2 d_Pg_put_18 ?_
    refine lv_iload_n hx hb d_Pg_put_21 rfl (lv_at hl 1 rfl) ?_
    obtain ⟨hi2, h⟩ := h
    refine gl_PUTS X hS hi2 d_Pg_put_22 ?_
    exact t_Pg_put_b23 X h hP hS (lv_sub hl [] rfl)
  · have h := h.1 c1
    refine lv_aload_n hx hb d_Pg_put_6 rfl (lv_at hl 0 rfl) ?_
    refine gf_Pg_functions X hP q_65 d_Pg_put_7 ?_
    refine lv_iload_n hx hb d_Pg_put_10 rfl (lv_at hl 2 rfl) ?_
    obtain ⟨hi3, h⟩ := h
    refine rw_aaldF X hP hi3 d_Pg_put_11 ?_
    refine gf_Fn_gives X hP (fn_of hi3) q_45 d_Pg_put_12 ?_
    refine lv_goto (tgt := 23) hx hb d_Pg_put_15 (by decide) ?_
    exact t_Pg_put_b23 X h hP hS (lv_sub hl [] rfl)
theorem yv_Pg_put : yV R_Pg y_Pg_put prog_8_method_5_code 3 (some .int) 2 := ⟨by decide +kernel, q_284, q_285, q_2, q_286⟩
/-! Fn.add -/
theorem d_Fn_add_0 : decode prog_5_method_2_code 0 = .ok (.aload_n 0, 1) := by decide +kernel
theorem d_Fn_add_1 : decode prog_5_method_2_code 1 = .ok (.getfield 18, 3) := by decide +kernel
theorem d_Fn_add_4 : decode prog_5_method_2_code 4 = .ok (.istore_n 3, 1) := by decide +kernel
theorem d_Fn_add_5 : decode prog_5_method_2_code 5 = .ok (.aload_n 0, 1) := by decide +kernel
theorem d_Fn_add_6 : decode prog_5_method_2_code 6 = .ok (.getfield 9, 3) := by decide +kernel
theorem d_Fn_add_9 : decode prog_5_method_2_code 9 = .ok (.iload_n 3, 1) := by decide +kernel
theorem d_Fn_add_10 : decode prog_5_method_2_code 10 = .ok (.iload_n 1, 1) := by decide +kernel
theorem d_Fn_add_11 : decode prog_5_method_2_code 11 = .ok (.iastore, 1) := by decide +kernel
theorem d_Fn_add_12 : decode prog_5_method_2_code 12 = .ok (.aload_n 0, 1) := by decide +kernel
theorem d_Fn_add_13 : decode prog_5_method_2_code 13 = .ok (.getfield 15, 3) := by decide +kernel
theorem d_Fn_add_16 : decode prog_5_method_2_code 16 = .ok (.iload_n 3, 1) := by decide +kernel
theorem d_Fn_add_17 : decode prog_5_method_2_code 17 = .ok (.iload_n 2, 1) := by decide +kernel
theorem d_Fn_add_18 : decode prog_5_method_2_code 18 = .ok (.iastore, 1) := by decide +kernel
theorem d_Fn_add_19 : decode prog_5_method_2_code 19 = .ok (.aload_n 0, 1) := by decide +kernel
theorem d_Fn_add_20 : decode prog_5_method_2_code 20 = .ok (.iload_n 3, 1) := by decide +kernel
theorem d_Fn_add_21 : decode prog_5_method_2_code 21 = .ok (.iconst 1, 1) := by decide +kernel
theorem d_Fn_add_22 : decode prog_5_method_2_code 22 = .ok (.iadd, 1) := by decide +kernel
theorem d_Fn_add_23 : decode prog_5_method_2_code 23 = .ok (.putfield 18, 3) := by decide +kernel
theorem d_Fn_add_26 : decode prog_5_method_2_code 26 = .ok (.iload_n 3, 1) := by decide +kernel
theorem d_Fn_add_27 : decode prog_5_method_2_code 27 = .ok (.ireturn, 1) := by decide +kernel
abbrev rm_Fn_add : Room := { frames := 0, cells := 0, slots := 0, locals := 0 }
def p_Fn_add (k : Int32 → vS → Prop) (V : vS) (f0 : Nat) (x1 : Int32) (x2 : Int32) : Prop := ∀ y1 : Int32, y1 = V.1 f0 2 → (vp_in y1 24 ∧ ∀ V3 : vS, V3 = sv V (f0 + 4) (nt y1) x1 → (vp_in y1 24 ∧ ∀ V5 : vS, V5 = sv V3 (f0 + 8) (nt y1) x2 → (∀ V6 : vS, V6 = sv V5 f0 2 (y1 + 1) → (k y1 V6))))
set_option maxRecDepth 100000 in
set_option maxHeartbeats 4000000 in
theorem c_Fn_add {l : Launch} {g : gT} (hG : gd g) {V : vS} {f0 : Nat} {x1 : Int32} {x2 : Int32} (hf0 : 3 ≤ f0 ∧ f0 < 7) {k : Int32 → vS → Prop} (h : p_Fn_add k V f0 x1 x2) : Ci g l y_Fn_add prog_5_method_2_code 4 (some .int) rm_Fn_add [.ref (ga g f0), .int x1, .int x2] V k := by
  unfold Ci
  refine Met.ofW (cc := prog_5_method_2_code) (maxL := 4) (ret := some .int) (by decide) rfl ?_
  intro p e s m args below meth c s₁ B hml hv
  obtain ⟨rfl, hP, hK, hZ⟩ := hv
  have X : cx g p s m meth c [.ref (ga g f0), .int x1, .int x2].toArray R_Fn prog_5_method_2_code 4 (some .int) := ⟨B.exec, B.bytes, B.returns, hml, findClass_of_methodNamed B.named, fun w hw => atoms_spec (ws := Cond.code y_Fn_add prog_5_method_2_code 4 (some .int) :: TBL) B.pre w (List.mem_cons_of_mem _ hw), B.notSynchronized, hK, hZ, hG⟩
  have hl := lv_entry [.ref (ga g f0), .int x1, .int x2] (n := 4) (Nat.le_of_ble_eq_true rfl)
  rw [lg_entry_eq]
  generalize (lg_sl [.ref (ga g f0), .int x1, .int x2] ++ List.replicate (4 - (lg_sl [.ref (ga g f0), .int x1, .int x2]).length) Slot.unset).toArray = ls at hl ⊢
  have hl : lv_has ls 4 [(0, .ref (ga g f0)), (1, .int x1), (2, .int x2)] := hl
  have hS : va_S (gA g) s.heap s.heap [] := va_S.rf
  obtain ⟨hx, hb, -, -, hown, hts, -, -, hz, -⟩ := id X
  show W p l e rm_Fn_add s m _ below meth c s.heap [] 0 0 (MQ below (va_Qi k (Bw g) (gA g)) _ s 0 0 (gA g)) (F0 m 0 ls [])
  unfold p_Fn_add at h
  refine lv_aload_n hx hb d_Fn_add_0 rfl (lv_at hl 0 rfl) ?_
  refine gf_Fn_length X hP hf0 q_36 d_Fn_add_1 ?_
  refine lv_topi (fun y1 ey1 => ?_)
  have h := h y1 ey1
  refine lv_istore_n (lv' := [(3, .int y1), (0, .ref (ga g f0)), (1, .int x1), (2, .int x2)]) hx hb d_Fn_add_4 rfl hl (by decide) rfl (fun ls hl => ?_)
  refine lv_aload_n hx hb d_Fn_add_5 rfl (lv_at hl 1 rfl) ?_
  refine gf_Fn_ops X hP hf0 q_30 d_Fn_add_6 ?_
  refine lv_iload_n hx hb d_Fn_add_9 rfl (lv_at hl 0 rfl) ?_
  refine lv_iload_n hx hb d_Fn_add_10 rfl (lv_at hl 2 rfl) ?_
  obtain ⟨hi2, h⟩ := h
  refine rw_iast X hP hS (isI_ops hf0) hi2 d_Fn_add_11 (fun V3 H locs eV3 hP hS => ?_)
  have h := h V3 eV3
  refine lv_aload_n hx hb d_Fn_add_12 rfl (lv_at hl 1 rfl) ?_
  refine gf_Fn_arguments X hP hf0 q_33 d_Fn_add_13 ?_
  refine lv_iload_n hx hb d_Fn_add_16 rfl (lv_at hl 0 rfl) ?_
  refine lv_iload_n hx hb d_Fn_add_17 rfl (lv_at hl 3 rfl) ?_
  obtain ⟨hi4, h⟩ := h
  refine rw_iast X hP hS (isI_args hf0) hi4 d_Fn_add_18 (fun V5 H locs eV5 hP hS => ?_)
  have h := h V5 eV5
  refine lv_aload_n hx hb d_Fn_add_19 rfl (lv_at hl 1 rfl) ?_
  refine lv_iload_n hx hb d_Fn_add_20 rfl (lv_at hl 0 rfl) ?_
  refine lv_iconst (v := 1) hx hb d_Fn_add_21 (by decide) ?_
  refine lv_iadd hx hb d_Fn_add_22 ?_
  refine pf_Fn_length X hP hS hf0 q_36 d_Fn_add_23 (fun V6 H locs eV6 hP hS => ?_)
  have h := h V6 eV6
  refine lv_iload_n hx hb d_Fn_add_26 rfl (lv_at hl 0 rfl) ?_
  exact rw_iret X hP hS h d_Fn_add_27
theorem yv_Fn_add : yV R_Fn y_Fn_add prog_5_method_2_code 4 (some .int) 2 := ⟨by decide +kernel, q_236, q_237, q_3, q_238⟩
/-! Fn.openingOf -/
theorem d_Fn_openingOf_0 : decode prog_5_method_4_code 0 = .ok (.iconst 0, 1) := by decide +kernel
theorem d_Fn_openingOf_1 : decode prog_5_method_4_code 1 = .ok (.istore_n 3, 1) := by decide +kernel
theorem d_Fn_openingOf_2 : decode prog_5_method_4_code 2 = .ok (.iload_n 2, 1) := by decide +kernel
theorem d_Fn_openingOf_3 : decode prog_5_method_4_code 3 = .ok (.istore 4, 2) := by decide +kernel
theorem d_Fn_openingOf_5 : decode prog_5_method_4_code 5 = .ok (.iload_n 1, 1) := by decide +kernel
theorem d_Fn_openingOf_6 : decode prog_5_method_4_code 6 = .ok (.iconst 1, 1) := by decide +kernel
theorem d_Fn_openingOf_7 : decode prog_5_method_4_code 7 = .ok (.isub, 1) := by decide +kernel
theorem d_Fn_openingOf_8 : decode prog_5_method_4_code 8 = .ok (.istore 5, 2) := by decide +kernel
theorem d_Fn_openingOf_10 : decode prog_5_method_4_code 10 = .ok (.iload 5, 2) := by decide +kernel
theorem d_Fn_openingOf_12 : decode prog_5_method_4_code 12 = .ok (.ifCond .lt 64, 3) := by decide +kernel
theorem d_Fn_openingOf_15 : decode prog_5_method_4_code 15 = .ok (.aload_n 0, 1) := by decide +kernel
theorem d_Fn_openingOf_16 : decode prog_5_method_4_code 16 = .ok (.getfield 9, 3) := by decide +kernel
theorem d_Fn_openingOf_19 : decode prog_5_method_4_code 19 = .ok (.iload 5, 2) := by decide +kernel
theorem d_Fn_openingOf_21 : decode prog_5_method_4_code 21 = .ok (.iaload, 1) := by decide +kernel
theorem d_Fn_openingOf_22 : decode prog_5_method_4_code 22 = .ok (.bipush 14, 2) := by decide +kernel
theorem d_Fn_openingOf_24 : decode prog_5_method_4_code 24 = .ok (.if_icmp .ne 9, 3) := by decide +kernel
theorem d_Fn_openingOf_27 : decode prog_5_method_4_code 27 = .ok (.iinc 3 1, 3) := by decide +kernel
theorem d_Fn_openingOf_30 : decode prog_5_method_4_code 30 = .ok (.goto 40, 3) := by decide +kernel
theorem d_Fn_openingOf_33 : decode prog_5_method_4_code 33 = .ok (.aload_n 0, 1) := by decide +kernel
theorem d_Fn_openingOf_34 : decode prog_5_method_4_code 34 = .ok (.getfield 9, 3) := by decide +kernel
theorem d_Fn_openingOf_37 : decode prog_5_method_4_code 37 = .ok (.iload 5, 2) := by decide +kernel
theorem d_Fn_openingOf_39 : decode prog_5_method_4_code 39 = .ok (.iaload, 1) := by decide +kernel
theorem d_Fn_openingOf_40 : decode prog_5_method_4_code 40 = .ok (.invokestatic 41, 3) := by decide +kernel
theorem d_Fn_openingOf_43 : decode prog_5_method_4_code 43 = .ok (.ifCond .eq 27, 3) := by decide +kernel
theorem d_Fn_openingOf_46 : decode prog_5_method_4_code 46 = .ok (.iload_n 3, 1) := by decide +kernel
theorem d_Fn_openingOf_47 : decode prog_5_method_4_code 47 = .ok (.ifCond .le 9, 3) := by decide +kernel
theorem d_Fn_openingOf_50 : decode prog_5_method_4_code 50 = .ok (.iinc 3 (-1), 3) := by decide +kernel
theorem d_Fn_openingOf_53 : decode prog_5_method_4_code 53 = .ok (.goto 17, 3) := by decide +kernel
theorem d_Fn_openingOf_56 : decode prog_5_method_4_code 56 = .ok (.iload 4, 2) := by decide +kernel
theorem d_Fn_openingOf_58 : decode prog_5_method_4_code 58 = .ok (.ifCond .le 9, 3) := by decide +kernel
theorem d_Fn_openingOf_61 : decode prog_5_method_4_code 61 = .ok (.iinc 4 (-1), 3) := by decide +kernel
theorem d_Fn_openingOf_64 : decode prog_5_method_4_code 64 = .ok (.goto 6, 3) := by decide +kernel
theorem d_Fn_openingOf_67 : decode prog_5_method_4_code 67 = .ok (.iload 5, 2) := by decide +kernel
theorem d_Fn_openingOf_69 : decode prog_5_method_4_code 69 = .ok (.ireturn, 1) := by decide +kernel
theorem d_Fn_openingOf_70 : decode prog_5_method_4_code 70 = .ok (.iinc 5 (-1), 3) := by decide +kernel
theorem d_Fn_openingOf_73 : decode prog_5_method_4_code 73 = .ok (.goto (-63), 3) := by decide +kernel
theorem d_Fn_openingOf_76 : decode prog_5_method_4_code 76 = .ok (.iconst (-1), 1) := by decide +kernel
theorem d_Fn_openingOf_77 : decode prog_5_method_4_code 77 = .ok (.ireturn, 1) := by decide +kernel
abbrev rm_Fn_openingOf : Room := { frames := 1, cells := 0, slots := 0, locals := 20 }
def p_Fn_openingOf_b70 (k : Int32 → vS → Prop) (hd : vS → Nat → Int32 → Int32 → Int32 → Prop) (V : vS) (f0 : Nat) (x3 : Int32) (x4 : Int32) (x5 : Int32) : Prop := ∀ y1 : Int32, y1 = x5 + (-1) → (hd V f0 x3 x4 y1)
set_option maxRecDepth 100000 in
set_option maxHeartbeats 4000000 in
theorem t_Fn_openingOf_b70 {k : Int32 → vS → Prop} (X : cx g p s m meth c args R_Fn prog_5_method_4_code 6 (some .int)) {hd : vS → Nat → Int32 → Int32 → Int32 → Prop} (ih : ∀ (V : vS) (f0 : Nat) (x3 : Int32) (x4 : Int32) (x5 : Int32) (hf0 : 3 ≤ f0 ∧ f0 < 7), hd V f0 x3 x4 x5 → ∀ (H : Heap) (locs : List Loc) (ls : Array Slot), va_P g.1 vcl (cw g V) H → va_S (gA g) s.heap H locs → lv_has ls 6 [(0, .ref (ga g f0)), (3, .int x3), (4, .int x4), (5, .int x5)] → W p l e rm_Fn_openingOf s m args below meth c H locs 0 0 (MQ below (va_Qi k (Bw g) (gA g)) args s 0 0 (gA g)) (F0 m 10 ls [])) {V : vS} {f0 : Nat} {x3 : Int32} {x4 : Int32} {x5 : Int32} (hf0 : 3 ≤ f0 ∧ f0 < 7) (h : p_Fn_openingOf_b70 k hd V f0 x3 x4 x5) (hP : va_P g.1 vcl (cw g V) H) (hS : va_S (gA g) s.heap H locs) (hl : lv_has ls 6 [(0, .ref (ga g f0)), (3, .int x3), (4, .int x4), (5, .int x5)]) : W p l e rm_Fn_openingOf s m args below meth c H locs 0 0 (MQ below (va_Qi k (Bw g) (gA g)) args s 0 0 (gA g)) (F0 m 70 ls []) := by
  obtain ⟨hx, hb, -, -, hown, hts, -, -, hz, hG⟩ := id X
  unfold p_Fn_openingOf_b70 at h
  obtain ⟨y1, ey1⟩ : ∃ z : Int32, z = x5 + (-1) := ⟨_, rfl⟩
  have h := h y1 ey1
  refine lv_iinc (v := y1) (lv' := [(5, .int y1), (0, .ref (ga g f0)), (3, .int x3), (4, .int x4)]) hx hb d_Fn_openingOf_70 hl (k := 3) rfl (by rw [ey1]; rfl) (by decide) rfl (fun ls hl => ?_)
  refine lv_goto (tgt := 10) hx hb d_Fn_openingOf_73 (by decide) ?_
  exact ih V f0 x3 x4 y1 hf0 h _ _ _ hP hS (lv_sub hl [1, 2, 3, 0] rfl)
def p_Fn_openingOf_b10 (k : Int32 → vS → Prop) : Nat → vS → Nat → Int32 → Int32 → Int32 → Prop
  | 0, _, _, _, _, _ => False
  | n + 1, V, f0, x3, x4, x5 => (x5 < 0 → (k (-1) V)) ∧ (¬ x5 < 0 → (vp_in x5 24 ∧ (((V.1 (f0 + 4) (nt x5)) = 14 → (∀ y13 : Int32, y13 = x3 + 1 → (p_Fn_openingOf_b70 k (p_Fn_openingOf_b10 k n) V f0 y13 x4 x5))) ∧ (¬ (V.1 (f0 + 4) (nt x5)) = 14 → (vp_in x5 24 ∧ (p_Op_opensPart (fun r6 V5 => (r6 = 0 → (p_Fn_openingOf_b70 k (p_Fn_openingOf_b10 k n) V5 f0 x3 x4 x5)) ∧ (¬ r6 = 0 → ((x3 ≤ 0 → ((x4 ≤ 0 → (k x5 V5)) ∧ (¬ x4 ≤ 0 → (∀ y11 : Int32, y11 = x4 + (-1) → (p_Fn_openingOf_b70 k (p_Fn_openingOf_b10 k n) V5 f0 x3 y11 x5))))) ∧ (¬ x3 ≤ 0 → (∀ y12 : Int32, y12 = x3 + (-1) → (p_Fn_openingOf_b70 k (p_Fn_openingOf_b10 k n) V5 f0 y12 x4 x5)))))) V (V.1 (f0 + 4) (nt x5))))))))
set_option maxRecDepth 100000 in
set_option maxHeartbeats 4000000 in
theorem t_Fn_openingOf_b10 {k : Int32 → vS → Prop} (X : cx g p s m meth c args R_Fn prog_5_method_4_code 6 (some .int)) : ∀ (n : Nat) (V : vS) (f0 : Nat) (x3 : Int32) (x4 : Int32) (x5 : Int32) (hf0 : 3 ≤ f0 ∧ f0 < 7), p_Fn_openingOf_b10 k n V f0 x3 x4 x5 → ∀ (H : Heap) (locs : List Loc) (ls : Array Slot), va_P g.1 vcl (cw g V) H → va_S (gA g) s.heap H locs → lv_has ls 6 [(0, .ref (ga g f0)), (3, .int x3), (4, .int x4), (5, .int x5)] → W p l e rm_Fn_openingOf s m args below meth c H locs 0 0 (MQ below (va_Qi k (Bw g) (gA g)) args s 0 0 (gA g)) (F0 m 10 ls []) := by
  obtain ⟨hx, hb, -, -, hown, hts, -, -, hz, hG⟩ := id X
  intro n
  induction n with
  | zero =>
    intro V f0 x3 x4 x5 hf0 h
    exact h.elim
  | succ n ih =>
    intro V f0 x3 x4 x5 hf0 h H locs ls hP hS hl
    unfold p_Fn_openingOf_b10 at h
    refine lv_iload hx hb d_Fn_openingOf_10 (lv_at hl 3 rfl) ?_
    refine lv_if_lt (tgt := 76) hx hb d_Fn_openingOf_12 (by decide) (fun c1 => ?_) (fun c1 => ?_)
    · have h := h.1 c1
      refine lv_iconst (v := (-1)) hx hb d_Fn_openingOf_76 (by decide) ?_
      exact rw_iret X hP hS h d_Fn_openingOf_77
    · have h := h.2 c1
      refine lv_aload_n hx hb d_Fn_openingOf_15 rfl (lv_at hl 0 rfl) ?_
      refine gf_Fn_ops X hP hf0 q_30 d_Fn_openingOf_16 ?_
      refine lv_iload hx hb d_Fn_openingOf_19 (lv_at hl 3 rfl) ?_
      obtain ⟨hi2, h⟩ := h
      refine rw_iald X hP (isI_ops hf0) hi2 d_Fn_openingOf_21 ?_
      refine lv_bipush (v := 14) hx hb d_Fn_openingOf_22 (by decide) ?_
      refine lv_icmp_ne (tgt := 33) hx hb d_Fn_openingOf_24 (by decide) (fun c3 => ?_) (fun c3 => ?_)
      · have h := h.2 c3
        refine lv_aload_n hx hb d_Fn_openingOf_33 rfl (lv_at hl 0 rfl) ?_
        refine gf_Fn_ops X hP hf0 q_30 d_Fn_openingOf_34 ?_
        refine lv_iload hx hb d_Fn_openingOf_37 (lv_at hl 3 rfl) ?_
        obtain ⟨hi4, h⟩ := h
        refine rw_iald X hP (isI_ops hf0) hi4 d_Fn_openingOf_39 ?_
        refine rw_cSi (rest := []) X hP hS ys_Op_opensPart (c_Op_opensPart hG h) q_385 ⟨rfl, rfl, by decide, by decide⟩ rfl rfl hl.1 (Nat.le_of_ble_eq_true rfl) ⟨Nat.zero_le _, Nat.zero_le _⟩ d_Fn_openingOf_40 (fun r6 V5 H locs h hP hS => ?_)
        refine lv_if_eq (tgt := 70) hx hb d_Fn_openingOf_43 (by decide) (fun c8 => ?_) (fun c8 => ?_)
        · have h := h.1 c8
          exact t_Fn_openingOf_b70 X (hd := p_Fn_openingOf_b10 k n) ih hf0 h hP hS (lv_sub hl [0, 1, 2, 3] rfl)
        · have h := h.2 c8
          refine lv_iload_n hx hb d_Fn_openingOf_46 rfl (lv_at hl 1 rfl) ?_
          refine lv_if_le (tgt := 56) hx hb d_Fn_openingOf_47 (by decide) (fun c9 => ?_) (fun c9 => ?_)
          · have h := h.1 c9
            refine lv_iload hx hb d_Fn_openingOf_56 (lv_at hl 2 rfl) ?_
            refine lv_if_le (tgt := 67) hx hb d_Fn_openingOf_58 (by decide) (fun c10 => ?_) (fun c10 => ?_)
            · have h := h.1 c10
              refine lv_iload hx hb d_Fn_openingOf_67 (lv_at hl 3 rfl) ?_
              exact rw_iret X hP hS h d_Fn_openingOf_69
            · have h := h.2 c10
              obtain ⟨y11, ey11⟩ : ∃ z : Int32, z = x4 + (-1) := ⟨_, rfl⟩
              have h := h y11 ey11
              refine lv_iinc (v := y11) (lv' := [(4, .int y11), (0, .ref (ga g f0)), (3, .int x3), (5, .int x5)]) hx hb d_Fn_openingOf_61 hl (k := 2) rfl (by rw [ey11]; rfl) (by decide) rfl (fun ls hl => ?_)
              refine lv_goto (tgt := 70) hx hb d_Fn_openingOf_64 (by decide) ?_
              exact t_Fn_openingOf_b70 X (hd := p_Fn_openingOf_b10 k n) ih hf0 h hP hS (lv_sub hl [1, 2, 0, 3] rfl)
          · have h := h.2 c9
            obtain ⟨y12, ey12⟩ : ∃ z : Int32, z = x3 + (-1) := ⟨_, rfl⟩
            have h := h y12 ey12
            refine lv_iinc (v := y12) (lv' := [(3, .int y12), (0, .ref (ga g f0)), (4, .int x4), (5, .int x5)]) hx hb d_Fn_openingOf_50 hl (k := 1) rfl (by rw [ey12]; rfl) (by decide) rfl (fun ls hl => ?_)
            refine lv_goto (tgt := 70) hx hb d_Fn_openingOf_53 (by decide) ?_
            exact t_Fn_openingOf_b70 X (hd := p_Fn_openingOf_b10 k n) ih hf0 h hP hS (lv_sub hl [1, 0, 2, 3] rfl)
      · have h := h.1 c3
        obtain ⟨y13, ey13⟩ : ∃ z : Int32, z = x3 + 1 := ⟨_, rfl⟩
        have h := h y13 ey13
        refine lv_iinc (v := y13) (lv' := [(3, .int y13), (0, .ref (ga g f0)), (4, .int x4), (5, .int x5)]) hx hb d_Fn_openingOf_27 hl (k := 1) rfl (by rw [ey13]; rfl) (by decide) rfl (fun ls hl => ?_)
        refine lv_goto (tgt := 70) hx hb d_Fn_openingOf_30 (by decide) ?_
        exact t_Fn_openingOf_b70 X (hd := p_Fn_openingOf_b10 k n) ih hf0 h hP hS (lv_sub hl [1, 0, 2, 3] rfl)
def p_Fn_openingOf (k : Int32 → vS → Prop) (V : vS) (f0 : Nat) (x1 : Int32) (x2 : Int32) : Prop := ∀ y1 : Int32, y1 = x1 - 1 → (∃ n, p_Fn_openingOf_b10 k n V f0 0 x2 y1)
set_option maxRecDepth 100000 in
set_option maxHeartbeats 4000000 in
theorem c_Fn_openingOf {l : Launch} {g : gT} (hG : gd g) {V : vS} {f0 : Nat} {x1 : Int32} {x2 : Int32} (hf0 : 3 ≤ f0 ∧ f0 < 7) {k : Int32 → vS → Prop} (h : p_Fn_openingOf k V f0 x1 x2) : Ci g l y_Fn_openingOf prog_5_method_4_code 6 (some .int) rm_Fn_openingOf [.ref (ga g f0), .int x1, .int x2] V k := by
  unfold Ci
  refine Met.ofW (cc := prog_5_method_4_code) (maxL := 6) (ret := some .int) (by decide) rfl ?_
  intro p e s m args below meth c s₁ B hml hv
  obtain ⟨rfl, hP, hK, hZ⟩ := hv
  have X : cx g p s m meth c [.ref (ga g f0), .int x1, .int x2].toArray R_Fn prog_5_method_4_code 6 (some .int) := ⟨B.exec, B.bytes, B.returns, hml, findClass_of_methodNamed B.named, fun w hw => atoms_spec (ws := Cond.code y_Fn_openingOf prog_5_method_4_code 6 (some .int) :: TBL) B.pre w (List.mem_cons_of_mem _ hw), B.notSynchronized, hK, hZ, hG⟩
  have hl := lv_entry [.ref (ga g f0), .int x1, .int x2] (n := 6) (Nat.le_of_ble_eq_true rfl)
  rw [lg_entry_eq]
  generalize (lg_sl [.ref (ga g f0), .int x1, .int x2] ++ List.replicate (6 - (lg_sl [.ref (ga g f0), .int x1, .int x2]).length) Slot.unset).toArray = ls at hl ⊢
  have hl : lv_has ls 6 [(0, .ref (ga g f0)), (1, .int x1), (2, .int x2)] := hl
  have hS : va_S (gA g) s.heap s.heap [] := va_S.rf
  obtain ⟨hx, hb, -, -, hown, hts, -, -, hz, -⟩ := id X
  show W p l e rm_Fn_openingOf s m _ below meth c s.heap [] 0 0 (MQ below (va_Qi k (Bw g) (gA g)) _ s 0 0 (gA g)) (F0 m 0 ls [])
  unfold p_Fn_openingOf at h
  refine lv_iconst (v := 0) hx hb d_Fn_openingOf_0 (by decide) ?_
  refine lv_istore_n (lv' := [(3, .int 0), (0, .ref (ga g f0)), (1, .int x1), (2, .int x2)]) hx hb d_Fn_openingOf_1 rfl hl (by decide) rfl (fun ls hl => ?_)
  refine lv_iload_n hx hb d_Fn_openingOf_2 rfl (lv_at hl 3 rfl) ?_
  refine lv_istore (lv' := [(4, .int x2), (3, .int 0), (0, .ref (ga g f0)), (1, .int x1), (2, .int x2)]) hx hb d_Fn_openingOf_3 hl (by decide) rfl (fun ls hl => ?_)
  refine lv_iload_n hx hb d_Fn_openingOf_5 rfl (lv_at hl 3 rfl) ?_
  refine lv_iconst (v := 1) hx hb d_Fn_openingOf_6 (by decide) ?_
  refine lv_isub hx hb d_Fn_openingOf_7 ?_
  refine lv_topi (fun y1 ey1 => ?_)
  have h := h y1 ey1
  refine lv_istore (lv' := [(5, .int y1), (4, .int x2), (3, .int 0), (0, .ref (ga g f0)), (1, .int x1), (2, .int x2)]) hx hb d_Fn_openingOf_8 hl (by decide) rfl (fun ls hl => ?_)
  obtain ⟨n, h⟩ := h
  exact t_Fn_openingOf_b10 X n V f0 0 x2 y1 hf0 h _ _ _ hP hS (lv_sub hl [3, 2, 1, 0] rfl)
theorem yv_Fn_openingOf : yV R_Fn y_Fn_openingOf prog_5_method_4_code 6 (some .int) 2 := ⟨by decide +kernel, q_383, qp_18, q_3, q_384⟩
/-! Fn.behindEndOf -/
theorem d_Fn_behindEndOf_0 : decode prog_5_method_5_code 0 = .ok (.iconst 0, 1) := by decide +kernel
theorem d_Fn_behindEndOf_1 : decode prog_5_method_5_code 1 = .ok (.istore_n 2, 1) := by decide +kernel
theorem d_Fn_behindEndOf_2 : decode prog_5_method_5_code 2 = .ok (.iload_n 1, 1) := by decide +kernel
theorem d_Fn_behindEndOf_3 : decode prog_5_method_5_code 3 = .ok (.iconst 1, 1) := by decide +kernel
theorem d_Fn_behindEndOf_4 : decode prog_5_method_5_code 4 = .ok (.iadd, 1) := by decide +kernel
theorem d_Fn_behindEndOf_5 : decode prog_5_method_5_code 5 = .ok (.istore_n 3, 1) := by decide +kernel
theorem d_Fn_behindEndOf_6 : decode prog_5_method_5_code 6 = .ok (.iload_n 3, 1) := by decide +kernel
theorem d_Fn_behindEndOf_7 : decode prog_5_method_5_code 7 = .ok (.aload_n 0, 1) := by decide +kernel
theorem d_Fn_behindEndOf_8 : decode prog_5_method_5_code 8 = .ok (.getfield 18, 3) := by decide +kernel
theorem d_Fn_behindEndOf_11 : decode prog_5_method_5_code 11 = .ok (.if_icmp .ge 49, 3) := by decide +kernel
theorem d_Fn_behindEndOf_14 : decode prog_5_method_5_code 14 = .ok (.aload_n 0, 1) := by decide +kernel
theorem d_Fn_behindEndOf_15 : decode prog_5_method_5_code 15 = .ok (.getfield 9, 3) := by decide +kernel
theorem d_Fn_behindEndOf_18 : decode prog_5_method_5_code 18 = .ok (.iload_n 3, 1) := by decide +kernel
theorem d_Fn_behindEndOf_19 : decode prog_5_method_5_code 19 = .ok (.iaload, 1) := by decide +kernel
theorem d_Fn_behindEndOf_20 : decode prog_5_method_5_code 20 = .ok (.invokestatic 41, 3) := by decide +kernel
theorem d_Fn_behindEndOf_23 : decode prog_5_method_5_code 23 = .ok (.ifCond .eq 9, 3) := by decide +kernel
theorem d_Fn_behindEndOf_26 : decode prog_5_method_5_code 26 = .ok (.iinc 2 1, 3) := by decide +kernel
theorem d_Fn_behindEndOf_29 : decode prog_5_method_5_code 29 = .ok (.goto 25, 3) := by decide +kernel
theorem d_Fn_behindEndOf_32 : decode prog_5_method_5_code 32 = .ok (.aload_n 0, 1) := by decide +kernel
theorem d_Fn_behindEndOf_33 : decode prog_5_method_5_code 33 = .ok (.getfield 9, 3) := by decide +kernel
theorem d_Fn_behindEndOf_36 : decode prog_5_method_5_code 36 = .ok (.iload_n 3, 1) := by decide +kernel
theorem d_Fn_behindEndOf_37 : decode prog_5_method_5_code 37 = .ok (.iaload, 1) := by decide +kernel
theorem d_Fn_behindEndOf_38 : decode prog_5_method_5_code 38 = .ok (.bipush 14, 2) := by decide +kernel
theorem d_Fn_behindEndOf_40 : decode prog_5_method_5_code 40 = .ok (.if_icmp .ne 14, 3) := by decide +kernel
theorem d_Fn_behindEndOf_43 : decode prog_5_method_5_code 43 = .ok (.iload_n 2, 1) := by decide +kernel
theorem d_Fn_behindEndOf_44 : decode prog_5_method_5_code 44 = .ok (.ifCond .ne 7, 3) := by decide +kernel
theorem d_Fn_behindEndOf_47 : decode prog_5_method_5_code 47 = .ok (.iload_n 3, 1) := by decide +kernel
theorem d_Fn_behindEndOf_48 : decode prog_5_method_5_code 48 = .ok (.iconst 1, 1) := by decide +kernel
theorem d_Fn_behindEndOf_49 : decode prog_5_method_5_code 49 = .ok (.iadd, 1) := by decide +kernel
theorem d_Fn_behindEndOf_50 : decode prog_5_method_5_code 50 = .ok (.ireturn, 1) := by decide +kernel
theorem d_Fn_behindEndOf_51 : decode prog_5_method_5_code 51 = .ok (.iinc 2 (-1), 3) := by decide +kernel
theorem d_Fn_behindEndOf_54 : decode prog_5_method_5_code 54 = .ok (.iinc 3 1, 3) := by decide +kernel
theorem d_Fn_behindEndOf_57 : decode prog_5_method_5_code 57 = .ok (.goto (-51), 3) := by decide +kernel
theorem d_Fn_behindEndOf_60 : decode prog_5_method_5_code 60 = .ok (.aload_n 0, 1) := by decide +kernel
theorem d_Fn_behindEndOf_61 : decode prog_5_method_5_code 61 = .ok (.getfield 18, 3) := by decide +kernel
theorem d_Fn_behindEndOf_64 : decode prog_5_method_5_code 64 = .ok (.ireturn, 1) := by decide +kernel
abbrev rm_Fn_behindEndOf : Room := { frames := 1, cells := 0, slots := 0, locals := 20 }
def p_Fn_behindEndOf_b54 (k : Int32 → vS → Prop) (hd : vS → Nat → Int32 → Int32 → Prop) (V : vS) (f0 : Nat) (x2 : Int32) (x3 : Int32) : Prop := ∀ y1 : Int32, y1 = x3 + 1 → (hd V f0 x2 y1)
set_option maxRecDepth 100000 in
set_option maxHeartbeats 4000000 in
theorem t_Fn_behindEndOf_b54 {k : Int32 → vS → Prop} (X : cx g p s m meth c args R_Fn prog_5_method_5_code 4 (some .int)) {hd : vS → Nat → Int32 → Int32 → Prop} (ih : ∀ (V : vS) (f0 : Nat) (x2 : Int32) (x3 : Int32) (hf0 : 3 ≤ f0 ∧ f0 < 7), hd V f0 x2 x3 → ∀ (H : Heap) (locs : List Loc) (ls : Array Slot), va_P g.1 vcl (cw g V) H → va_S (gA g) s.heap H locs → lv_has ls 4 [(0, .ref (ga g f0)), (2, .int x2), (3, .int x3)] → W p l e rm_Fn_behindEndOf s m args below meth c H locs 0 0 (MQ below (va_Qi k (Bw g) (gA g)) args s 0 0 (gA g)) (F0 m 6 ls [])) {V : vS} {f0 : Nat} {x2 : Int32} {x3 : Int32} (hf0 : 3 ≤ f0 ∧ f0 < 7) (h : p_Fn_behindEndOf_b54 k hd V f0 x2 x3) (hP : va_P g.1 vcl (cw g V) H) (hS : va_S (gA g) s.heap H locs) (hl : lv_has ls 4 [(0, .ref (ga g f0)), (2, .int x2), (3, .int x3)]) : W p l e rm_Fn_behindEndOf s m args below meth c H locs 0 0 (MQ below (va_Qi k (Bw g) (gA g)) args s 0 0 (gA g)) (F0 m 54 ls []) := by
  obtain ⟨hx, hb, -, -, hown, hts, -, -, hz, hG⟩ := id X
  unfold p_Fn_behindEndOf_b54 at h
  obtain ⟨y1, ey1⟩ : ∃ z : Int32, z = x3 + 1 := ⟨_, rfl⟩
  have h := h y1 ey1
  refine lv_iinc (v := y1) (lv' := [(3, .int y1), (0, .ref (ga g f0)), (2, .int x2)]) hx hb d_Fn_behindEndOf_54 hl (k := 2) rfl (by rw [ey1]; rfl) (by decide) rfl (fun ls hl => ?_)
  refine lv_goto (tgt := 6) hx hb d_Fn_behindEndOf_57 (by decide) ?_
  exact ih V f0 x2 y1 hf0 h _ _ _ hP hS (lv_sub hl [1, 2, 0] rfl)
def p_Fn_behindEndOf_b6 (k : Int32 → vS → Prop) : Nat → vS → Nat → Int32 → Int32 → Prop
  | 0, _, _, _, _ => False
  | n + 1, V, f0, x2, x3 => ((V.1 f0 2) ≤ x3 → (k (V.1 f0 2) V)) ∧ (¬ (V.1 f0 2) ≤ x3 → (vp_in x3 24 ∧ (p_Op_opensPart (fun r4 V3 => (r4 = 0 → (vp_in x3 24 ∧ (((V3.1 (f0 + 4) (nt x3)) = 14 → ((x2 = 0 → (k (x3 + 1) V3)) ∧ (¬ x2 = 0 → (∀ y10 : Int32, y10 = x2 + (-1) → (p_Fn_behindEndOf_b54 k (p_Fn_behindEndOf_b6 k n) V3 f0 y10 x3))))) ∧ (¬ (V3.1 (f0 + 4) (nt x3)) = 14 → (p_Fn_behindEndOf_b54 k (p_Fn_behindEndOf_b6 k n) V3 f0 x2 x3))))) ∧ (¬ r4 = 0 → (∀ y11 : Int32, y11 = x2 + 1 → (p_Fn_behindEndOf_b54 k (p_Fn_behindEndOf_b6 k n) V3 f0 y11 x3)))) V (V.1 (f0 + 4) (nt x3)))))
set_option maxRecDepth 100000 in
set_option maxHeartbeats 4000000 in
theorem t_Fn_behindEndOf_b6 {k : Int32 → vS → Prop} (X : cx g p s m meth c args R_Fn prog_5_method_5_code 4 (some .int)) : ∀ (n : Nat) (V : vS) (f0 : Nat) (x2 : Int32) (x3 : Int32) (hf0 : 3 ≤ f0 ∧ f0 < 7), p_Fn_behindEndOf_b6 k n V f0 x2 x3 → ∀ (H : Heap) (locs : List Loc) (ls : Array Slot), va_P g.1 vcl (cw g V) H → va_S (gA g) s.heap H locs → lv_has ls 4 [(0, .ref (ga g f0)), (2, .int x2), (3, .int x3)] → W p l e rm_Fn_behindEndOf s m args below meth c H locs 0 0 (MQ below (va_Qi k (Bw g) (gA g)) args s 0 0 (gA g)) (F0 m 6 ls []) := by
  obtain ⟨hx, hb, -, -, hown, hts, -, -, hz, hG⟩ := id X
  intro n
  induction n with
  | zero =>
    intro V f0 x2 x3 hf0 h
    exact h.elim
  | succ n ih =>
    intro V f0 x2 x3 hf0 h H locs ls hP hS hl
    unfold p_Fn_behindEndOf_b6 at h
    refine lv_iload_n hx hb d_Fn_behindEndOf_6 rfl (lv_at hl 2 rfl) ?_
    refine lv_aload_n hx hb d_Fn_behindEndOf_7 rfl (lv_at hl 0 rfl) ?_
    refine gf_Fn_length X hP hf0 q_36 d_Fn_behindEndOf_8 ?_
    refine lv_icmp_ge (tgt := 60) hx hb d_Fn_behindEndOf_11 (by decide) (fun c1 => ?_) (fun c1 => ?_)
    · have h := h.1 c1
      refine lv_aload_n hx hb d_Fn_behindEndOf_60 rfl (lv_at hl 0 rfl) ?_
      refine gf_Fn_length X hP hf0 q_36 d_Fn_behindEndOf_61 ?_
      exact rw_iret X hP hS h d_Fn_behindEndOf_64
    · have h := h.2 c1
      refine lv_aload_n hx hb d_Fn_behindEndOf_14 rfl (lv_at hl 0 rfl) ?_
      refine gf_Fn_ops X hP hf0 q_30 d_Fn_behindEndOf_15 ?_
      refine lv_iload_n hx hb d_Fn_behindEndOf_18 rfl (lv_at hl 2 rfl) ?_
      obtain ⟨hi2, h⟩ := h
      refine rw_iald X hP (isI_ops hf0) hi2 d_Fn_behindEndOf_19 ?_
      refine rw_cSi (rest := []) X hP hS ys_Op_opensPart (c_Op_opensPart hG h) q_385 ⟨rfl, rfl, by decide, by decide⟩ rfl rfl hl.1 (Nat.le_of_ble_eq_true rfl) ⟨Nat.zero_le _, Nat.zero_le _⟩ d_Fn_behindEndOf_20 (fun r4 V3 H locs h hP hS => ?_)
      refine lv_if_eq (tgt := 32) hx hb d_Fn_behindEndOf_23 (by decide) (fun c6 => ?_) (fun c6 => ?_)
      · have h := h.1 c6
        refine lv_aload_n hx hb d_Fn_behindEndOf_32 rfl (lv_at hl 0 rfl) ?_
        refine gf_Fn_ops X hP hf0 q_30 d_Fn_behindEndOf_33 ?_
        refine lv_iload_n hx hb d_Fn_behindEndOf_36 rfl (lv_at hl 2 rfl) ?_
        obtain ⟨hi7, h⟩ := h
        refine rw_iald X hP (isI_ops hf0) hi7 d_Fn_behindEndOf_37 ?_
        refine lv_bipush (v := 14) hx hb d_Fn_behindEndOf_38 (by decide) ?_
        refine lv_icmp_ne (tgt := 54) hx hb d_Fn_behindEndOf_40 (by decide) (fun c8 => ?_) (fun c8 => ?_)
        · have h := h.2 c8
          exact t_Fn_behindEndOf_b54 X (hd := p_Fn_behindEndOf_b6 k n) ih hf0 h hP hS (lv_sub hl [0, 1, 2] rfl)
        · have h := h.1 c8
          refine lv_iload_n hx hb d_Fn_behindEndOf_43 rfl (lv_at hl 1 rfl) ?_
          refine lv_if_ne (tgt := 51) hx hb d_Fn_behindEndOf_44 (by decide) (fun c9 => ?_) (fun c9 => ?_)
          · have h := h.2 c9
            obtain ⟨y10, ey10⟩ : ∃ z : Int32, z = x2 + (-1) := ⟨_, rfl⟩
            have h := h y10 ey10
            refine lv_iinc (v := y10) (lv' := [(2, .int y10), (0, .ref (ga g f0)), (3, .int x3)]) hx hb d_Fn_behindEndOf_51 hl (k := 1) rfl (by rw [ey10]; rfl) (by decide) rfl (fun ls hl => ?_)
            exact t_Fn_behindEndOf_b54 X (hd := p_Fn_behindEndOf_b6 k n) ih hf0 h hP hS (lv_sub hl [1, 0, 2] rfl)
          · have h := h.1 c9
            refine lv_iload_n hx hb d_Fn_behindEndOf_47 rfl (lv_at hl 2 rfl) ?_
            refine lv_iconst (v := 1) hx hb d_Fn_behindEndOf_48 (by decide) ?_
            refine lv_iadd hx hb d_Fn_behindEndOf_49 ?_
            exact rw_iret X hP hS h d_Fn_behindEndOf_50
      · have h := h.2 c6
        obtain ⟨y11, ey11⟩ : ∃ z : Int32, z = x2 + 1 := ⟨_, rfl⟩
        have h := h y11 ey11
        refine lv_iinc (v := y11) (lv' := [(2, .int y11), (0, .ref (ga g f0)), (3, .int x3)]) hx hb d_Fn_behindEndOf_26 hl (k := 1) rfl (by rw [ey11]; rfl) (by decide) rfl (fun ls hl => ?_)
        refine lv_goto (tgt := 54) hx hb d_Fn_behindEndOf_29 (by decide) ?_
        exact t_Fn_behindEndOf_b54 X (hd := p_Fn_behindEndOf_b6 k n) ih hf0 h hP hS (lv_sub hl [1, 0, 2] rfl)
def p_Fn_behindEndOf (k : Int32 → vS → Prop) (V : vS) (f0 : Nat) (x1 : Int32) : Prop := ∀ y1 : Int32, y1 = x1 + 1 → (∃ n, p_Fn_behindEndOf_b6 k n V f0 0 y1)
set_option maxRecDepth 100000 in
set_option maxHeartbeats 4000000 in
theorem c_Fn_behindEndOf {l : Launch} {g : gT} (hG : gd g) {V : vS} {f0 : Nat} {x1 : Int32} (hf0 : 3 ≤ f0 ∧ f0 < 7) {k : Int32 → vS → Prop} (h : p_Fn_behindEndOf k V f0 x1) : Ci g l y_Fn_behindEndOf prog_5_method_5_code 4 (some .int) rm_Fn_behindEndOf [.ref (ga g f0), .int x1] V k := by
  unfold Ci
  refine Met.ofW (cc := prog_5_method_5_code) (maxL := 4) (ret := some .int) (by decide) rfl ?_
  intro p e s m args below meth c s₁ B hml hv
  obtain ⟨rfl, hP, hK, hZ⟩ := hv
  have X : cx g p s m meth c [.ref (ga g f0), .int x1].toArray R_Fn prog_5_method_5_code 4 (some .int) := ⟨B.exec, B.bytes, B.returns, hml, findClass_of_methodNamed B.named, fun w hw => atoms_spec (ws := Cond.code y_Fn_behindEndOf prog_5_method_5_code 4 (some .int) :: TBL) B.pre w (List.mem_cons_of_mem _ hw), B.notSynchronized, hK, hZ, hG⟩
  have hl := lv_entry [.ref (ga g f0), .int x1] (n := 4) (Nat.le_of_ble_eq_true rfl)
  rw [lg_entry_eq]
  generalize (lg_sl [.ref (ga g f0), .int x1] ++ List.replicate (4 - (lg_sl [.ref (ga g f0), .int x1]).length) Slot.unset).toArray = ls at hl ⊢
  have hl : lv_has ls 4 [(0, .ref (ga g f0)), (1, .int x1)] := hl
  have hS : va_S (gA g) s.heap s.heap [] := va_S.rf
  obtain ⟨hx, hb, -, -, hown, hts, -, -, hz, -⟩ := id X
  show W p l e rm_Fn_behindEndOf s m _ below meth c s.heap [] 0 0 (MQ below (va_Qi k (Bw g) (gA g)) _ s 0 0 (gA g)) (F0 m 0 ls [])
  unfold p_Fn_behindEndOf at h
  refine lv_iconst (v := 0) hx hb d_Fn_behindEndOf_0 (by decide) ?_
  refine lv_istore_n (lv' := [(2, .int 0), (0, .ref (ga g f0)), (1, .int x1)]) hx hb d_Fn_behindEndOf_1 rfl hl (by decide) rfl (fun ls hl => ?_)
  refine lv_iload_n hx hb d_Fn_behindEndOf_2 rfl (lv_at hl 2 rfl) ?_
  refine lv_iconst (v := 1) hx hb d_Fn_behindEndOf_3 (by decide) ?_
  refine lv_iadd hx hb d_Fn_behindEndOf_4 ?_
  refine lv_topi (fun y1 ey1 => ?_)
  have h := h y1 ey1
  refine lv_istore_n (lv' := [(3, .int y1), (2, .int 0), (0, .ref (ga g f0)), (1, .int x1)]) hx hb d_Fn_behindEndOf_5 rfl hl (by decide) rfl (fun ls hl => ?_)
  obtain ⟨n, h⟩ := h
  exact t_Fn_behindEndOf_b6 X n V f0 0 y1 hf0 h _ _ _ hP hS (lv_sub hl [2, 1, 0] rfl)
theorem yv_Fn_behindEndOf : yV R_Fn y_Fn_behindEndOf prog_5_method_5_code 4 (some .int) 1 := ⟨by decide +kernel, q_388, qp_19, q_3, q_389⟩
/-! Fn.target -/
theorem d_Fn_target_0 : decode prog_5_method_3_code 0 = .ok (.aload_n 0, 1) := by decide +kernel
theorem d_Fn_target_1 : decode prog_5_method_3_code 1 = .ok (.iload_n 1, 1) := by decide +kernel
theorem d_Fn_target_2 : decode prog_5_method_3_code 2 = .ok (.iload_n 2, 1) := by decide +kernel
theorem d_Fn_target_3 : decode prog_5_method_3_code 3 = .ok (.invokevirtual 31, 3) := by decide +kernel
theorem d_Fn_target_6 : decode prog_5_method_3_code 6 = .ok (.istore_n 3, 1) := by decide +kernel
theorem d_Fn_target_7 : decode prog_5_method_3_code 7 = .ok (.iload_n 3, 1) := by decide +kernel
theorem d_Fn_target_8 : decode prog_5_method_3_code 8 = .ok (.ifCond .ge 8, 3) := by decide +kernel
theorem d_Fn_target_11 : decode prog_5_method_3_code 11 = .ok (.aload_n 0, 1) := by decide +kernel
theorem d_Fn_target_12 : decode prog_5_method_3_code 12 = .ok (.getfield 18, 3) := by decide +kernel
theorem d_Fn_target_15 : decode prog_5_method_3_code 15 = .ok (.ireturn, 1) := by decide +kernel
theorem d_Fn_target_16 : decode prog_5_method_3_code 16 = .ok (.aload_n 0, 1) := by decide +kernel
theorem d_Fn_target_17 : decode prog_5_method_3_code 17 = .ok (.getfield 9, 3) := by decide +kernel
theorem d_Fn_target_20 : decode prog_5_method_3_code 20 = .ok (.iload_n 3, 1) := by decide +kernel
theorem d_Fn_target_21 : decode prog_5_method_3_code 21 = .ok (.iaload, 1) := by decide +kernel
theorem d_Fn_target_22 : decode prog_5_method_3_code 22 = .ok (.bipush 13, 2) := by decide +kernel
theorem d_Fn_target_24 : decode prog_5_method_3_code 24 = .ok (.if_icmp .ne 9, 3) := by decide +kernel
theorem d_Fn_target_27 : decode prog_5_method_3_code 27 = .ok (.iload_n 3, 1) := by decide +kernel
theorem d_Fn_target_28 : decode prog_5_method_3_code 28 = .ok (.iconst 1, 1) := by decide +kernel
theorem d_Fn_target_29 : decode prog_5_method_3_code 29 = .ok (.iadd, 1) := by decide +kernel
theorem d_Fn_target_30 : decode prog_5_method_3_code 30 = .ok (.goto 8, 3) := by decide +kernel
theorem d_Fn_target_33 : decode prog_5_method_3_code 33 = .ok (.aload_n 0, 1) := by decide +kernel
theorem d_Fn_target_34 : decode prog_5_method_3_code 34 = .ok (.iload_n 3, 1) := by decide +kernel
theorem d_Fn_target_35 : decode prog_5_method_3_code 35 = .ok (.invokevirtual 37, 3) := by decide +kernel
theorem d_Fn_target_38 : decode prog_5_method_3_code 38 = .ok (.ireturn, 1) := by decide +kernel
abbrev rm_Fn_target : Room := { frames := 2, cells := 0, slots := 0, locals := 45 }
def p_Fn_target_b38 (k : Int32 → vS → Prop) (V : vS) (s0 : Int32) : Prop := k s0 V
set_option maxRecDepth 100000 in
set_option maxHeartbeats 4000000 in
theorem t_Fn_target_b38 {k : Int32 → vS → Prop} (X : cx g p s m meth c args R_Fn prog_5_method_3_code 4 (some .int)) {V : vS} {s0 : Int32} (h : p_Fn_target_b38 k V s0) (hP : va_P g.1 vcl (cw g V) H) (hS : va_S (gA g) s.heap H locs) (hl : lv_has ls 4 []) : W p l e rm_Fn_target s m args below meth c H locs 0 0 (MQ below (va_Qi k (Bw g) (gA g)) args s 0 0 (gA g)) (F0 m 38 ls [.int s0]) := by
  obtain ⟨hx, hb, -, -, hown, hts, -, -, hz, hG⟩ := id X
  unfold p_Fn_target_b38 at h
  exact rw_iret X hP hS h d_Fn_target_38
def p_Fn_target (k : Int32 → vS → Prop) (V : vS) (f0 : Nat) (x1 : Int32) (x2 : Int32) : Prop := p_Fn_openingOf (fun r2 V1 => (0 ≤ r2 → (vp_in r2 24 ∧ (((V1.1 (f0 + 4) (nt r2)) = 13 → (p_Fn_target_b38 k V1 (r2 + 1))) ∧ (¬ (V1.1 (f0 + 4) (nt r2)) = 13 → (p_Fn_behindEndOf (fun r8 V7 => p_Fn_target_b38 k V7 r8) V1 f0 r2))))) ∧ (¬ 0 ≤ r2 → (k (V1.1 f0 2) V1))) V f0 x1 x2
set_option maxRecDepth 100000 in
set_option maxHeartbeats 4000000 in
theorem c_Fn_target {l : Launch} {g : gT} (hG : gd g) {V : vS} {f0 : Nat} {x1 : Int32} {x2 : Int32} (hf0 : 3 ≤ f0 ∧ f0 < 7) {k : Int32 → vS → Prop} (h : p_Fn_target k V f0 x1 x2) : Ci g l y_Fn_target prog_5_method_3_code 4 (some .int) rm_Fn_target [.ref (ga g f0), .int x1, .int x2] V k := by
  unfold Ci
  refine Met.ofW (cc := prog_5_method_3_code) (maxL := 4) (ret := some .int) (by decide) rfl ?_
  intro p e s m args below meth c s₁ B hml hv
  obtain ⟨rfl, hP, hK, hZ⟩ := hv
  have X : cx g p s m meth c [.ref (ga g f0), .int x1, .int x2].toArray R_Fn prog_5_method_3_code 4 (some .int) := ⟨B.exec, B.bytes, B.returns, hml, findClass_of_methodNamed B.named, fun w hw => atoms_spec (ws := Cond.code y_Fn_target prog_5_method_3_code 4 (some .int) :: TBL) B.pre w (List.mem_cons_of_mem _ hw), B.notSynchronized, hK, hZ, hG⟩
  have hl := lv_entry [.ref (ga g f0), .int x1, .int x2] (n := 4) (Nat.le_of_ble_eq_true rfl)
  rw [lg_entry_eq]
  generalize (lg_sl [.ref (ga g f0), .int x1, .int x2] ++ List.replicate (4 - (lg_sl [.ref (ga g f0), .int x1, .int x2]).length) Slot.unset).toArray = ls at hl ⊢
  have hl : lv_has ls 4 [(0, .ref (ga g f0)), (1, .int x1), (2, .int x2)] := hl
  have hS : va_S (gA g) s.heap s.heap [] := va_S.rf
  obtain ⟨hx, hb, -, -, hown, hts, -, -, hz, -⟩ := id X
  show W p l e rm_Fn_target s m _ below meth c s.heap [] 0 0 (MQ below (va_Qi k (Bw g) (gA g)) _ s 0 0 (gA g)) (F0 m 0 ls [])
  unfold p_Fn_target at h
  refine lv_aload_n hx hb d_Fn_target_0 rfl (lv_at hl 0 rfl) ?_
  refine lv_iload_n hx hb d_Fn_target_1 rfl (lv_at hl 1 rfl) ?_
  refine lv_iload_n hx hb d_Fn_target_2 rfl (lv_at hl 2 rfl) ?_
  refine rw_cVi (rest := []) X hP hS yv_Fn_openingOf (isO_Fn hf0) (c_Fn_openingOf hG hf0 h) q_381 ⟨rfl, rfl, by decide, by decide⟩ rfl rfl hl.1 (Nat.le_of_ble_eq_true rfl) ⟨Nat.zero_le _, Nat.zero_le _⟩ d_Fn_target_3 (fun r2 V1 H locs h hP hS => ?_)
  refine lv_istore_n (lv' := [(3, .int r2), (0, .ref (ga g f0)), (1, .int x1), (2, .int x2)]) hx hb d_Fn_target_6 rfl hl (by decide) rfl (fun ls hl => ?_)
  refine lv_iload_n hx hb d_Fn_target_7 rfl (lv_at hl 0 rfl) ?_
  refine lv_if_ge (tgt := 16) hx hb d_Fn_target_8 (by decide) (fun c4 => ?_) (fun c4 => ?_)
  · have h := h.1 c4
    refine lv_aload_n hx hb d_Fn_target_16 rfl (lv_at hl 1 rfl) ?_
    refine gf_Fn_ops X hP hf0 q_30 d_Fn_target_17 ?_
    refine lv_iload_n hx hb d_Fn_target_20 rfl (lv_at hl 0 rfl) ?_
    obtain ⟨hi5, h⟩ := h
    refine rw_iald X hP (isI_ops hf0) hi5 d_Fn_target_21 ?_
    refine lv_bipush (v := 13) hx hb d_Fn_target_22 (by decide) ?_
    refine lv_icmp_ne (tgt := 33) hx hb d_Fn_target_24 (by decide) (fun c6 => ?_) (fun c6 => ?_)
    · have h := h.2 c6
      refine lv_aload_n hx hb d_Fn_target_33 rfl (lv_at hl 1 rfl) ?_
      refine lv_iload_n hx hb d_Fn_target_34 rfl (lv_at hl 0 rfl) ?_
      refine rw_cVi (rest := []) X hP hS yv_Fn_behindEndOf (isO_Fn hf0) (c_Fn_behindEndOf hG hf0 h) q_386 ⟨rfl, rfl, by decide, by decide⟩ rfl rfl hl.1 (Nat.le_of_ble_eq_true rfl) ⟨Nat.zero_le _, Nat.zero_le _⟩ d_Fn_target_35 (fun r8 V7 H locs h hP hS => ?_)
      exact t_Fn_target_b38 X h hP hS (lv_sub hl [] rfl)
    · have h := h.1 c6
      refine lv_iload_n hx hb d_Fn_target_27 rfl (lv_at hl 0 rfl) ?_
      refine lv_iconst (v := 1) hx hb d_Fn_target_28 (by decide) ?_
      refine lv_iadd hx hb d_Fn_target_29 ?_
      refine lv_goto (tgt := 38) hx hb d_Fn_target_30 (by decide) ?_
      exact t_Fn_target_b38 X h hP hS (lv_sub hl [] rfl)
  · have h := h.2 c4
    refine lv_aload_n hx hb d_Fn_target_11 rfl (lv_at hl 1 rfl) ?_
    refine gf_Fn_length X hP hf0 q_36 d_Fn_target_12 ?_
    exact rw_iret X hP hS h d_Fn_target_15
theorem yv_Fn_target : yV R_Fn y_Fn_target prog_5_method_3_code 4 (some .int) 2 := ⟨by decide +kernel, q_378, q_379, q_3, q_380⟩
end MM
end
