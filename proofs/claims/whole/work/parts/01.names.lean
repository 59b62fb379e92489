-- ===== PART A: goes FIRST, ahead of the names: the tables' words, and 'selects' of the private methods out of them =====
/-- a private method of a class that the tables say can be made, by its rows of tables_1 -/
def lw_okq (q : MethodName × Nat) : Prop := (q.1.cls ≠ "java/lang/invoke/MethodHandle" ∧ q.1.cls ≠ "java/lang/invoke/VarHandle") ∧ Cond.instantiable q.1.cls q.2 ∈ tables_1 ∧ Cond.privateMethod q.1 ∈ tables_1 ∧ Cond.instanceMethod q.1 ∈ tables_1
theorem lw_p0 : lw_okq (⟨"SnowPaths$Green", "append", "(I)Z"⟩, 5) := ⟨⟨by decide +kernel, by decide +kernel⟩, List.mem_of_getElem? (i := 23) (by decide +kernel), List.mem_of_getElem? (i := 277) (by decide +kernel), List.mem_of_getElem? (i := 278) (by decide +kernel)⟩
theorem lw_p1 : lw_okq (⟨"SnowPaths$Green", "parse", "()V"⟩, 5) := ⟨⟨by decide +kernel, by decide +kernel⟩, List.mem_of_getElem? (i := 23) (by decide +kernel), List.mem_of_getElem? (i := 281) (by decide +kernel), List.mem_of_getElem? (i := 282) (by decide +kernel)⟩
theorem lw_p2 : lw_okq (⟨"SnowPaths$Green", "seekFault", "()I"⟩, 5) := ⟨⟨by decide +kernel, by decide +kernel⟩, List.mem_of_getElem? (i := 23) (by decide +kernel), List.mem_of_getElem? (i := 285) (by decide +kernel), List.mem_of_getElem? (i := 286) (by decide +kernel)⟩
theorem lw_p3 : lw_okq (⟨"SnowPaths$Green", "empty", "()V"⟩, 5) := ⟨⟨by decide +kernel, by decide +kernel⟩, List.mem_of_getElem? (i := 23) (by decide +kernel), List.mem_of_getElem? (i := 299) (by decide +kernel), List.mem_of_getElem? (i := 300) (by decide +kernel)⟩
theorem lw_p4 : lw_okq (⟨"SnowPaths$Green", "kindOf", "(I)I"⟩, 5) := ⟨⟨by decide +kernel, by decide +kernel⟩, List.mem_of_getElem? (i := 23) (by decide +kernel), List.mem_of_getElem? (i := 314) (by decide +kernel), List.mem_of_getElem? (i := 315) (by decide +kernel)⟩
theorem lw_p5 : lw_okq (⟨"SnowPaths$Ground", "addSnow", "(IJ)I"⟩, 5) := ⟨⟨by decide +kernel, by decide +kernel⟩, List.mem_of_getElem? (i := 52) (by decide +kernel), List.mem_of_getElem? (i := 325) (by decide +kernel), List.mem_of_getElem? (i := 326) (by decide +kernel)⟩
theorem lw_p6 : lw_okq (⟨"SnowPaths$Ground", "melt", "(I)I"⟩, 5) := ⟨⟨by decide +kernel, by decide +kernel⟩, List.mem_of_getElem? (i := 52) (by decide +kernel), List.mem_of_getElem? (i := 337) (by decide +kernel), List.mem_of_getElem? (i := 338) (by decide +kernel)⟩
theorem lw_p7 : lw_okq (⟨"SnowPaths$Ground", "freeze", "()I"⟩, 5) := ⟨⟨by decide +kernel, by decide +kernel⟩, List.mem_of_getElem? (i := 52) (by decide +kernel), List.mem_of_getElem? (i := 348) (by decide +kernel), List.mem_of_getElem? (i := 349) (by decide +kernel)⟩
theorem lw_p8 : lw_okq (⟨"SnowPaths$Ground", "shovel", "(II)I"⟩, 5) := ⟨⟨by decide +kernel, by decide +kernel⟩, List.mem_of_getElem? (i := 52) (by decide +kernel), List.mem_of_getElem? (i := 360) (by decide +kernel), List.mem_of_getElem? (i := 361) (by decide +kernel)⟩
theorem lw_p9 : lw_okq (⟨"SnowPaths$Sheet", "isLost", "()Z"⟩, 3) := ⟨⟨by decide +kernel, by decide +kernel⟩, List.mem_of_getElem? (i := 215) (by decide +kernel), List.mem_of_getElem? (i := 371) (by decide +kernel), List.mem_of_getElem? (i := 372) (by decide +kernel)⟩
theorem lw_p10 : lw_okq (⟨"SnowPaths", "found", "(I)I"⟩, 12) := ⟨⟨by decide +kernel, by decide +kernel⟩, List.mem_of_getElem? (i := 15) (by decide +kernel), List.mem_of_getElem? (i := 375) (by decide +kernel), List.mem_of_getElem? (i := 376) (by decide +kernel)⟩
theorem lw_p11 : lw_okq (⟨"SnowPaths$Ground", "setSnow", "(LSnowPaths$Sheet;)I"⟩, 5) := ⟨⟨by decide +kernel, by decide +kernel⟩, List.mem_of_getElem? (i := 52) (by decide +kernel), List.mem_of_getElem? (i := 379) (by decide +kernel), List.mem_of_getElem? (i := 380) (by decide +kernel)⟩
theorem lw_p12 : lw_okq (⟨"SnowPaths$Walkers", "join", "(II)Z"⟩, 3) := ⟨⟨by decide +kernel, by decide +kernel⟩, List.mem_of_getElem? (i := 79) (by decide +kernel), List.mem_of_getElem? (i := 387) (by decide +kernel), List.mem_of_getElem? (i := 388) (by decide +kernel)⟩
theorem lw_p13 : lw_okq (⟨"SnowPaths$Route", "find", "(IIJ[I)I"⟩, 5) := ⟨⟨by decide +kernel, by decide +kernel⟩, List.mem_of_getElem? (i := 101) (by decide +kernel), List.mem_of_getElem? (i := 399) (by decide +kernel), List.mem_of_getElem? (i := 400) (by decide +kernel)⟩
theorem lw_p14 : lw_okq (⟨"SnowPaths$Route", "spread", "(IIJ[I)V"⟩, 5) := ⟨⟨by decide +kernel, by decide +kernel⟩, List.mem_of_getElem? (i := 101) (by decide +kernel), List.mem_of_getElem? (i := 404) (by decide +kernel), List.mem_of_getElem? (i := 405) (by decide +kernel)⟩
theorem lw_p15 : lw_okq (⟨"SnowPaths$Route", "onward", "(I[I)I"⟩, 5) := ⟨⟨by decide +kernel, by decide +kernel⟩, List.mem_of_getElem? (i := 101) (by decide +kernel), List.mem_of_getElem? (i := 424) (by decide +kernel), List.mem_of_getElem? (i := 425) (by decide +kernel)⟩
def lw_privs_1 : List (MethodName × Nat) := [(⟨"SnowPaths$Green", "append", "(I)Z"⟩, 5), (⟨"SnowPaths$Green", "parse", "()V"⟩, 5), (⟨"SnowPaths$Green", "seekFault", "()I"⟩, 5), (⟨"SnowPaths$Green", "empty", "()V"⟩, 5), (⟨"SnowPaths$Green", "kindOf", "(I)I"⟩, 5), (⟨"SnowPaths$Ground", "addSnow", "(IJ)I"⟩, 5), (⟨"SnowPaths$Ground", "melt", "(I)I"⟩, 5), (⟨"SnowPaths$Ground", "freeze", "()I"⟩, 5), (⟨"SnowPaths$Ground", "shovel", "(II)I"⟩, 5), (⟨"SnowPaths$Sheet", "isLost", "()Z"⟩, 3), (⟨"SnowPaths", "found", "(I)I"⟩, 12), (⟨"SnowPaths$Ground", "setSnow", "(LSnowPaths$Sheet;)I"⟩, 5), (⟨"SnowPaths$Walkers", "join", "(II)Z"⟩, 3), (⟨"SnowPaths$Route", "find", "(IIJ[I)I"⟩, 5), (⟨"SnowPaths$Route", "spread", "(IIJ[I)V"⟩, 5), (⟨"SnowPaths$Route", "onward", "(I[I)I"⟩, 5)]
theorem lw_r1 : ∀ q ∈ lw_privs_1, lw_okq q := List.forall_mem_cons.mpr ⟨lw_p0, List.forall_mem_cons.mpr ⟨lw_p1, List.forall_mem_cons.mpr ⟨lw_p2, List.forall_mem_cons.mpr ⟨lw_p3, List.forall_mem_cons.mpr ⟨lw_p4, List.forall_mem_cons.mpr ⟨lw_p5, List.forall_mem_cons.mpr ⟨lw_p6, List.forall_mem_cons.mpr ⟨lw_p7, List.forall_mem_cons.mpr ⟨lw_p8, List.forall_mem_cons.mpr ⟨lw_p9, List.forall_mem_cons.mpr ⟨lw_p10, List.forall_mem_cons.mpr ⟨lw_p11, List.forall_mem_cons.mpr ⟨lw_p12, List.forall_mem_cons.mpr ⟨lw_p13, List.forall_mem_cons.mpr ⟨lw_p14, List.forall_mem_cons.mpr ⟨lw_p15, fun _ h => absurd h List.not_mem_nil⟩⟩⟩⟩⟩⟩⟩⟩⟩⟩⟩⟩⟩⟩⟩⟩
theorem lw_p16 : lw_okq (⟨"SnowPaths", "isWalker", "(I)Z"⟩, 12) := ⟨⟨by decide +kernel, by decide +kernel⟩, List.mem_of_getElem? (i := 15) (by decide +kernel), List.mem_of_getElem? (i := 433) (by decide +kernel), List.mem_of_getElem? (i := 434) (by decide +kernel)⟩
theorem lw_p17 : lw_okq (⟨"SnowPaths$Outing", "begin", "([I)V"⟩, 8) := ⟨⟨by decide +kernel, by decide +kernel⟩, List.mem_of_getElem? (i := 128) (by decide +kernel), List.mem_of_getElem? (i := 437) (by decide +kernel), List.mem_of_getElem? (i := 438) (by decide +kernel)⟩
theorem lw_p18 : lw_okq (⟨"SnowPaths$Outing", "go", "(IIJ)Z"⟩, 8) := ⟨⟨by decide +kernel, by decide +kernel⟩, List.mem_of_getElem? (i := 128) (by decide +kernel), List.mem_of_getElem? (i := 447) (by decide +kernel), List.mem_of_getElem? (i := 448) (by decide +kernel)⟩
theorem lw_p19 : lw_okq (⟨"SnowPaths$Outing", "follow", "(IJ)I"⟩, 8) := ⟨⟨by decide +kernel, by decide +kernel⟩, List.mem_of_getElem? (i := 128) (by decide +kernel), List.mem_of_getElem? (i := 453) (by decide +kernel), List.mem_of_getElem? (i := 454) (by decide +kernel)⟩
theorem lw_p20 : lw_okq (⟨"SnowPaths$Outing", "tread", "(I)V"⟩, 8) := ⟨⟨by decide +kernel, by decide +kernel⟩, List.mem_of_getElem? (i := 128) (by decide +kernel), List.mem_of_getElem? (i := 458) (by decide +kernel), List.mem_of_getElem? (i := 459) (by decide +kernel)⟩
theorem lw_p21 : lw_okq (⟨"SnowPaths$Ground", "treadAs", "(LSnowPaths$Outing;)V"⟩, 5) := ⟨⟨by decide +kernel, by decide +kernel⟩, List.mem_of_getElem? (i := 52) (by decide +kernel), List.mem_of_getElem? (i := 462) (by decide +kernel), List.mem_of_getElem? (i := 463) (by decide +kernel)⟩
theorem lw_p22 : lw_okq (⟨"SnowPaths", "tryMorning", "(II)V"⟩, 12) := ⟨⟨by decide +kernel, by decide +kernel⟩, List.mem_of_getElem? (i := 15) (by decide +kernel), List.mem_of_getElem? (i := 470) (by decide +kernel), List.mem_of_getElem? (i := 471) (by decide +kernel)⟩
theorem lw_p23 : lw_okq (⟨"SnowPaths", "told", "(I)I"⟩, 12) := ⟨⟨by decide +kernel, by decide +kernel⟩, List.mem_of_getElem? (i := 15) (by decide +kernel), List.mem_of_getElem? (i := 478) (by decide +kernel), List.mem_of_getElem? (i := 479) (by decide +kernel)⟩
theorem lw_p24 : lw_okq (⟨"SnowPaths$Outing", "cellsPassed", "()I"⟩, 8) := ⟨⟨by decide +kernel, by decide +kernel⟩, List.mem_of_getElem? (i := 128) (by decide +kernel), List.mem_of_getElem? (i := 482) (by decide +kernel), List.mem_of_getElem? (i := 483) (by decide +kernel)⟩
theorem lw_p25 : lw_okq (⟨"SnowPaths", "fewestSteps", "(I)I"⟩, 12) := ⟨⟨by decide +kernel, by decide +kernel⟩, List.mem_of_getElem? (i := 15) (by decide +kernel), List.mem_of_getElem? (i := 490) (by decide +kernel), List.mem_of_getElem? (i := 491) (by decide +kernel)⟩
theorem lw_p26 : lw_okq (⟨"SnowPaths$Orders", "tryAll", "([ILSnowPaths$Sheet;)V"⟩, 10) := ⟨⟨by decide +kernel, by decide +kernel⟩, List.mem_of_getElem? (i := 168) (by decide +kernel), List.mem_of_getElem? (i := 502) (by decide +kernel), List.mem_of_getElem? (i := 503) (by decide +kernel)⟩
theorem lw_p27 : lw_okq (⟨"SnowPaths$Orders", "sendFrom", "(II)V"⟩, 10) := ⟨⟨by decide +kernel, by decide +kernel⟩, List.mem_of_getElem? (i := 168) (by decide +kernel), List.mem_of_getElem? (i := 508) (by decide +kernel), List.mem_of_getElem? (i := 509) (by decide +kernel)⟩
theorem lw_p28 : lw_okq (⟨"SnowPaths$Outing", "beginAs", "(LSnowPaths$Outing;)V"⟩, 8) := ⟨⟨by decide +kernel, by decide +kernel⟩, List.mem_of_getElem? (i := 128) (by decide +kernel), List.mem_of_getElem? (i := 512) (by decide +kernel), List.mem_of_getElem? (i := 513) (by decide +kernel)⟩
theorem lw_p29 : lw_okq (⟨"SnowPaths$Orders", "weigh", "(IZ)V"⟩, 10) := ⟨⟨by decide +kernel, by decide +kernel⟩, List.mem_of_getElem? (i := 168) (by decide +kernel), List.mem_of_getElem? (i := 517) (by decide +kernel), List.mem_of_getElem? (i := 518) (by decide +kernel)⟩
theorem lw_p30 : lw_okq (⟨"SnowPaths$Sheet", "shows", "([I)Z"⟩, 3) := ⟨⟨by decide +kernel, by decide +kernel⟩, List.mem_of_getElem? (i := 215) (by decide +kernel), List.mem_of_getElem? (i := 522) (by decide +kernel), List.mem_of_getElem? (i := 523) (by decide +kernel)⟩
theorem lw_p31 : lw_okq (⟨"SnowPaths$Orders", "keepAlike", "(I)V"⟩, 10) := ⟨⟨by decide +kernel, by decide +kernel⟩, List.mem_of_getElem? (i := 168) (by decide +kernel), List.mem_of_getElem? (i := 526) (by decide +kernel), List.mem_of_getElem? (i := 527) (by decide +kernel)⟩
def lw_privs_2 : List (MethodName × Nat) := [(⟨"SnowPaths", "isWalker", "(I)Z"⟩, 12), (⟨"SnowPaths$Outing", "begin", "([I)V"⟩, 8), (⟨"SnowPaths$Outing", "go", "(IIJ)Z"⟩, 8), (⟨"SnowPaths$Outing", "follow", "(IJ)I"⟩, 8), (⟨"SnowPaths$Outing", "tread", "(I)V"⟩, 8), (⟨"SnowPaths$Ground", "treadAs", "(LSnowPaths$Outing;)V"⟩, 5), (⟨"SnowPaths", "tryMorning", "(II)V"⟩, 12), (⟨"SnowPaths", "told", "(I)I"⟩, 12), (⟨"SnowPaths$Outing", "cellsPassed", "()I"⟩, 8), (⟨"SnowPaths", "fewestSteps", "(I)I"⟩, 12), (⟨"SnowPaths$Orders", "tryAll", "([ILSnowPaths$Sheet;)V"⟩, 10), (⟨"SnowPaths$Orders", "sendFrom", "(II)V"⟩, 10), (⟨"SnowPaths$Outing", "beginAs", "(LSnowPaths$Outing;)V"⟩, 8), (⟨"SnowPaths$Orders", "weigh", "(IZ)V"⟩, 10), (⟨"SnowPaths$Sheet", "shows", "([I)Z"⟩, 3), (⟨"SnowPaths$Orders", "keepAlike", "(I)V"⟩, 10)]
theorem lw_r2 : ∀ q ∈ lw_privs_2, lw_okq q := List.forall_mem_cons.mpr ⟨lw_p16, List.forall_mem_cons.mpr ⟨lw_p17, List.forall_mem_cons.mpr ⟨lw_p18, List.forall_mem_cons.mpr ⟨lw_p19, List.forall_mem_cons.mpr ⟨lw_p20, List.forall_mem_cons.mpr ⟨lw_p21, List.forall_mem_cons.mpr ⟨lw_p22, List.forall_mem_cons.mpr ⟨lw_p23, List.forall_mem_cons.mpr ⟨lw_p24, List.forall_mem_cons.mpr ⟨lw_p25, List.forall_mem_cons.mpr ⟨lw_p26, List.forall_mem_cons.mpr ⟨lw_p27, List.forall_mem_cons.mpr ⟨lw_p28, List.forall_mem_cons.mpr ⟨lw_p29, List.forall_mem_cons.mpr ⟨lw_p30, List.forall_mem_cons.mpr ⟨lw_p31, fun _ h => absurd h List.not_mem_nil⟩⟩⟩⟩⟩⟩⟩⟩⟩⟩⟩⟩⟩⟩⟩⟩
theorem lw_p32 : lw_okq (⟨"SnowPaths$Orders", "advance", "(I)I"⟩, 10) := ⟨⟨by decide +kernel, by decide +kernel⟩, List.mem_of_getElem? (i := 168) (by decide +kernel), List.mem_of_getElem? (i := 530) (by decide +kernel), List.mem_of_getElem? (i := 531) (by decide +kernel)⟩
theorem lw_p33 : lw_okq (⟨"SnowPaths$Orders", "swap", "(II)V"⟩, 10) := ⟨⟨by decide +kernel, by decide +kernel⟩, List.mem_of_getElem? (i := 168) (by decide +kernel), List.mem_of_getElem? (i := 534) (by decide +kernel), List.mem_of_getElem? (i := 535) (by decide +kernel)⟩
theorem lw_p34 : lw_okq (⟨"SnowPaths", "seekFirst", "()V"⟩, 12) := ⟨⟨by decide +kernel, by decide +kernel⟩, List.mem_of_getElem? (i := 15) (by decide +kernel), List.mem_of_getElem? (i := 546) (by decide +kernel), List.mem_of_getElem? (i := 547) (by decide +kernel)⟩
theorem lw_p35 : lw_okq (⟨"SnowPaths", "seekYard", "()V"⟩, 12) := ⟨⟨by decide +kernel, by decide +kernel⟩, List.mem_of_getElem? (i := 15) (by decide +kernel), List.mem_of_getElem? (i := 554) (by decide +kernel), List.mem_of_getElem? (i := 555) (by decide +kernel)⟩
theorem lw_p36 : lw_okq (⟨"SnowPaths", "slipperinessLeft", "(I)I"⟩, 12) := ⟨⟨by decide +kernel, by decide +kernel⟩, List.mem_of_getElem? (i := 15) (by decide +kernel), List.mem_of_getElem? (i := 570) (by decide +kernel), List.mem_of_getElem? (i := 571) (by decide +kernel)⟩
theorem lw_p37 : lw_okq (⟨"SnowPaths", "slipperiness", "(I)I"⟩, 12) := ⟨⟨by decide +kernel, by decide +kernel⟩, List.mem_of_getElem? (i := 15) (by decide +kernel), List.mem_of_getElem? (i := 574) (by decide +kernel), List.mem_of_getElem? (i := 575) (by decide +kernel)⟩
theorem lw_p38 : lw_okq (⟨"SnowPaths", "mostSlippery", "(J)I"⟩, 12) := ⟨⟨by decide +kernel, by decide +kernel⟩, List.mem_of_getElem? (i := 15) (by decide +kernel), List.mem_of_getElem? (i := 578) (by decide +kernel), List.mem_of_getElem? (i := 579) (by decide +kernel)⟩
theorem lw_p39 : lw_okq (⟨"SnowPaths", "wouldShow", "(LSnowPaths$Sheet;II)Z"⟩, 12) := ⟨⟨by decide +kernel, by decide +kernel⟩, List.mem_of_getElem? (i := 15) (by decide +kernel), List.mem_of_getElem? (i := 603) (by decide +kernel), List.mem_of_getElem? (i := 604) (by decide +kernel)⟩
theorem lw_p40 : lw_okq (⟨"SnowPaths$Sheet", "renew", "(II)V"⟩, 3) := ⟨⟨by decide +kernel, by decide +kernel⟩, List.mem_of_getElem? (i := 215) (by decide +kernel), List.mem_of_getElem? (i := 615) (by decide +kernel), List.mem_of_getElem? (i := 616) (by decide +kernel)⟩
theorem lw_p41 : lw_okq (⟨"SnowPaths", "refusedItem", "(III)I"⟩, 12) := ⟨⟨by decide +kernel, by decide +kernel⟩, List.mem_of_getElem? (i := 15) (by decide +kernel), List.mem_of_getElem? (i := 628) (by decide +kernel), List.mem_of_getElem? (i := 629) (by decide +kernel)⟩
theorem lw_p42 : lw_okq (⟨"SnowPaths$Sheet", "holds", "(II)Z"⟩, 3) := ⟨⟨by decide +kernel, by decide +kernel⟩, List.mem_of_getElem? (i := 215) (by decide +kernel), List.mem_of_getElem? (i := 632) (by decide +kernel), List.mem_of_getElem? (i := 633) (by decide +kernel)⟩
theorem lw_p43 : lw_okq (⟨"SnowPaths$Sheet", "put", "(II)V"⟩, 3) := ⟨⟨by decide +kernel, by decide +kernel⟩, List.mem_of_getElem? (i := 215) (by decide +kernel), List.mem_of_getElem? (i := 636) (by decide +kernel), List.mem_of_getElem? (i := 637) (by decide +kernel)⟩
theorem lw_p44 : lw_okq (⟨"SnowPathsModel", "met", "(I)I"⟩, 36) := ⟨⟨by decide +kernel, by decide +kernel⟩, List.mem_of_getElem? (i := 676) (by decide +kernel), List.mem_of_getElem? (i := 804) (by decide +kernel), List.mem_of_getElem? (i := 805) (by decide +kernel)⟩
theorem lw_p45 : lw_okq (⟨"SnowPathsModel", "lacks", "(III)I"⟩, 36) := ⟨⟨by decide +kernel, by decide +kernel⟩, List.mem_of_getElem? (i := 676) (by decide +kernel), List.mem_of_getElem? (i := 816) (by decide +kernel), List.mem_of_getElem? (i := 817) (by decide +kernel)⟩
theorem lw_p46 : lw_okq (⟨"SnowPathsModel", "reads", "()I"⟩, 36) := ⟨⟨by decide +kernel, by decide +kernel⟩, List.mem_of_getElem? (i := 676) (by decide +kernel), List.mem_of_getElem? (i := 845) (by decide +kernel), List.mem_of_getElem? (i := 846) (by decide +kernel)⟩
theorem lw_p47 : lw_okq (⟨"SnowPathsModel", "faultNow", "()I"⟩, 36) := ⟨⟨by decide +kernel, by decide +kernel⟩, List.mem_of_getElem? (i := 676) (by decide +kernel), List.mem_of_getElem? (i := 849) (by decide +kernel), List.mem_of_getElem? (i := 850) (by decide +kernel)⟩
def lw_privs_3 : List (MethodName × Nat) := [(⟨"SnowPaths$Orders", "advance", "(I)I"⟩, 10), (⟨"SnowPaths$Orders", "swap", "(II)V"⟩, 10), (⟨"SnowPaths", "seekFirst", "()V"⟩, 12), (⟨"SnowPaths", "seekYard", "()V"⟩, 12), (⟨"SnowPaths", "slipperinessLeft", "(I)I"⟩, 12), (⟨"SnowPaths", "slipperiness", "(I)I"⟩, 12), (⟨"SnowPaths", "mostSlippery", "(J)I"⟩, 12), (⟨"SnowPaths", "wouldShow", "(LSnowPaths$Sheet;II)Z"⟩, 12), (⟨"SnowPaths$Sheet", "renew", "(II)V"⟩, 3), (⟨"SnowPaths", "refusedItem", "(III)I"⟩, 12), (⟨"SnowPaths$Sheet", "holds", "(II)Z"⟩, 3), (⟨"SnowPaths$Sheet", "put", "(II)V"⟩, 3), (⟨"SnowPathsModel", "met", "(I)I"⟩, 36), (⟨"SnowPathsModel", "lacks", "(III)I"⟩, 36), (⟨"SnowPathsModel", "reads", "()I"⟩, 36), (⟨"SnowPathsModel", "faultNow", "()I"⟩, 36)]
theorem lw_r3 : ∀ q ∈ lw_privs_3, lw_okq q := List.forall_mem_cons.mpr ⟨lw_p32, List.forall_mem_cons.mpr ⟨lw_p33, List.forall_mem_cons.mpr ⟨lw_p34, List.forall_mem_cons.mpr ⟨lw_p35, List.forall_mem_cons.mpr ⟨lw_p36, List.forall_mem_cons.mpr ⟨lw_p37, List.forall_mem_cons.mpr ⟨lw_p38, List.forall_mem_cons.mpr ⟨lw_p39, List.forall_mem_cons.mpr ⟨lw_p40, List.forall_mem_cons.mpr ⟨lw_p41, List.forall_mem_cons.mpr ⟨lw_p42, List.forall_mem_cons.mpr ⟨lw_p43, List.forall_mem_cons.mpr ⟨lw_p44, List.forall_mem_cons.mpr ⟨lw_p45, List.forall_mem_cons.mpr ⟨lw_p46, List.forall_mem_cons.mpr ⟨lw_p47, fun _ h => absurd h List.not_mem_nil⟩⟩⟩⟩⟩⟩⟩⟩⟩⟩⟩⟩⟩⟩⟩⟩
theorem lw_p48 : lw_okq (⟨"SnowPathsModel", "cellOf", "(II)I"⟩, 36) := ⟨⟨by decide +kernel, by decide +kernel⟩, List.mem_of_getElem? (i := 676) (by decide +kernel), List.mem_of_getElem? (i := 865) (by decide +kernel), List.mem_of_getElem? (i := 866) (by decide +kernel)⟩
theorem lw_p49 : lw_okq (⟨"SnowPathsModel", "planOf", "(III)I"⟩, 36) := ⟨⟨by decide +kernel, by decide +kernel⟩, List.mem_of_getElem? (i := 676) (by decide +kernel), List.mem_of_getElem? (i := 912) (by decide +kernel), List.mem_of_getElem? (i := 913) (by decide +kernel)⟩
theorem lw_p50 : lw_okq (⟨"SnowPathsModel", "tries", "()V"⟩, 36) := ⟨⟨by decide +kernel, by decide +kernel⟩, List.mem_of_getElem? (i := 676) (by decide +kernel), List.mem_of_getElem? (i := 916) (by decide +kernel), List.mem_of_getElem? (i := 917) (by decide +kernel)⟩
theorem lw_p51 : lw_okq (⟨"SnowPathsModel", "begins", "()V"⟩, 36) := ⟨⟨by decide +kernel, by decide +kernel⟩, List.mem_of_getElem? (i := 676) (by decide +kernel), List.mem_of_getElem? (i := 920) (by decide +kernel), List.mem_of_getElem? (i := 921) (by decide +kernel)⟩
theorem lw_p52 : lw_okq (⟨"SnowPathsModel", "knows", "(Z)V"⟩, 36) := ⟨⟨by decide +kernel, by decide +kernel⟩, List.mem_of_getElem? (i := 676) (by decide +kernel), List.mem_of_getElem? (i := 924) (by decide +kernel), List.mem_of_getElem? (i := 925) (by decide +kernel)⟩
theorem lw_p53 : lw_okq (⟨"SnowPathsModel", "isHidden", "(I)Z"⟩, 36) := ⟨⟨by decide +kernel, by decide +kernel⟩, List.mem_of_getElem? (i := 676) (by decide +kernel), List.mem_of_getElem? (i := 928) (by decide +kernel), List.mem_of_getElem? (i := 929) (by decide +kernel)⟩
theorem lw_p54 : lw_okq (⟨"SnowPathsModel", "plans", "(II)Z"⟩, 36) := ⟨⟨by decide +kernel, by decide +kernel⟩, List.mem_of_getElem? (i := 676) (by decide +kernel), List.mem_of_getElem? (i := 932) (by decide +kernel), List.mem_of_getElem? (i := 933) (by decide +kernel)⟩
theorem lw_p55 : lw_okq (⟨"SnowPathsModel", "findCosts", "(IZ)V"⟩, 36) := ⟨⟨by decide +kernel, by decide +kernel⟩, List.mem_of_getElem? (i := 676) (by decide +kernel), List.mem_of_getElem? (i := 936) (by decide +kernel), List.mem_of_getElem? (i := 937) (by decide +kernel)⟩
theorem lw_p56 : lw_okq (⟨"SnowPathsModel", "mayPass", "(I)Z"⟩, 36) := ⟨⟨by decide +kernel, by decide +kernel⟩, List.mem_of_getElem? (i := 676) (by decide +kernel), List.mem_of_getElem? (i := 940) (by decide +kernel), List.mem_of_getElem? (i := 941) (by decide +kernel)⟩
theorem lw_p57 : lw_okq (⟨"SnowPathsModel", "wades", "(IZ)I"⟩, 36) := ⟨⟨by decide +kernel, by decide +kernel⟩, List.mem_of_getElem? (i := 676) (by decide +kernel), List.mem_of_getElem? (i := 945) (by decide +kernel), List.mem_of_getElem? (i := 946) (by decide +kernel)⟩
theorem lw_p58 : lw_okq (⟨"SnowPathsModel", "mayBegin", "(I)Z"⟩, 36) := ⟨⟨by decide +kernel, by decide +kernel⟩, List.mem_of_getElem? (i := 676) (by decide +kernel), List.mem_of_getElem? (i := 949) (by decide +kernel), List.mem_of_getElem? (i := 950) (by decide +kernel)⟩
theorem lw_p59 : lw_okq (⟨"SnowPathsModel", "goesTo", "(I)I"⟩, 36) := ⟨⟨by decide +kernel, by decide +kernel⟩, List.mem_of_getElem? (i := 676) (by decide +kernel), List.mem_of_getElem? (i := 953) (by decide +kernel), List.mem_of_getElem? (i := 954) (by decide +kernel)⟩
theorem lw_p60 : lw_okq (⟨"SnowPathsModel", "isWalker", "(I)Z"⟩, 36) := ⟨⟨by decide +kernel, by decide +kernel⟩, List.mem_of_getElem? (i := 676) (by decide +kernel), List.mem_of_getElem? (i := 961) (by decide +kernel), List.mem_of_getElem? (i := 962) (by decide +kernel)⟩
theorem lw_p61 : lw_okq (⟨"SnowPathsModel", "walks", "(I)V"⟩, 36) := ⟨⟨by decide +kernel, by decide +kernel⟩, List.mem_of_getElem? (i := 676) (by decide +kernel), List.mem_of_getElem? (i := 965) (by decide +kernel), List.mem_of_getElem? (i := 966) (by decide +kernel)⟩
theorem lw_p62 : lw_okq (⟨"SnowPathsModel", "treads", "(I)V"⟩, 36) := ⟨⟨by decide +kernel, by decide +kernel⟩, List.mem_of_getElem? (i := 676) (by decide +kernel), List.mem_of_getElem? (i := 969) (by decide +kernel), List.mem_of_getElem? (i := 970) (by decide +kernel)⟩
theorem lw_p63 : lw_okq (⟨"SnowPathsModel", "straightOf", "(I)I"⟩, 36) := ⟨⟨by decide +kernel, by decide +kernel⟩, List.mem_of_getElem? (i := 676) (by decide +kernel), List.mem_of_getElem? (i := 973) (by decide +kernel), List.mem_of_getElem? (i := 974) (by decide +kernel)⟩
def lw_privs_4 : List (MethodName × Nat) := [(⟨"SnowPathsModel", "cellOf", "(II)I"⟩, 36), (⟨"SnowPathsModel", "planOf", "(III)I"⟩, 36), (⟨"SnowPathsModel", "tries", "()V"⟩, 36), (⟨"SnowPathsModel", "begins", "()V"⟩, 36), (⟨"SnowPathsModel", "knows", "(Z)V"⟩, 36), (⟨"SnowPathsModel", "isHidden", "(I)Z"⟩, 36), (⟨"SnowPathsModel", "plans", "(II)Z"⟩, 36), (⟨"SnowPathsModel", "findCosts", "(IZ)V"⟩, 36), (⟨"SnowPathsModel", "mayPass", "(I)Z"⟩, 36), (⟨"SnowPathsModel", "wades", "(IZ)I"⟩, 36), (⟨"SnowPathsModel", "mayBegin", "(I)Z"⟩, 36), (⟨"SnowPathsModel", "goesTo", "(I)I"⟩, 36), (⟨"SnowPathsModel", "isWalker", "(I)Z"⟩, 36), (⟨"SnowPathsModel", "walks", "(I)V"⟩, 36), (⟨"SnowPathsModel", "treads", "(I)V"⟩, 36), (⟨"SnowPathsModel", "straightOf", "(I)I"⟩, 36)]
theorem lw_r4 : ∀ q ∈ lw_privs_4, lw_okq q := List.forall_mem_cons.mpr ⟨lw_p48, List.forall_mem_cons.mpr ⟨lw_p49, List.forall_mem_cons.mpr ⟨lw_p50, List.forall_mem_cons.mpr ⟨lw_p51, List.forall_mem_cons.mpr ⟨lw_p52, List.forall_mem_cons.mpr ⟨lw_p53, List.forall_mem_cons.mpr ⟨lw_p54, List.forall_mem_cons.mpr ⟨lw_p55, List.forall_mem_cons.mpr ⟨lw_p56, List.forall_mem_cons.mpr ⟨lw_p57, List.forall_mem_cons.mpr ⟨lw_p58, List.forall_mem_cons.mpr ⟨lw_p59, List.forall_mem_cons.mpr ⟨lw_p60, List.forall_mem_cons.mpr ⟨lw_p61, List.forall_mem_cons.mpr ⟨lw_p62, List.forall_mem_cons.mpr ⟨lw_p63, fun _ h => absurd h List.not_mem_nil⟩⟩⟩⟩⟩⟩⟩⟩⟩⟩⟩⟩⟩⟩⟩⟩
theorem lw_p64 : lw_okq (⟨"SnowPathsModel", "becomes", "()I"⟩, 36) := ⟨⟨by decide +kernel, by decide +kernel⟩, List.mem_of_getElem? (i := 676) (by decide +kernel), List.mem_of_getElem? (i := 977) (by decide +kernel), List.mem_of_getElem? (i := 978) (by decide +kernel)⟩
theorem lw_p65 : lw_okq (⟨"SnowPathsModel", "mornings", "()V"⟩, 36) := ⟨⟨by decide +kernel, by decide +kernel⟩, List.mem_of_getElem? (i := 676) (by decide +kernel), List.mem_of_getElem? (i := 985) (by decide +kernel), List.mem_of_getElem? (i := 986) (by decide +kernel)⟩
theorem lw_p66 : lw_okq (⟨"SnowPathsModel", "allOf", "(I)I"⟩, 36) := ⟨⟨by decide +kernel, by decide +kernel⟩, List.mem_of_getElem? (i := 676) (by decide +kernel), List.mem_of_getElem? (i := 993) (by decide +kernel), List.mem_of_getElem? (i := 994) (by decide +kernel)⟩
theorem lw_p67 : lw_okq (⟨"SnowPathsModel", "longerNow", "()I"⟩, 36) := ⟨⟨by decide +kernel, by decide +kernel⟩, List.mem_of_getElem? (i := 676) (by decide +kernel), List.mem_of_getElem? (i := 1005) (by decide +kernel), List.mem_of_getElem? (i := 1006) (by decide +kernel)⟩
theorem lw_p68 : lw_okq (⟨"SnowPathsModel", "findOrders", "()V"⟩, 36) := ⟨⟨by decide +kernel, by decide +kernel⟩, List.mem_of_getElem? (i := 676) (by decide +kernel), List.mem_of_getElem? (i := 1016) (by decide +kernel), List.mem_of_getElem? (i := 1017) (by decide +kernel)⟩
theorem lw_p69 : lw_okq (⟨"SnowPathsModel", "codes", "()I"⟩, 36) := ⟨⟨by decide +kernel, by decide +kernel⟩, List.mem_of_getElem? (i := 676) (by decide +kernel), List.mem_of_getElem? (i := 1020) (by decide +kernel), List.mem_of_getElem? (i := 1021) (by decide +kernel)⟩
theorem lw_p70 : lw_okq (⟨"SnowPathsModel", "isOrder", "(I)Z"⟩, 36) := ⟨⟨by decide +kernel, by decide +kernel⟩, List.mem_of_getElem? (i := 676) (by decide +kernel), List.mem_of_getElem? (i := 1024) (by decide +kernel), List.mem_of_getElem? (i := 1025) (by decide +kernel)⟩
theorem lw_p71 : lw_okq (⟨"SnowPathsModel", "triesRow", "()V"⟩, 36) := ⟨⟨by decide +kernel, by decide +kernel⟩, List.mem_of_getElem? (i := 676) (by decide +kernel), List.mem_of_getElem? (i := 1028) (by decide +kernel), List.mem_of_getElem? (i := 1029) (by decide +kernel)⟩
theorem lw_p72 : lw_okq (⟨"SnowPathsModel", "keepsRow", "()V"⟩, 36) := ⟨⟨by decide +kernel, by decide +kernel⟩, List.mem_of_getElem? (i := 676) (by decide +kernel), List.mem_of_getElem? (i := 1032) (by decide +kernel), List.mem_of_getElem? (i := 1033) (by decide +kernel)⟩
theorem lw_p73 : lw_okq (⟨"SnowPathsModel", "firstOf", "(I)I"⟩, 36) := ⟨⟨by decide +kernel, by decide +kernel⟩, List.mem_of_getElem? (i := 676) (by decide +kernel), List.mem_of_getElem? (i := 1044) (by decide +kernel), List.mem_of_getElem? (i := 1045) (by decide +kernel)⟩
theorem lw_p74 : lw_okq (⟨"SnowPathsModel", "findYard", "()V"⟩, 36) := ⟨⟨by decide +kernel, by decide +kernel⟩, List.mem_of_getElem? (i := 676) (by decide +kernel), List.mem_of_getElem? (i := 1052) (by decide +kernel), List.mem_of_getElem? (i := 1053) (by decide +kernel)⟩
theorem lw_p75 : lw_okq (⟨"SnowPathsModel", "leftOf", "(II)J"⟩, 36) := ⟨⟨by decide +kernel, by decide +kernel⟩, List.mem_of_getElem? (i := 676) (by decide +kernel), List.mem_of_getElem? (i := 1060) (by decide +kernel), List.mem_of_getElem? (i := 1061) (by decide +kernel)⟩
theorem lw_p76 : lw_okq (⟨"SnowPathsModel", "grits", "(II)I"⟩, 36) := ⟨⟨by decide +kernel, by decide +kernel⟩, List.mem_of_getElem? (i := 676) (by decide +kernel), List.mem_of_getElem? (i := 1064) (by decide +kernel), List.mem_of_getElem? (i := 1065) (by decide +kernel)⟩
theorem lw_p77 : lw_okq (⟨"SnowPathsModel", "findTower", "(I)V"⟩, 36) := ⟨⟨by decide +kernel, by decide +kernel⟩, List.mem_of_getElem? (i := 676) (by decide +kernel), List.mem_of_getElem? (i := 1091) (by decide +kernel), List.mem_of_getElem? (i := 1092) (by decide +kernel)⟩
theorem lw_p78 : lw_okq (⟨"SnowPathsModel", "isPicture", "(I)Z"⟩, 36) := ⟨⟨by decide +kernel, by decide +kernel⟩, List.mem_of_getElem? (i := 676) (by decide +kernel), List.mem_of_getElem? (i := 1095) (by decide +kernel), List.mem_of_getElem? (i := 1096) (by decide +kernel)⟩
def lw_privs_5 : List (MethodName × Nat) := [(⟨"SnowPathsModel", "becomes", "()I"⟩, 36), (⟨"SnowPathsModel", "mornings", "()V"⟩, 36), (⟨"SnowPathsModel", "allOf", "(I)I"⟩, 36), (⟨"SnowPathsModel", "longerNow", "()I"⟩, 36), (⟨"SnowPathsModel", "findOrders", "()V"⟩, 36), (⟨"SnowPathsModel", "codes", "()I"⟩, 36), (⟨"SnowPathsModel", "isOrder", "(I)Z"⟩, 36), (⟨"SnowPathsModel", "triesRow", "()V"⟩, 36), (⟨"SnowPathsModel", "keepsRow", "()V"⟩, 36), (⟨"SnowPathsModel", "firstOf", "(I)I"⟩, 36), (⟨"SnowPathsModel", "findYard", "()V"⟩, 36), (⟨"SnowPathsModel", "leftOf", "(II)J"⟩, 36), (⟨"SnowPathsModel", "grits", "(II)I"⟩, 36), (⟨"SnowPathsModel", "findTower", "(I)V"⟩, 36), (⟨"SnowPathsModel", "isPicture", "(I)Z"⟩, 36)]
theorem lw_r5 : ∀ q ∈ lw_privs_5, lw_okq q := List.forall_mem_cons.mpr ⟨lw_p64, List.forall_mem_cons.mpr ⟨lw_p65, List.forall_mem_cons.mpr ⟨lw_p66, List.forall_mem_cons.mpr ⟨lw_p67, List.forall_mem_cons.mpr ⟨lw_p68, List.forall_mem_cons.mpr ⟨lw_p69, List.forall_mem_cons.mpr ⟨lw_p70, List.forall_mem_cons.mpr ⟨lw_p71, List.forall_mem_cons.mpr ⟨lw_p72, List.forall_mem_cons.mpr ⟨lw_p73, List.forall_mem_cons.mpr ⟨lw_p74, List.forall_mem_cons.mpr ⟨lw_p75, List.forall_mem_cons.mpr ⟨lw_p76, List.forall_mem_cons.mpr ⟨lw_p77, List.forall_mem_cons.mpr ⟨lw_p78, fun _ h => absurd h List.not_mem_nil⟩⟩⟩⟩⟩⟩⟩⟩⟩⟩⟩⟩⟩⟩⟩
def lw_privs : List (MethodName × Nat) := lw_privs_1 ++ (lw_privs_2 ++ (lw_privs_3 ++ (lw_privs_4 ++ (lw_privs_5))))
def lw_tbl : List Cond := k2_sels lw_privs ++ tables_1
theorem lw_privs_ok : ∀ q ∈ lw_privs, lw_okq q := by
  show ∀ q ∈ lw_privs_1 ++ (lw_privs_2 ++ (lw_privs_3 ++ (lw_privs_4 ++ (lw_privs_5)))), lw_okq q
  exact List.forall_mem_append.mpr ⟨lw_r1, List.forall_mem_append.mpr ⟨lw_r2, List.forall_mem_append.mpr ⟨lw_r3, List.forall_mem_append.mpr ⟨lw_r4, lw_r5⟩⟩⟩⟩

def RX0 : String := "SnowPaths$Green"
def TX0 : u_T := fun k => match k with
  | 0 => ("SnowPaths$Green", "text", "[I", true)
  | 1 => ("SnowPaths$Green", "length", "I", false)
  | 2 => ("SnowPaths$Green", "faultAt", "I", false)
  | 3 => ("SnowPaths$Green", "walls", "J", false)
  | _ => ("SnowPaths$Green", "hidden", "J", false)
def tyX0 : Nat → FieldType := fun k => match k with
  | 0 => .array .int
  | 1 => .int
  | 2 => .int
  | 3 => .long
  | _ => .long
abbrev wsX00 : List Cond := u_ws RX0 TX0 5
theorem nmX0 : ∀ a, a < 5 → ∀ b, b < 5 → a ≠ b → (TX0 a).2.1 ≠ (TX0 b).2.1 := by decide +kernel
theorem tyX0_ok : ∀ k, k < 5 → parseFieldDescriptor (TX0 k).2.2.1 = some (tyX0 k) := by decide +kernel
abbrev cX0_init : ByteArray := prog_2_method_1_code
def yX0_init : MethodName := ⟨RX0, "<init>", "()V"⟩
abbrev cX0_append : ByteArray := prog_2_method_2_code
def yX0_append : MethodName := ⟨RX0, "append", "(I)Z"⟩
abbrev cX0_empty : ByteArray := prog_2_method_3_code
def yX0_empty : MethodName := ⟨RX0, "empty", "()V"⟩
abbrev cX0_kindOf : ByteArray := prog_2_method_4_code
def yX0_kindOf : MethodName := ⟨RX0, "kindOf", "(I)I"⟩
abbrev cX0_parse : ByteArray := prog_2_method_5_code
def yX0_parse : MethodName := ⟨RX0, "parse", "()V"⟩
abbrev cX0_seekFault : ByteArray := prog_2_method_6_code
def yX0_seekFault : MethodName := ⟨RX0, "seekFault", "()I"⟩
abbrev cX0_fits : ByteArray := prog_2_method_7_code
def yX0_fits : MethodName := ⟨RX0, "fits", "(II)Z"⟩
def RX1 : String := "SnowPaths$Ground"
def TX1 : u_T := fun k => match k with
  | 0 => ("SnowPaths$Ground", "snow", "[I", true)
  | 1 => ("SnowPaths$Ground", "pressed", "[I", true)
  | 2 => ("SnowPaths$Ground", "ice", "[I", true)
  | 3 => ("SnowPaths$Ground", "passed", "[I", true)
  | _ => ("SnowPaths$Ground", "bare", "[I", true)
def tyX1 : Nat → FieldType := fun k => match k with
  | 0 => .array .int
  | 1 => .array .int
  | 2 => .array .int
  | 3 => .array .int
  | _ => .array .int
abbrev wsX10 : List Cond := u_ws RX1 TX1 5
theorem nmX1 : ∀ a, a < 5 → ∀ b, b < 5 → a ≠ b → (TX1 a).2.1 ≠ (TX1 b).2.1 := by decide +kernel
theorem tyX1_ok : ∀ k, k < 5 → parseFieldDescriptor (TX1 k).2.2.1 = some (tyX1 k) := by decide +kernel
abbrev cX1_init : ByteArray := prog_3_method_1_code
def yX1_init : MethodName := ⟨RX1, "<init>", "()V"⟩
abbrev cX1_addSnow : ByteArray := prog_3_method_2_code
def yX1_addSnow : MethodName := ⟨RX1, "addSnow", "(IJ)I"⟩
abbrev cX1_melt : ByteArray := prog_3_method_3_code
def yX1_melt : MethodName := ⟨RX1, "melt", "(I)I"⟩
abbrev cX1_freeze : ByteArray := prog_3_method_4_code
def yX1_freeze : MethodName := ⟨RX1, "freeze", "()I"⟩
abbrev cX1_shovel : ByteArray := prog_3_method_5_code
def yX1_shovel : MethodName := ⟨RX1, "shovel", "(II)I"⟩
abbrev cX1_setSnow : ByteArray := prog_3_method_6_code
def yX1_setSnow : MethodName := ⟨RX1, "setSnow", "(LSnowPaths$Sheet;)I"⟩
abbrev cX1_treadAs : ByteArray := prog_3_method_7_code
def yX1_treadAs : MethodName := ⟨RX1, "treadAs", "(LSnowPaths$Outing;)V"⟩
def RX2 : String := "SnowPaths$Orders"
def TX2 : u_T := fun k => match k with
  | 0 => ("SnowPaths$Orders", "green", "LSnowPaths$Green;", true)
  | 1 => ("SnowPaths$Orders", "walkers", "LSnowPaths$Walkers;", true)
  | 2 => ("SnowPaths$Orders", "stages", "[LSnowPaths$Outing;", true)
  | 3 => ("SnowPaths$Orders", "row", "[I", true)
  | 4 => ("SnowPaths$Orders", "best", "[I", true)
  | 5 => ("SnowPaths$Orders", "firstAlike", "[I", true)
  | 6 => ("SnowPaths$Orders", "least", "I", false)
  | 7 => ("SnowPaths$Orders", "most", "I", false)
  | 8 => ("SnowPaths$Orders", "alike", "I", false)
  | _ => ("SnowPaths$Orders", "firsts", "I", false)
def tyX2 : Nat → FieldType := fun k => match k with
  | 0 => .object "SnowPaths$Green"
  | 1 => .object "SnowPaths$Walkers"
  | 2 => .array (.object "SnowPaths$Outing")
  | 3 => .array .int
  | 4 => .array .int
  | 5 => .array .int
  | 6 => .int
  | 7 => .int
  | 8 => .int
  | _ => .int
abbrev wsX20 : List Cond := u_ws RX2 TX2 10
theorem nmX2 : ∀ a, a < 10 → ∀ b, b < 10 → a ≠ b → (TX2 a).2.1 ≠ (TX2 b).2.1 := by decide +kernel
theorem tyX2_ok : ∀ k, k < 10 → parseFieldDescriptor (TX2 k).2.2.1 = some (tyX2 k) := by decide +kernel
abbrev cX2_init : ByteArray := prog_4_method_1_code
def yX2_init : MethodName := ⟨RX2, "<init>", "(LSnowPaths$Green;LSnowPaths$Walkers;LSnowPaths$Route;)V"⟩
abbrev cX2_tryAll : ByteArray := prog_4_method_2_code
def yX2_tryAll : MethodName := ⟨RX2, "tryAll", "([ILSnowPaths$Sheet;)V"⟩
abbrev cX2_sendFrom : ByteArray := prog_4_method_3_code
def yX2_sendFrom : MethodName := ⟨RX2, "sendFrom", "(II)V"⟩
abbrev cX2_weigh : ByteArray := prog_4_method_4_code
def yX2_weigh : MethodName := ⟨RX2, "weigh", "(IZ)V"⟩
abbrev cX2_keepAlike : ByteArray := prog_4_method_5_code
def yX2_keepAlike : MethodName := ⟨RX2, "keepAlike", "(I)V"⟩
abbrev cX2_advance : ByteArray := prog_4_method_6_code
def yX2_advance : MethodName := ⟨RX2, "advance", "(I)I"⟩
abbrev cX2_swap : ByteArray := prog_4_method_7_code
def yX2_swap : MethodName := ⟨RX2, "swap", "(II)V"⟩
def RX3 : String := "SnowPaths$Outing"
def TX3 : u_T := fun k => match k with
  | 0 => ("SnowPaths$Outing", "green", "LSnowPaths$Green;", true)
  | 1 => ("SnowPaths$Outing", "route", "LSnowPaths$Route;", true)
  | 2 => ("SnowPaths$Outing", "snow", "[I", true)
  | 3 => ("SnowPaths$Outing", "came", "[I", true)
  | 4 => ("SnowPaths$Outing", "effort", "I", false)
  | 5 => ("SnowPaths$Outing", "steps", "I", false)
  | 6 => ("SnowPaths$Outing", "stopped", "I", false)
  | _ => ("SnowPaths$Outing", "met", "I", false)
def tyX3 : Nat → FieldType := fun k => match k with
  | 0 => .object "SnowPaths$Green"
  | 1 => .object "SnowPaths$Route"
  | 2 => .array .int
  | 3 => .array .int
  | 4 => .int
  | 5 => .int
  | 6 => .int
  | _ => .int
abbrev wsX30 : List Cond := u_ws RX3 TX3 8
theorem nmX3 : ∀ a, a < 8 → ∀ b, b < 8 → a ≠ b → (TX3 a).2.1 ≠ (TX3 b).2.1 := by decide +kernel
theorem tyX3_ok : ∀ k, k < 8 → parseFieldDescriptor (TX3 k).2.2.1 = some (tyX3 k) := by decide +kernel
abbrev cX3_init : ByteArray := prog_5_method_1_code
def yX3_init : MethodName := ⟨RX3, "<init>", "(LSnowPaths$Green;LSnowPaths$Route;)V"⟩
abbrev cX3_begin : ByteArray := prog_5_method_2_code
def yX3_begin : MethodName := ⟨RX3, "begin", "([I)V"⟩
abbrev cX3_beginAs : ByteArray := prog_5_method_3_code
def yX3_beginAs : MethodName := ⟨RX3, "beginAs", "(LSnowPaths$Outing;)V"⟩
abbrev cX3_go : ByteArray := prog_5_method_4_code
def yX3_go : MethodName := ⟨RX3, "go", "(IIJ)Z"⟩
abbrev cX3_follow : ByteArray := prog_5_method_5_code
def yX3_follow : MethodName := ⟨RX3, "follow", "(IJ)I"⟩
abbrev cX3_tread : ByteArray := prog_5_method_6_code
def yX3_tread : MethodName := ⟨RX3, "tread", "(I)V"⟩
abbrev cX3_cellsPassed : ByteArray := prog_5_method_7_code
def yX3_cellsPassed : MethodName := ⟨RX3, "cellsPassed", "()I"⟩
def RX4 : String := "SnowPaths$Route"
def TX4 : u_T := fun k => match k with
  | 0 => ("SnowPaths$Route", "far", "[I", true)
  | 1 => ("SnowPaths$Route", "ahead", "[J", true)
  | 2 => ("SnowPaths$Route", "way", "[I", true)
  | 3 => ("SnowPaths$Route", "length", "I", false)
  | _ => ("SnowPaths$Route", "reached", "J", false)
def tyX4 : Nat → FieldType := fun k => match k with
  | 0 => .array .int
  | 1 => .array .long
  | 2 => .array .int
  | 3 => .int
  | _ => .long
abbrev wsX40 : List Cond := u_ws RX4 TX4 5
theorem nmX4 : ∀ a, a < 5 → ∀ b, b < 5 → a ≠ b → (TX4 a).2.1 ≠ (TX4 b).2.1 := by decide +kernel
theorem tyX4_ok : ∀ k, k < 5 → parseFieldDescriptor (TX4 k).2.2.1 = some (tyX4 k) := by decide +kernel
abbrev cX4_init : ByteArray := prog_6_method_1_code
def yX4_init : MethodName := ⟨RX4, "<init>", "()V"⟩
abbrev cX4_find : ByteArray := prog_6_method_2_code
def yX4_find : MethodName := ⟨RX4, "find", "(IIJ[I)I"⟩
abbrev cX4_spread : ByteArray := prog_6_method_3_code
def yX4_spread : MethodName := ⟨RX4, "spread", "(IIJ[I)V"⟩
abbrev cX4_onward : ByteArray := prog_6_method_4_code
def yX4_onward : MethodName := ⟨RX4, "onward", "(I[I)I"⟩
abbrev cX4_around : ByteArray := prog_6_method_5_code
def yX4_around : MethodName := ⟨RX4, "around", "(J)J"⟩
def RX5 : String := "SnowPaths$Sheet"
def TX5 : u_T := fun k => match k with
  | 0 => ("SnowPaths$Sheet", "items", "[I", true)
  | 1 => ("SnowPaths$Sheet", "form", "I", false)
  | _ => ("SnowPaths$Sheet", "size", "I", false)
def tyX5 : Nat → FieldType := fun k => match k with
  | 0 => .array .int
  | 1 => .int
  | _ => .int
abbrev wsX50 : List Cond := u_ws RX5 TX5 3
theorem nmX5 : ∀ a, a < 3 → ∀ b, b < 3 → a ≠ b → (TX5 a).2.1 ≠ (TX5 b).2.1 := by decide +kernel
theorem tyX5_ok : ∀ k, k < 3 → parseFieldDescriptor (TX5 k).2.2.1 = some (tyX5 k) := by decide +kernel
abbrev cX5_init : ByteArray := prog_7_method_1_code
def yX5_init : MethodName := ⟨RX5, "<init>", "()V"⟩
abbrev cX5_isLost : ByteArray := prog_7_method_2_code
def yX5_isLost : MethodName := ⟨RX5, "isLost", "()Z"⟩
abbrev cX5_renew : ByteArray := prog_7_method_3_code
def yX5_renew : MethodName := ⟨RX5, "renew", "(II)V"⟩
abbrev cX5_put : ByteArray := prog_7_method_4_code
def yX5_put : MethodName := ⟨RX5, "put", "(II)V"⟩
abbrev cX5_holds : ByteArray := prog_7_method_5_code
def yX5_holds : MethodName := ⟨RX5, "holds", "(II)Z"⟩
abbrev cX5_shows : ByteArray := prog_7_method_6_code
def yX5_shows : MethodName := ⟨RX5, "shows", "([I)Z"⟩
def RX6 : String := "SnowPaths$Walkers"
def TX6 : u_T := fun k => match k with
  | 0 => ("SnowPaths$Walkers", "from", "[I", true)
  | 1 => ("SnowPaths$Walkers", "to", "[I", true)
  | _ => ("SnowPaths$Walkers", "number", "I", false)
def tyX6 : Nat → FieldType := fun k => match k with
  | 0 => .array .int
  | 1 => .array .int
  | _ => .int
abbrev wsX60 : List Cond := u_ws RX6 TX6 3
theorem nmX6 : ∀ a, a < 3 → ∀ b, b < 3 → a ≠ b → (TX6 a).2.1 ≠ (TX6 b).2.1 := by decide +kernel
theorem tyX6_ok : ∀ k, k < 3 → parseFieldDescriptor (TX6 k).2.2.1 = some (tyX6 k) := by decide +kernel
abbrev cX6_init : ByteArray := prog_8_method_1_code
def yX6_init : MethodName := ⟨RX6, "<init>", "()V"⟩
abbrev cX6_join : ByteArray := prog_8_method_2_code
def yX6_join : MethodName := ⟨RX6, "join", "(II)Z"⟩
def RX7 : String := "SnowPaths"
def TX7 : u_T := fun k => match k with
  | 0 => ("SnowPaths", "green", "LSnowPaths$Green;", true)
  | 1 => ("SnowPaths", "ground", "LSnowPaths$Ground;", true)
  | 2 => ("SnowPaths", "walkers", "LSnowPaths$Walkers;", true)
  | 3 => ("SnowPaths", "route", "LSnowPaths$Route;", true)
  | 4 => ("SnowPaths", "outing", "LSnowPaths$Outing;", true)
  | 5 => ("SnowPaths", "tried", "LSnowPaths$Orders;", true)
  | 6 => ("SnowPaths", "sheets", "[LSnowPaths$Sheet;", true)
  | 7 => ("SnowPaths", "finding", "I", false)
  | 8 => ("SnowPaths", "bestFirst", "I", false)
  | 9 => ("SnowPaths", "bestFirstEffort", "I", false)
  | 10 => ("SnowPaths", "bestYard", "I", false)
  | _ => ("SnowPaths", "bestYardGain", "I", false)
def tyX7 : Nat → FieldType := fun k => match k with
  | 0 => .object "SnowPaths$Green"
  | 1 => .object "SnowPaths$Ground"
  | 2 => .object "SnowPaths$Walkers"
  | 3 => .object "SnowPaths$Route"
  | 4 => .object "SnowPaths$Outing"
  | 5 => .object "SnowPaths$Orders"
  | 6 => .array (.object "SnowPaths$Sheet")
  | 7 => .int
  | 8 => .int
  | 9 => .int
  | 10 => .int
  | _ => .int
abbrev wsX70 : List Cond := u_ws RX7 TX7 12
theorem nmX7 : ∀ a, a < 12 → ∀ b, b < 12 → a ≠ b → (TX7 a).2.1 ≠ (TX7 b).2.1 := by decide +kernel
theorem tyX7_ok : ∀ k, k < 12 → parseFieldDescriptor (TX7 k).2.2.1 = some (tyX7 k) := by decide +kernel
abbrev cX7_init : ByteArray := prog_1_method_1_code
def yX7_init : MethodName := ⟨RX7, "<init>", "()V"⟩
abbrev cX7_type : ByteArray := prog_1_method_2_code
def yX7_type : MethodName := ⟨RX7, "type", "(I)I"⟩
abbrev cX7_wipe : ByteArray := prog_1_method_3_code
def yX7_wipe : MethodName := ⟨RX7, "wipe", "()I"⟩
abbrev cX7_fault : ByteArray := prog_1_method_4_code
def yX7_fault : MethodName := ⟨RX7, "fault", "()I"⟩
abbrev cX7_cell : ByteArray := prog_1_method_5_code
def yX7_cell : MethodName := ⟨RX7, "cell", "(II)I"⟩
abbrev cX7_snows : ByteArray := prog_1_method_6_code
def yX7_snows : MethodName := ⟨RX7, "snows", "(I)I"⟩
abbrev cX7_thaws : ByteArray := prog_1_method_7_code
def yX7_thaws : MethodName := ⟨RX7, "thaws", "(I)I"⟩
abbrev cX7_freezes : ByteArray := prog_1_method_8_code
def yX7_freezes : MethodName := ⟨RX7, "freezes", "()I"⟩
abbrev cX7_clear : ByteArray := prog_1_method_9_code
def yX7_clear : MethodName := ⟨RX7, "clear", "(II)I"⟩
abbrev cX7_read : ByteArray := prog_1_method_10_code
def yX7_read : MethodName := ⟨RX7, "read", "(I)I"⟩
abbrev cX7_walker : ByteArray := prog_1_method_11_code
def yX7_walker : MethodName := ⟨RX7, "walker", "(II)I"⟩
abbrev cX7_gone : ByteArray := prog_1_method_12_code
def yX7_gone : MethodName := ⟨RX7, "gone", "()I"⟩
abbrev cX7_plan : ByteArray := prog_1_method_13_code
def yX7_plan : MethodName := ⟨RX7, "plan", "(III)I"⟩
abbrev cX7_walk : ByteArray := prog_1_method_14_code
def yX7_walk : MethodName := ⟨RX7, "walk", "(I)I"⟩
abbrev cX7_morning : ByteArray := prog_1_method_15_code
def yX7_morning : MethodName := ⟨RX7, "morning", "()I"⟩
abbrev cX7_all : ByteArray := prog_1_method_16_code
def yX7_all : MethodName := ⟨RX7, "all", "(I)I"⟩
abbrev cX7_straight : ByteArray := prog_1_method_17_code
def yX7_straight : MethodName := ⟨RX7, "straight", "(I)I"⟩
abbrev cX7_longer : ByteArray := prog_1_method_18_code
def yX7_longer : MethodName := ⟨RX7, "longer", "()I"⟩
abbrev cX7_orders : ByteArray := prog_1_method_19_code
def yX7_orders : MethodName := ⟨RX7, "orders", "(I)I"⟩
abbrev cX7_order : ByteArray := prog_1_method_20_code
def yX7_order : MethodName := ⟨RX7, "order", "(I)I"⟩
abbrev cX7_first : ByteArray := prog_1_method_21_code
def yX7_first : MethodName := ⟨RX7, "first", "(I)I"⟩
abbrev cX7_yard : ByteArray := prog_1_method_22_code
def yX7_yard : MethodName := ⟨RX7, "yard", "(I)I"⟩
abbrev cX7_falls : ByteArray := prog_1_method_23_code
def yX7_falls : MethodName := ⟨RX7, "falls", "(I)J"⟩
abbrev cX7_grit : ByteArray := prog_1_method_24_code
def yX7_grit : MethodName := ⟨RX7, "grit", "(II)I"⟩
abbrev cX7_left : ByteArray := prog_1_method_25_code
def yX7_left : MethodName := ⟨RX7, "left", "(II)J"⟩
abbrev cX7_tower : ByteArray := prog_1_method_26_code
def yX7_tower : MethodName := ⟨RX7, "tower", "(II)I"⟩
abbrev cX7_towerOrder : ByteArray := prog_1_method_27_code
def yX7_towerOrder : MethodName := ⟨RX7, "towerOrder", "(II)I"⟩
abbrev cX7_hints : ByteArray := prog_1_method_28_code
def yX7_hints : MethodName := ⟨RX7, "hints", "(III)I"⟩
abbrev cX7_sheet : ByteArray := prog_1_method_29_code
def yX7_sheet : MethodName := ⟨RX7, "sheet", "(III)I"⟩
abbrev cX7_lose : ByteArray := prog_1_method_30_code
def yX7_lose : MethodName := ⟨RX7, "lose", "(I)I"⟩
abbrev cX7_lay : ByteArray := prog_1_method_31_code
def yX7_lay : MethodName := ⟨RX7, "lay", "(IIII)I"⟩
abbrev cX7_get : ByteArray := prog_1_method_32_code
def yX7_get : MethodName := ⟨RX7, "get", "(III)I"⟩
abbrev cX7_copy : ByteArray := prog_1_method_33_code
def yX7_copy : MethodName := ⟨RX7, "copy", "(IIIII)I"⟩
abbrev cX7_write : ByteArray := prog_1_method_34_code
def yX7_write : MethodName := ⟨RX7, "write", "(I)I"⟩
abbrev cX7_count : ByteArray := prog_1_method_35_code
def yX7_count : MethodName := ⟨RX7, "count", "(I)I"⟩
abbrev cX7_digest : ByteArray := prog_1_method_36_code
def yX7_digest : MethodName := ⟨RX7, "digest", "()J"⟩
abbrev cX7_tryMorning : ByteArray := prog_1_method_37_code
def yX7_tryMorning : MethodName := ⟨RX7, "tryMorning", "(II)V"⟩
abbrev cX7_told : ByteArray := prog_1_method_38_code
def yX7_told : MethodName := ⟨RX7, "told", "(I)I"⟩
abbrev cX7_fewestSteps : ByteArray := prog_1_method_39_code
def yX7_fewestSteps : MethodName := ⟨RX7, "fewestSteps", "(I)I"⟩
abbrev cX7_seekFirst : ByteArray := prog_1_method_40_code
def yX7_seekFirst : MethodName := ⟨RX7, "seekFirst", "()V"⟩
abbrev cX7_seekYard : ByteArray := prog_1_method_41_code
def yX7_seekYard : MethodName := ⟨RX7, "seekYard", "()V"⟩
abbrev cX7_wouldShow : ByteArray := prog_1_method_42_code
def yX7_wouldShow : MethodName := ⟨RX7, "wouldShow", "(LSnowPaths$Sheet;II)Z"⟩
abbrev cX7_slipperiness : ByteArray := prog_1_method_43_code
def yX7_slipperiness : MethodName := ⟨RX7, "slipperiness", "(I)I"⟩
abbrev cX7_mostSlippery : ByteArray := prog_1_method_44_code
def yX7_mostSlippery : MethodName := ⟨RX7, "mostSlippery", "(J)I"⟩
abbrev cX7_slipperinessLeft : ByteArray := prog_1_method_45_code
def yX7_slipperinessLeft : MethodName := ⟨RX7, "slipperinessLeft", "(I)I"⟩
abbrev cX7_thirtieths : ByteArray := prog_1_method_46_code
def yX7_thirtieths : MethodName := ⟨RX7, "thirtieths", "(II)J"⟩
abbrev cX7_found : ByteArray := prog_1_method_47_code
def yX7_found : MethodName := ⟨RX7, "found", "(I)I"⟩
abbrev cX7_refusedLong : ByteArray := prog_1_method_48_code
def yX7_refusedLong : MethodName := ⟨RX7, "refusedLong", "(I)J"⟩
abbrev cX7_refusedItem : ByteArray := prog_1_method_49_code
def yX7_refusedItem : MethodName := ⟨RX7, "refusedItem", "(III)I"⟩
abbrev cX7_isCell : ByteArray := prog_1_method_50_code
def yX7_isCell : MethodName := ⟨RX7, "isCell", "(I)Z"⟩
abbrev cX7_isWalker : ByteArray := prog_1_method_51_code
def yX7_isWalker : MethodName := ⟨RX7, "isWalker", "(I)Z"⟩
abbrev cX7_isSheet : ByteArray := prog_1_method_52_code
def yX7_isSheet : MethodName := ⟨RX7, "isSheet", "(I)Z"⟩
abbrev cX7_isForm : ByteArray := prog_1_method_53_code
def yX7_isForm : MethodName := ⟨RX7, "isForm", "(I)Z"⟩
abbrev cX7_bit : ByteArray := prog_1_method_54_code
def yX7_bit : MethodName := ⟨RX7, "bit", "(I)J"⟩
abbrev cX7_has : ByteArray := prog_1_method_55_code
def yX7_has : MethodName := ⟨RX7, "has", "(JI)Z"⟩
abbrev cX7_beside : ByteArray := prog_1_method_56_code
def yX7_beside : MethodName := ⟨RX7, "beside", "(II)I"⟩
abbrev cX7_sum : ByteArray := prog_1_method_57_code
def yX7_sum : MethodName := ⟨RX7, "sum", "([I)I"⟩
def RX8 : String := "SnowPathsModel"
def TX8 : u_T := fun k => match k with
  | 0 => ("SnowPathsModel", "forms", "[I", true)
  | 1 => ("SnowPathsModel", "sizes", "[I", true)
  | 2 => ("SnowPathsModel", "items", "[I", true)
  | 3 => ("SnowPathsModel", "moved", "[I", true)
  | 4 => ("SnowPathsModel", "latest", "I", false)
  | 5 => ("SnowPathsModel", "text", "[I", true)
  | 6 => ("SnowPathsModel", "typed", "I", false)
  | 7 => ("SnowPathsModel", "kinds", "[I", true)
  | 8 => ("SnowPathsModel", "snow", "[I", true)
  | 9 => ("SnowPathsModel", "pressed", "[I", true)
  | 10 => ("SnowPathsModel", "ice", "[I", true)
  | 11 => ("SnowPathsModel", "passed", "[I", true)
  | 12 => ("SnowPathsModel", "walkers", "I", false)
  | 13 => ("SnowPathsModel", "from", "[I", true)
  | 14 => ("SnowPathsModel", "to", "[I", true)
  | 15 => ("SnowPathsModel", "nowSnow", "[I", true)
  | 16 => ("SnowPathsModel", "nowPressed", "[I", true)
  | 17 => ("SnowPathsModel", "comes", "[I", true)
  | 18 => ("SnowPathsModel", "known", "[Z", true)
  | 19 => ("SnowPathsModel", "moreHidden", "I", false)
  | 20 => ("SnowPathsModel", "costs", "[I", true)
  | 21 => ("SnowPathsModel", "effort", "I", false)
  | 22 => ("SnowPathsModel", "steps", "I", false)
  | 23 => ("SnowPathsModel", "stops", "I", false)
  | 24 => ("SnowPathsModel", "longer", "I", false)
  | 25 => ("SnowPathsModel", "way", "[I", true)
  | 26 => ("SnowPathsModel", "wayLong", "I", false)
  | 27 => ("SnowPathsModel", "row", "[I", true)
  | 28 => ("SnowPathsModel", "bestRow", "[I", true)
  | 29 => ("SnowPathsModel", "leastEffort", "I", false)
  | 30 => ("SnowPathsModel", "mostEffort", "I", false)
  | 31 => ("SnowPathsModel", "yardCell", "I", false)
  | 32 => ("SnowPathsModel", "yardLess", "I", false)
  | 33 => ("SnowPathsModel", "gritty", "[Z", true)
  | 34 => ("SnowPathsModel", "towerMany", "I", false)
  | _ => ("SnowPathsModel", "towerFirst", "I", false)
def tyX8 : Nat → FieldType := fun k => match k with
  | 0 => .array .int
  | 1 => .array .int
  | 2 => .array .int
  | 3 => .array .int
  | 4 => .int
  | 5 => .array .int
  | 6 => .int
  | 7 => .array .int
  | 8 => .array .int
  | 9 => .array .int
  | 10 => .array .int
  | 11 => .array .int
  | 12 => .int
  | 13 => .array .int
  | 14 => .array .int
  | 15 => .array .int
  | 16 => .array .int
  | 17 => .array .int
  | 18 => .array .boolean
  | 19 => .int
  | 20 => .array .int
  | 21 => .int
  | 22 => .int
  | 23 => .int
  | 24 => .int
  | 25 => .array .int
  | 26 => .int
  | 27 => .array .int
  | 28 => .array .int
  | 29 => .int
  | 30 => .int
  | 31 => .int
  | 32 => .int
  | 33 => .array .boolean
  | 34 => .int
  | _ => .int
abbrev wsX80 : List Cond := u_ws RX8 TX8 36
theorem nmX8 : ∀ a, a < 36 → ∀ b, b < 36 → a ≠ b → (TX8 a).2.1 ≠ (TX8 b).2.1 := by decide +kernel
theorem tyX8_ok : ∀ k, k < 36 → parseFieldDescriptor (TX8 k).2.2.1 = some (tyX8 k) := by decide +kernel
abbrev cX8_init : ByteArray := prog_10_method_1_code
def yX8_init : MethodName := ⟨RX8, "<init>", "()V"⟩
abbrev cX8_in : ByteArray := prog_10_method_3_code
def yX8_in : MethodName := ⟨RX8, "in", "(JJJ)Z"⟩
abbrev cX8_no : ByteArray := prog_10_method_4_code
def yX8_no : MethodName := ⟨RX8, "no", "(I)J"⟩
abbrev cX8_isTwo : ByteArray := prog_10_method_5_code
def yX8_isTwo : MethodName := ⟨RX8, "isTwo", "(I)Z"⟩
abbrev cX8_isCell : ByteArray := prog_10_method_6_code
def yX8_isCell : MethodName := ⟨RX8, "isCell", "(I)Z"⟩
abbrev cX8_met : ByteArray := prog_10_method_7_code
def yX8_met : MethodName := ⟨RX8, "met", "(I)I"⟩
abbrev cX8_isSheet : ByteArray := prog_10_method_8_code
def yX8_isSheet : MethodName := ⟨RX8, "isSheet", "(I)Z"⟩
abbrev cX8_sheet : ByteArray := prog_10_method_9_code
def yX8_sheet : MethodName := ⟨RX8, "sheet", "(III)I"⟩
abbrev cX8_lose : ByteArray := prog_10_method_10_code
def yX8_lose : MethodName := ⟨RX8, "lose", "(I)I"⟩
abbrev cX8_lacks : ByteArray := prog_10_method_11_code
def yX8_lacks : MethodName := ⟨RX8, "lacks", "(III)I"⟩
abbrev cX8_cut : ByteArray := prog_10_method_12_code
def yX8_cut : MethodName := ⟨RX8, "cut", "(II)I"⟩
abbrev cX8_lay : ByteArray := prog_10_method_13_code
def yX8_lay : MethodName := ⟨RX8, "lay", "(IIII)I"⟩
abbrev cX8_get : ByteArray := prog_10_method_14_code
def yX8_get : MethodName := ⟨RX8, "get", "(III)I"⟩
abbrev cX8_copy : ByteArray := prog_10_method_15_code
def yX8_copy : MethodName := ⟨RX8, "copy", "(IIIII)I"⟩
abbrev cX8_type : ByteArray := prog_10_method_16_code
def yX8_type : MethodName := ⟨RX8, "type", "(I)I"⟩
abbrev cX8_wipe : ByteArray := prog_10_method_17_code
def yX8_wipe : MethodName := ⟨RX8, "wipe", "()I"⟩
abbrev cX8_kindOf : ByteArray := prog_10_method_18_code
def yX8_kindOf : MethodName := ⟨RX8, "kindOf", "(I)I"⟩
abbrev cX8_faultNow : ByteArray := prog_10_method_19_code
def yX8_faultNow : MethodName := ⟨RX8, "faultNow", "()I"⟩
abbrev cX8_reads : ByteArray := prog_10_method_20_code
def yX8_reads : MethodName := ⟨RX8, "reads", "()I"⟩
abbrev cX8_fault : ByteArray := prog_10_method_21_code
def yX8_fault : MethodName := ⟨RX8, "fault", "()I"⟩
abbrev cX8_cellOf : ByteArray := prog_10_method_22_code
def yX8_cellOf : MethodName := ⟨RX8, "cellOf", "(II)I"⟩
abbrev cX8_cell : ByteArray := prog_10_method_23_code
def yX8_cell : MethodName := ⟨RX8, "cell", "(II)I"⟩
abbrev cX8_least : ByteArray := prog_10_method_24_code
def yX8_least : MethodName := ⟨RX8, "least", "(II)I"⟩
abbrev cX8_snows : ByteArray := prog_10_method_25_code
def yX8_snows : MethodName := ⟨RX8, "snows", "(I)I"⟩
abbrev cX8_less : ByteArray := prog_10_method_26_code
def yX8_less : MethodName := ⟨RX8, "less", "(II)I"⟩
abbrev cX8_thaws : ByteArray := prog_10_method_27_code
def yX8_thaws : MethodName := ⟨RX8, "thaws", "(I)I"⟩
abbrev cX8_freezes : ByteArray := prog_10_method_28_code
def yX8_freezes : MethodName := ⟨RX8, "freezes", "()I"⟩
abbrev cX8_next : ByteArray := prog_10_method_29_code
def yX8_next : MethodName := ⟨RX8, "next", "(II)I"⟩
abbrev cX8_clear : ByteArray := prog_10_method_30_code
def yX8_clear : MethodName := ⟨RX8, "clear", "(II)I"⟩
abbrev cX8_read : ByteArray := prog_10_method_31_code
def yX8_read : MethodName := ⟨RX8, "read", "(I)I"⟩
abbrev cX8_walker : ByteArray := prog_10_method_32_code
def yX8_walker : MethodName := ⟨RX8, "walker", "(II)I"⟩
abbrev cX8_gone : ByteArray := prog_10_method_33_code
def yX8_gone : MethodName := ⟨RX8, "gone", "()I"⟩
abbrev cX8_isWalker : ByteArray := prog_10_method_34_code
def yX8_isWalker : MethodName := ⟨RX8, "isWalker", "(I)Z"⟩
abbrev cX8_isHidden : ByteArray := prog_10_method_35_code
def yX8_isHidden : MethodName := ⟨RX8, "isHidden", "(I)Z"⟩
abbrev cX8_tries : ByteArray := prog_10_method_36_code
def yX8_tries : MethodName := ⟨RX8, "tries", "()V"⟩
abbrev cX8_begins : ByteArray := prog_10_method_37_code
def yX8_begins : MethodName := ⟨RX8, "begins", "()V"⟩
abbrev cX8_knows : ByteArray := prog_10_method_38_code
def yX8_knows : MethodName := ⟨RX8, "knows", "(Z)V"⟩
abbrev cX8_mayPass : ByteArray := prog_10_method_39_code
def yX8_mayPass : MethodName := ⟨RX8, "mayPass", "(I)Z"⟩
abbrev cX8_wades : ByteArray := prog_10_method_40_code
def yX8_wades : MethodName := ⟨RX8, "wades", "(IZ)I"⟩
abbrev cX8_findCosts : ByteArray := prog_10_method_41_code
def yX8_findCosts : MethodName := ⟨RX8, "findCosts", "(IZ)V"⟩
abbrev cX8_goesTo : ByteArray := prog_10_method_42_code
def yX8_goesTo : MethodName := ⟨RX8, "goesTo", "(I)I"⟩
abbrev cX8_mayBegin : ByteArray := prog_10_method_43_code
def yX8_mayBegin : MethodName := ⟨RX8, "mayBegin", "(I)Z"⟩
abbrev cX8_plans : ByteArray := prog_10_method_44_code
def yX8_plans : MethodName := ⟨RX8, "plans", "(II)Z"⟩
abbrev cX8_planOf : ByteArray := prog_10_method_45_code
def yX8_planOf : MethodName := ⟨RX8, "planOf", "(III)I"⟩
abbrev cX8_plan : ByteArray := prog_10_method_46_code
def yX8_plan : MethodName := ⟨RX8, "plan", "(III)I"⟩
abbrev cX8_treads : ByteArray := prog_10_method_47_code
def yX8_treads : MethodName := ⟨RX8, "treads", "(I)V"⟩
abbrev cX8_walks : ByteArray := prog_10_method_48_code
def yX8_walks : MethodName := ⟨RX8, "walks", "(I)V"⟩
abbrev cX8_straightOf : ByteArray := prog_10_method_49_code
def yX8_straightOf : MethodName := ⟨RX8, "straightOf", "(I)I"⟩
abbrev cX8_becomes : ByteArray := prog_10_method_50_code
def yX8_becomes : MethodName := ⟨RX8, "becomes", "()I"⟩
abbrev cX8_walk : ByteArray := prog_10_method_51_code
def yX8_walk : MethodName := ⟨RX8, "walk", "(I)I"⟩
abbrev cX8_mornings : ByteArray := prog_10_method_52_code
def yX8_mornings : MethodName := ⟨RX8, "mornings", "()V"⟩
abbrev cX8_morning : ByteArray := prog_10_method_53_code
def yX8_morning : MethodName := ⟨RX8, "morning", "()I"⟩
abbrev cX8_allOf : ByteArray := prog_10_method_54_code
def yX8_allOf : MethodName := ⟨RX8, "allOf", "(I)I"⟩
abbrev cX8_all : ByteArray := prog_10_method_55_code
def yX8_all : MethodName := ⟨RX8, "all", "(I)I"⟩
abbrev cX8_straight : ByteArray := prog_10_method_56_code
def yX8_straight : MethodName := ⟨RX8, "straight", "(I)I"⟩
abbrev cX8_longerNow : ByteArray := prog_10_method_57_code
def yX8_longerNow : MethodName := ⟨RX8, "longerNow", "()I"⟩
abbrev cX8_longer : ByteArray := prog_10_method_58_code
def yX8_longer : MethodName := ⟨RX8, "longer", "()I"⟩
abbrev cX8_codes : ByteArray := prog_10_method_59_code
def yX8_codes : MethodName := ⟨RX8, "codes", "()I"⟩
abbrev cX8_isOrder : ByteArray := prog_10_method_60_code
def yX8_isOrder : MethodName := ⟨RX8, "isOrder", "(I)Z"⟩
abbrev cX8_triesRow : ByteArray := prog_10_method_61_code
def yX8_triesRow : MethodName := ⟨RX8, "triesRow", "()V"⟩
abbrev cX8_keepsRow : ByteArray := prog_10_method_62_code
def yX8_keepsRow : MethodName := ⟨RX8, "keepsRow", "()V"⟩
abbrev cX8_findOrders : ByteArray := prog_10_method_63_code
def yX8_findOrders : MethodName := ⟨RX8, "findOrders", "()V"⟩
abbrev cX8_orders : ByteArray := prog_10_method_64_code
def yX8_orders : MethodName := ⟨RX8, "orders", "(I)I"⟩
abbrev cX8_order : ByteArray := prog_10_method_65_code
def yX8_order : MethodName := ⟨RX8, "order", "(I)I"⟩
abbrev cX8_firstOf : ByteArray := prog_10_method_66_code
def yX8_firstOf : MethodName := ⟨RX8, "firstOf", "(I)I"⟩
abbrev cX8_first : ByteArray := prog_10_method_67_code
def yX8_first : MethodName := ⟨RX8, "first", "(I)I"⟩
abbrev cX8_findYard : ByteArray := prog_10_method_68_code
def yX8_findYard : MethodName := ⟨RX8, "findYard", "()V"⟩
abbrev cX8_yard : ByteArray := prog_10_method_69_code
def yX8_yard : MethodName := ⟨RX8, "yard", "(I)I"⟩
abbrev cX8_grits : ByteArray := prog_10_method_70_code
def yX8_grits : MethodName := ⟨RX8, "grits", "(II)I"⟩
abbrev cX8_part : ByteArray := prog_10_method_71_code
def yX8_part : MethodName := ⟨RX8, "part", "(JJI)J"⟩
abbrev cX8_leftOf : ByteArray := prog_10_method_72_code
def yX8_leftOf : MethodName := ⟨RX8, "leftOf", "(II)J"⟩
abbrev cX8_falls : ByteArray := prog_10_method_73_code
def yX8_falls : MethodName := ⟨RX8, "falls", "(I)J"⟩
abbrev cX8_isGrit : ByteArray := prog_10_method_74_code
def yX8_isGrit : MethodName := ⟨RX8, "isGrit", "(I)Z"⟩
abbrev cX8_grit : ByteArray := prog_10_method_75_code
def yX8_grit : MethodName := ⟨RX8, "grit", "(II)I"⟩
abbrev cX8_left : ByteArray := prog_10_method_76_code
def yX8_left : MethodName := ⟨RX8, "left", "(II)J"⟩
abbrev cX8_isPicture : ByteArray := prog_10_method_77_code
def yX8_isPicture : MethodName := ⟨RX8, "isPicture", "(I)Z"⟩
abbrev cX8_findTower : ByteArray := prog_10_method_78_code
def yX8_findTower : MethodName := ⟨RX8, "findTower", "(I)V"⟩
abbrev cX8_tower : ByteArray := prog_10_method_79_code
def yX8_tower : MethodName := ⟨RX8, "tower", "(II)I"⟩
abbrev cX8_towerOrder : ByteArray := prog_10_method_80_code
def yX8_towerOrder : MethodName := ⟨RX8, "towerOrder", "(II)I"⟩
abbrev cX8_hints : ByteArray := prog_10_method_81_code
def yX8_hints : MethodName := ⟨RX8, "hints", "(III)I"⟩
abbrev cX8_write : ByteArray := prog_10_method_82_code
def yX8_write : MethodName := ⟨RX8, "write", "(I)I"⟩
abbrev cX8_count : ByteArray := prog_10_method_83_code
def yX8_count : MethodName := ⟨RX8, "count", "(I)I"⟩
abbrev cX8_digest : ByteArray := prog_10_method_84_code
def yX8_digest : MethodName := ⟨RX8, "digest", "()J"⟩
def RJ13 : String := "java/lang/Long"
def TJ13 : u_T := fun k => match k with
  | _ => ("", "", "", false)
def tyJ13 : Nat → FieldType := fun k => match k with
  | _ => .int
abbrev wsJ130 : List Cond := u_ws RJ13 TJ13 0
theorem nmJ13 : ∀ a, a < 0 → ∀ b, b < 0 → a ≠ b → (TJ13 a).2.1 ≠ (TJ13 b).2.1 := by decide +kernel
theorem tyJ13_ok : ∀ k, k < 0 → parseFieldDescriptor (TJ13 k).2.2.1 = some (tyJ13 k) := by decide +kernel
abbrev cJ13_bitCount_95d88 : ByteArray := prog_11_method_50_code
def yJ13_bitCount_95d88 : MethodName := ⟨RJ13, "bitCount", "(J)I"⟩
def RJ9 : String := "java/lang/Math"
def TJ9 : u_T := fun k => match k with
  | _ => ("", "", "", false)
def tyJ9 : Nat → FieldType := fun k => match k with
  | _ => .int
abbrev wsJ90 : List Cond := u_ws RJ9 TJ9 0
theorem nmJ9 : ∀ a, a < 0 → ∀ b, b < 0 → a ≠ b → (TJ9 a).2.1 ≠ (TJ9 b).2.1 := by decide +kernel
theorem tyJ9_ok : ∀ k, k < 0 → parseFieldDescriptor (TJ9 k).2.2.1 = some (tyJ9 k) := by decide +kernel
abbrev cJ9_max_7cf53 : ByteArray := prog_12_method_65_code
def yJ9_max_7cf53 : MethodName := ⟨RJ9, "max", "(II)I"⟩
abbrev cJ9_min_7cf53 : ByteArray := prog_12_method_69_code
def yJ9_min_7cf53 : MethodName := ⟨RJ9, "min", "(II)I"⟩
def RJ10 : String := "java/lang/System"
def TJ10 : u_T := fun k => match k with
  | _ => ("", "", "", false)
def tyJ10 : Nat → FieldType := fun k => match k with
  | _ => .int
abbrev wsJ100 : List Cond := u_ws RJ10 TJ10 0
theorem nmJ10 : ∀ a, a < 0 → ∀ b, b < 0 → a ≠ b → (TJ10 a).2.1 ≠ (TJ10 b).2.1 := by decide +kernel
theorem tyJ10_ok : ∀ k, k < 0 → parseFieldDescriptor (TJ10 k).2.2.1 = some (tyJ10 k) := by decide +kernel
def RJ7 : String := "java/util/Arrays"
def TJ7 : u_T := fun k => match k with
  | _ => ("", "", "", false)
def tyJ7 : Nat → FieldType := fun k => match k with
  | _ => .int
abbrev wsJ70 : List Cond := u_ws RJ7 TJ7 0
theorem nmJ7 : ∀ a, a < 0 → ∀ b, b < 0 → a ≠ b → (TJ7 a).2.1 ≠ (TJ7 b).2.1 := by decide +kernel
theorem tyJ7_ok : ∀ k, k < 0 → parseFieldDescriptor (TJ7 k).2.2.1 = some (tyJ7 k) := by decide +kernel
abbrev cJ7_fill_d0a16 : ByteArray := prog_14_method_101_code
def yJ7_fill_d0a16 : MethodName := ⟨RJ7, "fill", "([JJ)V"⟩
abbrev cJ7_fill_53178 : ByteArray := prog_14_method_103_code
def yJ7_fill_53178 : MethodName := ⟨RJ7, "fill", "([II)V"⟩
def RL : String := "SnowPathsLaw"
abbrev cL_law : ByteArray := code
def yL_law : MethodName := ⟨RL, "law", "([I)Z"⟩
abbrev vwCl : List vw_C := [(RX0, TX0, 5), (RX1, TX1, 5), (RX2, TX2, 10), (RX3, TX3, 8), (RX4, TX4, 5), (RX5, TX5, 3), (RX6, TX6, 3), (RX7, TX7, 12), (RX8, TX8, 36)]
