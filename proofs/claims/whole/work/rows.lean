section
-- ===== PART A: goes FIRST, ahead of the names: the tables' words, and 'selects' of the private methods out of them =====
/-- a private method of a class that the tables say can be made, by its rows of tables_1 -/
def lw_okq (q : MethodName × Nat) : Prop := (q.1.cls ≠ "java/lang/invoke/MethodHandle" ∧ q.1.cls ≠ "java/lang/invoke/VarHandle") ∧ Cond.instantiable q.1.cls q.2 ∈ tables_1 ∧ Cond.privateMethod q.1 ∈ tables_1 ∧ Cond.instanceMethod q.1 ∈ tables_1
theorem lw_p0 : lw_okq (⟨"SnowPaths$Green", "append", "(I)Z"⟩, 5) := ⟨⟨by decide +kernel, by decide +kernel⟩, List.mem_of_getElem? (i := 23) (by decide +kernel), List.mem_of_getElem? (i := 277) (by decide +kernel), List.mem_of_getElem? (i := 278) (by decide +kernel)⟩
theorem lw_p1 : lw_okq (⟨"SnowPaths$Green", "parse", "()V"⟩, 5) := ⟨⟨by decide +kernel, by decide +kernel⟩, List.mem_of_getElem? (i := 23) (by decide +kernel), List.mem_of_getElem? (i := 281) (by decide +kernel), List.mem_of_getElem? (i := 282) (by decide +kernel)⟩
theorem lw_p2 : lw_okq (⟨"SnowPaths$Green", "seekFault", "()I"⟩, 5) := ⟨⟨by decide +kernel, by decide +kernel⟩, List.mem_of_getElem? (i := 23) (by decide +kernel), List.mem_of_getElem? (i := 285) (by decide +kernel), List.mem_of_getElem? (i := 286) (by decide +kernel)⟩
theorem lw_p3 : lw_okq (⟨"SnowPaths$Green", "empty", "()V"⟩, 5) := ⟨⟨by decide +kernel, by decide +kernel⟩, List.mem_of_getElem? (i := 23) (by decide +kernel), List.mem_of_getElem? (i := 299) (by decide +kernel), List.mem_of_getElem? (i := 300) (by decide +kernel)⟩
theorem lw_p4 : lw_okq (⟨"SnowPaths$Green", "kindOf", "(I)I"⟩, 5) := ⟨⟨by decide +kernel, by decide +kernel⟩, List.mem_of_getElem? (i := 23) (by decide +kernel), List.mem_of_getElem? (i := 314) (by decide +kernel), List.mem_of_getElem? (i := 315) (by decide +kernel)⟩
theorem lw_p5 : lw_okq (⟨"SnowPaths$Ground", "addSnow", "(IJ)I"⟩, 5) := ⟨⟨by decide +kernel, by decide +kernel⟩, List.mem_of_getElem? (i := 52) (by decide +kernel), List.mem_of_getElem? (i := 325) (by decide +kernel), List.mem_of_getElem? (i := 326) (by decide +kernel)⟩
theorem lw_p6 : lw_okq (⟨"SnowPaths$Ground", "melt", "(I)I"⟩, 5) := ⟨⟨by decide +kernel, by decide +kernel⟩, List.mem_of_getElem? (i := 52) (by decide +kernel), List.mem_of_getElem? (i := 337) (by decide +kernel), List.mem_of_getElem? (i := 338) (by decide +kernel)⟩
theorem lw_p7 : lw_okq (⟨"SnowPaths$Ground", "freeze", "()I"⟩, 5) := ⟨⟨by decide +kernel, by decide +kernel⟩, List.mem_of_getElem? (i := 52) (by decide +kernel), List.mem_of_getElem? (i := 348) (by decide +kernel), List.mem_of_getElem? (i := 349) (by decide +kernel)⟩
theorem lw_p8 : lw_okq (⟨"SnowPaths$Ground", "shovel", "(II)I"⟩, 5) := ⟨⟨by decide +kernel, by decide +kernel⟩, List.mem_of_getElem? (i := 52) (by decide +kernel), List.mem_of_getElem? (i := 360) (by decide +kernel), List.mem_of_getElem? (i := 361) (by decide +kernel)⟩
theorem lw_p9 : lw_okq (⟨"SnowPaths$Sheet", "isLost", "()Z"⟩, 3) := ⟨⟨by decide +kernel, by decide +kernel⟩, List.mem_of_getElem? (i := 215) (by decide +kernel), List.mem_of_getElem? (i := 371) (by decide +kernel), List.mem_of_getElem? (i := 372) (by decide +kernel)⟩
theorem lw_p10 : lw_okq (⟨"SnowPaths", "found", "(I)I"⟩, 12) := ⟨⟨by decide +kernel, by decide +kernel⟩, List.mem_of_getElem? (i := 15) (by decide +kernel), List.mem_of_getElem? (i := 375) (by decide +kernel), List.mem_of_getElem? (i := 376) (by decide +kernel)⟩
theorem lw_p11 : lw_okq (⟨"SnowPaths$Ground", "setSnow", "(LSnowPaths$Sheet;)I"⟩, 5) := ⟨⟨by decide +kernel, by decide +kernel⟩, List.mem_of_getElem? (i := 52) (by decide +kernel), List.mem_of_getElem? (i := 379) (by decide +kernel), List.mem_of_getElem? (i := 380) (by decide +kernel)⟩
theorem lw_p12 : lw_okq (⟨"SnowPaths$Walkers", "join", "(II)Z"⟩, 3) := ⟨⟨by decide +kernel, by decide +kernel⟩, List.mem_of_getElem? (i := 79) (by decide +kernel), List.mem_of_getElem? (i := 387) (by decide +kernel), List.mem_of_getElem? (i := 388) (by decide +kernel)⟩
theorem lw_p13 : lw_okq (⟨"SnowPaths$Route", "find", "(IIJ[I)I"⟩, 5) := ⟨⟨by decide +kernel, by decide +kernel⟩, List.mem_of_getElem? (i := 101) (by decide +kernel), List.mem_of_getElem? (i := 399) (by decide +kernel), List.mem_of_getElem? (i := 400) (by decide +kernel)⟩
theorem lw_p14 : lw_okq (⟨"SnowPaths$Route", "spread", "(IIJ[I)V"⟩, 5) := ⟨⟨by decide +kernel, by decide +kernel⟩, List.mem_of_getElem? (i := 101) (by decide +kernel), List.mem_of_getElem? (i := 404) (by decide +kernel), List.mem_of_getElem? (i := 405) (by decide +kernel)⟩
theorem lw_p15 : lw_okq (⟨"SnowPaths$Route", "onward", "(I[I)I"⟩, 5) := ⟨⟨by decide +kernel, by decide +kernel⟩, List.mem_of_getElem? (i := 101) (by decide +kernel), List.mem_of_getElem? (i := 424) (by decide +kernel), List.mem_of_getElem? (i := 425) (by decide +kernel)⟩
def lw_privs_1 : List (MethodName × Nat) := [(⟨"SnowPaths$Green", "append", "(I)Z"⟩, 5), (⟨"SnowPaths$Green", "parse", "()V"⟩, 5), (⟨"SnowPaths$Green", "seekFault", "()I"⟩, 5), (⟨"SnowPaths$Green", "empty", "()V"⟩, 5), (⟨"SnowPaths$Green", "kindOf", "(I)I"⟩, 5), (⟨"SnowPaths$Ground", "addSnow", "(IJ)I"⟩, 5), (⟨"SnowPaths$Ground", "melt", "(I)I"⟩, 5), (⟨"SnowPaths$Ground", "freeze", "()I"⟩, 5), (⟨"SnowPaths$Ground", "shovel", "(II)I"⟩, 5), (⟨"SnowPaths$Sheet", "isLost", "()Z"⟩, 3), (⟨"SnowPaths", "found", "(I)I"⟩, 12), (⟨"SnowPaths$Ground", "setSnow", "(LSnowPaths$Sheet;)I"⟩, 5), (⟨"SnowPaths$Walkers", "join", "(II)Z"⟩, 3), (⟨"SnowPaths$Route", "find", "(IIJ[I)I"⟩, 5), (⟨"SnowPaths$Route", "spread", "(IIJ[I)V"⟩, 5), (⟨"SnowPaths$Route", "onward", "(I[I)I"⟩, 5)]
theorem lw_r1 : ∀ q ∈ lw_privs_1, lw_okq q := List.forall_mem_cons.mpr ⟨lw_p0, List.forall_mem_cons.mpr ⟨lw_p1, List.forall_mem_cons.mpr ⟨lw_p2, List.forall_mem_cons.mpr ⟨lw_p3, List.forall_mem_cons.mpr ⟨lw_p4, List.forall_mem_cons.mpr ⟨lw_p5, List.forall_mem_cons.mpr ⟨lw_p6, List.forall_mem_cons.mpr ⟨lw_p7, List.forall_mem_cons.mpr ⟨lw_p8, List.forall_mem_cons.mpr ⟨lw_p9, List.forall_mem_cons.mpr ⟨lw_p10, List.forall_mem_cons.mpr ⟨lw_p11, List.forall_mem_cons.mpr ⟨lw_p12, List.forall_mem_cons.mpr ⟨lw_p13, List.forall_mem_cons.mpr ⟨lw_p14, List.forall_mem_cons.mpr ⟨lw_p15, fun _ h => absurd h List.not_mem_nil⟩⟩⟩⟩⟩⟩⟩⟩⟩⟩⟩⟩⟩⟩⟩⟩
theorem lw_p16 : lw_okq (⟨"SnowPaths", "isWalker", "(I)Z"⟩, 12) := ⟨⟨by decide +kernel, by decide +kernel⟩, List.mem_of_getElem? (i := 15) (by decide +kernel), List.mem_of_getElem? (i := 433) (by decide +kernel), List.mem_of_getElem? (i := 434) (by decide +kernel)⟩
theorem lw_p17 : lw_okq (⟨"SnowPaths$Outing", "begin", "([I)V"⟩, 8) := ⟨⟨by decide +kernel, by decide +kernel⟩, List.mem_of_getElem? (i := 128) (by decide +kernel), List.mem_of_getElem? (i := 437) (by decide +kernel), List.mem_of_getElem? (i := 438) (by decide +kernel)⟩
theorem lw_p18 : lw_okq (⟨"SnowPaths$Outing", "go", "(IIJ)Z"⟩, 8) := ⟨⟨by decide +kernel, by decide +kernel⟩, List.mem_of_getElem? (i := 128) (by decide +kernel), List.mem_of_getElem? (i := 447) (by decide +kernel), List.mem_of_getElem? (i := 448) (by decide +kernel)⟩
theorem lw_p19 : lw_okq (⟨"SnowPaths$Outing", "follow", "(IJ)I"⟩, 8) := ⟨⟨by decide +kernel, by decide +kernel⟩, List.mem_of_getElem? (i := 128) (by decide +kernel), List.mem_of_getElem? (i := 453) (by decide +kernel), List.mem_of_getElem? (i := 454) (by decide +kernel)⟩
theorem lw_p20 : lw_okq (⟨"SnowPaths$Outing", "tread", "(I)V"⟩, 8) := ⟨⟨by decide +kernel, by decide +kernel⟩, List.mem_of_getElem? (i := 128) (by decide +kernel), List.mem_of_getElem? (i := 458) (by decide +kernel), List.mem_of_getElem? (i := 459) (by decide +kernel)⟩
theorem lw_p21 : lw_okq (⟨"SnowPaths$Ground", "treadAs", "(LSnowPaths$Outing;)V"⟩, 5) := ⟨⟨by decide +kernel, by decide +kernel⟩, List.mem_of_getElem? (i := 52) (by decide +kernel), List.mem_of_getElem? (i := 462) (by decide +kernel), List.mem_of_getElem? (i := 463) (by decide +kernel)⟩
theorem lw_p22 : lw_okq (⟨"SnowPaths", "tryMorning", "(II)V"⟩, 12) := ⟨⟨by decide +kernel, by decide +kernel⟩, List.mem_of_getElem? (i := 15) (by decide +kernel), List.mem_of_getElem? (i := 470) (by decide +kernel), List.mem_of_getElem? (i := 471) (by decide +kernel)⟩
theorem lw_p23 : lw_okq (⟨"SnowPaths", "told", "(I)I"⟩, 12) := ⟨⟨by decide +kernel, by decide +kernel⟩, List.mem_of_getElem? (i := 15) (by decide +kernel), List.mem_of_getElem? (i := 478) (by decide +kernel), List.mem_of_getElem? (i := 479) (by decide +kernel)⟩
theorem lw_p24 : lw_okq (⟨"SnowPaths$Outing", "cellsPassed", "()I"⟩, 8) := ⟨⟨by decide +kernel, by decide +kernel⟩, List.mem_of_getElem? (i := 128) (by decide +kernel), List.mem_of_getElem? (i := 482) (by decide +kernel), List.mem_of_getElem? (i := 483) (by decide +kernel)⟩
theorem lw_p25 : lw_okq (⟨"SnowPaths", "fewestSteps", "(I)I"⟩, 12) := ⟨⟨by decide +kernel, by decide +kernel⟩, List.mem_of_getElem? (i := 15) (by decide +kernel), List.mem_of_getElem? (i := 490) (by decide +kernel), List.mem_of_getElem? (i := 491) (by decide +kernel)⟩
theorem lw_p26 : lw_okq (⟨"SnowPaths$Orders", "tryAll", "([ILSnowPaths$Sheet;)V"⟩, 10) := ⟨⟨by decide +kernel, by decide +kernel⟩, List.mem_of_getElem? (i := 168) (by decide +kernel), List.mem_of_getElem? (i := 502) (by decide +kernel), List.mem_of_getElem? (i := 503) (by decide +kernel)⟩
theorem lw_p27 : lw_okq (⟨"SnowPaths$Orders", "sendFrom", "(II)V"⟩, 10) := ⟨⟨by decide +kernel, by decide +kernel⟩, List.mem_of_getElem? (i := 168) (by decide +kernel), List.mem_of_getElem? (i := 508) (by decide +kernel), List.mem_of_getElem? (i := 509) (by decide +kernel)⟩
theorem lw_p28 : lw_okq (⟨"SnowPaths$Outing", "beginAs", "(LSnowPaths$Outing;)V"⟩, 8) := ⟨⟨by decide +kernel, by decide +kernel⟩, List.mem_of_getElem? (i := 128) (by decide +kernel), List.mem_of_getElem? (i := 512) (by decide +kernel), List.mem_of_getElem? (i := 513) (by decide +kernel)⟩
theorem lw_p29 : lw_okq (⟨"SnowPaths$Orders", "weigh", "(IZ)V"⟩, 10) := ⟨⟨by decide +kernel, by decide +kernel⟩, List.mem_of_getElem? (i := 168) (by decide +kernel), List.mem_of_getElem? (i := 517) (by decide +kernel), List.mem_of_getElem? (i := 518) (by decide +kernel)⟩
theorem lw_p30 : lw_okq (⟨"SnowPaths$Sheet", "shows", "([I)Z"⟩, 3) := ⟨⟨by decide +kernel, by decide +kernel⟩, List.mem_of_getElem? (i := 215) (by decide +kernel), List.mem_of_getElem? (i := 522) (by decide +kernel), List.mem_of_getElem? (i := 523) (by decide +kernel)⟩
theorem lw_p31 : lw_okq (⟨"SnowPaths$Orders", "keepAlike", "(I)V"⟩, 10) := ⟨⟨by decide +kernel, by decide +kernel⟩, List.mem_of_getElem? (i := 168) (by decide +kernel), List.mem_of_getElem? (i := 526) (by decide +kernel), List.mem_of_getElem? (i := 527) (by decide +kernel)⟩
def lw_privs_2 : List (MethodName × Nat) := [(⟨"SnowPaths", "isWalker", "(I)Z"⟩, 12), (⟨"SnowPaths$Outing", "begin", "([I)V"⟩, 8), (⟨"SnowPaths$Outing", "go", "(IIJ)Z"⟩, 8), (⟨"SnowPaths$Outing", "follow", "(IJ)I"⟩, 8), (⟨"SnowPaths$Outing", "tread", "(I)V"⟩, 8), (⟨"SnowPaths$Ground", "treadAs", "(LSnowPaths$Outing;)V"⟩, 5), (⟨"SnowPaths", "tryMorning", "(II)V"⟩, 12), (⟨"SnowPaths", "told", "(I)I"⟩, 12), (⟨"SnowPaths$Outing", "cellsPassed", "()I"⟩, 8), (⟨"SnowPaths", "fewestSteps", "(I)I"⟩, 12), (⟨"SnowPaths$Orders", "tryAll", "([ILSnowPaths$Sheet;)V"⟩, 10), (⟨"SnowPaths$Orders", "sendFrom", "(II)V"⟩, 10), (⟨"SnowPaths$Outing", "beginAs", "(LSnowPaths$Outing;)V"⟩, 8), (⟨"SnowPaths$Orders", "weigh", "(IZ)V"⟩, 10), (⟨"SnowPaths$Sheet", "shows", "([I)Z"⟩, 3), (⟨"SnowPaths$Orders", "keepAlike", "(I)V"⟩, 10)]
theorem lw_r2 : ∀ q ∈ lw_privs_2, lw_okq q := List.forall_mem_cons.mpr ⟨lw_p16, List.forall_mem_cons.mpr ⟨lw_p17, List.forall_mem_cons.mpr ⟨lw_p18, List.forall_mem_cons.mpr ⟨lw_p19, List.forall_mem_cons.mpr ⟨lw_p20, List.forall_mem_cons.mpr ⟨lw_p21, List.forall_mem_cons.mpr ⟨lw_p22, List.forall_mem_cons.mpr ⟨lw_p23, List.forall_mem_cons.mpr ⟨lw_p24, List.forall_mem_cons.mpr ⟨lw_p25, List.forall_mem_cons.mpr ⟨lw_p26, List.forall_mem_cons.mpr ⟨lw_p27, List.forall_mem_cons.mpr ⟨lw_p28, List.forall_mem_cons.mpr ⟨lw_p29, List.forall_mem_cons.mpr ⟨lw_p30, List.forall_mem_cons.mpr ⟨lw_p31, fun _ h => absurd h List.not_mem_nil⟩⟩⟩⟩⟩⟩⟩⟩⟩⟩⟩⟩⟩⟩⟩⟩
theorem lw_p32 : lw_okq (⟨"SnowPaths$Orders", "advance", "(I)I"⟩, 10) := ⟨⟨by decide +kernel, by decide +kernel⟩, List.mem_of_getElem? (i := 168) (by decide +kernel), List.mem_of_getElem? (i := 530) (by decide +kernel), List.mem_of_getElem? (i := 531) (by decide +kernel)⟩
theorem lw_p33 : lw_okq (⟨"SnowPaths$Orders", "swap", "(II)V"⟩, 10) := ⟨⟨by decide +kernel, by decide +kernel⟩, List.mem_of_getElem? (i := 168) (by decide +kernel), List.mem_of_getElem? (i := 534) (by decide +kernel), List.mem_of_getElem? (i := 535) (by decide +kernel)⟩
theorem lw_p34 : lw_okq (⟨"SnowPaths", "seekFirst", "()V"⟩, 12) := ⟨⟨by decide +kernel, by decide +kernel⟩, List.mem_of_getElem? (i := 15) (by decide +kernel), List.mem_of_getElem? (i := 546) (by decide +kernel), List.mem_of_getElem? (i := 547) (by decide +kernel)⟩
theorem lw_p35 : lw_okq (⟨"SnowPaths", "seekYard", "()V"⟩, 12) := ⟨⟨by decide +kernel, by decide +kernel⟩, List.mem_of_getElem? (i := 15) (by decide +kernel), List.mem_of_getElem? (i := 554) (by decide +kernel), List.mem_of_getElem? (i := 555) (by decide +kernel)⟩
theorem lw_p36 : lw_okq (⟨"SnowPaths", "slipperinessLeft", "(I)I"⟩, 12) := ⟨⟨by decide +kernel, by decide +kernel⟩, List.mem_of_getElem? (i := 15) (by decide +kernel), List.mem_of_getElem? (i := 570) (by decide +kernel), List.mem_of_getElem? (i := 571) (by decide +kernel)⟩
theorem lw_p37 : lw_okq (⟨"SnowPaths", "slipperiness", "(I)I"⟩, 12) := ⟨⟨by decide +kernel, by decide +kernel⟩, List.mem_of_getElem? (i := 15) (by decide +kernel), List.mem_of_getElem? (i := 574) (by decide +kernel), List.mem_of_getElem? (i := 575) (by decide +kernel)⟩
theorem lw_p38 : lw_okq (⟨"SnowPaths", "mostSlippery", "(J)I"⟩, 12) := ⟨⟨by decide +kernel, by decide +kernel⟩, List.mem_of_getElem? (i := 15) (by decide +kernel), List.mem_of_getElem? (i := 578) (by decide +kernel), List.mem_of_getElem? (i := 579) (by decide +kernel)⟩
theorem lw_p39 : lw_okq (⟨"SnowPaths", "wouldShow", "(LSnowPaths$Sheet;II)Z"⟩, 12) := ⟨⟨by decide +kernel, by decide +kernel⟩, List.mem_of_getElem? (i := 15) (by decide +kernel), List.mem_of_getElem? (i := 603) (by decide +kernel), List.mem_of_getElem? (i := 604) (by decide +kernel)⟩
theorem lw_p40 : lw_okq (⟨"SnowPaths$Sheet", "renew", "(II)V"⟩, 3) := ⟨⟨by decide +kernel, by decide +kernel⟩, List.mem_of_getElem? (i := 215) (by decide +kernel), List.mem_of_getElem? (i := 615) (by decide +kernel), List.mem_of_getElem? (i := 616) (by decide +kernel)⟩
theorem lw_p41 : lw_okq (⟨"SnowPaths", "refusedItem", "(III)I"⟩, 12) := ⟨⟨by decide +kernel, by decide +kernel⟩, List.mem_of_getElem? (i := 15) (by decide +kernel), List.mem_of_getElem? (i := 628) (by decide +kernel), List.mem_of_getElem? (i := 629) (by decide +kernel)⟩
theorem lw_p42 : lw_okq (⟨"SnowPaths$Sheet", "holds", "(II)Z"⟩, 3) := ⟨⟨by decide +kernel, by decide +kernel⟩, List.mem_of_getElem? (i := 215) (by decide +kernel), List.mem_of_getElem? (i := 632) (by decide +kernel), List.mem_of_getElem? (i := 633) (by decide +kernel)⟩
theorem lw_p43 : lw_okq (⟨"SnowPaths$Sheet", "put", "(II)V"⟩, 3) := ⟨⟨by decide +kernel, by decide +kernel⟩, List.mem_of_getElem? (i := 215) (by decide +kernel), List.mem_of_getElem? (i := 636) (by decide +kernel), List.mem_of_getElem? (i := 637) (by decide +kernel)⟩
theorem lw_p44 : lw_okq (⟨"SnowPathsModel", "met", "(I)I"⟩, 36) := ⟨⟨by decide +kernel, by decide +kernel⟩, List.mem_of_getElem? (i := 676) (by decide +kernel), List.mem_of_getElem? (i := 804) (by decide +kernel), List.mem_of_getElem? (i := 805) (by decide +kernel)⟩
theorem lw_p45 : lw_okq (⟨"SnowPathsModel", "lacks", "(III)I"⟩, 36) := ⟨⟨by decide +kernel, by decide +kernel⟩, List.mem_of_getElem? (i := 676) (by decide +kernel), List.mem_of_getElem? (i := 816) (by decide +kernel), List.mem_of_getElem? (i := 817) (by decide +kernel)⟩
theorem lw_p46 : lw_okq (⟨"SnowPathsModel", "reads", "()I"⟩, 36) := ⟨⟨by decide +kernel, by decide +kernel⟩, List.mem_of_getElem? (i := 676) (by decide +kernel), List.mem_of_getElem? (i := 845) (by decide +kernel), List.mem_of_getElem? (i := 846) (by decide +kernel)⟩
theorem lw_p47 : lw_okq (⟨"SnowPathsModel", "faultNow", "()I"⟩, 36) := ⟨⟨by decide +kernel, by decide +kernel⟩, List.mem_of_getElem? (i := 676) (by decide +kernel), List.mem_of_getElem? (i := 849) (by decide +kernel), List.mem_of_getElem? (i := 850) (by decide +kernel)⟩
def lw_privs_3 : List (MethodName × Nat) := [(⟨"SnowPaths$Orders", "advance", "(I)I"⟩, 10), (⟨"SnowPaths$Orders", "swap", "(II)V"⟩, 10), (⟨"SnowPaths", "seekFirst", "()V"⟩, 12), (⟨"SnowPaths", "seekYard", "()V"⟩, 12), (⟨"SnowPaths", "slipperinessLeft", "(I)I"⟩, 12), (⟨"SnowPaths", "slipperiness", "(I)I"⟩, 12), (⟨"SnowPaths", "mostSlippery", "(J)I"⟩, 12), (⟨"SnowPaths", "wouldShow", "(LSnowPaths$Sheet;II)Z"⟩, 12), (⟨"SnowPaths$Sheet", "renew", "(II)V"⟩, 3), (⟨"SnowPaths", "refusedItem", "(III)I"⟩, 12), (⟨"SnowPaths$Sheet", "holds", "(II)Z"⟩, 3), (⟨"SnowPaths$Sheet", "put", "(II)V"⟩, 3), (⟨"SnowPathsModel", "met", "(I)I"⟩, 36), (⟨"SnowPathsModel", "lacks", "(III)I"⟩, 36), (⟨"SnowPathsModel", "reads", "()I"⟩, 36), (⟨"SnowPathsModel", "faultNow", "()I"⟩, 36)]
theorem lw_r3 : ∀ q ∈ lw_privs_3, lw_okq q := List.forall_mem_cons.mpr ⟨lw_p32, List.forall_mem_cons.mpr ⟨lw_p33, List.forall_mem_cons.mpr ⟨lw_p34, List.forall_mem_cons.mpr ⟨lw_p35, List.forall_mem_cons.mpr ⟨lw_p36, List.forall_mem_cons.mpr ⟨lw_p37, List.forall_mem_cons.mpr ⟨lw_p38, List.forall_mem_cons.mpr ⟨lw_p39, List.forall_mem_cons.mpr ⟨lw_p40, List.forall_mem_cons.mpr ⟨lw_p41, List.forall_mem_cons.mpr ⟨lw_p42, List.forall_mem_cons.mpr ⟨lw_p43, List.forall_mem_cons.mpr ⟨lw_p44, List.forall_mem_cons.mpr ⟨lw_p45, List.forall_mem_cons.mpr ⟨lw_p46, List.forall_mem_cons.mpr ⟨lw_p47, fun _ h => absurd h List.not_mem_nil⟩⟩⟩⟩⟩⟩⟩⟩⟩⟩⟩⟩⟩⟩⟩⟩
theorem lw_p48 : lw_okq (⟨"SnowPathsModel", "cellOf", "(II)I"⟩, 36) := ⟨⟨by decide +kernel, by decide +kernel⟩, List.mem_of_getElem? (i := 676) (by decide +kernel), List.mem_of_getElem? (i := 865) (by decide +kernel), List.mem_of_getElem? (i := 866) (by decide +kernel)⟩
theorem lw_p49 : lw_okq (⟨"SnowPathsModel", "planOf", "(III)I"⟩, 36) := ⟨⟨by decide +kernel, by decide +kernel⟩, List.mem_of_getElem? (i := 676) (by decide +kernel), List.mem_of_getElem? (i := 912) (by decide +kernel), List.mem_of_getElem? (i := 913) (by decide +kernel)⟩
theorem lw_p50 : lw_okq (⟨"SnowPathsModel", "tries", "()V"⟩, 36) := ⟨⟨by decide +kernel, by decide +kernel⟩, List.mem_of_getElem? (i := 676) (by decide +kernel), List.mem_of_getElem? (i := 916) (by decide +kernel), List.mem_of_getElem? (i := 917) (by decide +kernel)⟩
theorem lw_p51 : lw_okq (⟨"SnowPathsModel", "begins", "()V"⟩, 36) := ⟨⟨by decide +kernel, by decide +kernel⟩, List.mem_of_getElem? (i := 676) (by decide +kernel), List.mem_of_getElem? (i := 920) (by decide +kernel), List.mem_of_getElem? (i := 921) (by decide +kernel)⟩
theorem lw_p52 : lw_okq (⟨"SnowPathsModel", "knows", "(Z)V"⟩, 36) := ⟨⟨by decide +kernel, by decide +kernel⟩, List.mem_of_getElem? (i := 676) (by decide +kernel), List.mem_of_getElem? (i := 924) (by decide +kernel), List.mem_of_getElem? (i := 925) (by decide +kernel)⟩
theorem lw_p53 : lw_okq (⟨"SnowPathsModel", "isHidden", "(I)Z"⟩, 36) := ⟨⟨by decide +kernel, by decide +kernel⟩, List.mem_of_getElem? (i := 676) (by decide +kernel), List.mem_of_getElem? (i := 928) (by decide +kernel), List.mem_of_getElem? (i := 929) (by decide +kernel)⟩
theorem lw_p54 : lw_okq (⟨"SnowPathsModel", "plans", "(II)Z"⟩, 36) := ⟨⟨by decide +kernel, by decide +kernel⟩, List.mem_of_getElem? (i := 676) (by decide +kernel), List.mem_of_getElem? (i := 932) (by decide +kernel), List.mem_of_getElem? (i := 933) (by decide +kernel)⟩
theorem lw_p55 : lw_okq (⟨"SnowPathsModel", "findCosts", "(IZ)V"⟩, 36) := ⟨⟨by decide +kernel, by decide +kernel⟩, List.mem_of_getElem? (i := 676) (by decide +kernel), List.mem_of_getElem? (i := 936) (by decide +kernel), List.mem_of_getElem? (i := 937) (by decide +kernel)⟩
theorem lw_p56 : lw_okq (⟨"SnowPathsModel", "mayPass", "(I)Z"⟩, 36) := ⟨⟨by decide +kernel, by decide +kernel⟩, List.mem_of_getElem? (i := 676) (by decide +kernel), List.mem_of_getElem? (i := 940) (by decide +kernel), List.mem_of_getElem? (i := 941) (by decide +kernel)⟩
theorem lw_p57 : lw_okq (⟨"SnowPathsModel", "wades", "(IZ)I"⟩, 36) := ⟨⟨by decide +kernel, by decide +kernel⟩, List.mem_of_getElem? (i := 676) (by decide +kernel), List.mem_of_getElem? (i := 945) (by decide +kernel), List.mem_of_getElem? (i := 946) (by decide +kernel)⟩
theorem lw_p58 : lw_okq (⟨"SnowPathsModel", "mayBegin", "(I)Z"⟩, 36) := ⟨⟨by decide +kernel, by decide +kernel⟩, List.mem_of_getElem? (i := 676) (by decide +kernel), List.mem_of_getElem? (i := 949) (by decide +kernel), List.mem_of_getElem? (i := 950) (by decide +kernel)⟩
theorem lw_p59 : lw_okq (⟨"SnowPathsModel", "goesTo", "(I)I"⟩, 36) := ⟨⟨by decide +kernel, by decide +kernel⟩, List.mem_of_getElem? (i := 676) (by decide +kernel), List.mem_of_getElem? (i := 953) (by decide +kernel), List.mem_of_getElem? (i := 954) (by decide +kernel)⟩
theorem lw_p60 : lw_okq (⟨"SnowPathsModel", "isWalker", "(I)Z"⟩, 36) := ⟨⟨by decide +kernel, by decide +kernel⟩, List.mem_of_getElem? (i := 676) (by decide +kernel), List.mem_of_getElem? (i := 961) (by decide +kernel), List.mem_of_getElem? (i := 962) (by decide +kernel)⟩
theorem lw_p61 : lw_okq (⟨"SnowPathsModel", "walks", "(I)V"⟩, 36) := ⟨⟨by decide +kernel, by decide +kernel⟩, List.mem_of_getElem? (i := 676) (by decide +kernel), List.mem_of_getElem? (i := 965) (by decide +kernel), List.mem_of_getElem? (i := 966) (by decide +kernel)⟩
theorem lw_p62 : lw_okq (⟨"SnowPathsModel", "treads", "(I)V"⟩, 36) := ⟨⟨by decide +kernel, by decide +kernel⟩, List.mem_of_getElem? (i := 676) (by decide +kernel), List.mem_of_getElem? (i := 969) (by decide +kernel), List.mem_of_getElem? (i := 970) (by decide +kernel)⟩
theorem lw_p63 : lw_okq (⟨"SnowPathsModel", "straightOf", "(I)I"⟩, 36) := ⟨⟨by decide +kernel, by decide +kernel⟩, List.mem_of_getElem? (i := 676) (by decide +kernel), List.mem_of_getElem? (i := 973) (by decide +kernel), List.mem_of_getElem? (i := 974) (by decide +kernel)⟩
def lw_privs_4 : List (MethodName × Nat) := [(⟨"SnowPathsModel", "cellOf", "(II)I"⟩, 36), (⟨"SnowPathsModel", "planOf", "(III)I"⟩, 36), (⟨"SnowPathsModel", "tries", "()V"⟩, 36), (⟨"SnowPathsModel", "begins", "()V"⟩, 36), (⟨"SnowPathsModel", "knows", "(Z)V"⟩, 36), (⟨"SnowPathsModel", "isHidden", "(I)Z"⟩, 36), (⟨"SnowPathsModel", "plans", "(II)Z"⟩, 36), (⟨"SnowPathsModel", "findCosts", "(IZ)V"⟩, 36), (⟨"SnowPathsModel", "mayPass", "(I)Z"⟩, 36), (⟨"SnowPathsModel", "wades", "(IZ)I"⟩, 36), (⟨"SnowPathsModel", "mayBegin", "(I)Z"⟩, 36), (⟨"SnowPathsModel", "goesTo", "(I)I"⟩, 36), (⟨"SnowPathsModel", "isWalker", "(I)Z"⟩, 36), (⟨"SnowPathsModel", "walks", "(I)V"⟩, 36), (⟨"SnowPathsModel", "treads", "(I)V"⟩, 36), (⟨"SnowPathsModel", "straightOf", "(I)I"⟩, 36)]
theorem lw_r4 : ∀ q ∈ lw_privs_4, lw_okq q := List.forall_mem_cons.mpr ⟨lw_p48, List.forall_mem_cons.mpr ⟨lw_p49, List.forall_mem_cons.mpr ⟨lw_p50, List.forall_mem_cons.mpr ⟨lw_p51, List.forall_mem_cons.mpr ⟨lw_p52, List.forall_mem_cons.mpr ⟨lw_p53, List.forall_mem_cons.mpr ⟨lw_p54, List.forall_mem_cons.mpr ⟨lw_p55, List.forall_mem_cons.mpr ⟨lw_p56, List.forall_mem_cons.mpr ⟨lw_p57, List.forall_mem_cons.mpr ⟨lw_p58, List.forall_mem_cons.mpr ⟨lw_p59, List.forall_mem_cons.mpr ⟨lw_p60, List.forall_mem_cons.mpr ⟨lw_p61, List.forall_mem_cons.mpr ⟨lw_p62, List.forall_mem_cons.mpr ⟨lw_p63, fun _ h => absurd h List.not_mem_nil⟩⟩⟩⟩⟩⟩⟩⟩⟩⟩⟩⟩⟩⟩⟩⟩
theorem lw_p64 : lw_okq (⟨"SnowPathsModel", "becomes", "()I"⟩, 36) := ⟨⟨by decide +kernel, by decide +kernel⟩, List.mem_of_getElem? (i := 676) (by decide +kernel), List.mem_of_getElem? (i := 977) (by decide +kernel), List.mem_of_getElem? (i := 978) (by decide +kernel)⟩
theorem lw_p65 : lw_okq (⟨"SnowPathsModel", "mornings", "()V"⟩, 36) := ⟨⟨by decide +kernel, by decide +kernel⟩, List.mem_of_getElem? (i := 676) (by decide +kernel), List.mem_of_getElem? (i := 985) (by decide +kernel), List.mem_of_getElem? (i := 986) (by decide +kernel)⟩
theorem lw_p66 : lw_okq (⟨"SnowPathsModel", "allOf", "(I)I"⟩, 36) := ⟨⟨by decide +kernel, by decide +kernel⟩, List.mem_of_getElem? (i := 676) (by decide +kernel), List.mem_of_getElem? (i := 993) (by decide +kernel), List.mem_of_getElem? (i := 994) (by decide +kernel)⟩
theorem lw_p67 : lw_okq (⟨"SnowPathsModel", "longerNow", "()I"⟩, 36) := ⟨⟨by decide +kernel, by decide +kernel⟩, List.mem_of_getElem? (i := 676) (by decide +kernel), List.mem_of_getElem? (i := 1005) (by decide +kernel), List.mem_of_getElem? (i := 1006) (by decide +kernel)⟩
theorem lw_p68 : lw_okq (⟨"SnowPathsModel", "findOrders", "()V"⟩, 36) := ⟨⟨by decide +kernel, by decide +kernel⟩, List.mem_of_getElem? (i := 676) (by decide +kernel), List.mem_of_getElem? (i := 1016) (by decide +kernel), List.mem_of_getElem? (i := 1017) (by decide +kernel)⟩
theorem lw_p69 : lw_okq (⟨"SnowPathsModel", "codes", "()I"⟩, 36) := ⟨⟨by decide +kernel, by decide +kernel⟩, List.mem_of_getElem? (i := 676) (by decide +kernel), List.mem_of_getElem? (i := 1020) (by decide +kernel), List.mem_of_getElem? (i := 1021) (by decide +kernel)⟩
theorem lw_p70 : lw_okq (⟨"SnowPathsModel", "isOrder", "(I)Z"⟩, 36) := ⟨⟨by decide +kernel, by decide +kernel⟩, List.mem_of_getElem? (i := 676) (by decide +kernel), List.mem_of_getElem? (i := 1024) (by decide +kernel), List.mem_of_getElem? (i := 1025) (by decide +kernel)⟩
theorem lw_p71 : lw_okq (⟨"SnowPathsModel", "triesRow", "()V"⟩, 36) := ⟨⟨by decide +kernel, by decide +kernel⟩, List.mem_of_getElem? (i := 676) (by decide +kernel), List.mem_of_getElem? (i := 1028) (by decide +kernel), List.mem_of_getElem? (i := 1029) (by decide +kernel)⟩
theorem lw_p72 : lw_okq (⟨"SnowPathsModel", "keepsRow", "()V"⟩, 36) := ⟨⟨by decide +kernel, by decide +kernel⟩, List.mem_of_getElem? (i := 676) (by decide +kernel), List.mem_of_getElem? (i := 1032) (by decide +kernel), List.mem_of_getElem? (i := 1033) (by decide +kernel)⟩
theorem lw_p73 : lw_okq (⟨"SnowPathsModel", "firstOf", "(I)I"⟩, 36) := ⟨⟨by decide +kernel, by decide +kernel⟩, List.mem_of_getElem? (i := 676) (by decide +kernel), List.mem_of_getElem? (i := 1044) (by decide +kernel), List.mem_of_getElem? (i := 1045) (by decide +kernel)⟩
theorem lw_p74 : lw_okq (⟨"SnowPathsModel", "findYard", "()V"⟩, 36) := ⟨⟨by decide +kernel, by decide +kernel⟩, List.mem_of_getElem? (i := 676) (by decide +kernel), List.mem_of_getElem? (i := 1052) (by decide +kernel), List.mem_of_getElem? (i := 1053) (by decide +kernel)⟩
theorem lw_p75 : lw_okq (⟨"SnowPathsModel", "leftOf", "(II)J"⟩, 36) := ⟨⟨by decide +kernel, by decide +kernel⟩, List.mem_of_getElem? (i := 676) (by decide +kernel), List.mem_of_getElem? (i := 1060) (by decide +kernel), List.mem_of_getElem? (i := 1061) (by decide +kernel)⟩
theorem lw_p76 : lw_okq (⟨"SnowPathsModel", "grits", "(II)I"⟩, 36) := ⟨⟨by decide +kernel, by decide +kernel⟩, List.mem_of_getElem? (i := 676) (by decide +kernel), List.mem_of_getElem? (i := 1064) (by decide +kernel), List.mem_of_getElem? (i := 1065) (by decide +kernel)⟩
theorem lw_p77 : lw_okq (⟨"SnowPathsModel", "findTower", "(I)V"⟩, 36) := ⟨⟨by decide +kernel, by decide +kernel⟩, List.mem_of_getElem? (i := 676) (by decide +kernel), List.mem_of_getElem? (i := 1091) (by decide +kernel), List.mem_of_getElem? (i := 1092) (by decide +kernel)⟩
theorem lw_p78 : lw_okq (⟨"SnowPathsModel", "isPicture", "(I)Z"⟩, 36) := ⟨⟨by decide +kernel, by decide +kernel⟩, List.mem_of_getElem? (i := 676) (by decide +kernel), List.mem_of_getElem? (i := 1095) (by decide +kernel), List.mem_of_getElem? (i := 1096) (by decide +kernel)⟩
def lw_privs_5 : List (MethodName × Nat) := [(⟨"SnowPathsModel", "becomes", "()I"⟩, 36), (⟨"SnowPathsModel", "mornings", "()V"⟩, 36), (⟨"SnowPathsModel", "allOf", "(I)I"⟩, 36), (⟨"SnowPathsModel", "longerNow", "()I"⟩, 36), (⟨"SnowPathsModel", "findOrders", "()V"⟩, 36), (⟨"SnowPathsModel", "codes", "()I"⟩, 36), (⟨"SnowPathsModel", "isOrder", "(I)Z"⟩, 36), (⟨"SnowPathsModel", "triesRow", "()V"⟩, 36), (⟨"SnowPathsModel", "keepsRow", "()V"⟩, 36), (⟨"SnowPathsModel", "firstOf", "(I)I"⟩, 36), (⟨"SnowPathsModel", "findYard", "()V"⟩, 36), (⟨"SnowPathsModel", "leftOf", "(II)J"⟩, 36), (⟨"SnowPathsModel", "grits", "(II)I"⟩, 36), (⟨"SnowPathsModel", "findTower", "(I)V"⟩, 36), (⟨"SnowPathsModel", "isPicture", "(I)Z"⟩, 36)]
theorem lw_r5 : ∀ q ∈ lw_privs_5, lw_okq q := List.forall_mem_cons.mpr ⟨lw_p64, List.forall_mem_cons.mpr ⟨lw_p65, List.forall_mem_cons.mpr ⟨lw_p66, List.forall_mem_cons.mpr ⟨lw_p67, List.forall_mem_cons.mpr ⟨lw_p68, List.forall_mem_cons.mpr ⟨lw_p69, List.forall_mem_cons.mpr ⟨lw_p70, List.forall_mem_cons.mpr ⟨lw_p71, List.forall_mem_cons.mpr ⟨lw_p72, List.forall_mem_cons.mpr ⟨lw_p73, List.forall_mem_cons.mpr ⟨lw_p74, List.forall_mem_cons.mpr ⟨lw_p75, List.forall_mem_cons.mpr ⟨lw_p76, List.forall_mem_cons.mpr ⟨lw_p77, List.forall_mem_cons.mpr ⟨lw_p78, fun _ h => absurd h List.not_mem_nil⟩⟩⟩⟩⟩⟩⟩⟩⟩⟩⟩⟩⟩⟩⟩
def lw_privs : List (MethodName × Nat) := lw_privs_1 ++ (lw_privs_2 ++ (lw_privs_3 ++ (lw_privs_4 ++ (lw_privs_5))))
def lw_tbl : List Cond := k2_sels lw_privs ++ tables_1
theorem lw_privs_ok : ∀ q ∈ lw_privs, lw_okq q := by
  show ∀ q ∈ lw_privs_1 ++ (lw_privs_2 ++ (lw_privs_3 ++ (lw_privs_4 ++ (lw_privs_5)))), lw_okq q
  exact List.forall_mem_append.mpr ⟨lw_r1, List.forall_mem_append.mpr ⟨lw_r2, List.forall_mem_append.mpr ⟨lw_r3, List.forall_mem_append.mpr ⟨lw_r4, lw_r5⟩⟩⟩⟩

def RX0 : String := "SnowPaths$Green"
def TX0 : u_T := fun k => match k with
  | 0 => ("SnowPaths$Green", "text", "[I", true)
  | 1 => ("SnowPaths$Green", "length", "I", false)
  | 2 => ("SnowPaths$Green", "faultAt", "I", false)
  | 3 => ("SnowPaths$Green", "walls", "J", false)
  | _ => ("SnowPaths$Green", "hidden", "J", false)
def tyX0 : Nat → FieldType := fun k => match k with
  | 0 => .array .int
  | 1 => .int
  | 2 => .int
  | 3 => .long
  | _ => .long
abbrev wsX00 : List Cond := u_ws RX0 TX0 5
theorem nmX0 : ∀ a, a < 5 → ∀ b, b < 5 → a ≠ b → (TX0 a).2.1 ≠ (TX0 b).2.1 := by decide +kernel
theorem tyX0_ok : ∀ k, k < 5 → parseFieldDescriptor (TX0 k).2.2.1 = some (tyX0 k) := by decide +kernel
abbrev cX0_init : ByteArray := prog_2_method_1_code
def yX0_init : MethodName := ⟨RX0, "<init>", "()V"⟩
abbrev cX0_append : ByteArray := prog_2_method_2_code
def yX0_append : MethodName := ⟨RX0, "append", "(I)Z"⟩
abbrev cX0_empty : ByteArray := prog_2_method_3_code
def yX0_empty : MethodName := ⟨RX0, "empty", "()V"⟩
abbrev cX0_kindOf : ByteArray := prog_2_method_4_code
def yX0_kindOf : MethodName := ⟨RX0, "kindOf", "(I)I"⟩
abbrev cX0_parse : ByteArray := prog_2_method_5_code
def yX0_parse : MethodName := ⟨RX0, "parse", "()V"⟩
abbrev cX0_seekFault : ByteArray := prog_2_method_6_code
def yX0_seekFault : MethodName := ⟨RX0, "seekFault", "()I"⟩
abbrev cX0_fits : ByteArray := prog_2_method_7_code
def yX0_fits : MethodName := ⟨RX0, "fits", "(II)Z"⟩
def RX1 : String := "SnowPaths$Ground"
def TX1 : u_T := fun k => match k with
  | 0 => ("SnowPaths$Ground", "snow", "[I", true)
  | 1 => ("SnowPaths$Ground", "pressed", "[I", true)
  | 2 => ("SnowPaths$Ground", "ice", "[I", true)
  | 3 => ("SnowPaths$Ground", "passed", "[I", true)
  | _ => ("SnowPaths$Ground", "bare", "[I", true)
def tyX1 : Nat → FieldType := fun k => match k with
  | 0 => .array .int
  | 1 => .array .int
  | 2 => .array .int
  | 3 => .array .int
  | _ => .array .int
abbrev wsX10 : List Cond := u_ws RX1 TX1 5
theorem nmX1 : ∀ a, a < 5 → ∀ b, b < 5 → a ≠ b → (TX1 a).2.1 ≠ (TX1 b).2.1 := by decide +kernel
theorem tyX1_ok : ∀ k, k < 5 → parseFieldDescriptor (TX1 k).2.2.1 = some (tyX1 k) := by decide +kernel
abbrev cX1_init : ByteArray := prog_3_method_1_code
def yX1_init : MethodName := ⟨RX1, "<init>", "()V"⟩
abbrev cX1_addSnow : ByteArray := prog_3_method_2_code
def yX1_addSnow : MethodName := ⟨RX1, "addSnow", "(IJ)I"⟩
abbrev cX1_melt : ByteArray := prog_3_method_3_code
def yX1_melt : MethodName := ⟨RX1, "melt", "(I)I"⟩
abbrev cX1_freeze : ByteArray := prog_3_method_4_code
def yX1_freeze : MethodName := ⟨RX1, "freeze", "()I"⟩
abbrev cX1_shovel : ByteArray := prog_3_method_5_code
def yX1_shovel : MethodName := ⟨RX1, "shovel", "(II)I"⟩
abbrev cX1_setSnow : ByteArray := prog_3_method_6_code
def yX1_setSnow : MethodName := ⟨RX1, "setSnow", "(LSnowPaths$Sheet;)I"⟩
abbrev cX1_treadAs : ByteArray := prog_3_method_7_code
def yX1_treadAs : MethodName := ⟨RX1, "treadAs", "(LSnowPaths$Outing;)V"⟩
def RX2 : String := "SnowPaths$Orders"
def TX2 : u_T := fun k => match k with
  | 0 => ("SnowPaths$Orders", "green", "LSnowPaths$Green;", true)
  | 1 => ("SnowPaths$Orders", "walkers", "LSnowPaths$Walkers;", true)
  | 2 => ("SnowPaths$Orders", "stages", "[LSnowPaths$Outing;", true)
  | 3 => ("SnowPaths$Orders", "row", "[I", true)
  | 4 => ("SnowPaths$Orders", "best", "[I", true)
  | 5 => ("SnowPaths$Orders", "firstAlike", "[I", true)
  | 6 => ("SnowPaths$Orders", "least", "I", false)
  | 7 => ("SnowPaths$Orders", "most", "I", false)
  | 8 => ("SnowPaths$Orders", "alike", "I", false)
  | _ => ("SnowPaths$Orders", "firsts", "I", false)
def tyX2 : Nat → FieldType := fun k => match k with
  | 0 => .object "SnowPaths$Green"
  | 1 => .object "SnowPaths$Walkers"
  | 2 => .array (.object "SnowPaths$Outing")
  | 3 => .array .int
  | 4 => .array .int
  | 5 => .array .int
  | 6 => .int
  | 7 => .int
  | 8 => .int
  | _ => .int
abbrev wsX20 : List Cond := u_ws RX2 TX2 10
theorem nmX2 : ∀ a, a < 10 → ∀ b, b < 10 → a ≠ b → (TX2 a).2.1 ≠ (TX2 b).2.1 := by decide +kernel
theorem tyX2_ok : ∀ k, k < 10 → parseFieldDescriptor (TX2 k).2.2.1 = some (tyX2 k) := by decide +kernel
abbrev cX2_init : ByteArray := prog_4_method_1_code
def yX2_init : MethodName := ⟨RX2, "<init>", "(LSnowPaths$Green;LSnowPaths$Walkers;LSnowPaths$Route;)V"⟩
abbrev cX2_tryAll : ByteArray := prog_4_method_2_code
def yX2_tryAll : MethodName := ⟨RX2, "tryAll", "([ILSnowPaths$Sheet;)V"⟩
abbrev cX2_sendFrom : ByteArray := prog_4_method_3_code
def yX2_sendFrom : MethodName := ⟨RX2, "sendFrom", "(II)V"⟩
abbrev cX2_weigh : ByteArray := prog_4_method_4_code
def yX2_weigh : MethodName := ⟨RX2, "weigh", "(IZ)V"⟩
abbrev cX2_keepAlike : ByteArray := prog_4_method_5_code
def yX2_keepAlike : MethodName := ⟨RX2, "keepAlike", "(I)V"⟩
abbrev cX2_advance : ByteArray := prog_4_method_6_code
def yX2_advance : MethodName := ⟨RX2, "advance", "(I)I"⟩
abbrev cX2_swap : ByteArray := prog_4_method_7_code
def yX2_swap : MethodName := ⟨RX2, "swap", "(II)V"⟩
def RX3 : String := "SnowPaths$Outing"
def TX3 : u_T := fun k => match k with
  | 0 => ("SnowPaths$Outing", "green", "LSnowPaths$Green;", true)
  | 1 => ("SnowPaths$Outing", "route", "LSnowPaths$Route;", true)
  | 2 => ("SnowPaths$Outing", "snow", "[I", true)
  | 3 => ("SnowPaths$Outing", "came", "[I", true)
  | 4 => ("SnowPaths$Outing", "effort", "I", false)
  | 5 => ("SnowPaths$Outing", "steps", "I", false)
  | 6 => ("SnowPaths$Outing", "stopped", "I", false)
  | _ => ("SnowPaths$Outing", "met", "I", false)
def tyX3 : Nat → FieldType := fun k => match k with
  | 0 => .object "SnowPaths$Green"
  | 1 => .object "SnowPaths$Route"
  | 2 => .array .int
  | 3 => .array .int
  | 4 => .int
  | 5 => .int
  | 6 => .int
  | _ => .int
abbrev wsX30 : List Cond := u_ws RX3 TX3 8
theorem nmX3 : ∀ a, a < 8 → ∀ b, b < 8 → a ≠ b → (TX3 a).2.1 ≠ (TX3 b).2.1 := by decide +kernel
theorem tyX3_ok : ∀ k, k < 8 → parseFieldDescriptor (TX3 k).2.2.1 = some (tyX3 k) := by decide +kernel
abbrev cX3_init : ByteArray := prog_5_method_1_code
def yX3_init : MethodName := ⟨RX3, "<init>", "(LSnowPaths$Green;LSnowPaths$Route;)V"⟩
abbrev cX3_begin : ByteArray := prog_5_method_2_code
def yX3_begin : MethodName := ⟨RX3, "begin", "([I)V"⟩
abbrev cX3_beginAs : ByteArray := prog_5_method_3_code
def yX3_beginAs : MethodName := ⟨RX3, "beginAs", "(LSnowPaths$Outing;)V"⟩
abbrev cX3_go : ByteArray := prog_5_method_4_code
def yX3_go : MethodName := ⟨RX3, "go", "(IIJ)Z"⟩
abbrev cX3_follow : ByteArray := prog_5_method_5_code
def yX3_follow : MethodName := ⟨RX3, "follow", "(IJ)I"⟩
abbrev cX3_tread : ByteArray := prog_5_method_6_code
def yX3_tread : MethodName := ⟨RX3, "tread", "(I)V"⟩
abbrev cX3_cellsPassed : ByteArray := prog_5_method_7_code
def yX3_cellsPassed : MethodName := ⟨RX3, "cellsPassed", "()I"⟩
def RX4 : String := "SnowPaths$Route"
def TX4 : u_T := fun k => match k with
  | 0 => ("SnowPaths$Route", "far", "[I", true)
  | 1 => ("SnowPaths$Route", "ahead", "[J", true)
  | 2 => ("SnowPaths$Route", "way", "[I", true)
  | 3 => ("SnowPaths$Route", "length", "I", false)
  | _ => ("SnowPaths$Route", "reached", "J", false)
def tyX4 : Nat → FieldType := fun k => match k with
  | 0 => .array .int
  | 1 => .array .long
  | 2 => .array .int
  | 3 => .int
  | _ => .long
abbrev wsX40 : List Cond := u_ws RX4 TX4 5
theorem nmX4 : ∀ a, a < 5 → ∀ b, b < 5 → a ≠ b → (TX4 a).2.1 ≠ (TX4 b).2.1 := by decide +kernel
theorem tyX4_ok : ∀ k, k < 5 → parseFieldDescriptor (TX4 k).2.2.1 = some (tyX4 k) := by decide +kernel
abbrev cX4_init : ByteArray := prog_6_method_1_code
def yX4_init : MethodName := ⟨RX4, "<init>", "()V"⟩
abbrev cX4_find : ByteArray := prog_6_method_2_code
def yX4_find : MethodName := ⟨RX4, "find", "(IIJ[I)I"⟩
abbrev cX4_spread : ByteArray := prog_6_method_3_code
def yX4_spread : MethodName := ⟨RX4, "spread", "(IIJ[I)V"⟩
abbrev cX4_onward : ByteArray := prog_6_method_4_code
def yX4_onward : MethodName := ⟨RX4, "onward", "(I[I)I"⟩
abbrev cX4_around : ByteArray := prog_6_method_5_code
def yX4_around : MethodName := ⟨RX4, "around", "(J)J"⟩
def RX5 : String := "SnowPaths$Sheet"
def TX5 : u_T := fun k => match k with
  | 0 => ("SnowPaths$Sheet", "items", "[I", true)
  | 1 => ("SnowPaths$Sheet", "form", "I", false)
  | _ => ("SnowPaths$Sheet", "size", "I", false)
def tyX5 : Nat → FieldType := fun k => match k with
  | 0 => .array .int
  | 1 => .int
  | _ => .int
abbrev wsX50 : List Cond := u_ws RX5 TX5 3
theorem nmX5 : ∀ a, a < 3 → ∀ b, b < 3 → a ≠ b → (TX5 a).2.1 ≠ (TX5 b).2.1 := by decide +kernel
theorem tyX5_ok : ∀ k, k < 3 → parseFieldDescriptor (TX5 k).2.2.1 = some (tyX5 k) := by decide +kernel
abbrev cX5_init : ByteArray := prog_7_method_1_code
def yX5_init : MethodName := ⟨RX5, "<init>", "()V"⟩
abbrev cX5_isLost : ByteArray := prog_7_method_2_code
def yX5_isLost : MethodName := ⟨RX5, "isLost", "()Z"⟩
abbrev cX5_renew : ByteArray := prog_7_method_3_code
def yX5_renew : MethodName := ⟨RX5, "renew", "(II)V"⟩
abbrev cX5_put : ByteArray := prog_7_method_4_code
def yX5_put : MethodName := ⟨RX5, "put", "(II)V"⟩
abbrev cX5_holds : ByteArray := prog_7_method_5_code
def yX5_holds : MethodName := ⟨RX5, "holds", "(II)Z"⟩
abbrev cX5_shows : ByteArray := prog_7_method_6_code
def yX5_shows : MethodName := ⟨RX5, "shows", "([I)Z"⟩
def RX6 : String := "SnowPaths$Walkers"
def TX6 : u_T := fun k => match k with
  | 0 => ("SnowPaths$Walkers", "from", "[I", true)
  | 1 => ("SnowPaths$Walkers", "to", "[I", true)
  | _ => ("SnowPaths$Walkers", "number", "I", false)
def tyX6 : Nat → FieldType := fun k => match k with
  | 0 => .array .int
  | 1 => .array .int
  | _ => .int
abbrev wsX60 : List Cond := u_ws RX6 TX6 3
theorem nmX6 : ∀ a, a < 3 → ∀ b, b < 3 → a ≠ b → (TX6 a).2.1 ≠ (TX6 b).2.1 := by decide +kernel
theorem tyX6_ok : ∀ k, k < 3 → parseFieldDescriptor (TX6 k).2.2.1 = some (tyX6 k) := by decide +kernel
abbrev cX6_init : ByteArray := prog_8_method_1_code
def yX6_init : MethodName := ⟨RX6, "<init>", "()V"⟩
abbrev cX6_join : ByteArray := prog_8_method_2_code
def yX6_join : MethodName := ⟨RX6, "join", "(II)Z"⟩
def RX7 : String := "SnowPaths"
def TX7 : u_T := fun k => match k with
  | 0 => ("SnowPaths", "green", "LSnowPaths$Green;", true)
  | 1 => ("SnowPaths", "ground", "LSnowPaths$Ground;", true)
  | 2 => ("SnowPaths", "walkers", "LSnowPaths$Walkers;", true)
  | 3 => ("SnowPaths", "route", "LSnowPaths$Route;", true)
  | 4 => ("SnowPaths", "outing", "LSnowPaths$Outing;", true)
  | 5 => ("SnowPaths", "tried", "LSnowPaths$Orders;", true)
  | 6 => ("SnowPaths", "sheets", "[LSnowPaths$Sheet;", true)
  | 7 => ("SnowPaths", "finding", "I", false)
  | 8 => ("SnowPaths", "bestFirst", "I", false)
  | 9 => ("SnowPaths", "bestFirstEffort", "I", false)
  | 10 => ("SnowPaths", "bestYard", "I", false)
  | _ => ("SnowPaths", "bestYardGain", "I", false)
def tyX7 : Nat → FieldType := fun k => match k with
  | 0 => .object "SnowPaths$Green"
  | 1 => .object "SnowPaths$Ground"
  | 2 => .object "SnowPaths$Walkers"
  | 3 => .object "SnowPaths$Route"
  | 4 => .object "SnowPaths$Outing"
  | 5 => .object "SnowPaths$Orders"
  | 6 => .array (.object "SnowPaths$Sheet")
  | 7 => .int
  | 8 => .int
  | 9 => .int
  | 10 => .int
  | _ => .int
abbrev wsX70 : List Cond := u_ws RX7 TX7 12
theorem nmX7 : ∀ a, a < 12 → ∀ b, b < 12 → a ≠ b → (TX7 a).2.1 ≠ (TX7 b).2.1 := by decide +kernel
theorem tyX7_ok : ∀ k, k < 12 → parseFieldDescriptor (TX7 k).2.2.1 = some (tyX7 k) := by decide +kernel
abbrev cX7_init : ByteArray := prog_1_method_1_code
def yX7_init : MethodName := ⟨RX7, "<init>", "()V"⟩
abbrev cX7_type : ByteArray := prog_1_method_2_code
def yX7_type : MethodName := ⟨RX7, "type", "(I)I"⟩
abbrev cX7_wipe : ByteArray := prog_1_method_3_code
def yX7_wipe : MethodName := ⟨RX7, "wipe", "()I"⟩
abbrev cX7_fault : ByteArray := prog_1_method_4_code
def yX7_fault : MethodName := ⟨RX7, "fault", "()I"⟩
abbrev cX7_cell : ByteArray := prog_1_method_5_code
def yX7_cell : MethodName := ⟨RX7, "cell", "(II)I"⟩
abbrev cX7_snows : ByteArray := prog_1_method_6_code
def yX7_snows : MethodName := ⟨RX7, "snows", "(I)I"⟩
abbrev cX7_thaws : ByteArray := prog_1_method_7_code
def yX7_thaws : MethodName := ⟨RX7, "thaws", "(I)I"⟩
abbrev cX7_freezes : ByteArray := prog_1_method_8_code
def yX7_freezes : MethodName := ⟨RX7, "freezes", "()I"⟩
abbrev cX7_clear : ByteArray := prog_1_method_9_code
def yX7_clear : MethodName := ⟨RX7, "clear", "(II)I"⟩
abbrev cX7_read : ByteArray := prog_1_method_10_code
def yX7_read : MethodName := ⟨RX7, "read", "(I)I"⟩
abbrev cX7_walker : ByteArray := prog_1_method_11_code
def yX7_walker : MethodName := ⟨RX7, "walker", "(II)I"⟩
abbrev cX7_gone : ByteArray := prog_1_method_12_code
def yX7_gone : MethodName := ⟨RX7, "gone", "()I"⟩
abbrev cX7_plan : ByteArray := prog_1_method_13_code
def yX7_plan : MethodName := ⟨RX7, "plan", "(III)I"⟩
abbrev cX7_walk : ByteArray := prog_1_method_14_code
def yX7_walk : MethodName := ⟨RX7, "walk", "(I)I"⟩
abbrev cX7_morning : ByteArray := prog_1_method_15_code
def yX7_morning : MethodName := ⟨RX7, "morning", "()I"⟩
abbrev cX7_all : ByteArray := prog_1_method_16_code
def yX7_all : MethodName := ⟨RX7, "all", "(I)I"⟩
abbrev cX7_straight : ByteArray := prog_1_method_17_code
def yX7_straight : MethodName := ⟨RX7, "straight", "(I)I"⟩
abbrev cX7_longer : ByteArray := prog_1_method_18_code
def yX7_longer : MethodName := ⟨RX7, "longer", "()I"⟩
abbrev cX7_orders : ByteArray := prog_1_method_19_code
def yX7_orders : MethodName := ⟨RX7, "orders", "(I)I"⟩
abbrev cX7_order : ByteArray := prog_1_method_20_code
def yX7_order : MethodName := ⟨RX7, "order", "(I)I"⟩
abbrev cX7_first : ByteArray := prog_1_method_21_code
def yX7_first : MethodName := ⟨RX7, "first", "(I)I"⟩
abbrev cX7_yard : ByteArray := prog_1_method_22_code
def yX7_yard : MethodName := ⟨RX7, "yard", "(I)I"⟩
abbrev cX7_falls : ByteArray := prog_1_method_23_code
def yX7_falls : MethodName := ⟨RX7, "falls", "(I)J"⟩
abbrev cX7_grit : ByteArray := prog_1_method_24_code
def yX7_grit : MethodName := ⟨RX7, "grit", "(II)I"⟩
abbrev cX7_left : ByteArray := prog_1_method_25_code
def yX7_left : MethodName := ⟨RX7, "left", "(II)J"⟩
abbrev cX7_tower : ByteArray := prog_1_method_26_code
def yX7_tower : MethodName := ⟨RX7, "tower", "(II)I"⟩
abbrev cX7_towerOrder : ByteArray := prog_1_method_27_code
def yX7_towerOrder : MethodName := ⟨RX7, "towerOrder", "(II)I"⟩
abbrev cX7_hints : ByteArray := prog_1_method_28_code
def yX7_hints : MethodName := ⟨RX7, "hints", "(III)I"⟩
abbrev cX7_sheet : ByteArray := prog_1_method_29_code
def yX7_sheet : MethodName := ⟨RX7, "sheet", "(III)I"⟩
abbrev cX7_lose : ByteArray := prog_1_method_30_code
def yX7_lose : MethodName := ⟨RX7, "lose", "(I)I"⟩
abbrev cX7_lay : ByteArray := prog_1_method_31_code
def yX7_lay : MethodName := ⟨RX7, "lay", "(IIII)I"⟩
abbrev cX7_get : ByteArray := prog_1_method_32_code
def yX7_get : MethodName := ⟨RX7, "get", "(III)I"⟩
abbrev cX7_copy : ByteArray := prog_1_method_33_code
def yX7_copy : MethodName := ⟨RX7, "copy", "(IIIII)I"⟩
abbrev cX7_write : ByteArray := prog_1_method_34_code
def yX7_write : MethodName := ⟨RX7, "write", "(I)I"⟩
abbrev cX7_count : ByteArray := prog_1_method_35_code
def yX7_count : MethodName := ⟨RX7, "count", "(I)I"⟩
abbrev cX7_digest : ByteArray := prog_1_method_36_code
def yX7_digest : MethodName := ⟨RX7, "digest", "()J"⟩
abbrev cX7_tryMorning : ByteArray := prog_1_method_37_code
def yX7_tryMorning : MethodName := ⟨RX7, "tryMorning", "(II)V"⟩
abbrev cX7_told : ByteArray := prog_1_method_38_code
def yX7_told : MethodName := ⟨RX7, "told", "(I)I"⟩
abbrev cX7_fewestSteps : ByteArray := prog_1_method_39_code
def yX7_fewestSteps : MethodName := ⟨RX7, "fewestSteps", "(I)I"⟩
abbrev cX7_seekFirst : ByteArray := prog_1_method_40_code
def yX7_seekFirst : MethodName := ⟨RX7, "seekFirst", "()V"⟩
abbrev cX7_seekYard : ByteArray := prog_1_method_41_code
def yX7_seekYard : MethodName := ⟨RX7, "seekYard", "()V"⟩
abbrev cX7_wouldShow : ByteArray := prog_1_method_42_code
def yX7_wouldShow : MethodName := ⟨RX7, "wouldShow", "(LSnowPaths$Sheet;II)Z"⟩
abbrev cX7_slipperiness : ByteArray := prog_1_method_43_code
def yX7_slipperiness : MethodName := ⟨RX7, "slipperiness", "(I)I"⟩
abbrev cX7_mostSlippery : ByteArray := prog_1_method_44_code
def yX7_mostSlippery : MethodName := ⟨RX7, "mostSlippery", "(J)I"⟩
abbrev cX7_slipperinessLeft : ByteArray := prog_1_method_45_code
def yX7_slipperinessLeft : MethodName := ⟨RX7, "slipperinessLeft", "(I)I"⟩
abbrev cX7_thirtieths : ByteArray := prog_1_method_46_code
def yX7_thirtieths : MethodName := ⟨RX7, "thirtieths", "(II)J"⟩
abbrev cX7_found : ByteArray := prog_1_method_47_code
def yX7_found : MethodName := ⟨RX7, "found", "(I)I"⟩
abbrev cX7_refusedLong : ByteArray := prog_1_method_48_code
def yX7_refusedLong : MethodName := ⟨RX7, "refusedLong", "(I)J"⟩
abbrev cX7_refusedItem : ByteArray := prog_1_method_49_code
def yX7_refusedItem : MethodName := ⟨RX7, "refusedItem", "(III)I"⟩
abbrev cX7_isCell : ByteArray := prog_1_method_50_code
def yX7_isCell : MethodName := ⟨RX7, "isCell", "(I)Z"⟩
abbrev cX7_isWalker : ByteArray := prog_1_method_51_code
def yX7_isWalker : MethodName := ⟨RX7, "isWalker", "(I)Z"⟩
abbrev cX7_isSheet : ByteArray := prog_1_method_52_code
def yX7_isSheet : MethodName := ⟨RX7, "isSheet", "(I)Z"⟩
abbrev cX7_isForm : ByteArray := prog_1_method_53_code
def yX7_isForm : MethodName := ⟨RX7, "isForm", "(I)Z"⟩
abbrev cX7_bit : ByteArray := prog_1_method_54_code
def yX7_bit : MethodName := ⟨RX7, "bit", "(I)J"⟩
abbrev cX7_has : ByteArray := prog_1_method_55_code
def yX7_has : MethodName := ⟨RX7, "has", "(JI)Z"⟩
abbrev cX7_beside : ByteArray := prog_1_method_56_code
def yX7_beside : MethodName := ⟨RX7, "beside", "(II)I"⟩
abbrev cX7_sum : ByteArray := prog_1_method_57_code
def yX7_sum : MethodName := ⟨RX7, "sum", "([I)I"⟩
def RX8 : String := "SnowPathsModel"
def TX8 : u_T := fun k => match k with
  | 0 => ("SnowPathsModel", "forms", "[I", true)
  | 1 => ("SnowPathsModel", "sizes", "[I", true)
  | 2 => ("SnowPathsModel", "items", "[I", true)
  | 3 => ("SnowPathsModel", "moved", "[I", true)
  | 4 => ("SnowPathsModel", "latest", "I", false)
  | 5 => ("SnowPathsModel", "text", "[I", true)
  | 6 => ("SnowPathsModel", "typed", "I", false)
  | 7 => ("SnowPathsModel", "kinds", "[I", true)
  | 8 => ("SnowPathsModel", "snow", "[I", true)
  | 9 => ("SnowPathsModel", "pressed", "[I", true)
  | 10 => ("SnowPathsModel", "ice", "[I", true)
  | 11 => ("SnowPathsModel", "passed", "[I", true)
  | 12 => ("SnowPathsModel", "walkers", "I", false)
  | 13 => ("SnowPathsModel", "from", "[I", true)
  | 14 => ("SnowPathsModel", "to", "[I", true)
  | 15 => ("SnowPathsModel", "nowSnow", "[I", true)
  | 16 => ("SnowPathsModel", "nowPressed", "[I", true)
  | 17 => ("SnowPathsModel", "comes", "[I", true)
  | 18 => ("SnowPathsModel", "known", "[Z", true)
  | 19 => ("SnowPathsModel", "moreHidden", "I", false)
  | 20 => ("SnowPathsModel", "costs", "[I", true)
  | 21 => ("SnowPathsModel", "effort", "I", false)
  | 22 => ("SnowPathsModel", "steps", "I", false)
  | 23 => ("SnowPathsModel", "stops", "I", false)
  | 24 => ("SnowPathsModel", "longer", "I", false)
  | 25 => ("SnowPathsModel", "way", "[I", true)
  | 26 => ("SnowPathsModel", "wayLong", "I", false)
  | 27 => ("SnowPathsModel", "row", "[I", true)
  | 28 => ("SnowPathsModel", "bestRow", "[I", true)
  | 29 => ("SnowPathsModel", "leastEffort", "I", false)
  | 30 => ("SnowPathsModel", "mostEffort", "I", false)
  | 31 => ("SnowPathsModel", "yardCell", "I", false)
  | 32 => ("SnowPathsModel", "yardLess", "I", false)
  | 33 => ("SnowPathsModel", "gritty", "[Z", true)
  | 34 => ("SnowPathsModel", "towerMany", "I", false)
  | _ => ("SnowPathsModel", "towerFirst", "I", false)
def tyX8 : Nat → FieldType := fun k => match k with
  | 0 => .array .int
  | 1 => .array .int
  | 2 => .array .int
  | 3 => .array .int
  | 4 => .int
  | 5 => .array .int
  | 6 => .int
  | 7 => .array .int
  | 8 => .array .int
  | 9 => .array .int
  | 10 => .array .int
  | 11 => .array .int
  | 12 => .int
  | 13 => .array .int
  | 14 => .array .int
  | 15 => .array .int
  | 16 => .array .int
  | 17 => .array .int
  | 18 => .array .boolean
  | 19 => .int
  | 20 => .array .int
  | 21 => .int
  | 22 => .int
  | 23 => .int
  | 24 => .int
  | 25 => .array .int
  | 26 => .int
  | 27 => .array .int
  | 28 => .array .int
  | 29 => .int
  | 30 => .int
  | 31 => .int
  | 32 => .int
  | 33 => .array .boolean
  | 34 => .int
  | _ => .int
abbrev wsX80 : List Cond := u_ws RX8 TX8 36
theorem nmX8 : ∀ a, a < 36 → ∀ b, b < 36 → a ≠ b → (TX8 a).2.1 ≠ (TX8 b).2.1 := by decide +kernel
theorem tyX8_ok : ∀ k, k < 36 → parseFieldDescriptor (TX8 k).2.2.1 = some (tyX8 k) := by decide +kernel
abbrev cX8_init : ByteArray := prog_10_method_1_code
def yX8_init : MethodName := ⟨RX8, "<init>", "()V"⟩
abbrev cX8_in : ByteArray := prog_10_method_3_code
def yX8_in : MethodName := ⟨RX8, "in", "(JJJ)Z"⟩
abbrev cX8_no : ByteArray := prog_10_method_4_code
def yX8_no : MethodName := ⟨RX8, "no", "(I)J"⟩
abbrev cX8_isTwo : ByteArray := prog_10_method_5_code
def yX8_isTwo : MethodName := ⟨RX8, "isTwo", "(I)Z"⟩
abbrev cX8_isCell : ByteArray := prog_10_method_6_code
def yX8_isCell : MethodName := ⟨RX8, "isCell", "(I)Z"⟩
abbrev cX8_met : ByteArray := prog_10_method_7_code
def yX8_met : MethodName := ⟨RX8, "met", "(I)I"⟩
abbrev cX8_isSheet : ByteArray := prog_10_method_8_code
def yX8_isSheet : MethodName := ⟨RX8, "isSheet", "(I)Z"⟩
abbrev cX8_sheet : ByteArray := prog_10_method_9_code
def yX8_sheet : MethodName := ⟨RX8, "sheet", "(III)I"⟩
abbrev cX8_lose : ByteArray := prog_10_method_10_code
def yX8_lose : MethodName := ⟨RX8, "lose", "(I)I"⟩
abbrev cX8_lacks : ByteArray := prog_10_method_11_code
def yX8_lacks : MethodName := ⟨RX8, "lacks", "(III)I"⟩
abbrev cX8_cut : ByteArray := prog_10_method_12_code
def yX8_cut : MethodName := ⟨RX8, "cut", "(II)I"⟩
abbrev cX8_lay : ByteArray := prog_10_method_13_code
def yX8_lay : MethodName := ⟨RX8, "lay", "(IIII)I"⟩
abbrev cX8_get : ByteArray := prog_10_method_14_code
def yX8_get : MethodName := ⟨RX8, "get", "(III)I"⟩
abbrev cX8_copy : ByteArray := prog_10_method_15_code
def yX8_copy : MethodName := ⟨RX8, "copy", "(IIIII)I"⟩
abbrev cX8_type : ByteArray := prog_10_method_16_code
def yX8_type : MethodName := ⟨RX8, "type", "(I)I"⟩
abbrev cX8_wipe : ByteArray := prog_10_method_17_code
def yX8_wipe : MethodName := ⟨RX8, "wipe", "()I"⟩
abbrev cX8_kindOf : ByteArray := prog_10_method_18_code
def yX8_kindOf : MethodName := ⟨RX8, "kindOf", "(I)I"⟩
abbrev cX8_faultNow : ByteArray := prog_10_method_19_code
def yX8_faultNow : MethodName := ⟨RX8, "faultNow", "()I"⟩
abbrev cX8_reads : ByteArray := prog_10_method_20_code
def yX8_reads : MethodName := ⟨RX8, "reads", "()I"⟩
abbrev cX8_fault : ByteArray := prog_10_method_21_code
def yX8_fault : MethodName := ⟨RX8, "fault", "()I"⟩
abbrev cX8_cellOf : ByteArray := prog_10_method_22_code
def yX8_cellOf : MethodName := ⟨RX8, "cellOf", "(II)I"⟩
abbrev cX8_cell : ByteArray := prog_10_method_23_code
def yX8_cell : MethodName := ⟨RX8, "cell", "(II)I"⟩
abbrev cX8_least : ByteArray := prog_10_method_24_code
def yX8_least : MethodName := ⟨RX8, "least", "(II)I"⟩
abbrev cX8_snows : ByteArray := prog_10_method_25_code
def yX8_snows : MethodName := ⟨RX8, "snows", "(I)I"⟩
abbrev cX8_less : ByteArray := prog_10_method_26_code
def yX8_less : MethodName := ⟨RX8, "less", "(II)I"⟩
abbrev cX8_thaws : ByteArray := prog_10_method_27_code
def yX8_thaws : MethodName := ⟨RX8, "thaws", "(I)I"⟩
abbrev cX8_freezes : ByteArray := prog_10_method_28_code
def yX8_freezes : MethodName := ⟨RX8, "freezes", "()I"⟩
abbrev cX8_next : ByteArray := prog_10_method_29_code
def yX8_next : MethodName := ⟨RX8, "next", "(II)I"⟩
abbrev cX8_clear : ByteArray := prog_10_method_30_code
def yX8_clear : MethodName := ⟨RX8, "clear", "(II)I"⟩
abbrev cX8_read : ByteArray := prog_10_method_31_code
def yX8_read : MethodName := ⟨RX8, "read", "(I)I"⟩
abbrev cX8_walker : ByteArray := prog_10_method_32_code
def yX8_walker : MethodName := ⟨RX8, "walker", "(II)I"⟩
abbrev cX8_gone : ByteArray := prog_10_method_33_code
def yX8_gone : MethodName := ⟨RX8, "gone", "()I"⟩
abbrev cX8_isWalker : ByteArray := prog_10_method_34_code
def yX8_isWalker : MethodName := ⟨RX8, "isWalker", "(I)Z"⟩
abbrev cX8_isHidden : ByteArray := prog_10_method_35_code
def yX8_isHidden : MethodName := ⟨RX8, "isHidden", "(I)Z"⟩
abbrev cX8_tries : ByteArray := prog_10_method_36_code
def yX8_tries : MethodName := ⟨RX8, "tries", "()V"⟩
abbrev cX8_begins : ByteArray := prog_10_method_37_code
def yX8_begins : MethodName := ⟨RX8, "begins", "()V"⟩
abbrev cX8_knows : ByteArray := prog_10_method_38_code
def yX8_knows : MethodName := ⟨RX8, "knows", "(Z)V"⟩
abbrev cX8_mayPass : ByteArray := prog_10_method_39_code
def yX8_mayPass : MethodName := ⟨RX8, "mayPass", "(I)Z"⟩
abbrev cX8_wades : ByteArray := prog_10_method_40_code
def yX8_wades : MethodName := ⟨RX8, "wades", "(IZ)I"⟩
abbrev cX8_findCosts : ByteArray := prog_10_method_41_code
def yX8_findCosts : MethodName := ⟨RX8, "findCosts", "(IZ)V"⟩
abbrev cX8_goesTo : ByteArray := prog_10_method_42_code
def yX8_goesTo : MethodName := ⟨RX8, "goesTo", "(I)I"⟩
abbrev cX8_mayBegin : ByteArray := prog_10_method_43_code
def yX8_mayBegin : MethodName := ⟨RX8, "mayBegin", "(I)Z"⟩
abbrev cX8_plans : ByteArray := prog_10_method_44_code
def yX8_plans : MethodName := ⟨RX8, "plans", "(II)Z"⟩
abbrev cX8_planOf : ByteArray := prog_10_method_45_code
def yX8_planOf : MethodName := ⟨RX8, "planOf", "(III)I"⟩
abbrev cX8_plan : ByteArray := prog_10_method_46_code
def yX8_plan : MethodName := ⟨RX8, "plan", "(III)I"⟩
abbrev cX8_treads : ByteArray := prog_10_method_47_code
def yX8_treads : MethodName := ⟨RX8, "treads", "(I)V"⟩
abbrev cX8_walks : ByteArray := prog_10_method_48_code
def yX8_walks : MethodName := ⟨RX8, "walks", "(I)V"⟩
abbrev cX8_straightOf : ByteArray := prog_10_method_49_code
def yX8_straightOf : MethodName := ⟨RX8, "straightOf", "(I)I"⟩
abbrev cX8_becomes : ByteArray := prog_10_method_50_code
def yX8_becomes : MethodName := ⟨RX8, "becomes", "()I"⟩
abbrev cX8_walk : ByteArray := prog_10_method_51_code
def yX8_walk : MethodName := ⟨RX8, "walk", "(I)I"⟩
abbrev cX8_mornings : ByteArray := prog_10_method_52_code
def yX8_mornings : MethodName := ⟨RX8, "mornings", "()V"⟩
abbrev cX8_morning : ByteArray := prog_10_method_53_code
def yX8_morning : MethodName := ⟨RX8, "morning", "()I"⟩
abbrev cX8_allOf : ByteArray := prog_10_method_54_code
def yX8_allOf : MethodName := ⟨RX8, "allOf", "(I)I"⟩
abbrev cX8_all : ByteArray := prog_10_method_55_code
def yX8_all : MethodName := ⟨RX8, "all", "(I)I"⟩
abbrev cX8_straight : ByteArray := prog_10_method_56_code
def yX8_straight : MethodName := ⟨RX8, "straight", "(I)I"⟩
abbrev cX8_longerNow : ByteArray := prog_10_method_57_code
def yX8_longerNow : MethodName := ⟨RX8, "longerNow", "()I"⟩
abbrev cX8_longer : ByteArray := prog_10_method_58_code
def yX8_longer : MethodName := ⟨RX8, "longer", "()I"⟩
abbrev cX8_codes : ByteArray := prog_10_method_59_code
def yX8_codes : MethodName := ⟨RX8, "codes", "()I"⟩
abbrev cX8_isOrder : ByteArray := prog_10_method_60_code
def yX8_isOrder : MethodName := ⟨RX8, "isOrder", "(I)Z"⟩
abbrev cX8_triesRow : ByteArray := prog_10_method_61_code
def yX8_triesRow : MethodName := ⟨RX8, "triesRow", "()V"⟩
abbrev cX8_keepsRow : ByteArray := prog_10_method_62_code
def yX8_keepsRow : MethodName := ⟨RX8, "keepsRow", "()V"⟩
abbrev cX8_findOrders : ByteArray := prog_10_method_63_code
def yX8_findOrders : MethodName := ⟨RX8, "findOrders", "()V"⟩
abbrev cX8_orders : ByteArray := prog_10_method_64_code
def yX8_orders : MethodName := ⟨RX8, "orders", "(I)I"⟩
abbrev cX8_order : ByteArray := prog_10_method_65_code
def yX8_order : MethodName := ⟨RX8, "order", "(I)I"⟩
abbrev cX8_firstOf : ByteArray := prog_10_method_66_code
def yX8_firstOf : MethodName := ⟨RX8, "firstOf", "(I)I"⟩
abbrev cX8_first : ByteArray := prog_10_method_67_code
def yX8_first : MethodName := ⟨RX8, "first", "(I)I"⟩
abbrev cX8_findYard : ByteArray := prog_10_method_68_code
def yX8_findYard : MethodName := ⟨RX8, "findYard", "()V"⟩
abbrev cX8_yard : ByteArray := prog_10_method_69_code
def yX8_yard : MethodName := ⟨RX8, "yard", "(I)I"⟩
abbrev cX8_grits : ByteArray := prog_10_method_70_code
def yX8_grits : MethodName := ⟨RX8, "grits", "(II)I"⟩
abbrev cX8_part : ByteArray := prog_10_method_71_code
def yX8_part : MethodName := ⟨RX8, "part", "(JJI)J"⟩
abbrev cX8_leftOf : ByteArray := prog_10_method_72_code
def yX8_leftOf : MethodName := ⟨RX8, "leftOf", "(II)J"⟩
abbrev cX8_falls : ByteArray := prog_10_method_73_code
def yX8_falls : MethodName := ⟨RX8, "falls", "(I)J"⟩
abbrev cX8_isGrit : ByteArray := prog_10_method_74_code
def yX8_isGrit : MethodName := ⟨RX8, "isGrit", "(I)Z"⟩
abbrev cX8_grit : ByteArray := prog_10_method_75_code
def yX8_grit : MethodName := ⟨RX8, "grit", "(II)I"⟩
abbrev cX8_left : ByteArray := prog_10_method_76_code
def yX8_left : MethodName := ⟨RX8, "left", "(II)J"⟩
abbrev cX8_isPicture : ByteArray := prog_10_method_77_code
def yX8_isPicture : MethodName := ⟨RX8, "isPicture", "(I)Z"⟩
abbrev cX8_findTower : ByteArray := prog_10_method_78_code
def yX8_findTower : MethodName := ⟨RX8, "findTower", "(I)V"⟩
abbrev cX8_tower : ByteArray := prog_10_method_79_code
def yX8_tower : MethodName := ⟨RX8, "tower", "(II)I"⟩
abbrev cX8_towerOrder : ByteArray := prog_10_method_80_code
def yX8_towerOrder : MethodName := ⟨RX8, "towerOrder", "(II)I"⟩
abbrev cX8_hints : ByteArray := prog_10_method_81_code
def yX8_hints : MethodName := ⟨RX8, "hints", "(III)I"⟩
abbrev cX8_write : ByteArray := prog_10_method_82_code
def yX8_write : MethodName := ⟨RX8, "write", "(I)I"⟩
abbrev cX8_count : ByteArray := prog_10_method_83_code
def yX8_count : MethodName := ⟨RX8, "count", "(I)I"⟩
abbrev cX8_digest : ByteArray := prog_10_method_84_code
def yX8_digest : MethodName := ⟨RX8, "digest", "()J"⟩
def RJ13 : String := "java/lang/Long"
def TJ13 : u_T := fun k => match k with
  | _ => ("", "", "", false)
def tyJ13 : Nat → FieldType := fun k => match k with
  | _ => .int
abbrev wsJ130 : List Cond := u_ws RJ13 TJ13 0
theorem nmJ13 : ∀ a, a < 0 → ∀ b, b < 0 → a ≠ b → (TJ13 a).2.1 ≠ (TJ13 b).2.1 := by decide +kernel
theorem tyJ13_ok : ∀ k, k < 0 → parseFieldDescriptor (TJ13 k).2.2.1 = some (tyJ13 k) := by decide +kernel
abbrev cJ13_bitCount_95d88 : ByteArray := prog_11_method_50_code
def yJ13_bitCount_95d88 : MethodName := ⟨RJ13, "bitCount", "(J)I"⟩
def RJ9 : String := "java/lang/Math"
def TJ9 : u_T := fun k => match k with
  | _ => ("", "", "", false)
def tyJ9 : Nat → FieldType := fun k => match k with
  | _ => .int
abbrev wsJ90 : List Cond := u_ws RJ9 TJ9 0
theorem nmJ9 : ∀ a, a < 0 → ∀ b, b < 0 → a ≠ b → (TJ9 a).2.1 ≠ (TJ9 b).2.1 := by decide +kernel
theorem tyJ9_ok : ∀ k, k < 0 → parseFieldDescriptor (TJ9 k).2.2.1 = some (tyJ9 k) := by decide +kernel
abbrev cJ9_max_7cf53 : ByteArray := prog_12_method_65_code
def yJ9_max_7cf53 : MethodName := ⟨RJ9, "max", "(II)I"⟩
abbrev cJ9_min_7cf53 : ByteArray := prog_12_method_69_code
def yJ9_min_7cf53 : MethodName := ⟨RJ9, "min", "(II)I"⟩
def RJ10 : String := "java/lang/System"
def TJ10 : u_T := fun k => match k with
  | _ => ("", "", "", false)
def tyJ10 : Nat → FieldType := fun k => match k with
  | _ => .int
abbrev wsJ100 : List Cond := u_ws RJ10 TJ10 0
theorem nmJ10 : ∀ a, a < 0 → ∀ b, b < 0 → a ≠ b → (TJ10 a).2.1 ≠ (TJ10 b).2.1 := by decide +kernel
theorem tyJ10_ok : ∀ k, k < 0 → parseFieldDescriptor (TJ10 k).2.2.1 = some (tyJ10 k) := by decide +kernel
def RJ7 : String := "java/util/Arrays"
def TJ7 : u_T := fun k => match k with
  | _ => ("", "", "", false)
def tyJ7 : Nat → FieldType := fun k => match k with
  | _ => .int
abbrev wsJ70 : List Cond := u_ws RJ7 TJ7 0
theorem nmJ7 : ∀ a, a < 0 → ∀ b, b < 0 → a ≠ b → (TJ7 a).2.1 ≠ (TJ7 b).2.1 := by decide +kernel
theorem tyJ7_ok : ∀ k, k < 0 → parseFieldDescriptor (TJ7 k).2.2.1 = some (tyJ7 k) := by decide +kernel
abbrev cJ7_fill_d0a16 : ByteArray := prog_14_method_101_code
def yJ7_fill_d0a16 : MethodName := ⟨RJ7, "fill", "([JJ)V"⟩
abbrev cJ7_fill_53178 : ByteArray := prog_14_method_103_code
def yJ7_fill_53178 : MethodName := ⟨RJ7, "fill", "([II)V"⟩
def RL : String := "SnowPathsLaw"
abbrev cL_law : ByteArray := code
def yL_law : MethodName := ⟨RL, "law", "([I)Z"⟩
abbrev vwCl : List vw_C := [(RX0, TX0, 5), (RX1, TX1, 5), (RX2, TX2, 10), (RX3, TX3, 8), (RX4, TX4, 5), (RX5, TX5, 3), (RX6, TX6, 3), (RX7, TX7, 12), (RX8, TX8, 36)]
end
section
theorem dX0_init_0 : decode cX0_init 0 = .ok (.aload_n 0, 1) := by decide +kernel
theorem dX0_init_1 : decode cX0_init 1 = .ok (.invokespecial 3, 3) := by decide +kernel
theorem dX0_init_4 : decode cX0_init 4 = .ok (.aload_n 0, 1) := by decide +kernel
theorem dX0_init_5 : decode cX0_init 5 = .ok (.bipush 75, 2) := by decide +kernel
theorem dX0_init_7 : decode cX0_init 7 = .ok (.newarray .int, 2) := by decide +kernel
theorem dX0_init_9 : decode cX0_init 9 = .ok (.putfield 11, 3) := by decide +kernel
theorem dX0_init_12 : decode cX0_init 12 = .ok (.aload_n 0, 1) := by decide +kernel
theorem dX0_init_13 : decode cX0_init 13 = .ok (.iconst 0, 1) := by decide +kernel
theorem dX0_init_14 : decode cX0_init 14 = .ok (.putfield 15, 3) := by decide +kernel
theorem dX0_init_17 : decode cX0_init 17 = .ok (.aload_n 0, 1) := by decide +kernel
theorem dX0_init_18 : decode cX0_init 18 = .ok (.iconst 0, 1) := by decide +kernel
theorem dX0_init_19 : decode cX0_init 19 = .ok (.putfield 19, 3) := by decide +kernel
theorem dX0_init_22 : decode cX0_init 22 = .ok (.aload_n 0, 1) := by decide +kernel
theorem dX0_init_23 : decode cX0_init 23 = .ok (.lconst 0, 1) := by decide +kernel
theorem dX0_init_24 : decode cX0_init 24 = .ok (.putfield 22, 3) := by decide +kernel
theorem dX0_init_27 : decode cX0_init 27 = .ok (.aload_n 0, 1) := by decide +kernel
theorem dX0_init_28 : decode cX0_init 28 = .ok (.lconst 0, 1) := by decide +kernel
theorem dX0_init_29 : decode cX0_init 29 = .ok (.putfield 26, 3) := by decide +kernel
theorem dX0_init_32 : decode cX0_init 32 = .ok (.return_, 1) := by decide +kernel
theorem dX0_append_0 : decode cX0_append 0 = .ok (.aload_n 0, 1) := by decide +kernel
theorem dX0_append_1 : decode cX0_append 1 = .ok (.getfield 15, 3) := by decide +kernel
theorem dX0_append_4 : decode cX0_append 4 = .ok (.bipush 75, 2) := by decide +kernel
theorem dX0_append_6 : decode cX0_append 6 = .ok (.if_icmp .lt 5, 3) := by decide +kernel
theorem dX0_append_9 : decode cX0_append 9 = .ok (.iconst 0, 1) := by decide +kernel
theorem dX0_append_10 : decode cX0_append 10 = .ok (.ireturn, 1) := by decide +kernel
theorem dX0_append_11 : decode cX0_append 11 = .ok (.aload_n 0, 1) := by decide +kernel
theorem dX0_append_12 : decode cX0_append 12 = .ok (.getfield 11, 3) := by decide +kernel
theorem dX0_append_15 : decode cX0_append 15 = .ok (.aload_n 0, 1) := by decide +kernel
theorem dX0_append_16 : decode cX0_append 16 = .ok (.getfield 15, 3) := by decide +kernel
theorem dX0_append_19 : decode cX0_append 19 = .ok (.iload_n 1, 1) := by decide +kernel
theorem dX0_append_20 : decode cX0_append 20 = .ok (.iastore, 1) := by decide +kernel
theorem dX0_append_21 : decode cX0_append 21 = .ok (.aload_n 0, 1) := by decide +kernel
theorem dX0_append_22 : decode cX0_append 22 = .ok (.dup, 1) := by decide +kernel
theorem dX0_append_23 : decode cX0_append 23 = .ok (.getfield 15, 3) := by decide +kernel
theorem dX0_append_26 : decode cX0_append 26 = .ok (.iconst 1, 1) := by decide +kernel
theorem dX0_append_27 : decode cX0_append 27 = .ok (.iadd, 1) := by decide +kernel
theorem dX0_append_28 : decode cX0_append 28 = .ok (.putfield 15, 3) := by decide +kernel
theorem dX0_append_31 : decode cX0_append 31 = .ok (.aload_n 0, 1) := by decide +kernel
theorem dX0_append_32 : decode cX0_append 32 = .ok (.invokevirtual 29, 3) := by decide +kernel
theorem dX0_append_35 : decode cX0_append 35 = .ok (.iconst 1, 1) := by decide +kernel
theorem dX0_append_36 : decode cX0_append 36 = .ok (.ireturn, 1) := by decide +kernel
theorem dX0_empty_0 : decode cX0_empty 0 = .ok (.aload_n 0, 1) := by decide +kernel
theorem dX0_empty_1 : decode cX0_empty 1 = .ok (.iconst 0, 1) := by decide +kernel
theorem dX0_empty_2 : decode cX0_empty 2 = .ok (.putfield 15, 3) := by decide +kernel
theorem dX0_empty_5 : decode cX0_empty 5 = .ok (.aload_n 0, 1) := by decide +kernel
theorem dX0_empty_6 : decode cX0_empty 6 = .ok (.invokevirtual 29, 3) := by decide +kernel
theorem dX0_empty_9 : decode cX0_empty 9 = .ok (.return_, 1) := by decide +kernel
theorem dX0_kindOf_0 : decode cX0_kindOf 0 = .ok (.aload_n 0, 1) := by decide +kernel
theorem dX0_kindOf_1 : decode cX0_kindOf 1 = .ok (.getfield 22, 3) := by decide +kernel
theorem dX0_kindOf_4 : decode cX0_kindOf 4 = .ok (.iload_n 1, 1) := by decide +kernel
theorem dX0_kindOf_5 : decode cX0_kindOf 5 = .ok (.invokestatic 32, 3) := by decide +kernel
theorem dX0_kindOf_8 : decode cX0_kindOf 8 = .ok (.ifCond .eq 7, 3) := by decide +kernel
theorem dX0_kindOf_11 : decode cX0_kindOf 11 = .ok (.iconst 1, 1) := by decide +kernel
theorem dX0_kindOf_12 : decode cX0_kindOf 12 = .ok (.goto 19, 3) := by decide +kernel
theorem dX0_kindOf_15 : decode cX0_kindOf 15 = .ok (.aload_n 0, 1) := by decide +kernel
theorem dX0_kindOf_16 : decode cX0_kindOf 16 = .ok (.getfield 26, 3) := by decide +kernel
theorem dX0_kindOf_19 : decode cX0_kindOf 19 = .ok (.iload_n 1, 1) := by decide +kernel
theorem dX0_kindOf_20 : decode cX0_kindOf 20 = .ok (.invokestatic 32, 3) := by decide +kernel
theorem dX0_kindOf_23 : decode cX0_kindOf 23 = .ok (.ifCond .eq 7, 3) := by decide +kernel
theorem dX0_kindOf_26 : decode cX0_kindOf 26 = .ok (.iconst 2, 1) := by decide +kernel
theorem dX0_kindOf_27 : decode cX0_kindOf 27 = .ok (.goto 4, 3) := by decide +kernel
theorem dX0_kindOf_30 : decode cX0_kindOf 30 = .ok (.iconst 0, 1) := by decide +kernel
theorem dX0_kindOf_31 : decode cX0_kindOf 31 = .ok (.ireturn, 1) := by decide +kernel
theorem dX0_parse_0 : decode cX0_parse 0 = .ok (.aload_n 0, 1) := by decide +kernel
theorem dX0_parse_1 : decode cX0_parse 1 = .ok (.lconst 0, 1) := by decide +kernel
theorem dX0_parse_2 : decode cX0_parse 2 = .ok (.putfield 22, 3) := by decide +kernel
theorem dX0_parse_5 : decode cX0_parse 5 = .ok (.aload_n 0, 1) := by decide +kernel
theorem dX0_parse_6 : decode cX0_parse 6 = .ok (.lconst 0, 1) := by decide +kernel
theorem dX0_parse_7 : decode cX0_parse 7 = .ok (.putfield 26, 3) := by decide +kernel
theorem dX0_parse_10 : decode cX0_parse 10 = .ok (.aload_n 0, 1) := by decide +kernel
theorem dX0_parse_11 : decode cX0_parse 11 = .ok (.aload_n 0, 1) := by decide +kernel
theorem dX0_parse_12 : decode cX0_parse 12 = .ok (.invokevirtual 36, 3) := by decide +kernel
theorem dX0_parse_15 : decode cX0_parse 15 = .ok (.putfield 19, 3) := by decide +kernel
theorem dX0_parse_18 : decode cX0_parse 18 = .ok (.aload_n 0, 1) := by decide +kernel
theorem dX0_parse_19 : decode cX0_parse 19 = .ok (.getfield 19, 3) := by decide +kernel
theorem dX0_parse_22 : decode cX0_parse 22 = .ok (.iconst (-1), 1) := by decide +kernel
theorem dX0_parse_23 : decode cX0_parse 23 = .ok (.if_icmp .eq 4, 3) := by decide +kernel
theorem dX0_parse_26 : decode cX0_parse 26 = .ok (.return_, 1) := by decide +kernel
theorem dX0_parse_27 : decode cX0_parse 27 = .ok (.iconst 0, 1) := by decide +kernel
theorem dX0_parse_28 : decode cX0_parse 28 = .ok (.istore_n 1, 1) := by decide +kernel
theorem dX0_parse_29 : decode cX0_parse 29 = .ok (.iload_n 1, 1) := by decide +kernel
theorem dX0_parse_30 : decode cX0_parse 30 = .ok (.bipush 64, 2) := by decide +kernel
theorem dX0_parse_32 : decode cX0_parse 32 = .ok (.if_icmp .ge 62, 3) := by decide +kernel
theorem dX0_parse_35 : decode cX0_parse 35 = .ok (.aload_n 0, 1) := by decide +kernel
theorem dX0_parse_36 : decode cX0_parse 36 = .ok (.getfield 11, 3) := by decide +kernel
theorem dX0_parse_39 : decode cX0_parse 39 = .ok (.iload_n 1, 1) := by decide +kernel
theorem dX0_parse_40 : decode cX0_parse 40 = .ok (.iload_n 1, 1) := by decide +kernel
theorem dX0_parse_41 : decode cX0_parse 41 = .ok (.bipush 8, 2) := by decide +kernel
theorem dX0_parse_43 : decode cX0_parse 43 = .ok (.idiv, 1) := by decide +kernel
theorem dX0_parse_44 : decode cX0_parse 44 = .ok (.iadd, 1) := by decide +kernel
theorem dX0_parse_45 : decode cX0_parse 45 = .ok (.iaload, 1) := by decide +kernel
theorem dX0_parse_46 : decode cX0_parse 46 = .ok (.istore_n 2, 1) := by decide +kernel
theorem dX0_parse_47 : decode cX0_parse 47 = .ok (.iload_n 2, 1) := by decide +kernel
theorem dX0_parse_48 : decode cX0_parse 48 = .ok (.bipush 35, 2) := by decide +kernel
theorem dX0_parse_50 : decode cX0_parse 50 = .ok (.if_icmp .ne 19, 3) := by decide +kernel
theorem dX0_parse_53 : decode cX0_parse 53 = .ok (.aload_n 0, 1) := by decide +kernel
theorem dX0_parse_54 : decode cX0_parse 54 = .ok (.dup, 1) := by decide +kernel
theorem dX0_parse_55 : decode cX0_parse 55 = .ok (.getfield 22, 3) := by decide +kernel
theorem dX0_parse_58 : decode cX0_parse 58 = .ok (.iload_n 1, 1) := by decide +kernel
theorem dX0_parse_59 : decode cX0_parse 59 = .ok (.invokestatic 40, 3) := by decide +kernel
theorem dX0_parse_62 : decode cX0_parse 62 = .ok (.lor, 1) := by decide +kernel
theorem dX0_parse_63 : decode cX0_parse 63 = .ok (.putfield 22, 3) := by decide +kernel
theorem dX0_parse_66 : decode cX0_parse 66 = .ok (.goto 22, 3) := by decide +kernel
theorem dX0_parse_69 : decode cX0_parse 69 = .ok (.iload_n 2, 1) := by decide +kernel
theorem dX0_parse_70 : decode cX0_parse 70 = .ok (.bipush 111, 2) := by decide +kernel
theorem dX0_parse_72 : decode cX0_parse 72 = .ok (.if_icmp .ne 16, 3) := by decide +kernel
theorem dX0_parse_75 : decode cX0_parse 75 = .ok (.aload_n 0, 1) := by decide +kernel
theorem dX0_parse_76 : decode cX0_parse 76 = .ok (.dup, 1) := by decide +kernel
theorem dX0_parse_77 : decode cX0_parse 77 = .ok (.getfield 26, 3) := by decide +kernel
theorem dX0_parse_80 : decode cX0_parse 80 = .ok (.iload_n 1, 1) := by decide +kernel
theorem dX0_parse_81 : decode cX0_parse 81 = .ok (.invokestatic 40, 3) := by decide +kernel
theorem dX0_parse_84 : decode cX0_parse 84 = .ok (.lor, 1) := by decide +kernel
theorem dX0_parse_85 : decode cX0_parse 85 = .ok (.putfield 26, 3) := by decide +kernel
theorem dX0_parse_88 : decode cX0_parse 88 = .ok (.iinc 1 1, 3) := by decide +kernel
theorem dX0_parse_91 : decode cX0_parse 91 = .ok (.goto (-62), 3) := by decide +kernel
theorem dX0_parse_94 : decode cX0_parse 94 = .ok (.return_, 1) := by decide +kernel
theorem dX0_seekFault_0 : decode cX0_seekFault 0 = .ok (.iconst 0, 1) := by decide +kernel
theorem dX0_seekFault_1 : decode cX0_seekFault 1 = .ok (.istore_n 1, 1) := by decide +kernel
theorem dX0_seekFault_2 : decode cX0_seekFault 2 = .ok (.iload_n 1, 1) := by decide +kernel
theorem dX0_seekFault_3 : decode cX0_seekFault 3 = .ok (.bipush 71, 2) := by decide +kernel
theorem dX0_seekFault_5 : decode cX0_seekFault 5 = .ok (.if_icmp .ge 32, 3) := by decide +kernel
theorem dX0_seekFault_8 : decode cX0_seekFault 8 = .ok (.iload_n 1, 1) := by decide +kernel
theorem dX0_seekFault_9 : decode cX0_seekFault 9 = .ok (.aload_n 0, 1) := by decide +kernel
theorem dX0_seekFault_10 : decode cX0_seekFault 10 = .ok (.getfield 15, 3) := by decide +kernel
theorem dX0_seekFault_13 : decode cX0_seekFault 13 = .ok (.if_icmp .ge 16, 3) := by decide +kernel
theorem dX0_seekFault_16 : decode cX0_seekFault 16 = .ok (.iload_n 1, 1) := by decide +kernel
theorem dX0_seekFault_17 : decode cX0_seekFault 17 = .ok (.aload_n 0, 1) := by decide +kernel
theorem dX0_seekFault_18 : decode cX0_seekFault 18 = .ok (.getfield 11, 3) := by decide +kernel
theorem dX0_seekFault_21 : decode cX0_seekFault 21 = .ok (.iload_n 1, 1) := by decide +kernel
theorem dX0_seekFault_22 : decode cX0_seekFault 22 = .ok (.iaload, 1) := by decide +kernel
theorem dX0_seekFault_23 : decode cX0_seekFault 23 = .ok (.invokestatic 44, 3) := by decide +kernel
theorem dX0_seekFault_26 : decode cX0_seekFault 26 = .ok (.ifCond .ne 5, 3) := by decide +kernel
theorem dX0_seekFault_29 : decode cX0_seekFault 29 = .ok (.iload_n 1, 1) := by decide +kernel
theorem dX0_seekFault_30 : decode cX0_seekFault 30 = .ok (.ireturn, 1) := by decide +kernel
theorem dX0_seekFault_31 : decode cX0_seekFault 31 = .ok (.iinc 1 1, 3) := by decide +kernel
theorem dX0_seekFault_34 : decode cX0_seekFault 34 = .ok (.goto (-32), 3) := by decide +kernel
theorem dX0_seekFault_37 : decode cX0_seekFault 37 = .ok (.aload_n 0, 1) := by decide +kernel
theorem dX0_seekFault_38 : decode cX0_seekFault 38 = .ok (.getfield 15, 3) := by decide +kernel
theorem dX0_seekFault_41 : decode cX0_seekFault 41 = .ok (.bipush 71, 2) := by decide +kernel
theorem dX0_seekFault_43 : decode cX0_seekFault 43 = .ok (.if_icmp .le 8, 3) := by decide +kernel
theorem dX0_seekFault_46 : decode cX0_seekFault 46 = .ok (.bipush 71, 2) := by decide +kernel
theorem dX0_seekFault_48 : decode cX0_seekFault 48 = .ok (.goto 4, 3) := by decide +kernel
theorem dX0_seekFault_51 : decode cX0_seekFault 51 = .ok (.iconst (-1), 1) := by decide +kernel
theorem dX0_seekFault_52 : decode cX0_seekFault 52 = .ok (.ireturn, 1) := by decide +kernel
theorem dX0_fits_0 : decode cX0_fits 0 = .ok (.iload_n 0, 1) := by decide +kernel
theorem dX0_fits_1 : decode cX0_fits 1 = .ok (.bipush 9, 2) := by decide +kernel
theorem dX0_fits_3 : decode cX0_fits 3 = .ok (.irem, 1) := by decide +kernel
theorem dX0_fits_4 : decode cX0_fits 4 = .ok (.bipush 8, 2) := by decide +kernel
theorem dX0_fits_6 : decode cX0_fits 6 = .ok (.if_icmp .ne 15, 3) := by decide +kernel
theorem dX0_fits_9 : decode cX0_fits 9 = .ok (.iload_n 1, 1) := by decide +kernel
theorem dX0_fits_10 : decode cX0_fits 10 = .ok (.bipush 59, 2) := by decide +kernel
theorem dX0_fits_12 : decode cX0_fits 12 = .ok (.if_icmp .ne 7, 3) := by decide +kernel
theorem dX0_fits_15 : decode cX0_fits 15 = .ok (.iconst 1, 1) := by decide +kernel
theorem dX0_fits_16 : decode cX0_fits 16 = .ok (.goto 4, 3) := by decide +kernel
theorem dX0_fits_19 : decode cX0_fits 19 = .ok (.iconst 0, 1) := by decide +kernel
theorem dX0_fits_20 : decode cX0_fits 20 = .ok (.ireturn, 1) := by decide +kernel
theorem dX0_fits_21 : decode cX0_fits 21 = .ok (.iload_n 1, 1) := by decide +kernel
theorem dX0_fits_22 : decode cX0_fits 22 = .ok (.bipush 46, 2) := by decide +kernel
theorem dX0_fits_24 : decode cX0_fits 24 = .ok (.if_icmp .eq 15, 3) := by decide +kernel
theorem dX0_fits_27 : decode cX0_fits 27 = .ok (.iload_n 1, 1) := by decide +kernel
theorem dX0_fits_28 : decode cX0_fits 28 = .ok (.bipush 35, 2) := by decide +kernel
theorem dX0_fits_30 : decode cX0_fits 30 = .ok (.if_icmp .eq 9, 3) := by decide +kernel
theorem dX0_fits_33 : decode cX0_fits 33 = .ok (.iload_n 1, 1) := by decide +kernel
theorem dX0_fits_34 : decode cX0_fits 34 = .ok (.bipush 111, 2) := by decide +kernel
theorem dX0_fits_36 : decode cX0_fits 36 = .ok (.if_icmp .ne 7, 3) := by decide +kernel
theorem dX0_fits_39 : decode cX0_fits 39 = .ok (.iconst 1, 1) := by decide +kernel
theorem dX0_fits_40 : decode cX0_fits 40 = .ok (.goto 4, 3) := by decide +kernel
theorem dX0_fits_43 : decode cX0_fits 43 = .ok (.iconst 0, 1) := by decide +kernel
theorem dX0_fits_44 : decode cX0_fits 44 = .ok (.ireturn, 1) := by decide +kernel
theorem dX1_init_0 : decode cX1_init 0 = .ok (.aload_n 0, 1) := by decide +kernel
theorem dX1_init_1 : decode cX1_init 1 = .ok (.invokespecial 3, 3) := by decide +kernel
theorem dX1_init_4 : decode cX1_init 4 = .ok (.aload_n 0, 1) := by decide +kernel
theorem dX1_init_5 : decode cX1_init 5 = .ok (.bipush 64, 2) := by decide +kernel
theorem dX1_init_7 : decode cX1_init 7 = .ok (.newarray .int, 2) := by decide +kernel
theorem dX1_init_9 : decode cX1_init 9 = .ok (.putfield 9, 3) := by decide +kernel
theorem dX1_init_12 : decode cX1_init 12 = .ok (.aload_n 0, 1) := by decide +kernel
theorem dX1_init_13 : decode cX1_init 13 = .ok (.bipush 64, 2) := by decide +kernel
theorem dX1_init_15 : decode cX1_init 15 = .ok (.newarray .int, 2) := by decide +kernel
theorem dX1_init_17 : decode cX1_init 17 = .ok (.putfield 15, 3) := by decide +kernel
theorem dX1_init_20 : decode cX1_init 20 = .ok (.aload_n 0, 1) := by decide +kernel
theorem dX1_init_21 : decode cX1_init 21 = .ok (.bipush 64, 2) := by decide +kernel
theorem dX1_init_23 : decode cX1_init 23 = .ok (.newarray .int, 2) := by decide +kernel
theorem dX1_init_25 : decode cX1_init 25 = .ok (.putfield 18, 3) := by decide +kernel
theorem dX1_init_28 : decode cX1_init 28 = .ok (.aload_n 0, 1) := by decide +kernel
theorem dX1_init_29 : decode cX1_init 29 = .ok (.bipush 64, 2) := by decide +kernel
theorem dX1_init_31 : decode cX1_init 31 = .ok (.newarray .int, 2) := by decide +kernel
theorem dX1_init_33 : decode cX1_init 33 = .ok (.putfield 21, 3) := by decide +kernel
theorem dX1_init_36 : decode cX1_init 36 = .ok (.aload_n 0, 1) := by decide +kernel
theorem dX1_init_37 : decode cX1_init 37 = .ok (.bipush 64, 2) := by decide +kernel
theorem dX1_init_39 : decode cX1_init 39 = .ok (.newarray .int, 2) := by decide +kernel
theorem dX1_init_41 : decode cX1_init 41 = .ok (.putfield 24, 3) := by decide +kernel
theorem dX1_init_44 : decode cX1_init 44 = .ok (.return_, 1) := by decide +kernel
theorem dX1_addSnow_0 : decode cX1_addSnow 0 = .ok (.iconst 0, 1) := by decide +kernel
theorem dX1_addSnow_1 : decode cX1_addSnow 1 = .ok (.istore 4, 2) := by decide +kernel
theorem dX1_addSnow_3 : decode cX1_addSnow 3 = .ok (.iconst 0, 1) := by decide +kernel
theorem dX1_addSnow_4 : decode cX1_addSnow 4 = .ok (.istore 5, 2) := by decide +kernel
theorem dX1_addSnow_6 : decode cX1_addSnow 6 = .ok (.iload 5, 2) := by decide +kernel
theorem dX1_addSnow_8 : decode cX1_addSnow 8 = .ok (.bipush 64, 2) := by decide +kernel
theorem dX1_addSnow_10 : decode cX1_addSnow 10 = .ok (.if_icmp .ge 68, 3) := by decide +kernel
theorem dX1_addSnow_13 : decode cX1_addSnow 13 = .ok (.lload_n 2, 1) := by decide +kernel
theorem dX1_addSnow_14 : decode cX1_addSnow 14 = .ok (.iload 5, 2) := by decide +kernel
theorem dX1_addSnow_16 : decode cX1_addSnow 16 = .ok (.invokestatic 27, 3) := by decide +kernel
theorem dX1_addSnow_19 : decode cX1_addSnow 19 = .ok (.ifCond .eq 13, 3) := by decide +kernel
theorem dX1_addSnow_22 : decode cX1_addSnow 22 = .ok (.aload_n 0, 1) := by decide +kernel
theorem dX1_addSnow_23 : decode cX1_addSnow 23 = .ok (.getfield 9, 3) := by decide +kernel
theorem dX1_addSnow_26 : decode cX1_addSnow 26 = .ok (.iload 5, 2) := by decide +kernel
theorem dX1_addSnow_28 : decode cX1_addSnow 28 = .ok (.iaload, 1) := by decide +kernel
theorem dX1_addSnow_29 : decode cX1_addSnow 29 = .ok (.goto 17, 3) := by decide +kernel
theorem dX1_addSnow_32 : decode cX1_addSnow 32 = .ok (.bipush 30, 2) := by decide +kernel
theorem dX1_addSnow_34 : decode cX1_addSnow 34 = .ok (.aload_n 0, 1) := by decide +kernel
theorem dX1_addSnow_35 : decode cX1_addSnow 35 = .ok (.getfield 9, 3) := by decide +kernel
theorem dX1_addSnow_38 : decode cX1_addSnow 38 = .ok (.iload 5, 2) := by decide +kernel
theorem dX1_addSnow_40 : decode cX1_addSnow 40 = .ok (.iaload, 1) := by decide +kernel
theorem dX1_addSnow_41 : decode cX1_addSnow 41 = .ok (.iload_n 1, 1) := by decide +kernel
theorem dX1_addSnow_42 : decode cX1_addSnow 42 = .ok (.iadd, 1) := by decide +kernel
theorem dX1_addSnow_43 : decode cX1_addSnow 43 = .ok (.invokestatic 31, 3) := by decide +kernel
theorem dX1_addSnow_46 : decode cX1_addSnow 46 = .ok (.istore 6, 2) := by decide +kernel
theorem dX1_addSnow_48 : decode cX1_addSnow 48 = .ok (.iload 6, 2) := by decide +kernel
theorem dX1_addSnow_50 : decode cX1_addSnow 50 = .ok (.aload_n 0, 1) := by decide +kernel
theorem dX1_addSnow_51 : decode cX1_addSnow 51 = .ok (.getfield 9, 3) := by decide +kernel
theorem dX1_addSnow_54 : decode cX1_addSnow 54 = .ok (.iload 5, 2) := by decide +kernel
theorem dX1_addSnow_56 : decode cX1_addSnow 56 = .ok (.iaload, 1) := by decide +kernel
theorem dX1_addSnow_57 : decode cX1_addSnow 57 = .ok (.if_icmp .le 6, 3) := by decide +kernel
theorem dX1_addSnow_60 : decode cX1_addSnow 60 = .ok (.iinc 4 1, 3) := by decide +kernel
theorem dX1_addSnow_63 : decode cX1_addSnow 63 = .ok (.aload_n 0, 1) := by decide +kernel
theorem dX1_addSnow_64 : decode cX1_addSnow 64 = .ok (.getfield 9, 3) := by decide +kernel
theorem dX1_addSnow_67 : decode cX1_addSnow 67 = .ok (.iload 5, 2) := by decide +kernel
theorem dX1_addSnow_69 : decode cX1_addSnow 69 = .ok (.iload 6, 2) := by decide +kernel
theorem dX1_addSnow_71 : decode cX1_addSnow 71 = .ok (.iastore, 1) := by decide +kernel
theorem dX1_addSnow_72 : decode cX1_addSnow 72 = .ok (.iinc 5 1, 3) := by decide +kernel
theorem dX1_addSnow_75 : decode cX1_addSnow 75 = .ok (.goto (-69), 3) := by decide +kernel
theorem dX1_addSnow_78 : decode cX1_addSnow 78 = .ok (.iload 4, 2) := by decide +kernel
theorem dX1_addSnow_80 : decode cX1_addSnow 80 = .ok (.ireturn, 1) := by decide +kernel
theorem dX1_melt_0 : decode cX1_melt 0 = .ok (.iconst 0, 1) := by decide +kernel
theorem dX1_melt_1 : decode cX1_melt 1 = .ok (.istore_n 2, 1) := by decide +kernel
theorem dX1_melt_2 : decode cX1_melt 2 = .ok (.iconst 0, 1) := by decide +kernel
theorem dX1_melt_3 : decode cX1_melt 3 = .ok (.istore_n 3, 1) := by decide +kernel
theorem dX1_melt_4 : decode cX1_melt 4 = .ok (.iload_n 3, 1) := by decide +kernel
theorem dX1_melt_5 : decode cX1_melt 5 = .ok (.bipush 64, 2) := by decide +kernel
theorem dX1_melt_7 : decode cX1_melt 7 = .ok (.if_icmp .ge 97, 3) := by decide +kernel
theorem dX1_melt_10 : decode cX1_melt 10 = .ok (.iload_n 1, 1) := by decide +kernel
theorem dX1_melt_11 : decode cX1_melt 11 = .ok (.ifCond .le 33, 3) := by decide +kernel
theorem dX1_melt_14 : decode cX1_melt 14 = .ok (.aload_n 0, 1) := by decide +kernel
theorem dX1_melt_15 : decode cX1_melt 15 = .ok (.getfield 9, 3) := by decide +kernel
theorem dX1_melt_18 : decode cX1_melt 18 = .ok (.iload_n 3, 1) := by decide +kernel
theorem dX1_melt_19 : decode cX1_melt 19 = .ok (.iaload, 1) := by decide +kernel
theorem dX1_melt_20 : decode cX1_melt 20 = .ok (.ifCond .gt 21, 3) := by decide +kernel
theorem dX1_melt_23 : decode cX1_melt 23 = .ok (.aload_n 0, 1) := by decide +kernel
theorem dX1_melt_24 : decode cX1_melt 24 = .ok (.getfield 15, 3) := by decide +kernel
theorem dX1_melt_27 : decode cX1_melt 27 = .ok (.iload_n 3, 1) := by decide +kernel
theorem dX1_melt_28 : decode cX1_melt 28 = .ok (.iaload, 1) := by decide +kernel
theorem dX1_melt_29 : decode cX1_melt 29 = .ok (.ifCond .gt 12, 3) := by decide +kernel
theorem dX1_melt_32 : decode cX1_melt 32 = .ok (.aload_n 0, 1) := by decide +kernel
theorem dX1_melt_33 : decode cX1_melt 33 = .ok (.getfield 18, 3) := by decide +kernel
theorem dX1_melt_36 : decode cX1_melt 36 = .ok (.iload_n 3, 1) := by decide +kernel
theorem dX1_melt_37 : decode cX1_melt 37 = .ok (.iaload, 1) := by decide +kernel
theorem dX1_melt_38 : decode cX1_melt 38 = .ok (.ifCond .le 6, 3) := by decide +kernel
theorem dX1_melt_41 : decode cX1_melt 41 = .ok (.iinc 2 1, 3) := by decide +kernel
theorem dX1_melt_44 : decode cX1_melt 44 = .ok (.aload_n 0, 1) := by decide +kernel
theorem dX1_melt_45 : decode cX1_melt 45 = .ok (.getfield 9, 3) := by decide +kernel
theorem dX1_melt_48 : decode cX1_melt 48 = .ok (.iload_n 3, 1) := by decide +kernel
theorem dX1_melt_49 : decode cX1_melt 49 = .ok (.iconst 0, 1) := by decide +kernel
theorem dX1_melt_50 : decode cX1_melt 50 = .ok (.aload_n 0, 1) := by decide +kernel
theorem dX1_melt_51 : decode cX1_melt 51 = .ok (.getfield 9, 3) := by decide +kernel
theorem dX1_melt_54 : decode cX1_melt 54 = .ok (.iload_n 3, 1) := by decide +kernel
theorem dX1_melt_55 : decode cX1_melt 55 = .ok (.iaload, 1) := by decide +kernel
theorem dX1_melt_56 : decode cX1_melt 56 = .ok (.iload_n 1, 1) := by decide +kernel
theorem dX1_melt_57 : decode cX1_melt 57 = .ok (.isub, 1) := by decide +kernel
theorem dX1_melt_58 : decode cX1_melt 58 = .ok (.invokestatic 37, 3) := by decide +kernel
theorem dX1_melt_61 : decode cX1_melt 61 = .ok (.iastore, 1) := by decide +kernel
theorem dX1_melt_62 : decode cX1_melt 62 = .ok (.aload_n 0, 1) := by decide +kernel
theorem dX1_melt_63 : decode cX1_melt 63 = .ok (.getfield 15, 3) := by decide +kernel
theorem dX1_melt_66 : decode cX1_melt 66 = .ok (.iload_n 3, 1) := by decide +kernel
theorem dX1_melt_67 : decode cX1_melt 67 = .ok (.iconst 0, 1) := by decide +kernel
theorem dX1_melt_68 : decode cX1_melt 68 = .ok (.aload_n 0, 1) := by decide +kernel
theorem dX1_melt_69 : decode cX1_melt 69 = .ok (.getfield 15, 3) := by decide +kernel
theorem dX1_melt_72 : decode cX1_melt 72 = .ok (.iload_n 3, 1) := by decide +kernel
theorem dX1_melt_73 : decode cX1_melt 73 = .ok (.iaload, 1) := by decide +kernel
theorem dX1_melt_74 : decode cX1_melt 74 = .ok (.iload_n 1, 1) := by decide +kernel
theorem dX1_melt_75 : decode cX1_melt 75 = .ok (.isub, 1) := by decide +kernel
theorem dX1_melt_76 : decode cX1_melt 76 = .ok (.invokestatic 37, 3) := by decide +kernel
theorem dX1_melt_79 : decode cX1_melt 79 = .ok (.iastore, 1) := by decide +kernel
theorem dX1_melt_80 : decode cX1_melt 80 = .ok (.aload_n 0, 1) := by decide +kernel
theorem dX1_melt_81 : decode cX1_melt 81 = .ok (.getfield 18, 3) := by decide +kernel
theorem dX1_melt_84 : decode cX1_melt 84 = .ok (.iload_n 3, 1) := by decide +kernel
theorem dX1_melt_85 : decode cX1_melt 85 = .ok (.iconst 0, 1) := by decide +kernel
theorem dX1_melt_86 : decode cX1_melt 86 = .ok (.aload_n 0, 1) := by decide +kernel
theorem dX1_melt_87 : decode cX1_melt 87 = .ok (.getfield 18, 3) := by decide +kernel
theorem dX1_melt_90 : decode cX1_melt 90 = .ok (.iload_n 3, 1) := by decide +kernel
theorem dX1_melt_91 : decode cX1_melt 91 = .ok (.iaload, 1) := by decide +kernel
theorem dX1_melt_92 : decode cX1_melt 92 = .ok (.iload_n 1, 1) := by decide +kernel
theorem dX1_melt_93 : decode cX1_melt 93 = .ok (.isub, 1) := by decide +kernel
theorem dX1_melt_94 : decode cX1_melt 94 = .ok (.invokestatic 37, 3) := by decide +kernel
theorem dX1_melt_97 : decode cX1_melt 97 = .ok (.iastore, 1) := by decide +kernel
theorem dX1_melt_98 : decode cX1_melt 98 = .ok (.iinc 3 1, 3) := by decide +kernel
theorem dX1_melt_101 : decode cX1_melt 101 = .ok (.goto (-97), 3) := by decide +kernel
theorem dX1_melt_104 : decode cX1_melt 104 = .ok (.iload_n 2, 1) := by decide +kernel
theorem dX1_melt_105 : decode cX1_melt 105 = .ok (.ireturn, 1) := by decide +kernel
theorem dX1_freeze_0 : decode cX1_freeze 0 = .ok (.iconst 0, 1) := by decide +kernel
theorem dX1_freeze_1 : decode cX1_freeze 1 = .ok (.istore_n 1, 1) := by decide +kernel
theorem dX1_freeze_2 : decode cX1_freeze 2 = .ok (.iconst 0, 1) := by decide +kernel
theorem dX1_freeze_3 : decode cX1_freeze 3 = .ok (.istore_n 2, 1) := by decide +kernel
theorem dX1_freeze_4 : decode cX1_freeze 4 = .ok (.iload_n 2, 1) := by decide +kernel
theorem dX1_freeze_5 : decode cX1_freeze 5 = .ok (.bipush 64, 2) := by decide +kernel
theorem dX1_freeze_7 : decode cX1_freeze 7 = .ok (.if_icmp .ge 33, 3) := by decide +kernel
theorem dX1_freeze_10 : decode cX1_freeze 10 = .ok (.aload_n 0, 1) := by decide +kernel
theorem dX1_freeze_11 : decode cX1_freeze 11 = .ok (.getfield 18, 3) := by decide +kernel
theorem dX1_freeze_14 : decode cX1_freeze 14 = .ok (.iload_n 2, 1) := by decide +kernel
theorem dX1_freeze_15 : decode cX1_freeze 15 = .ok (.aload_n 0, 1) := by decide +kernel
theorem dX1_freeze_16 : decode cX1_freeze 16 = .ok (.getfield 15, 3) := by decide +kernel
theorem dX1_freeze_19 : decode cX1_freeze 19 = .ok (.iload_n 2, 1) := by decide +kernel
theorem dX1_freeze_20 : decode cX1_freeze 20 = .ok (.iaload, 1) := by decide +kernel
theorem dX1_freeze_21 : decode cX1_freeze 21 = .ok (.iastore, 1) := by decide +kernel
theorem dX1_freeze_22 : decode cX1_freeze 22 = .ok (.aload_n 0, 1) := by decide +kernel
theorem dX1_freeze_23 : decode cX1_freeze 23 = .ok (.getfield 18, 3) := by decide +kernel
theorem dX1_freeze_26 : decode cX1_freeze 26 = .ok (.iload_n 2, 1) := by decide +kernel
theorem dX1_freeze_27 : decode cX1_freeze 27 = .ok (.iaload, 1) := by decide +kernel
theorem dX1_freeze_28 : decode cX1_freeze 28 = .ok (.ifCond .le 6, 3) := by decide +kernel
theorem dX1_freeze_31 : decode cX1_freeze 31 = .ok (.iinc 1 1, 3) := by decide +kernel
theorem dX1_freeze_34 : decode cX1_freeze 34 = .ok (.iinc 2 1, 3) := by decide +kernel
theorem dX1_freeze_37 : decode cX1_freeze 37 = .ok (.goto (-33), 3) := by decide +kernel
theorem dX1_freeze_40 : decode cX1_freeze 40 = .ok (.iload_n 1, 1) := by decide +kernel
theorem dX1_freeze_41 : decode cX1_freeze 41 = .ok (.ireturn, 1) := by decide +kernel
theorem dX1_shovel_0 : decode cX1_shovel 0 = .ok (.aload_n 0, 1) := by decide +kernel
theorem dX1_shovel_1 : decode cX1_shovel 1 = .ok (.getfield 9, 3) := by decide +kernel
theorem dX1_shovel_4 : decode cX1_shovel 4 = .ok (.iload_n 1, 1) := by decide +kernel
theorem dX1_shovel_5 : decode cX1_shovel 5 = .ok (.iaload, 1) := by decide +kernel
theorem dX1_shovel_6 : decode cX1_shovel 6 = .ok (.aload_n 0, 1) := by decide +kernel
theorem dX1_shovel_7 : decode cX1_shovel 7 = .ok (.getfield 15, 3) := by decide +kernel
theorem dX1_shovel_10 : decode cX1_shovel 10 = .ok (.iload_n 1, 1) := by decide +kernel
theorem dX1_shovel_11 : decode cX1_shovel 11 = .ok (.iaload, 1) := by decide +kernel
theorem dX1_shovel_12 : decode cX1_shovel 12 = .ok (.iadd, 1) := by decide +kernel
theorem dX1_shovel_13 : decode cX1_shovel 13 = .ok (.istore_n 3, 1) := by decide +kernel
theorem dX1_shovel_14 : decode cX1_shovel 14 = .ok (.aload_n 0, 1) := by decide +kernel
theorem dX1_shovel_15 : decode cX1_shovel 15 = .ok (.getfield 9, 3) := by decide +kernel
theorem dX1_shovel_18 : decode cX1_shovel 18 = .ok (.iload_n 1, 1) := by decide +kernel
theorem dX1_shovel_19 : decode cX1_shovel 19 = .ok (.iconst 0, 1) := by decide +kernel
theorem dX1_shovel_20 : decode cX1_shovel 20 = .ok (.iastore, 1) := by decide +kernel
theorem dX1_shovel_21 : decode cX1_shovel 21 = .ok (.aload_n 0, 1) := by decide +kernel
theorem dX1_shovel_22 : decode cX1_shovel 22 = .ok (.getfield 15, 3) := by decide +kernel
theorem dX1_shovel_25 : decode cX1_shovel 25 = .ok (.iload_n 1, 1) := by decide +kernel
theorem dX1_shovel_26 : decode cX1_shovel 26 = .ok (.iconst 0, 1) := by decide +kernel
theorem dX1_shovel_27 : decode cX1_shovel 27 = .ok (.iastore, 1) := by decide +kernel
theorem dX1_shovel_28 : decode cX1_shovel 28 = .ok (.aload_n 0, 1) := by decide +kernel
theorem dX1_shovel_29 : decode cX1_shovel 29 = .ok (.getfield 9, 3) := by decide +kernel
theorem dX1_shovel_32 : decode cX1_shovel 32 = .ok (.iload_n 2, 1) := by decide +kernel
theorem dX1_shovel_33 : decode cX1_shovel 33 = .ok (.bipush 30, 2) := by decide +kernel
theorem dX1_shovel_35 : decode cX1_shovel 35 = .ok (.aload_n 0, 1) := by decide +kernel
theorem dX1_shovel_36 : decode cX1_shovel 36 = .ok (.getfield 9, 3) := by decide +kernel
theorem dX1_shovel_39 : decode cX1_shovel 39 = .ok (.iload_n 2, 1) := by decide +kernel
theorem dX1_shovel_40 : decode cX1_shovel 40 = .ok (.iaload, 1) := by decide +kernel
theorem dX1_shovel_41 : decode cX1_shovel 41 = .ok (.iload_n 3, 1) := by decide +kernel
theorem dX1_shovel_42 : decode cX1_shovel 42 = .ok (.iadd, 1) := by decide +kernel
theorem dX1_shovel_43 : decode cX1_shovel 43 = .ok (.invokestatic 31, 3) := by decide +kernel
theorem dX1_shovel_46 : decode cX1_shovel 46 = .ok (.iastore, 1) := by decide +kernel
theorem dX1_shovel_47 : decode cX1_shovel 47 = .ok (.iload_n 3, 1) := by decide +kernel
theorem dX1_shovel_48 : decode cX1_shovel 48 = .ok (.ireturn, 1) := by decide +kernel
theorem dX1_setSnow_0 : decode cX1_setSnow 0 = .ok (.iconst 0, 1) := by decide +kernel
theorem dX1_setSnow_1 : decode cX1_setSnow 1 = .ok (.istore_n 2, 1) := by decide +kernel
theorem dX1_setSnow_2 : decode cX1_setSnow 2 = .ok (.iload_n 2, 1) := by decide +kernel
theorem dX1_setSnow_3 : decode cX1_setSnow 3 = .ok (.aload_n 1, 1) := by decide +kernel
theorem dX1_setSnow_4 : decode cX1_setSnow 4 = .ok (.getfield 40, 3) := by decide +kernel
theorem dX1_setSnow_7 : decode cX1_setSnow 7 = .ok (.if_icmp .ge 43, 3) := by decide +kernel
theorem dX1_setSnow_10 : decode cX1_setSnow 10 = .ok (.aload_n 1, 1) := by decide +kernel
theorem dX1_setSnow_11 : decode cX1_setSnow 11 = .ok (.getfield 46, 3) := by decide +kernel
theorem dX1_setSnow_14 : decode cX1_setSnow 14 = .ok (.iload_n 2, 1) := by decide +kernel
theorem dX1_setSnow_15 : decode cX1_setSnow 15 = .ok (.iaload, 1) := by decide +kernel
theorem dX1_setSnow_16 : decode cX1_setSnow 16 = .ok (.ifCond .lt 14, 3) := by decide +kernel
theorem dX1_setSnow_19 : decode cX1_setSnow 19 = .ok (.aload_n 1, 1) := by decide +kernel
theorem dX1_setSnow_20 : decode cX1_setSnow 20 = .ok (.getfield 46, 3) := by decide +kernel
theorem dX1_setSnow_23 : decode cX1_setSnow 23 = .ok (.iload_n 2, 1) := by decide +kernel
theorem dX1_setSnow_24 : decode cX1_setSnow 24 = .ok (.iaload, 1) := by decide +kernel
theorem dX1_setSnow_25 : decode cX1_setSnow 25 = .ok (.bipush 30, 2) := by decide +kernel
theorem dX1_setSnow_27 : decode cX1_setSnow 27 = .ok (.if_icmp .le 5, 3) := by decide +kernel
theorem dX1_setSnow_30 : decode cX1_setSnow 30 = .ok (.iload_n 2, 1) := by decide +kernel
theorem dX1_setSnow_31 : decode cX1_setSnow 31 = .ok (.ireturn, 1) := by decide +kernel
theorem dX1_setSnow_32 : decode cX1_setSnow 32 = .ok (.aload_n 0, 1) := by decide +kernel
theorem dX1_setSnow_33 : decode cX1_setSnow 33 = .ok (.getfield 9, 3) := by decide +kernel
theorem dX1_setSnow_36 : decode cX1_setSnow 36 = .ok (.iload_n 2, 1) := by decide +kernel
theorem dX1_setSnow_37 : decode cX1_setSnow 37 = .ok (.aload_n 1, 1) := by decide +kernel
theorem dX1_setSnow_38 : decode cX1_setSnow 38 = .ok (.getfield 46, 3) := by decide +kernel
theorem dX1_setSnow_41 : decode cX1_setSnow 41 = .ok (.iload_n 2, 1) := by decide +kernel
theorem dX1_setSnow_42 : decode cX1_setSnow 42 = .ok (.iaload, 1) := by decide +kernel
theorem dX1_setSnow_43 : decode cX1_setSnow 43 = .ok (.iastore, 1) := by decide +kernel
theorem dX1_setSnow_44 : decode cX1_setSnow 44 = .ok (.iinc 2 1, 3) := by decide +kernel
theorem dX1_setSnow_47 : decode cX1_setSnow 47 = .ok (.goto (-45), 3) := by decide +kernel
theorem dX1_setSnow_50 : decode cX1_setSnow 50 = .ok (.aload_n 1, 1) := by decide +kernel
theorem dX1_setSnow_51 : decode cX1_setSnow 51 = .ok (.getfield 40, 3) := by decide +kernel
theorem dX1_setSnow_54 : decode cX1_setSnow 54 = .ok (.ireturn, 1) := by decide +kernel
theorem dX1_treadAs_0 : decode cX1_treadAs 0 = .ok (.iconst 0, 1) := by decide +kernel
theorem dX1_treadAs_1 : decode cX1_treadAs 1 = .ok (.istore_n 2, 1) := by decide +kernel
theorem dX1_treadAs_2 : decode cX1_treadAs 2 = .ok (.iload_n 2, 1) := by decide +kernel
theorem dX1_treadAs_3 : decode cX1_treadAs 3 = .ok (.bipush 64, 2) := by decide +kernel
theorem dX1_treadAs_5 : decode cX1_treadAs 5 = .ok (.if_icmp .ge 67, 3) := by decide +kernel
theorem dX1_treadAs_8 : decode cX1_treadAs 8 = .ok (.aload_n 0, 1) := by decide +kernel
theorem dX1_treadAs_9 : decode cX1_treadAs 9 = .ok (.getfield 15, 3) := by decide +kernel
theorem dX1_treadAs_12 : decode cX1_treadAs 12 = .ok (.iload_n 2, 1) := by decide +kernel
theorem dX1_treadAs_13 : decode cX1_treadAs 13 = .ok (.bipush 30, 2) := by decide +kernel
theorem dX1_treadAs_15 : decode cX1_treadAs 15 = .ok (.aload_n 0, 1) := by decide +kernel
theorem dX1_treadAs_16 : decode cX1_treadAs 16 = .ok (.getfield 15, 3) := by decide +kernel
theorem dX1_treadAs_19 : decode cX1_treadAs 19 = .ok (.iload_n 2, 1) := by decide +kernel
theorem dX1_treadAs_20 : decode cX1_treadAs 20 = .ok (.iaload, 1) := by decide +kernel
theorem dX1_treadAs_21 : decode cX1_treadAs 21 = .ok (.aload_n 0, 1) := by decide +kernel
theorem dX1_treadAs_22 : decode cX1_treadAs 22 = .ok (.getfield 9, 3) := by decide +kernel
theorem dX1_treadAs_25 : decode cX1_treadAs 25 = .ok (.iload_n 2, 1) := by decide +kernel
theorem dX1_treadAs_26 : decode cX1_treadAs 26 = .ok (.iaload, 1) := by decide +kernel
theorem dX1_treadAs_27 : decode cX1_treadAs 27 = .ok (.iadd, 1) := by decide +kernel
theorem dX1_treadAs_28 : decode cX1_treadAs 28 = .ok (.aload_n 1, 1) := by decide +kernel
theorem dX1_treadAs_29 : decode cX1_treadAs 29 = .ok (.getfield 49, 3) := by decide +kernel
theorem dX1_treadAs_32 : decode cX1_treadAs 32 = .ok (.iload_n 2, 1) := by decide +kernel
theorem dX1_treadAs_33 : decode cX1_treadAs 33 = .ok (.iaload, 1) := by decide +kernel
theorem dX1_treadAs_34 : decode cX1_treadAs 34 = .ok (.isub, 1) := by decide +kernel
theorem dX1_treadAs_35 : decode cX1_treadAs 35 = .ok (.invokestatic 31, 3) := by decide +kernel
theorem dX1_treadAs_38 : decode cX1_treadAs 38 = .ok (.iastore, 1) := by decide +kernel
theorem dX1_treadAs_39 : decode cX1_treadAs 39 = .ok (.aload_n 0, 1) := by decide +kernel
theorem dX1_treadAs_40 : decode cX1_treadAs 40 = .ok (.getfield 9, 3) := by decide +kernel
theorem dX1_treadAs_43 : decode cX1_treadAs 43 = .ok (.iload_n 2, 1) := by decide +kernel
theorem dX1_treadAs_44 : decode cX1_treadAs 44 = .ok (.aload_n 1, 1) := by decide +kernel
theorem dX1_treadAs_45 : decode cX1_treadAs 45 = .ok (.getfield 49, 3) := by decide +kernel
theorem dX1_treadAs_48 : decode cX1_treadAs 48 = .ok (.iload_n 2, 1) := by decide +kernel
theorem dX1_treadAs_49 : decode cX1_treadAs 49 = .ok (.iaload, 1) := by decide +kernel
theorem dX1_treadAs_50 : decode cX1_treadAs 50 = .ok (.iastore, 1) := by decide +kernel
theorem dX1_treadAs_51 : decode cX1_treadAs 51 = .ok (.aload_n 0, 1) := by decide +kernel
theorem dX1_treadAs_52 : decode cX1_treadAs 52 = .ok (.getfield 21, 3) := by decide +kernel
theorem dX1_treadAs_55 : decode cX1_treadAs 55 = .ok (.iload_n 2, 1) := by decide +kernel
theorem dX1_treadAs_56 : decode cX1_treadAs 56 = .ok (.dup2, 1) := by decide +kernel
theorem dX1_treadAs_57 : decode cX1_treadAs 57 = .ok (.iaload, 1) := by decide +kernel
theorem dX1_treadAs_58 : decode cX1_treadAs 58 = .ok (.aload_n 1, 1) := by decide +kernel
theorem dX1_treadAs_59 : decode cX1_treadAs 59 = .ok (.getfield 52, 3) := by decide +kernel
theorem dX1_treadAs_62 : decode cX1_treadAs 62 = .ok (.iload_n 2, 1) := by decide +kernel
theorem dX1_treadAs_63 : decode cX1_treadAs 63 = .ok (.iaload, 1) := by decide +kernel
theorem dX1_treadAs_64 : decode cX1_treadAs 64 = .ok (.iadd, 1) := by decide +kernel
theorem dX1_treadAs_65 : decode cX1_treadAs 65 = .ok (.iastore, 1) := by decide +kernel
theorem dX1_treadAs_66 : decode cX1_treadAs 66 = .ok (.iinc 2 1, 3) := by decide +kernel
theorem dX1_treadAs_69 : decode cX1_treadAs 69 = .ok (.goto (-67), 3) := by decide +kernel
theorem dX1_treadAs_72 : decode cX1_treadAs 72 = .ok (.return_, 1) := by decide +kernel
theorem dX2_init_0 : decode cX2_init 0 = .ok (.aload_n 0, 1) := by decide +kernel
theorem dX2_init_1 : decode cX2_init 1 = .ok (.invokespecial 3, 3) := by decide +kernel
theorem dX2_init_4 : decode cX2_init 4 = .ok (.aload_n 0, 1) := by decide +kernel
theorem dX2_init_5 : decode cX2_init 5 = .ok (.bipush 6, 2) := by decide +kernel
theorem dX2_init_7 : decode cX2_init 7 = .ok (.anewarray 9, 3) := by decide +kernel
theorem dX2_init_10 : decode cX2_init 10 = .ok (.putfield 11, 3) := by decide +kernel
theorem dX2_init_13 : decode cX2_init 13 = .ok (.aload_n 0, 1) := by decide +kernel
theorem dX2_init_14 : decode cX2_init 14 = .ok (.iconst 5, 1) := by decide +kernel
theorem dX2_init_15 : decode cX2_init 15 = .ok (.newarray .int, 2) := by decide +kernel
theorem dX2_init_17 : decode cX2_init 17 = .ok (.putfield 17, 3) := by decide +kernel
theorem dX2_init_20 : decode cX2_init 20 = .ok (.aload_n 0, 1) := by decide +kernel
theorem dX2_init_21 : decode cX2_init 21 = .ok (.iconst 5, 1) := by decide +kernel
theorem dX2_init_22 : decode cX2_init 22 = .ok (.newarray .int, 2) := by decide +kernel
theorem dX2_init_24 : decode cX2_init 24 = .ok (.putfield 21, 3) := by decide +kernel
theorem dX2_init_27 : decode cX2_init 27 = .ok (.aload_n 0, 1) := by decide +kernel
theorem dX2_init_28 : decode cX2_init 28 = .ok (.iconst 5, 1) := by decide +kernel
theorem dX2_init_29 : decode cX2_init 29 = .ok (.newarray .int, 2) := by decide +kernel
theorem dX2_init_31 : decode cX2_init 31 = .ok (.putfield 24, 3) := by decide +kernel
theorem dX2_init_34 : decode cX2_init 34 = .ok (.aload_n 0, 1) := by decide +kernel
theorem dX2_init_35 : decode cX2_init 35 = .ok (.iconst 0, 1) := by decide +kernel
theorem dX2_init_36 : decode cX2_init 36 = .ok (.putfield 27, 3) := by decide +kernel
theorem dX2_init_39 : decode cX2_init 39 = .ok (.aload_n 0, 1) := by decide +kernel
theorem dX2_init_40 : decode cX2_init 40 = .ok (.iconst 0, 1) := by decide +kernel
theorem dX2_init_41 : decode cX2_init 41 = .ok (.putfield 31, 3) := by decide +kernel
theorem dX2_init_44 : decode cX2_init 44 = .ok (.aload_n 0, 1) := by decide +kernel
theorem dX2_init_45 : decode cX2_init 45 = .ok (.iconst 0, 1) := by decide +kernel
theorem dX2_init_46 : decode cX2_init 46 = .ok (.putfield 34, 3) := by decide +kernel
theorem dX2_init_49 : decode cX2_init 49 = .ok (.aload_n 0, 1) := by decide +kernel
theorem dX2_init_50 : decode cX2_init 50 = .ok (.iconst 0, 1) := by decide +kernel
theorem dX2_init_51 : decode cX2_init 51 = .ok (.putfield 37, 3) := by decide +kernel
theorem dX2_init_54 : decode cX2_init 54 = .ok (.aload_n 0, 1) := by decide +kernel
theorem dX2_init_55 : decode cX2_init 55 = .ok (.aload_n 1, 1) := by decide +kernel
theorem dX2_init_56 : decode cX2_init 56 = .ok (.putfield 40, 3) := by decide +kernel
theorem dX2_init_59 : decode cX2_init 59 = .ok (.aload_n 0, 1) := by decide +kernel
theorem dX2_init_60 : decode cX2_init 60 = .ok (.aload_n 2, 1) := by decide +kernel
theorem dX2_init_61 : decode cX2_init 61 = .ok (.putfield 44, 3) := by decide +kernel
theorem dX2_init_64 : decode cX2_init 64 = .ok (.iconst 0, 1) := by decide +kernel
theorem dX2_init_65 : decode cX2_init 65 = .ok (.istore 4, 2) := by decide +kernel
theorem dX2_init_67 : decode cX2_init 67 = .ok (.iload 4, 2) := by decide +kernel
theorem dX2_init_69 : decode cX2_init 69 = .ok (.iconst 5, 1) := by decide +kernel
theorem dX2_init_70 : decode cX2_init 70 = .ok (.if_icmp .gt 25, 3) := by decide +kernel
theorem dX2_init_73 : decode cX2_init 73 = .ok (.aload_n 0, 1) := by decide +kernel
theorem dX2_init_74 : decode cX2_init 74 = .ok (.getfield 11, 3) := by decide +kernel
theorem dX2_init_77 : decode cX2_init 77 = .ok (.iload 4, 2) := by decide +kernel
theorem dX2_init_79 : decode cX2_init 79 = .ok (.new 9, 3) := by decide +kernel
theorem dX2_init_82 : decode cX2_init 82 = .ok (.dup, 1) := by decide +kernel
theorem dX2_init_83 : decode cX2_init 83 = .ok (.aload_n 1, 1) := by decide +kernel
theorem dX2_init_84 : decode cX2_init 84 = .ok (.aload_n 3, 1) := by decide +kernel
theorem dX2_init_85 : decode cX2_init 85 = .ok (.invokespecial 48, 3) := by decide +kernel
theorem dX2_init_88 : decode cX2_init 88 = .ok (.aastore, 1) := by decide +kernel
theorem dX2_init_89 : decode cX2_init 89 = .ok (.iinc 4 1, 3) := by decide +kernel
theorem dX2_init_92 : decode cX2_init 92 = .ok (.goto (-25), 3) := by decide +kernel
theorem dX2_init_95 : decode cX2_init 95 = .ok (.return_, 1) := by decide +kernel
theorem dX2_tryAll_0 : decode cX2_tryAll 0 = .ok (.aload_n 0, 1) := by decide +kernel
theorem dX2_tryAll_1 : decode cX2_tryAll 1 = .ok (.getfield 44, 3) := by decide +kernel
theorem dX2_tryAll_4 : decode cX2_tryAll 4 = .ok (.getfield 51, 3) := by decide +kernel
theorem dX2_tryAll_7 : decode cX2_tryAll 7 = .ok (.iconst 5, 1) := by decide +kernel
theorem dX2_tryAll_8 : decode cX2_tryAll 8 = .ok (.invokestatic 56, 3) := by decide +kernel
theorem dX2_tryAll_11 : decode cX2_tryAll 11 = .ok (.istore_n 3, 1) := by decide +kernel
theorem dX2_tryAll_12 : decode cX2_tryAll 12 = .ok (.iconst 0, 1) := by decide +kernel
theorem dX2_tryAll_13 : decode cX2_tryAll 13 = .ok (.istore 4, 2) := by decide +kernel
theorem dX2_tryAll_15 : decode cX2_tryAll 15 = .ok (.iload 4, 2) := by decide +kernel
theorem dX2_tryAll_17 : decode cX2_tryAll 17 = .ok (.iload_n 3, 1) := by decide +kernel
theorem dX2_tryAll_18 : decode cX2_tryAll 18 = .ok (.if_icmp .ge 18, 3) := by decide +kernel
theorem dX2_tryAll_21 : decode cX2_tryAll 21 = .ok (.aload_n 0, 1) := by decide +kernel
theorem dX2_tryAll_22 : decode cX2_tryAll 22 = .ok (.getfield 17, 3) := by decide +kernel
theorem dX2_tryAll_25 : decode cX2_tryAll 25 = .ok (.iload 4, 2) := by decide +kernel
theorem dX2_tryAll_27 : decode cX2_tryAll 27 = .ok (.iload 4, 2) := by decide +kernel
theorem dX2_tryAll_29 : decode cX2_tryAll 29 = .ok (.iastore, 1) := by decide +kernel
theorem dX2_tryAll_30 : decode cX2_tryAll 30 = .ok (.iinc 4 1, 3) := by decide +kernel
theorem dX2_tryAll_33 : decode cX2_tryAll 33 = .ok (.goto (-18), 3) := by decide +kernel
theorem dX2_tryAll_36 : decode cX2_tryAll 36 = .ok (.aload_n 0, 1) := by decide +kernel
theorem dX2_tryAll_37 : decode cX2_tryAll 37 = .ok (.iconst 0, 1) := by decide +kernel
theorem dX2_tryAll_38 : decode cX2_tryAll 38 = .ok (.putfield 34, 3) := by decide +kernel
theorem dX2_tryAll_41 : decode cX2_tryAll 41 = .ok (.aload_n 0, 1) := by decide +kernel
theorem dX2_tryAll_42 : decode cX2_tryAll 42 = .ok (.iconst 0, 1) := by decide +kernel
theorem dX2_tryAll_43 : decode cX2_tryAll 43 = .ok (.putfield 37, 3) := by decide +kernel
theorem dX2_tryAll_46 : decode cX2_tryAll 46 = .ok (.aload_n 0, 1) := by decide +kernel
theorem dX2_tryAll_47 : decode cX2_tryAll 47 = .ok (.getfield 11, 3) := by decide +kernel
theorem dX2_tryAll_50 : decode cX2_tryAll 50 = .ok (.iconst 0, 1) := by decide +kernel
theorem dX2_tryAll_51 : decode cX2_tryAll 51 = .ok (.aaload, 1) := by decide +kernel
theorem dX2_tryAll_52 : decode cX2_tryAll 52 = .ok (.aload_n 1, 1) := by decide +kernel
theorem dX2_tryAll_53 : decode cX2_tryAll 53 = .ok (.invokevirtual 62, 3) := by decide +kernel
theorem dX2_tryAll_56 : decode cX2_tryAll 56 = .ok (.iconst 0, 1) := by decide +kernel
theorem dX2_tryAll_57 : decode cX2_tryAll 57 = .ok (.istore 4, 2) := by decide +kernel
theorem dX2_tryAll_59 : decode cX2_tryAll 59 = .ok (.iconst 0, 1) := by decide +kernel
theorem dX2_tryAll_60 : decode cX2_tryAll 60 = .ok (.istore 5, 2) := by decide +kernel
theorem dX2_tryAll_62 : decode cX2_tryAll 62 = .ok (.iload 5, 2) := by decide +kernel
theorem dX2_tryAll_64 : decode cX2_tryAll 64 = .ok (.bipush 120, 2) := by decide +kernel
theorem dX2_tryAll_66 : decode cX2_tryAll 66 = .ok (.if_icmp .ge 77, 3) := by decide +kernel
theorem dX2_tryAll_69 : decode cX2_tryAll 69 = .ok (.iload 4, 2) := by decide +kernel
theorem dX2_tryAll_71 : decode cX2_tryAll 71 = .ok (.iconst (-1), 1) := by decide +kernel
theorem dX2_tryAll_72 : decode cX2_tryAll 72 = .ok (.if_icmp .eq 71, 3) := by decide +kernel
theorem dX2_tryAll_75 : decode cX2_tryAll 75 = .ok (.aload_n 0, 1) := by decide +kernel
theorem dX2_tryAll_76 : decode cX2_tryAll 76 = .ok (.iload 4, 2) := by decide +kernel
theorem dX2_tryAll_78 : decode cX2_tryAll 78 = .ok (.iload_n 3, 1) := by decide +kernel
theorem dX2_tryAll_79 : decode cX2_tryAll 79 = .ok (.invokevirtual 66, 3) := by decide +kernel
theorem dX2_tryAll_82 : decode cX2_tryAll 82 = .ok (.aload_n 0, 1) := by decide +kernel
theorem dX2_tryAll_83 : decode cX2_tryAll 83 = .ok (.aload_n 0, 1) := by decide +kernel
theorem dX2_tryAll_84 : decode cX2_tryAll 84 = .ok (.getfield 11, 3) := by decide +kernel
theorem dX2_tryAll_87 : decode cX2_tryAll 87 = .ok (.iload_n 3, 1) := by decide +kernel
theorem dX2_tryAll_88 : decode cX2_tryAll 88 = .ok (.aaload, 1) := by decide +kernel
theorem dX2_tryAll_89 : decode cX2_tryAll 89 = .ok (.getfield 70, 3) := by decide +kernel
theorem dX2_tryAll_92 : decode cX2_tryAll 92 = .ok (.iload 5, 2) := by decide +kernel
theorem dX2_tryAll_94 : decode cX2_tryAll 94 = .ok (.ifCond .ne 7, 3) := by decide +kernel
theorem dX2_tryAll_97 : decode cX2_tryAll 97 = .ok (.iconst 1, 1) := by decide +kernel
theorem dX2_tryAll_98 : decode cX2_tryAll 98 = .ok (.goto 4, 3) := by decide +kernel
theorem dX2_tryAll_101 : decode cX2_tryAll 101 = .ok (.iconst 0, 1) := by decide +kernel
theorem dX2_tryAll_102 : decode cX2_tryAll 102 = .ok (.invokevirtual 73, 3) := by decide +kernel
theorem dX2_tryAll_105 : decode cX2_tryAll 105 = .ok (.aload_n 2, 1) := by decide +kernel
theorem dX2_tryAll_106 : decode cX2_tryAll 106 = .ok (.ifnull 24, 3) := by decide +kernel
theorem dX2_tryAll_109 : decode cX2_tryAll 109 = .ok (.aload_n 2, 1) := by decide +kernel
theorem dX2_tryAll_110 : decode cX2_tryAll 110 = .ok (.aload_n 0, 1) := by decide +kernel
theorem dX2_tryAll_111 : decode cX2_tryAll 111 = .ok (.getfield 11, 3) := by decide +kernel
theorem dX2_tryAll_114 : decode cX2_tryAll 114 = .ok (.iload_n 3, 1) := by decide +kernel
theorem dX2_tryAll_115 : decode cX2_tryAll 115 = .ok (.aaload, 1) := by decide +kernel
theorem dX2_tryAll_116 : decode cX2_tryAll 116 = .ok (.getfield 77, 3) := by decide +kernel
theorem dX2_tryAll_119 : decode cX2_tryAll 119 = .ok (.invokevirtual 80, 3) := by decide +kernel
theorem dX2_tryAll_122 : decode cX2_tryAll 122 = .ok (.ifCond .eq 8, 3) := by decide +kernel
theorem dX2_tryAll_125 : decode cX2_tryAll 125 = .ok (.aload_n 0, 1) := by decide +kernel
theorem dX2_tryAll_126 : decode cX2_tryAll 126 = .ok (.iload_n 3, 1) := by decide +kernel
theorem dX2_tryAll_127 : decode cX2_tryAll 127 = .ok (.invokevirtual 86, 3) := by decide +kernel
theorem dX2_tryAll_130 : decode cX2_tryAll 130 = .ok (.aload_n 0, 1) := by decide +kernel
theorem dX2_tryAll_131 : decode cX2_tryAll 131 = .ok (.iload_n 3, 1) := by decide +kernel
theorem dX2_tryAll_132 : decode cX2_tryAll 132 = .ok (.invokevirtual 90, 3) := by decide +kernel
theorem dX2_tryAll_135 : decode cX2_tryAll 135 = .ok (.istore 4, 2) := by decide +kernel
theorem dX2_tryAll_137 : decode cX2_tryAll 137 = .ok (.iinc 5 1, 3) := by decide +kernel
theorem dX2_tryAll_140 : decode cX2_tryAll 140 = .ok (.goto (-78), 3) := by decide +kernel
theorem dX2_tryAll_143 : decode cX2_tryAll 143 = .ok (.return_, 1) := by decide +kernel
theorem dX2_sendFrom_0 : decode cX2_sendFrom 0 = .ok (.iload_n 1, 1) := by decide +kernel
theorem dX2_sendFrom_1 : decode cX2_sendFrom 1 = .ok (.istore_n 3, 1) := by decide +kernel
theorem dX2_sendFrom_2 : decode cX2_sendFrom 2 = .ok (.iload_n 3, 1) := by decide +kernel
theorem dX2_sendFrom_3 : decode cX2_sendFrom 3 = .ok (.iload_n 2, 1) := by decide +kernel
theorem dX2_sendFrom_4 : decode cX2_sendFrom 4 = .ok (.if_icmp .ge 73, 3) := by decide +kernel
theorem dX2_sendFrom_7 : decode cX2_sendFrom 7 = .ok (.aload_n 0, 1) := by decide +kernel
theorem dX2_sendFrom_8 : decode cX2_sendFrom 8 = .ok (.getfield 11, 3) := by decide +kernel
theorem dX2_sendFrom_11 : decode cX2_sendFrom 11 = .ok (.iload_n 3, 1) := by decide +kernel
theorem dX2_sendFrom_12 : decode cX2_sendFrom 12 = .ok (.iconst 1, 1) := by decide +kernel
theorem dX2_sendFrom_13 : decode cX2_sendFrom 13 = .ok (.iadd, 1) := by decide +kernel
theorem dX2_sendFrom_14 : decode cX2_sendFrom 14 = .ok (.aaload, 1) := by decide +kernel
theorem dX2_sendFrom_15 : decode cX2_sendFrom 15 = .ok (.aload_n 0, 1) := by decide +kernel
theorem dX2_sendFrom_16 : decode cX2_sendFrom 16 = .ok (.getfield 11, 3) := by decide +kernel
theorem dX2_sendFrom_19 : decode cX2_sendFrom 19 = .ok (.iload_n 3, 1) := by decide +kernel
theorem dX2_sendFrom_20 : decode cX2_sendFrom 20 = .ok (.aaload, 1) := by decide +kernel
theorem dX2_sendFrom_21 : decode cX2_sendFrom 21 = .ok (.invokevirtual 94, 3) := by decide +kernel
theorem dX2_sendFrom_24 : decode cX2_sendFrom 24 = .ok (.aload_n 0, 1) := by decide +kernel
theorem dX2_sendFrom_25 : decode cX2_sendFrom 25 = .ok (.getfield 11, 3) := by decide +kernel
theorem dX2_sendFrom_28 : decode cX2_sendFrom 28 = .ok (.iload_n 3, 1) := by decide +kernel
theorem dX2_sendFrom_29 : decode cX2_sendFrom 29 = .ok (.iconst 1, 1) := by decide +kernel
theorem dX2_sendFrom_30 : decode cX2_sendFrom 30 = .ok (.iadd, 1) := by decide +kernel
theorem dX2_sendFrom_31 : decode cX2_sendFrom 31 = .ok (.aaload, 1) := by decide +kernel
theorem dX2_sendFrom_32 : decode cX2_sendFrom 32 = .ok (.aload_n 0, 1) := by decide +kernel
theorem dX2_sendFrom_33 : decode cX2_sendFrom 33 = .ok (.getfield 44, 3) := by decide +kernel
theorem dX2_sendFrom_36 : decode cX2_sendFrom 36 = .ok (.getfield 98, 3) := by decide +kernel
theorem dX2_sendFrom_39 : decode cX2_sendFrom 39 = .ok (.aload_n 0, 1) := by decide +kernel
theorem dX2_sendFrom_40 : decode cX2_sendFrom 40 = .ok (.getfield 17, 3) := by decide +kernel
theorem dX2_sendFrom_43 : decode cX2_sendFrom 43 = .ok (.iload_n 3, 1) := by decide +kernel
theorem dX2_sendFrom_44 : decode cX2_sendFrom 44 = .ok (.iaload, 1) := by decide +kernel
theorem dX2_sendFrom_45 : decode cX2_sendFrom 45 = .ok (.iaload, 1) := by decide +kernel
theorem dX2_sendFrom_46 : decode cX2_sendFrom 46 = .ok (.aload_n 0, 1) := by decide +kernel
theorem dX2_sendFrom_47 : decode cX2_sendFrom 47 = .ok (.getfield 44, 3) := by decide +kernel
theorem dX2_sendFrom_50 : decode cX2_sendFrom 50 = .ok (.getfield 101, 3) := by decide +kernel
theorem dX2_sendFrom_53 : decode cX2_sendFrom 53 = .ok (.aload_n 0, 1) := by decide +kernel
theorem dX2_sendFrom_54 : decode cX2_sendFrom 54 = .ok (.getfield 17, 3) := by decide +kernel
theorem dX2_sendFrom_57 : decode cX2_sendFrom 57 = .ok (.iload_n 3, 1) := by decide +kernel
theorem dX2_sendFrom_58 : decode cX2_sendFrom 58 = .ok (.iaload, 1) := by decide +kernel
theorem dX2_sendFrom_59 : decode cX2_sendFrom 59 = .ok (.iaload, 1) := by decide +kernel
theorem dX2_sendFrom_60 : decode cX2_sendFrom 60 = .ok (.aload_n 0, 1) := by decide +kernel
theorem dX2_sendFrom_61 : decode cX2_sendFrom 61 = .ok (.getfield 40, 3) := by decide +kernel
theorem dX2_sendFrom_64 : decode cX2_sendFrom 64 = .ok (.getfield 104, 3) := by decide +kernel
theorem dX2_sendFrom_67 : decode cX2_sendFrom 67 = .ok (.invokevirtual 110, 3) := by decide +kernel
theorem dX2_sendFrom_70 : decode cX2_sendFrom 70 = .ok (.pop, 1) := by decide +kernel
theorem dX2_sendFrom_71 : decode cX2_sendFrom 71 = .ok (.iinc 3 1, 3) := by decide +kernel
theorem dX2_sendFrom_74 : decode cX2_sendFrom 74 = .ok (.goto (-72), 3) := by decide +kernel
theorem dX2_sendFrom_77 : decode cX2_sendFrom 77 = .ok (.return_, 1) := by decide +kernel
theorem dX2_weigh_0 : decode cX2_weigh 0 = .ok (.iload_n 2, 1) := by decide +kernel
theorem dX2_weigh_1 : decode cX2_weigh 1 = .ok (.ifCond .ne 11, 3) := by decide +kernel
theorem dX2_weigh_4 : decode cX2_weigh 4 = .ok (.iload_n 1, 1) := by decide +kernel
theorem dX2_weigh_5 : decode cX2_weigh 5 = .ok (.aload_n 0, 1) := by decide +kernel
theorem dX2_weigh_6 : decode cX2_weigh 6 = .ok (.getfield 27, 3) := by decide +kernel
theorem dX2_weigh_9 : decode cX2_weigh 9 = .ok (.if_icmp .ge 22, 3) := by decide +kernel
theorem dX2_weigh_12 : decode cX2_weigh 12 = .ok (.aload_n 0, 1) := by decide +kernel
theorem dX2_weigh_13 : decode cX2_weigh 13 = .ok (.iload_n 1, 1) := by decide +kernel
theorem dX2_weigh_14 : decode cX2_weigh 14 = .ok (.putfield 27, 3) := by decide +kernel
theorem dX2_weigh_17 : decode cX2_weigh 17 = .ok (.aload_n 0, 1) := by decide +kernel
theorem dX2_weigh_18 : decode cX2_weigh 18 = .ok (.getfield 17, 3) := by decide +kernel
theorem dX2_weigh_21 : decode cX2_weigh 21 = .ok (.iconst 0, 1) := by decide +kernel
theorem dX2_weigh_22 : decode cX2_weigh 22 = .ok (.aload_n 0, 1) := by decide +kernel
theorem dX2_weigh_23 : decode cX2_weigh 23 = .ok (.getfield 21, 3) := by decide +kernel
theorem dX2_weigh_26 : decode cX2_weigh 26 = .ok (.iconst 0, 1) := by decide +kernel
theorem dX2_weigh_27 : decode cX2_weigh 27 = .ok (.iconst 5, 1) := by decide +kernel
theorem dX2_weigh_28 : decode cX2_weigh 28 = .ok (.invokestatic 114, 3) := by decide +kernel
theorem dX2_weigh_31 : decode cX2_weigh 31 = .ok (.iload_n 2, 1) := by decide +kernel
theorem dX2_weigh_32 : decode cX2_weigh 32 = .ok (.ifCond .ne 11, 3) := by decide +kernel
theorem dX2_weigh_35 : decode cX2_weigh 35 = .ok (.iload_n 1, 1) := by decide +kernel
theorem dX2_weigh_36 : decode cX2_weigh 36 = .ok (.aload_n 0, 1) := by decide +kernel
theorem dX2_weigh_37 : decode cX2_weigh 37 = .ok (.getfield 31, 3) := by decide +kernel
theorem dX2_weigh_40 : decode cX2_weigh 40 = .ok (.if_icmp .le 8, 3) := by decide +kernel
theorem dX2_weigh_43 : decode cX2_weigh 43 = .ok (.aload_n 0, 1) := by decide +kernel
theorem dX2_weigh_44 : decode cX2_weigh 44 = .ok (.iload_n 1, 1) := by decide +kernel
theorem dX2_weigh_45 : decode cX2_weigh 45 = .ok (.putfield 31, 3) := by decide +kernel
theorem dX2_weigh_48 : decode cX2_weigh 48 = .ok (.return_, 1) := by decide +kernel
theorem dX2_keepAlike_0 : decode cX2_keepAlike 0 = .ok (.aload_n 0, 1) := by decide +kernel
theorem dX2_keepAlike_1 : decode cX2_keepAlike 1 = .ok (.getfield 34, 3) := by decide +kernel
theorem dX2_keepAlike_4 : decode cX2_keepAlike 4 = .ok (.ifCond .ne 17, 3) := by decide +kernel
theorem dX2_keepAlike_7 : decode cX2_keepAlike 7 = .ok (.aload_n 0, 1) := by decide +kernel
theorem dX2_keepAlike_8 : decode cX2_keepAlike 8 = .ok (.getfield 17, 3) := by decide +kernel
theorem dX2_keepAlike_11 : decode cX2_keepAlike 11 = .ok (.iconst 0, 1) := by decide +kernel
theorem dX2_keepAlike_12 : decode cX2_keepAlike 12 = .ok (.aload_n 0, 1) := by decide +kernel
theorem dX2_keepAlike_13 : decode cX2_keepAlike 13 = .ok (.getfield 24, 3) := by decide +kernel
theorem dX2_keepAlike_16 : decode cX2_keepAlike 16 = .ok (.iconst 0, 1) := by decide +kernel
theorem dX2_keepAlike_17 : decode cX2_keepAlike 17 = .ok (.iconst 5, 1) := by decide +kernel
theorem dX2_keepAlike_18 : decode cX2_keepAlike 18 = .ok (.invokestatic 114, 3) := by decide +kernel
theorem dX2_keepAlike_21 : decode cX2_keepAlike 21 = .ok (.aload_n 0, 1) := by decide +kernel
theorem dX2_keepAlike_22 : decode cX2_keepAlike 22 = .ok (.dup, 1) := by decide +kernel
theorem dX2_keepAlike_23 : decode cX2_keepAlike 23 = .ok (.getfield 34, 3) := by decide +kernel
theorem dX2_keepAlike_26 : decode cX2_keepAlike 26 = .ok (.iconst 1, 1) := by decide +kernel
theorem dX2_keepAlike_27 : decode cX2_keepAlike 27 = .ok (.iadd, 1) := by decide +kernel
theorem dX2_keepAlike_28 : decode cX2_keepAlike 28 = .ok (.putfield 34, 3) := by decide +kernel
theorem dX2_keepAlike_31 : decode cX2_keepAlike 31 = .ok (.iload_n 1, 1) := by decide +kernel
theorem dX2_keepAlike_32 : decode cX2_keepAlike 32 = .ok (.ifCond .le 20, 3) := by decide +kernel
theorem dX2_keepAlike_35 : decode cX2_keepAlike 35 = .ok (.aload_n 0, 1) := by decide +kernel
theorem dX2_keepAlike_36 : decode cX2_keepAlike 36 = .ok (.dup, 1) := by decide +kernel
theorem dX2_keepAlike_37 : decode cX2_keepAlike 37 = .ok (.getfield 37, 3) := by decide +kernel
theorem dX2_keepAlike_40 : decode cX2_keepAlike 40 = .ok (.iconst 1, 1) := by decide +kernel
theorem dX2_keepAlike_41 : decode cX2_keepAlike 41 = .ok (.aload_n 0, 1) := by decide +kernel
theorem dX2_keepAlike_42 : decode cX2_keepAlike 42 = .ok (.getfield 17, 3) := by decide +kernel
theorem dX2_keepAlike_45 : decode cX2_keepAlike 45 = .ok (.iconst 0, 1) := by decide +kernel
theorem dX2_keepAlike_46 : decode cX2_keepAlike 46 = .ok (.iaload, 1) := by decide +kernel
theorem dX2_keepAlike_47 : decode cX2_keepAlike 47 = .ok (.ishl, 1) := by decide +kernel
theorem dX2_keepAlike_48 : decode cX2_keepAlike 48 = .ok (.ior, 1) := by decide +kernel
theorem dX2_keepAlike_49 : decode cX2_keepAlike 49 = .ok (.putfield 37, 3) := by decide +kernel
theorem dX2_keepAlike_52 : decode cX2_keepAlike 52 = .ok (.return_, 1) := by decide +kernel
theorem dX2_advance_0 : decode cX2_advance 0 = .ok (.iload_n 1, 1) := by decide +kernel
theorem dX2_advance_1 : decode cX2_advance 1 = .ok (.iconst 2, 1) := by decide +kernel
theorem dX2_advance_2 : decode cX2_advance 2 = .ok (.isub, 1) := by decide +kernel
theorem dX2_advance_3 : decode cX2_advance 3 = .ok (.istore_n 2, 1) := by decide +kernel
theorem dX2_advance_4 : decode cX2_advance 4 = .ok (.iload_n 2, 1) := by decide +kernel
theorem dX2_advance_5 : decode cX2_advance 5 = .ok (.ifCond .lt 26, 3) := by decide +kernel
theorem dX2_advance_8 : decode cX2_advance 8 = .ok (.aload_n 0, 1) := by decide +kernel
theorem dX2_advance_9 : decode cX2_advance 9 = .ok (.getfield 17, 3) := by decide +kernel
theorem dX2_advance_12 : decode cX2_advance 12 = .ok (.iload_n 2, 1) := by decide +kernel
theorem dX2_advance_13 : decode cX2_advance 13 = .ok (.iaload, 1) := by decide +kernel
theorem dX2_advance_14 : decode cX2_advance 14 = .ok (.aload_n 0, 1) := by decide +kernel
theorem dX2_advance_15 : decode cX2_advance 15 = .ok (.getfield 17, 3) := by decide +kernel
theorem dX2_advance_18 : decode cX2_advance 18 = .ok (.iload_n 2, 1) := by decide +kernel
theorem dX2_advance_19 : decode cX2_advance 19 = .ok (.iconst 1, 1) := by decide +kernel
theorem dX2_advance_20 : decode cX2_advance 20 = .ok (.iadd, 1) := by decide +kernel
theorem dX2_advance_21 : decode cX2_advance 21 = .ok (.iaload, 1) := by decide +kernel
theorem dX2_advance_22 : decode cX2_advance 22 = .ok (.if_icmp .le 9, 3) := by decide +kernel
theorem dX2_advance_25 : decode cX2_advance 25 = .ok (.iinc 2 (-1), 3) := by decide +kernel
theorem dX2_advance_28 : decode cX2_advance 28 = .ok (.goto (-24), 3) := by decide +kernel
theorem dX2_advance_31 : decode cX2_advance 31 = .ok (.iload_n 2, 1) := by decide +kernel
theorem dX2_advance_32 : decode cX2_advance 32 = .ok (.ifCond .ge 5, 3) := by decide +kernel
theorem dX2_advance_35 : decode cX2_advance 35 = .ok (.iconst (-1), 1) := by decide +kernel
theorem dX2_advance_36 : decode cX2_advance 36 = .ok (.ireturn, 1) := by decide +kernel
theorem dX2_advance_37 : decode cX2_advance 37 = .ok (.iload_n 1, 1) := by decide +kernel
theorem dX2_advance_38 : decode cX2_advance 38 = .ok (.iconst 1, 1) := by decide +kernel
theorem dX2_advance_39 : decode cX2_advance 39 = .ok (.isub, 1) := by decide +kernel
theorem dX2_advance_40 : decode cX2_advance 40 = .ok (.istore_n 3, 1) := by decide +kernel
theorem dX2_advance_41 : decode cX2_advance 41 = .ok (.iload_n 3, 1) := by decide +kernel
theorem dX2_advance_42 : decode cX2_advance 42 = .ok (.iload_n 2, 1) := by decide +kernel
theorem dX2_advance_43 : decode cX2_advance 43 = .ok (.if_icmp .le 24, 3) := by decide +kernel
theorem dX2_advance_46 : decode cX2_advance 46 = .ok (.aload_n 0, 1) := by decide +kernel
theorem dX2_advance_47 : decode cX2_advance 47 = .ok (.getfield 17, 3) := by decide +kernel
theorem dX2_advance_50 : decode cX2_advance 50 = .ok (.iload_n 3, 1) := by decide +kernel
theorem dX2_advance_51 : decode cX2_advance 51 = .ok (.iaload, 1) := by decide +kernel
theorem dX2_advance_52 : decode cX2_advance 52 = .ok (.aload_n 0, 1) := by decide +kernel
theorem dX2_advance_53 : decode cX2_advance 53 = .ok (.getfield 17, 3) := by decide +kernel
theorem dX2_advance_56 : decode cX2_advance 56 = .ok (.iload_n 2, 1) := by decide +kernel
theorem dX2_advance_57 : decode cX2_advance 57 = .ok (.iaload, 1) := by decide +kernel
theorem dX2_advance_58 : decode cX2_advance 58 = .ok (.if_icmp .ge 9, 3) := by decide +kernel
theorem dX2_advance_61 : decode cX2_advance 61 = .ok (.iinc 3 (-1), 3) := by decide +kernel
theorem dX2_advance_64 : decode cX2_advance 64 = .ok (.goto (-23), 3) := by decide +kernel
theorem dX2_advance_67 : decode cX2_advance 67 = .ok (.aload_n 0, 1) := by decide +kernel
theorem dX2_advance_68 : decode cX2_advance 68 = .ok (.iload_n 2, 1) := by decide +kernel
theorem dX2_advance_69 : decode cX2_advance 69 = .ok (.iload_n 3, 1) := by decide +kernel
theorem dX2_advance_70 : decode cX2_advance 70 = .ok (.invokevirtual 120, 3) := by decide +kernel
theorem dX2_advance_73 : decode cX2_advance 73 = .ok (.iload_n 2, 1) := by decide +kernel
theorem dX2_advance_74 : decode cX2_advance 74 = .ok (.iconst 1, 1) := by decide +kernel
theorem dX2_advance_75 : decode cX2_advance 75 = .ok (.iadd, 1) := by decide +kernel
theorem dX2_advance_76 : decode cX2_advance 76 = .ok (.istore 4, 2) := by decide +kernel
theorem dX2_advance_78 : decode cX2_advance 78 = .ok (.iload_n 1, 1) := by decide +kernel
theorem dX2_advance_79 : decode cX2_advance 79 = .ok (.iconst 1, 1) := by decide +kernel
theorem dX2_advance_80 : decode cX2_advance 80 = .ok (.isub, 1) := by decide +kernel
theorem dX2_advance_81 : decode cX2_advance 81 = .ok (.istore 5, 2) := by decide +kernel
theorem dX2_advance_83 : decode cX2_advance 83 = .ok (.iload 4, 2) := by decide +kernel
theorem dX2_advance_85 : decode cX2_advance 85 = .ok (.iload 5, 2) := by decide +kernel
theorem dX2_advance_87 : decode cX2_advance 87 = .ok (.if_icmp .ge 20, 3) := by decide +kernel
theorem dX2_advance_90 : decode cX2_advance 90 = .ok (.aload_n 0, 1) := by decide +kernel
theorem dX2_advance_91 : decode cX2_advance 91 = .ok (.iload 4, 2) := by decide +kernel
theorem dX2_advance_93 : decode cX2_advance 93 = .ok (.iload 5, 2) := by decide +kernel
theorem dX2_advance_95 : decode cX2_advance 95 = .ok (.invokevirtual 120, 3) := by decide +kernel
theorem dX2_advance_98 : decode cX2_advance 98 = .ok (.iinc 4 1, 3) := by decide +kernel
theorem dX2_advance_101 : decode cX2_advance 101 = .ok (.iinc 5 (-1), 3) := by decide +kernel
theorem dX2_advance_104 : decode cX2_advance 104 = .ok (.goto (-21), 3) := by decide +kernel
theorem dX2_advance_107 : decode cX2_advance 107 = .ok (.iload_n 2, 1) := by decide +kernel
theorem dX2_advance_108 : decode cX2_advance 108 = .ok (.ireturn, 1) := by decide +kernel
theorem dX2_swap_0 : decode cX2_swap 0 = .ok (.aload_n 0, 1) := by decide +kernel
theorem dX2_swap_1 : decode cX2_swap 1 = .ok (.getfield 17, 3) := by decide +kernel
theorem dX2_swap_4 : decode cX2_swap 4 = .ok (.iload_n 1, 1) := by decide +kernel
theorem dX2_swap_5 : decode cX2_swap 5 = .ok (.iaload, 1) := by decide +kernel
theorem dX2_swap_6 : decode cX2_swap 6 = .ok (.istore_n 3, 1) := by decide +kernel
theorem dX2_swap_7 : decode cX2_swap 7 = .ok (.aload_n 0, 1) := by decide +kernel
theorem dX2_swap_8 : decode cX2_swap 8 = .ok (.getfield 17, 3) := by decide +kernel
theorem dX2_swap_11 : decode cX2_swap 11 = .ok (.iload_n 1, 1) := by decide +kernel
theorem dX2_swap_12 : decode cX2_swap 12 = .ok (.aload_n 0, 1) := by decide +kernel
theorem dX2_swap_13 : decode cX2_swap 13 = .ok (.getfield 17, 3) := by decide +kernel
theorem dX2_swap_16 : decode cX2_swap 16 = .ok (.iload_n 2, 1) := by decide +kernel
theorem dX2_swap_17 : decode cX2_swap 17 = .ok (.iaload, 1) := by decide +kernel
theorem dX2_swap_18 : decode cX2_swap 18 = .ok (.iastore, 1) := by decide +kernel
theorem dX2_swap_19 : decode cX2_swap 19 = .ok (.aload_n 0, 1) := by decide +kernel
theorem dX2_swap_20 : decode cX2_swap 20 = .ok (.getfield 17, 3) := by decide +kernel
theorem dX2_swap_23 : decode cX2_swap 23 = .ok (.iload_n 2, 1) := by decide +kernel
theorem dX2_swap_24 : decode cX2_swap 24 = .ok (.iload_n 3, 1) := by decide +kernel
theorem dX2_swap_25 : decode cX2_swap 25 = .ok (.iastore, 1) := by decide +kernel
theorem dX2_swap_26 : decode cX2_swap 26 = .ok (.return_, 1) := by decide +kernel
theorem dX3_init_0 : decode cX3_init 0 = .ok (.aload_n 0, 1) := by decide +kernel
theorem dX3_init_1 : decode cX3_init 1 = .ok (.invokespecial 3, 3) := by decide +kernel
theorem dX3_init_4 : decode cX3_init 4 = .ok (.aload_n 0, 1) := by decide +kernel
theorem dX3_init_5 : decode cX3_init 5 = .ok (.bipush 64, 2) := by decide +kernel
theorem dX3_init_7 : decode cX3_init 7 = .ok (.newarray .int, 2) := by decide +kernel
theorem dX3_init_9 : decode cX3_init 9 = .ok (.putfield 9, 3) := by decide +kernel
theorem dX3_init_12 : decode cX3_init 12 = .ok (.aload_n 0, 1) := by decide +kernel
theorem dX3_init_13 : decode cX3_init 13 = .ok (.bipush 64, 2) := by decide +kernel
theorem dX3_init_15 : decode cX3_init 15 = .ok (.newarray .int, 2) := by decide +kernel
theorem dX3_init_17 : decode cX3_init 17 = .ok (.putfield 15, 3) := by decide +kernel
theorem dX3_init_20 : decode cX3_init 20 = .ok (.aload_n 0, 1) := by decide +kernel
theorem dX3_init_21 : decode cX3_init 21 = .ok (.iconst 0, 1) := by decide +kernel
theorem dX3_init_22 : decode cX3_init 22 = .ok (.putfield 18, 3) := by decide +kernel
theorem dX3_init_25 : decode cX3_init 25 = .ok (.aload_n 0, 1) := by decide +kernel
theorem dX3_init_26 : decode cX3_init 26 = .ok (.iconst 0, 1) := by decide +kernel
theorem dX3_init_27 : decode cX3_init 27 = .ok (.putfield 22, 3) := by decide +kernel
theorem dX3_init_30 : decode cX3_init 30 = .ok (.aload_n 0, 1) := by decide +kernel
theorem dX3_init_31 : decode cX3_init 31 = .ok (.iconst 0, 1) := by decide +kernel
theorem dX3_init_32 : decode cX3_init 32 = .ok (.putfield 25, 3) := by decide +kernel
theorem dX3_init_35 : decode cX3_init 35 = .ok (.aload_n 0, 1) := by decide +kernel
theorem dX3_init_36 : decode cX3_init 36 = .ok (.iconst (-1), 1) := by decide +kernel
theorem dX3_init_37 : decode cX3_init 37 = .ok (.putfield 28, 3) := by decide +kernel
theorem dX3_init_40 : decode cX3_init 40 = .ok (.aload_n 0, 1) := by decide +kernel
theorem dX3_init_41 : decode cX3_init 41 = .ok (.aload_n 1, 1) := by decide +kernel
theorem dX3_init_42 : decode cX3_init 42 = .ok (.putfield 31, 3) := by decide +kernel
theorem dX3_init_45 : decode cX3_init 45 = .ok (.aload_n 0, 1) := by decide +kernel
theorem dX3_init_46 : decode cX3_init 46 = .ok (.aload_n 2, 1) := by decide +kernel
theorem dX3_init_47 : decode cX3_init 47 = .ok (.putfield 35, 3) := by decide +kernel
theorem dX3_init_50 : decode cX3_init 50 = .ok (.return_, 1) := by decide +kernel
theorem dX3_begin_0 : decode cX3_begin 0 = .ok (.aload_n 1, 1) := by decide +kernel
theorem dX3_begin_1 : decode cX3_begin 1 = .ok (.iconst 0, 1) := by decide +kernel
theorem dX3_begin_2 : decode cX3_begin 2 = .ok (.aload_n 0, 1) := by decide +kernel
theorem dX3_begin_3 : decode cX3_begin 3 = .ok (.getfield 9, 3) := by decide +kernel
theorem dX3_begin_6 : decode cX3_begin 6 = .ok (.iconst 0, 1) := by decide +kernel
theorem dX3_begin_7 : decode cX3_begin 7 = .ok (.bipush 64, 2) := by decide +kernel
theorem dX3_begin_9 : decode cX3_begin 9 = .ok (.invokestatic 39, 3) := by decide +kernel
theorem dX3_begin_12 : decode cX3_begin 12 = .ok (.aload_n 0, 1) := by decide +kernel
theorem dX3_begin_13 : decode cX3_begin 13 = .ok (.getfield 15, 3) := by decide +kernel
theorem dX3_begin_16 : decode cX3_begin 16 = .ok (.iconst 0, 1) := by decide +kernel
theorem dX3_begin_17 : decode cX3_begin 17 = .ok (.invokestatic 45, 3) := by decide +kernel
theorem dX3_begin_20 : decode cX3_begin 20 = .ok (.aload_n 0, 1) := by decide +kernel
theorem dX3_begin_21 : decode cX3_begin 21 = .ok (.iconst 0, 1) := by decide +kernel
theorem dX3_begin_22 : decode cX3_begin 22 = .ok (.putfield 18, 3) := by decide +kernel
theorem dX3_begin_25 : decode cX3_begin 25 = .ok (.aload_n 0, 1) := by decide +kernel
theorem dX3_begin_26 : decode cX3_begin 26 = .ok (.iconst 0, 1) := by decide +kernel
theorem dX3_begin_27 : decode cX3_begin 27 = .ok (.putfield 22, 3) := by decide +kernel
theorem dX3_begin_30 : decode cX3_begin 30 = .ok (.aload_n 0, 1) := by decide +kernel
theorem dX3_begin_31 : decode cX3_begin 31 = .ok (.iconst 0, 1) := by decide +kernel
theorem dX3_begin_32 : decode cX3_begin 32 = .ok (.putfield 25, 3) := by decide +kernel
theorem dX3_begin_35 : decode cX3_begin 35 = .ok (.return_, 1) := by decide +kernel
theorem dX3_beginAs_0 : decode cX3_beginAs 0 = .ok (.aload_n 1, 1) := by decide +kernel
theorem dX3_beginAs_1 : decode cX3_beginAs 1 = .ok (.getfield 9, 3) := by decide +kernel
theorem dX3_beginAs_4 : decode cX3_beginAs 4 = .ok (.iconst 0, 1) := by decide +kernel
theorem dX3_beginAs_5 : decode cX3_beginAs 5 = .ok (.aload_n 0, 1) := by decide +kernel
theorem dX3_beginAs_6 : decode cX3_beginAs 6 = .ok (.getfield 9, 3) := by decide +kernel
theorem dX3_beginAs_9 : decode cX3_beginAs 9 = .ok (.iconst 0, 1) := by decide +kernel
theorem dX3_beginAs_10 : decode cX3_beginAs 10 = .ok (.bipush 64, 2) := by decide +kernel
theorem dX3_beginAs_12 : decode cX3_beginAs 12 = .ok (.invokestatic 39, 3) := by decide +kernel
theorem dX3_beginAs_15 : decode cX3_beginAs 15 = .ok (.aload_n 1, 1) := by decide +kernel
theorem dX3_beginAs_16 : decode cX3_beginAs 16 = .ok (.getfield 15, 3) := by decide +kernel
theorem dX3_beginAs_19 : decode cX3_beginAs 19 = .ok (.iconst 0, 1) := by decide +kernel
theorem dX3_beginAs_20 : decode cX3_beginAs 20 = .ok (.aload_n 0, 1) := by decide +kernel
theorem dX3_beginAs_21 : decode cX3_beginAs 21 = .ok (.getfield 15, 3) := by decide +kernel
theorem dX3_beginAs_24 : decode cX3_beginAs 24 = .ok (.iconst 0, 1) := by decide +kernel
theorem dX3_beginAs_25 : decode cX3_beginAs 25 = .ok (.bipush 64, 2) := by decide +kernel
theorem dX3_beginAs_27 : decode cX3_beginAs 27 = .ok (.invokestatic 39, 3) := by decide +kernel
theorem dX3_beginAs_30 : decode cX3_beginAs 30 = .ok (.aload_n 0, 1) := by decide +kernel
theorem dX3_beginAs_31 : decode cX3_beginAs 31 = .ok (.aload_n 1, 1) := by decide +kernel
theorem dX3_beginAs_32 : decode cX3_beginAs 32 = .ok (.getfield 18, 3) := by decide +kernel
theorem dX3_beginAs_35 : decode cX3_beginAs 35 = .ok (.putfield 18, 3) := by decide +kernel
theorem dX3_beginAs_38 : decode cX3_beginAs 38 = .ok (.aload_n 0, 1) := by decide +kernel
theorem dX3_beginAs_39 : decode cX3_beginAs 39 = .ok (.aload_n 1, 1) := by decide +kernel
theorem dX3_beginAs_40 : decode cX3_beginAs 40 = .ok (.getfield 22, 3) := by decide +kernel
theorem dX3_beginAs_43 : decode cX3_beginAs 43 = .ok (.putfield 22, 3) := by decide +kernel
theorem dX3_beginAs_46 : decode cX3_beginAs 46 = .ok (.aload_n 0, 1) := by decide +kernel
theorem dX3_beginAs_47 : decode cX3_beginAs 47 = .ok (.aload_n 1, 1) := by decide +kernel
theorem dX3_beginAs_48 : decode cX3_beginAs 48 = .ok (.getfield 25, 3) := by decide +kernel
theorem dX3_beginAs_51 : decode cX3_beginAs 51 = .ok (.putfield 25, 3) := by decide +kernel
theorem dX3_beginAs_54 : decode cX3_beginAs 54 = .ok (.return_, 1) := by decide +kernel
theorem dX3_go_0 : decode cX3_go 0 = .ok (.iload_n 1, 1) := by decide +kernel
theorem dX3_go_1 : decode cX3_go 1 = .ok (.istore 5, 2) := by decide +kernel
theorem dX3_go_3 : decode cX3_go 3 = .ok (.lload_n 3, 1) := by decide +kernel
theorem dX3_go_4 : decode cX3_go 4 = .ok (.iload_n 1, 1) := by decide +kernel
theorem dX3_go_5 : decode cX3_go 5 = .ok (.invokestatic 51, 3) := by decide +kernel
theorem dX3_go_8 : decode cX3_go 8 = .ok (.land, 1) := by decide +kernel
theorem dX3_go_9 : decode cX3_go 9 = .ok (.lstore 6, 2) := by decide +kernel
theorem dX3_go_11 : decode cX3_go 11 = .ok (.iconst 0, 1) := by decide +kernel
theorem dX3_go_12 : decode cX3_go 12 = .ok (.istore 8, 2) := by decide +kernel
theorem dX3_go_14 : decode cX3_go 14 = .ok (.iload 8, 2) := by decide +kernel
theorem dX3_go_16 : decode cX3_go 16 = .ok (.bipush 64, 2) := by decide +kernel
theorem dX3_go_18 : decode cX3_go 18 = .ok (.if_icmp .gt 71, 3) := by decide +kernel
theorem dX3_go_21 : decode cX3_go 21 = .ok (.aload_n 0, 1) := by decide +kernel
theorem dX3_go_22 : decode cX3_go 22 = .ok (.getfield 35, 3) := by decide +kernel
theorem dX3_go_25 : decode cX3_go 25 = .ok (.iload 5, 2) := by decide +kernel
theorem dX3_go_27 : decode cX3_go 27 = .ok (.iload_n 2, 1) := by decide +kernel
theorem dX3_go_28 : decode cX3_go 28 = .ok (.aload_n 0, 1) := by decide +kernel
theorem dX3_go_29 : decode cX3_go 29 = .ok (.getfield 31, 3) := by decide +kernel
theorem dX3_go_32 : decode cX3_go 32 = .ok (.getfield 55, 3) := by decide +kernel
theorem dX3_go_35 : decode cX3_go 35 = .ok (.lload 6, 2) := by decide +kernel
theorem dX3_go_37 : decode cX3_go 37 = .ok (.lor, 1) := by decide +kernel
theorem dX3_go_38 : decode cX3_go 38 = .ok (.aload_n 0, 1) := by decide +kernel
theorem dX3_go_39 : decode cX3_go 39 = .ok (.getfield 9, 3) := by decide +kernel
theorem dX3_go_42 : decode cX3_go 42 = .ok (.invokevirtual 61, 3) := by decide +kernel
theorem dX3_go_45 : decode cX3_go 45 = .ok (.iconst (-1), 1) := by decide +kernel
theorem dX3_go_46 : decode cX3_go 46 = .ok (.if_icmp .ne 6, 3) := by decide +kernel
theorem dX3_go_49 : decode cX3_go 49 = .ok (.goto 40, 3) := by decide +kernel
theorem dX3_go_52 : decode cX3_go 52 = .ok (.aload_n 0, 1) := by decide +kernel
theorem dX3_go_53 : decode cX3_go 53 = .ok (.iload 5, 2) := by decide +kernel
theorem dX3_go_55 : decode cX3_go 55 = .ok (.lload_n 3, 1) := by decide +kernel
theorem dX3_go_56 : decode cX3_go 56 = .ok (.invokevirtual 67, 3) := by decide +kernel
theorem dX3_go_59 : decode cX3_go 59 = .ok (.istore 5, 2) := by decide +kernel
theorem dX3_go_61 : decode cX3_go 61 = .ok (.aload_n 0, 1) := by decide +kernel
theorem dX3_go_62 : decode cX3_go 62 = .ok (.getfield 28, 3) := by decide +kernel
theorem dX3_go_65 : decode cX3_go 65 = .ok (.iconst (-1), 1) := by decide +kernel
theorem dX3_go_66 : decode cX3_go 66 = .ok (.if_icmp .ne 5, 3) := by decide +kernel
theorem dX3_go_69 : decode cX3_go 69 = .ok (.iconst 1, 1) := by decide +kernel
theorem dX3_go_70 : decode cX3_go 70 = .ok (.ireturn, 1) := by decide +kernel
theorem dX3_go_71 : decode cX3_go 71 = .ok (.lload 6, 2) := by decide +kernel
theorem dX3_go_73 : decode cX3_go 73 = .ok (.aload_n 0, 1) := by decide +kernel
theorem dX3_go_74 : decode cX3_go 74 = .ok (.getfield 28, 3) := by decide +kernel
theorem dX3_go_77 : decode cX3_go 77 = .ok (.invokestatic 51, 3) := by decide +kernel
theorem dX3_go_80 : decode cX3_go 80 = .ok (.lor, 1) := by decide +kernel
theorem dX3_go_81 : decode cX3_go 81 = .ok (.lstore 6, 2) := by decide +kernel
theorem dX3_go_83 : decode cX3_go 83 = .ok (.iinc 8 1, 3) := by decide +kernel
theorem dX3_go_86 : decode cX3_go 86 = .ok (.goto (-72), 3) := by decide +kernel
theorem dX3_go_89 : decode cX3_go 89 = .ok (.aload_n 0, 1) := by decide +kernel
theorem dX3_go_90 : decode cX3_go 90 = .ok (.dup, 1) := by decide +kernel
theorem dX3_go_91 : decode cX3_go 91 = .ok (.getfield 25, 3) := by decide +kernel
theorem dX3_go_94 : decode cX3_go 94 = .ok (.iconst 1, 1) := by decide +kernel
theorem dX3_go_95 : decode cX3_go 95 = .ok (.iadd, 1) := by decide +kernel
theorem dX3_go_96 : decode cX3_go 96 = .ok (.putfield 25, 3) := by decide +kernel
theorem dX3_go_99 : decode cX3_go 99 = .ok (.iconst 0, 1) := by decide +kernel
theorem dX3_go_100 : decode cX3_go 100 = .ok (.ireturn, 1) := by decide +kernel
theorem dX3_follow_0 : decode cX3_follow 0 = .ok (.iload_n 1, 1) := by decide +kernel
theorem dX3_follow_1 : decode cX3_follow 1 = .ok (.istore 4, 2) := by decide +kernel
theorem dX3_follow_3 : decode cX3_follow 3 = .ok (.aload_n 0, 1) := by decide +kernel
theorem dX3_follow_4 : decode cX3_follow 4 = .ok (.iconst (-1), 1) := by decide +kernel
theorem dX3_follow_5 : decode cX3_follow 5 = .ok (.putfield 28, 3) := by decide +kernel
theorem dX3_follow_8 : decode cX3_follow 8 = .ok (.iconst 0, 1) := by decide +kernel
theorem dX3_follow_9 : decode cX3_follow 9 = .ok (.istore 5, 2) := by decide +kernel
theorem dX3_follow_11 : decode cX3_follow 11 = .ok (.iload 5, 2) := by decide +kernel
theorem dX3_follow_13 : decode cX3_follow 13 = .ok (.aload_n 0, 1) := by decide +kernel
theorem dX3_follow_14 : decode cX3_follow 14 = .ok (.getfield 35, 3) := by decide +kernel
theorem dX3_follow_17 : decode cX3_follow 17 = .ok (.getfield 71, 3) := by decide +kernel
theorem dX3_follow_20 : decode cX3_follow 20 = .ok (.if_icmp .ge 49, 3) := by decide +kernel
theorem dX3_follow_23 : decode cX3_follow 23 = .ok (.aload_n 0, 1) := by decide +kernel
theorem dX3_follow_24 : decode cX3_follow 24 = .ok (.getfield 35, 3) := by decide +kernel
theorem dX3_follow_27 : decode cX3_follow 27 = .ok (.getfield 74, 3) := by decide +kernel
theorem dX3_follow_30 : decode cX3_follow 30 = .ok (.iload 5, 2) := by decide +kernel
theorem dX3_follow_32 : decode cX3_follow 32 = .ok (.iaload, 1) := by decide +kernel
theorem dX3_follow_33 : decode cX3_follow 33 = .ok (.istore 6, 2) := by decide +kernel
theorem dX3_follow_35 : decode cX3_follow 35 = .ok (.lload_n 2, 1) := by decide +kernel
theorem dX3_follow_36 : decode cX3_follow 36 = .ok (.iload 6, 2) := by decide +kernel
theorem dX3_follow_38 : decode cX3_follow 38 = .ok (.invokestatic 77, 3) := by decide +kernel
theorem dX3_follow_41 : decode cX3_follow 41 = .ok (.ifCond .eq 12, 3) := by decide +kernel
theorem dX3_follow_44 : decode cX3_follow 44 = .ok (.aload_n 0, 1) := by decide +kernel
theorem dX3_follow_45 : decode cX3_follow 45 = .ok (.iload 6, 2) := by decide +kernel
theorem dX3_follow_47 : decode cX3_follow 47 = .ok (.putfield 28, 3) := by decide +kernel
theorem dX3_follow_50 : decode cX3_follow 50 = .ok (.iload 4, 2) := by decide +kernel
theorem dX3_follow_52 : decode cX3_follow 52 = .ok (.ireturn, 1) := by decide +kernel
theorem dX3_follow_53 : decode cX3_follow 53 = .ok (.aload_n 0, 1) := by decide +kernel
theorem dX3_follow_54 : decode cX3_follow 54 = .ok (.iload 6, 2) := by decide +kernel
theorem dX3_follow_56 : decode cX3_follow 56 = .ok (.invokevirtual 81, 3) := by decide +kernel
theorem dX3_follow_59 : decode cX3_follow 59 = .ok (.iload 6, 2) := by decide +kernel
theorem dX3_follow_61 : decode cX3_follow 61 = .ok (.istore 4, 2) := by decide +kernel
theorem dX3_follow_63 : decode cX3_follow 63 = .ok (.iinc 5 1, 3) := by decide +kernel
theorem dX3_follow_66 : decode cX3_follow 66 = .ok (.goto (-55), 3) := by decide +kernel
theorem dX3_follow_69 : decode cX3_follow 69 = .ok (.iload 4, 2) := by decide +kernel
theorem dX3_follow_71 : decode cX3_follow 71 = .ok (.ireturn, 1) := by decide +kernel
theorem dX3_tread_0 : decode cX3_tread 0 = .ok (.aload_n 0, 1) := by decide +kernel
theorem dX3_tread_1 : decode cX3_tread 1 = .ok (.dup, 1) := by decide +kernel
theorem dX3_tread_2 : decode cX3_tread 2 = .ok (.getfield 18, 3) := by decide +kernel
theorem dX3_tread_5 : decode cX3_tread 5 = .ok (.iconst 1, 1) := by decide +kernel
theorem dX3_tread_6 : decode cX3_tread 6 = .ok (.aload_n 0, 1) := by decide +kernel
theorem dX3_tread_7 : decode cX3_tread 7 = .ok (.getfield 9, 3) := by decide +kernel
theorem dX3_tread_10 : decode cX3_tread 10 = .ok (.iload_n 1, 1) := by decide +kernel
theorem dX3_tread_11 : decode cX3_tread 11 = .ok (.iaload, 1) := by decide +kernel
theorem dX3_tread_12 : decode cX3_tread 12 = .ok (.iadd, 1) := by decide +kernel
theorem dX3_tread_13 : decode cX3_tread 13 = .ok (.iadd, 1) := by decide +kernel
theorem dX3_tread_14 : decode cX3_tread 14 = .ok (.putfield 18, 3) := by decide +kernel
theorem dX3_tread_17 : decode cX3_tread 17 = .ok (.aload_n 0, 1) := by decide +kernel
theorem dX3_tread_18 : decode cX3_tread 18 = .ok (.dup, 1) := by decide +kernel
theorem dX3_tread_19 : decode cX3_tread 19 = .ok (.getfield 22, 3) := by decide +kernel
theorem dX3_tread_22 : decode cX3_tread 22 = .ok (.iconst 1, 1) := by decide +kernel
theorem dX3_tread_23 : decode cX3_tread 23 = .ok (.iadd, 1) := by decide +kernel
theorem dX3_tread_24 : decode cX3_tread 24 = .ok (.putfield 22, 3) := by decide +kernel
theorem dX3_tread_27 : decode cX3_tread 27 = .ok (.aload_n 0, 1) := by decide +kernel
theorem dX3_tread_28 : decode cX3_tread 28 = .ok (.getfield 15, 3) := by decide +kernel
theorem dX3_tread_31 : decode cX3_tread 31 = .ok (.iload_n 1, 1) := by decide +kernel
theorem dX3_tread_32 : decode cX3_tread 32 = .ok (.dup2, 1) := by decide +kernel
theorem dX3_tread_33 : decode cX3_tread 33 = .ok (.iaload, 1) := by decide +kernel
theorem dX3_tread_34 : decode cX3_tread 34 = .ok (.iconst 1, 1) := by decide +kernel
theorem dX3_tread_35 : decode cX3_tread 35 = .ok (.iadd, 1) := by decide +kernel
theorem dX3_tread_36 : decode cX3_tread 36 = .ok (.iastore, 1) := by decide +kernel
theorem dX3_tread_37 : decode cX3_tread 37 = .ok (.aload_n 0, 1) := by decide +kernel
theorem dX3_tread_38 : decode cX3_tread 38 = .ok (.getfield 9, 3) := by decide +kernel
theorem dX3_tread_41 : decode cX3_tread 41 = .ok (.iload_n 1, 1) := by decide +kernel
theorem dX3_tread_42 : decode cX3_tread 42 = .ok (.iaload, 1) := by decide +kernel
theorem dX3_tread_43 : decode cX3_tread 43 = .ok (.ifCond .le 13, 3) := by decide +kernel
theorem dX3_tread_46 : decode cX3_tread 46 = .ok (.aload_n 0, 1) := by decide +kernel
theorem dX3_tread_47 : decode cX3_tread 47 = .ok (.getfield 9, 3) := by decide +kernel
theorem dX3_tread_50 : decode cX3_tread 50 = .ok (.iload_n 1, 1) := by decide +kernel
theorem dX3_tread_51 : decode cX3_tread 51 = .ok (.dup2, 1) := by decide +kernel
theorem dX3_tread_52 : decode cX3_tread 52 = .ok (.iaload, 1) := by decide +kernel
theorem dX3_tread_53 : decode cX3_tread 53 = .ok (.iconst 1, 1) := by decide +kernel
theorem dX3_tread_54 : decode cX3_tread 54 = .ok (.isub, 1) := by decide +kernel
theorem dX3_tread_55 : decode cX3_tread 55 = .ok (.iastore, 1) := by decide +kernel
theorem dX3_tread_56 : decode cX3_tread 56 = .ok (.return_, 1) := by decide +kernel
theorem dX3_cellsPassed_0 : decode cX3_cellsPassed 0 = .ok (.iconst 0, 1) := by decide +kernel
theorem dX3_cellsPassed_1 : decode cX3_cellsPassed 1 = .ok (.istore_n 1, 1) := by decide +kernel
theorem dX3_cellsPassed_2 : decode cX3_cellsPassed 2 = .ok (.aload_n 0, 1) := by decide +kernel
theorem dX3_cellsPassed_3 : decode cX3_cellsPassed 3 = .ok (.getfield 15, 3) := by decide +kernel
theorem dX3_cellsPassed_6 : decode cX3_cellsPassed 6 = .ok (.astore_n 2, 1) := by decide +kernel
theorem dX3_cellsPassed_7 : decode cX3_cellsPassed 7 = .ok (.aload_n 2, 1) := by decide +kernel
theorem dX3_cellsPassed_8 : decode cX3_cellsPassed 8 = .ok (.arraylength, 1) := by decide +kernel
theorem dX3_cellsPassed_9 : decode cX3_cellsPassed 9 = .ok (.istore_n 3, 1) := by decide +kernel
theorem dX3_cellsPassed_10 : decode cX3_cellsPassed 10 = .ok (.iconst 0, 1) := by decide +kernel
theorem dX3_cellsPassed_11 : decode cX3_cellsPassed 11 = .ok (.istore 4, 2) := by decide +kernel
theorem dX3_cellsPassed_13 : decode cX3_cellsPassed 13 = .ok (.iload 4, 2) := by decide +kernel
theorem dX3_cellsPassed_15 : decode cX3_cellsPassed 15 = .ok (.iload_n 3, 1) := by decide +kernel
theorem dX3_cellsPassed_16 : decode cX3_cellsPassed 16 = .ok (.if_icmp .ge 23, 3) := by decide +kernel
theorem dX3_cellsPassed_19 : decode cX3_cellsPassed 19 = .ok (.aload_n 2, 1) := by decide +kernel
theorem dX3_cellsPassed_20 : decode cX3_cellsPassed 20 = .ok (.iload 4, 2) := by decide +kernel
theorem dX3_cellsPassed_22 : decode cX3_cellsPassed 22 = .ok (.iaload, 1) := by decide +kernel
theorem dX3_cellsPassed_23 : decode cX3_cellsPassed 23 = .ok (.istore 5, 2) := by decide +kernel
theorem dX3_cellsPassed_25 : decode cX3_cellsPassed 25 = .ok (.iload 5, 2) := by decide +kernel
theorem dX3_cellsPassed_27 : decode cX3_cellsPassed 27 = .ok (.ifCond .le 6, 3) := by decide +kernel
theorem dX3_cellsPassed_30 : decode cX3_cellsPassed 30 = .ok (.iinc 1 1, 3) := by decide +kernel
theorem dX3_cellsPassed_33 : decode cX3_cellsPassed 33 = .ok (.iinc 4 1, 3) := by decide +kernel
theorem dX3_cellsPassed_36 : decode cX3_cellsPassed 36 = .ok (.goto (-23), 3) := by decide +kernel
theorem dX3_cellsPassed_39 : decode cX3_cellsPassed 39 = .ok (.iload_n 1, 1) := by decide +kernel
theorem dX3_cellsPassed_40 : decode cX3_cellsPassed 40 = .ok (.ireturn, 1) := by decide +kernel
theorem dX4_init_0 : decode cX4_init 0 = .ok (.aload_n 0, 1) := by decide +kernel
theorem dX4_init_1 : decode cX4_init 1 = .ok (.invokespecial 3, 3) := by decide +kernel
theorem dX4_init_4 : decode cX4_init 4 = .ok (.aload_n 0, 1) := by decide +kernel
theorem dX4_init_5 : decode cX4_init 5 = .ok (.bipush 64, 2) := by decide +kernel
theorem dX4_init_7 : decode cX4_init 7 = .ok (.newarray .int, 2) := by decide +kernel
theorem dX4_init_9 : decode cX4_init 9 = .ok (.putfield 9, 3) := by decide +kernel
theorem dX4_init_12 : decode cX4_init 12 = .ok (.aload_n 0, 1) := by decide +kernel
theorem dX4_init_13 : decode cX4_init 13 = .ok (.bipush 32, 2) := by decide +kernel
theorem dX4_init_15 : decode cX4_init 15 = .ok (.newarray .long, 2) := by decide +kernel
theorem dX4_init_17 : decode cX4_init 17 = .ok (.putfield 15, 3) := by decide +kernel
theorem dX4_init_20 : decode cX4_init 20 = .ok (.aload_n 0, 1) := by decide +kernel
theorem dX4_init_21 : decode cX4_init 21 = .ok (.bipush 64, 2) := by decide +kernel
theorem dX4_init_23 : decode cX4_init 23 = .ok (.newarray .int, 2) := by decide +kernel
theorem dX4_init_25 : decode cX4_init 25 = .ok (.putfield 19, 3) := by decide +kernel
theorem dX4_init_28 : decode cX4_init 28 = .ok (.aload_n 0, 1) := by decide +kernel
theorem dX4_init_29 : decode cX4_init 29 = .ok (.iconst 0, 1) := by decide +kernel
theorem dX4_init_30 : decode cX4_init 30 = .ok (.putfield 22, 3) := by decide +kernel
theorem dX4_init_33 : decode cX4_init 33 = .ok (.aload_n 0, 1) := by decide +kernel
theorem dX4_init_34 : decode cX4_init 34 = .ok (.lconst 0, 1) := by decide +kernel
theorem dX4_init_35 : decode cX4_init 35 = .ok (.putfield 26, 3) := by decide +kernel
theorem dX4_init_38 : decode cX4_init 38 = .ok (.return_, 1) := by decide +kernel
theorem dX4_find_0 : decode cX4_find 0 = .ok (.aload_n 0, 1) := by decide +kernel
theorem dX4_find_1 : decode cX4_find 1 = .ok (.iconst 0, 1) := by decide +kernel
theorem dX4_find_2 : decode cX4_find 2 = .ok (.putfield 22, 3) := by decide +kernel
theorem dX4_find_5 : decode cX4_find 5 = .ok (.lload_n 3, 1) := by decide +kernel
theorem dX4_find_6 : decode cX4_find 6 = .ok (.iload_n 1, 1) := by decide +kernel
theorem dX4_find_7 : decode cX4_find 7 = .ok (.invokestatic 30, 3) := by decide +kernel
theorem dX4_find_10 : decode cX4_find 10 = .ok (.ifCond .ne 11, 3) := by decide +kernel
theorem dX4_find_13 : decode cX4_find 13 = .ok (.lload_n 3, 1) := by decide +kernel
theorem dX4_find_14 : decode cX4_find 14 = .ok (.iload_n 2, 1) := by decide +kernel
theorem dX4_find_15 : decode cX4_find 15 = .ok (.invokestatic 30, 3) := by decide +kernel
theorem dX4_find_18 : decode cX4_find 18 = .ok (.ifCond .eq 5, 3) := by decide +kernel
theorem dX4_find_21 : decode cX4_find 21 = .ok (.iconst (-1), 1) := by decide +kernel
theorem dX4_find_22 : decode cX4_find 22 = .ok (.ireturn, 1) := by decide +kernel
theorem dX4_find_23 : decode cX4_find 23 = .ok (.aload_n 0, 1) := by decide +kernel
theorem dX4_find_24 : decode cX4_find 24 = .ok (.iload_n 1, 1) := by decide +kernel
theorem dX4_find_25 : decode cX4_find 25 = .ok (.iload_n 2, 1) := by decide +kernel
theorem dX4_find_26 : decode cX4_find 26 = .ok (.lload_n 3, 1) := by decide +kernel
theorem dX4_find_27 : decode cX4_find 27 = .ok (.aload 5, 2) := by decide +kernel
theorem dX4_find_29 : decode cX4_find 29 = .ok (.invokevirtual 34, 3) := by decide +kernel
theorem dX4_find_32 : decode cX4_find 32 = .ok (.aload_n 0, 1) := by decide +kernel
theorem dX4_find_33 : decode cX4_find 33 = .ok (.getfield 26, 3) := by decide +kernel
theorem dX4_find_36 : decode cX4_find 36 = .ok (.iload_n 1, 1) := by decide +kernel
theorem dX4_find_37 : decode cX4_find 37 = .ok (.invokestatic 30, 3) := by decide +kernel
theorem dX4_find_40 : decode cX4_find 40 = .ok (.ifCond .ne 5, 3) := by decide +kernel
theorem dX4_find_43 : decode cX4_find 43 = .ok (.iconst (-1), 1) := by decide +kernel
theorem dX4_find_44 : decode cX4_find 44 = .ok (.ireturn, 1) := by decide +kernel
theorem dX4_find_45 : decode cX4_find 45 = .ok (.iload_n 1, 1) := by decide +kernel
theorem dX4_find_46 : decode cX4_find 46 = .ok (.istore 6, 2) := by decide +kernel
theorem dX4_find_48 : decode cX4_find 48 = .ok (.iconst 0, 1) := by decide +kernel
theorem dX4_find_49 : decode cX4_find 49 = .ok (.istore 7, 2) := by decide +kernel
theorem dX4_find_51 : decode cX4_find 51 = .ok (.iload 7, 2) := by decide +kernel
theorem dX4_find_53 : decode cX4_find 53 = .ok (.bipush 64, 2) := by decide +kernel
theorem dX4_find_55 : decode cX4_find 55 = .ok (.if_icmp .ge 50, 3) := by decide +kernel
theorem dX4_find_58 : decode cX4_find 58 = .ok (.iload 6, 2) := by decide +kernel
theorem dX4_find_60 : decode cX4_find 60 = .ok (.iload_n 2, 1) := by decide +kernel
theorem dX4_find_61 : decode cX4_find 61 = .ok (.if_icmp .eq 44, 3) := by decide +kernel
theorem dX4_find_64 : decode cX4_find 64 = .ok (.aload_n 0, 1) := by decide +kernel
theorem dX4_find_65 : decode cX4_find 65 = .ok (.iload 6, 2) := by decide +kernel
theorem dX4_find_67 : decode cX4_find 67 = .ok (.aload 5, 2) := by decide +kernel
theorem dX4_find_69 : decode cX4_find 69 = .ok (.invokevirtual 38, 3) := by decide +kernel
theorem dX4_find_72 : decode cX4_find 72 = .ok (.istore 6, 2) := by decide +kernel
theorem dX4_find_74 : decode cX4_find 74 = .ok (.iload 6, 2) := by decide +kernel
theorem dX4_find_76 : decode cX4_find 76 = .ok (.iconst (-1), 1) := by decide +kernel
theorem dX4_find_77 : decode cX4_find 77 = .ok (.if_icmp .ne 5, 3) := by decide +kernel
theorem dX4_find_80 : decode cX4_find 80 = .ok (.iconst (-1), 1) := by decide +kernel
theorem dX4_find_81 : decode cX4_find 81 = .ok (.ireturn, 1) := by decide +kernel
theorem dX4_find_82 : decode cX4_find 82 = .ok (.aload_n 0, 1) := by decide +kernel
theorem dX4_find_83 : decode cX4_find 83 = .ok (.getfield 19, 3) := by decide +kernel
theorem dX4_find_86 : decode cX4_find 86 = .ok (.iload 7, 2) := by decide +kernel
theorem dX4_find_88 : decode cX4_find 88 = .ok (.iload 6, 2) := by decide +kernel
theorem dX4_find_90 : decode cX4_find 90 = .ok (.iastore, 1) := by decide +kernel
theorem dX4_find_91 : decode cX4_find 91 = .ok (.aload_n 0, 1) := by decide +kernel
theorem dX4_find_92 : decode cX4_find 92 = .ok (.iload 7, 2) := by decide +kernel
theorem dX4_find_94 : decode cX4_find 94 = .ok (.iconst 1, 1) := by decide +kernel
theorem dX4_find_95 : decode cX4_find 95 = .ok (.iadd, 1) := by decide +kernel
theorem dX4_find_96 : decode cX4_find 96 = .ok (.putfield 22, 3) := by decide +kernel
theorem dX4_find_99 : decode cX4_find 99 = .ok (.iinc 7 1, 3) := by decide +kernel
theorem dX4_find_102 : decode cX4_find 102 = .ok (.goto (-51), 3) := by decide +kernel
theorem dX4_find_105 : decode cX4_find 105 = .ok (.aload_n 0, 1) := by decide +kernel
theorem dX4_find_106 : decode cX4_find 106 = .ok (.getfield 9, 3) := by decide +kernel
theorem dX4_find_109 : decode cX4_find 109 = .ok (.iload_n 1, 1) := by decide +kernel
theorem dX4_find_110 : decode cX4_find 110 = .ok (.iaload, 1) := by decide +kernel
theorem dX4_find_111 : decode cX4_find 111 = .ok (.ireturn, 1) := by decide +kernel
theorem dX4_spread_0 : decode cX4_spread 0 = .ok (.aload_n 0, 1) := by decide +kernel
theorem dX4_spread_1 : decode cX4_spread 1 = .ok (.getfield 15, 3) := by decide +kernel
theorem dX4_spread_4 : decode cX4_spread 4 = .ok (.lconst 0, 1) := by decide +kernel
theorem dX4_spread_5 : decode cX4_spread 5 = .ok (.invokestatic 42, 3) := by decide +kernel
theorem dX4_spread_8 : decode cX4_spread 8 = .ok (.aload_n 0, 1) := by decide +kernel
theorem dX4_spread_9 : decode cX4_spread 9 = .ok (.getfield 15, 3) := by decide +kernel
theorem dX4_spread_12 : decode cX4_spread 12 = .ok (.iconst 0, 1) := by decide +kernel
theorem dX4_spread_13 : decode cX4_spread 13 = .ok (.iload_n 2, 1) := by decide +kernel
theorem dX4_spread_14 : decode cX4_spread 14 = .ok (.invokestatic 48, 3) := by decide +kernel
theorem dX4_spread_17 : decode cX4_spread 17 = .ok (.lastore, 1) := by decide +kernel
theorem dX4_spread_18 : decode cX4_spread 18 = .ok (.aload_n 0, 1) := by decide +kernel
theorem dX4_spread_19 : decode cX4_spread 19 = .ok (.lconst 0, 1) := by decide +kernel
theorem dX4_spread_20 : decode cX4_spread 20 = .ok (.putfield 26, 3) := by decide +kernel
theorem dX4_spread_23 : decode cX4_spread 23 = .ok (.iconst 0, 1) := by decide +kernel
theorem dX4_spread_24 : decode cX4_spread 24 = .ok (.istore 6, 2) := by decide +kernel
theorem dX4_spread_26 : decode cX4_spread 26 = .ok (.iconst 0, 1) := by decide +kernel
theorem dX4_spread_27 : decode cX4_spread 27 = .ok (.istore 7, 2) := by decide +kernel
theorem dX4_spread_29 : decode cX4_spread 29 = .ok (.iload 7, 2) := by decide +kernel
theorem dX4_spread_31 : decode cX4_spread 31 = .ok (.iload 6, 2) := by decide +kernel
theorem dX4_spread_33 : decode cX4_spread 33 = .ok (.if_icmp .gt 173, 3) := by decide +kernel
theorem dX4_spread_36 : decode cX4_spread 36 = .ok (.iload 7, 2) := by decide +kernel
theorem dX4_spread_38 : decode cX4_spread 38 = .ok (.sipush 1984, 3) := by decide +kernel
theorem dX4_spread_41 : decode cX4_spread 41 = .ok (.if_icmp .gt 165, 3) := by decide +kernel
theorem dX4_spread_44 : decode cX4_spread 44 = .ok (.aload_n 0, 1) := by decide +kernel
theorem dX4_spread_45 : decode cX4_spread 45 = .ok (.getfield 26, 3) := by decide +kernel
theorem dX4_spread_48 : decode cX4_spread 48 = .ok (.iload_n 1, 1) := by decide +kernel
theorem dX4_spread_49 : decode cX4_spread 49 = .ok (.invokestatic 30, 3) := by decide +kernel
theorem dX4_spread_52 : decode cX4_spread 52 = .ok (.ifCond .ne 154, 3) := by decide +kernel
theorem dX4_spread_55 : decode cX4_spread 55 = .ok (.aload_n 0, 1) := by decide +kernel
theorem dX4_spread_56 : decode cX4_spread 56 = .ok (.getfield 15, 3) := by decide +kernel
theorem dX4_spread_59 : decode cX4_spread 59 = .ok (.iload 7, 2) := by decide +kernel
theorem dX4_spread_61 : decode cX4_spread 61 = .ok (.bipush 31, 2) := by decide +kernel
theorem dX4_spread_63 : decode cX4_spread 63 = .ok (.iand, 1) := by decide +kernel
theorem dX4_spread_64 : decode cX4_spread 64 = .ok (.laload, 1) := by decide +kernel
theorem dX4_spread_65 : decode cX4_spread 65 = .ok (.aload_n 0, 1) := by decide +kernel
theorem dX4_spread_66 : decode cX4_spread 66 = .ok (.getfield 26, 3) := by decide +kernel
theorem dX4_spread_69 : decode cX4_spread 69 = .ok (.ldc2_w 52, 3) := by decide +kernel
theorem dX4_spread_72 : decode cX4_spread 72 = .ok (.lxor, 1) := by decide +kernel
theorem dX4_spread_73 : decode cX4_spread 73 = .ok (.land, 1) := by decide +kernel
theorem dX4_spread_74 : decode cX4_spread 74 = .ok (.lstore 8, 2) := by decide +kernel
theorem dX4_spread_76 : decode cX4_spread 76 = .ok (.aload_n 0, 1) := by decide +kernel
theorem dX4_spread_77 : decode cX4_spread 77 = .ok (.getfield 15, 3) := by decide +kernel
theorem dX4_spread_80 : decode cX4_spread 80 = .ok (.iload 7, 2) := by decide +kernel
theorem dX4_spread_82 : decode cX4_spread 82 = .ok (.bipush 31, 2) := by decide +kernel
theorem dX4_spread_84 : decode cX4_spread 84 = .ok (.iand, 1) := by decide +kernel
theorem dX4_spread_85 : decode cX4_spread 85 = .ok (.lconst 0, 1) := by decide +kernel
theorem dX4_spread_86 : decode cX4_spread 86 = .ok (.lastore, 1) := by decide +kernel
theorem dX4_spread_87 : decode cX4_spread 87 = .ok (.aload_n 0, 1) := by decide +kernel
theorem dX4_spread_88 : decode cX4_spread 88 = .ok (.dup, 1) := by decide +kernel
theorem dX4_spread_89 : decode cX4_spread 89 = .ok (.getfield 26, 3) := by decide +kernel
theorem dX4_spread_92 : decode cX4_spread 92 = .ok (.lload 8, 2) := by decide +kernel
theorem dX4_spread_94 : decode cX4_spread 94 = .ok (.lor, 1) := by decide +kernel
theorem dX4_spread_95 : decode cX4_spread 95 = .ok (.putfield 26, 3) := by decide +kernel
theorem dX4_spread_98 : decode cX4_spread 98 = .ok (.iconst 0, 1) := by decide +kernel
theorem dX4_spread_99 : decode cX4_spread 99 = .ok (.istore 10, 2) := by decide +kernel
theorem dX4_spread_101 : decode cX4_spread 101 = .ok (.iload 10, 2) := by decide +kernel
theorem dX4_spread_103 : decode cX4_spread 103 = .ok (.bipush 64, 2) := by decide +kernel
theorem dX4_spread_105 : decode cX4_spread 105 = .ok (.if_icmp .ge 95, 3) := by decide +kernel
theorem dX4_spread_108 : decode cX4_spread 108 = .ok (.lload 8, 2) := by decide +kernel
theorem dX4_spread_110 : decode cX4_spread 110 = .ok (.lconst 0, 1) := by decide +kernel
theorem dX4_spread_111 : decode cX4_spread 111 = .ok (.lcmp, 1) := by decide +kernel
theorem dX4_spread_112 : decode cX4_spread 112 = .ok (.ifCond .eq 88, 3) := by decide +kernel
theorem dX4_spread_115 : decode cX4_spread 115 = .ok (.lload 8, 2) := by decide +kernel
theorem dX4_spread_117 : decode cX4_spread 117 = .ok (.lload 8, 2) := by decide +kernel
theorem dX4_spread_119 : decode cX4_spread 119 = .ok (.lneg, 1) := by decide +kernel
theorem dX4_spread_120 : decode cX4_spread 120 = .ok (.land, 1) := by decide +kernel
theorem dX4_spread_121 : decode cX4_spread 121 = .ok (.lconst 1, 1) := by decide +kernel
theorem dX4_spread_122 : decode cX4_spread 122 = .ok (.lsub, 1) := by decide +kernel
theorem dX4_spread_123 : decode cX4_spread 123 = .ok (.invokestatic 54, 3) := by decide +kernel
theorem dX4_spread_126 : decode cX4_spread 126 = .ok (.istore 11, 2) := by decide +kernel
theorem dX4_spread_128 : decode cX4_spread 128 = .ok (.lload 8, 2) := by decide +kernel
theorem dX4_spread_130 : decode cX4_spread 130 = .ok (.lload 8, 2) := by decide +kernel
theorem dX4_spread_132 : decode cX4_spread 132 = .ok (.lconst 1, 1) := by decide +kernel
theorem dX4_spread_133 : decode cX4_spread 133 = .ok (.lsub, 1) := by decide +kernel
theorem dX4_spread_134 : decode cX4_spread 134 = .ok (.land, 1) := by decide +kernel
theorem dX4_spread_135 : decode cX4_spread 135 = .ok (.lstore 8, 2) := by decide +kernel
theorem dX4_spread_137 : decode cX4_spread 137 = .ok (.aload_n 0, 1) := by decide +kernel
theorem dX4_spread_138 : decode cX4_spread 138 = .ok (.getfield 9, 3) := by decide +kernel
theorem dX4_spread_141 : decode cX4_spread 141 = .ok (.iload 11, 2) := by decide +kernel
theorem dX4_spread_143 : decode cX4_spread 143 = .ok (.iload 7, 2) := by decide +kernel
theorem dX4_spread_145 : decode cX4_spread 145 = .ok (.iastore, 1) := by decide +kernel
theorem dX4_spread_146 : decode cX4_spread 146 = .ok (.iload 7, 2) := by decide +kernel
theorem dX4_spread_148 : decode cX4_spread 148 = .ok (.iconst 1, 1) := by decide +kernel
theorem dX4_spread_149 : decode cX4_spread 149 = .ok (.iadd, 1) := by decide +kernel
theorem dX4_spread_150 : decode cX4_spread 150 = .ok (.aload 5, 2) := by decide +kernel
theorem dX4_spread_152 : decode cX4_spread 152 = .ok (.iload 11, 2) := by decide +kernel
theorem dX4_spread_154 : decode cX4_spread 154 = .ok (.iaload, 1) := by decide +kernel
theorem dX4_spread_155 : decode cX4_spread 155 = .ok (.iadd, 1) := by decide +kernel
theorem dX4_spread_156 : decode cX4_spread 156 = .ok (.istore 12, 2) := by decide +kernel
theorem dX4_spread_158 : decode cX4_spread 158 = .ok (.aload_n 0, 1) := by decide +kernel
theorem dX4_spread_159 : decode cX4_spread 159 = .ok (.getfield 15, 3) := by decide +kernel
theorem dX4_spread_162 : decode cX4_spread 162 = .ok (.iload 12, 2) := by decide +kernel
theorem dX4_spread_164 : decode cX4_spread 164 = .ok (.bipush 31, 2) := by decide +kernel
theorem dX4_spread_166 : decode cX4_spread 166 = .ok (.iand, 1) := by decide +kernel
theorem dX4_spread_167 : decode cX4_spread 167 = .ok (.dup2, 1) := by decide +kernel
theorem dX4_spread_168 : decode cX4_spread 168 = .ok (.laload, 1) := by decide +kernel
theorem dX4_spread_169 : decode cX4_spread 169 = .ok (.iload 11, 2) := by decide +kernel
theorem dX4_spread_171 : decode cX4_spread 171 = .ok (.invokestatic 48, 3) := by decide +kernel
theorem dX4_spread_174 : decode cX4_spread 174 = .ok (.invokestatic 60, 3) := by decide +kernel
theorem dX4_spread_177 : decode cX4_spread 177 = .ok (.lload_n 3, 1) := by decide +kernel
theorem dX4_spread_178 : decode cX4_spread 178 = .ok (.ldc2_w 52, 3) := by decide +kernel
theorem dX4_spread_181 : decode cX4_spread 181 = .ok (.lxor, 1) := by decide +kernel
theorem dX4_spread_182 : decode cX4_spread 182 = .ok (.land, 1) := by decide +kernel
theorem dX4_spread_183 : decode cX4_spread 183 = .ok (.lor, 1) := by decide +kernel
theorem dX4_spread_184 : decode cX4_spread 184 = .ok (.lastore, 1) := by decide +kernel
theorem dX4_spread_185 : decode cX4_spread 185 = .ok (.iload 6, 2) := by decide +kernel
theorem dX4_spread_187 : decode cX4_spread 187 = .ok (.iload 12, 2) := by decide +kernel
theorem dX4_spread_189 : decode cX4_spread 189 = .ok (.invokestatic 64, 3) := by decide +kernel
theorem dX4_spread_192 : decode cX4_spread 192 = .ok (.istore 6, 2) := by decide +kernel
theorem dX4_spread_194 : decode cX4_spread 194 = .ok (.iinc 10 1, 3) := by decide +kernel
theorem dX4_spread_197 : decode cX4_spread 197 = .ok (.goto (-96), 3) := by decide +kernel
theorem dX4_spread_200 : decode cX4_spread 200 = .ok (.iinc 7 1, 3) := by decide +kernel
theorem dX4_spread_203 : decode cX4_spread 203 = .ok (.goto (-174), 3) := by decide +kernel
theorem dX4_spread_206 : decode cX4_spread 206 = .ok (.return_, 1) := by decide +kernel
theorem dX4_onward_0 : decode cX4_onward 0 = .ok (.iconst 0, 1) := by decide +kernel
theorem dX4_onward_1 : decode cX4_onward 1 = .ok (.istore_n 3, 1) := by decide +kernel
theorem dX4_onward_2 : decode cX4_onward 2 = .ok (.iload_n 3, 1) := by decide +kernel
theorem dX4_onward_3 : decode cX4_onward 3 = .ok (.iconst 4, 1) := by decide +kernel
theorem dX4_onward_4 : decode cX4_onward 4 = .ok (.if_icmp .ge 60, 3) := by decide +kernel
theorem dX4_onward_7 : decode cX4_onward 7 = .ok (.iload_n 1, 1) := by decide +kernel
theorem dX4_onward_8 : decode cX4_onward 8 = .ok (.iload_n 3, 1) := by decide +kernel
theorem dX4_onward_9 : decode cX4_onward 9 = .ok (.invokestatic 70, 3) := by decide +kernel
theorem dX4_onward_12 : decode cX4_onward 12 = .ok (.istore 4, 2) := by decide +kernel
theorem dX4_onward_14 : decode cX4_onward 14 = .ok (.iload 4, 2) := by decide +kernel
theorem dX4_onward_16 : decode cX4_onward 16 = .ok (.iconst (-1), 1) := by decide +kernel
theorem dX4_onward_17 : decode cX4_onward 17 = .ok (.if_icmp .eq 41, 3) := by decide +kernel
theorem dX4_onward_20 : decode cX4_onward 20 = .ok (.aload_n 0, 1) := by decide +kernel
theorem dX4_onward_21 : decode cX4_onward 21 = .ok (.getfield 26, 3) := by decide +kernel
theorem dX4_onward_24 : decode cX4_onward 24 = .ok (.iload 4, 2) := by decide +kernel
theorem dX4_onward_26 : decode cX4_onward 26 = .ok (.invokestatic 30, 3) := by decide +kernel
theorem dX4_onward_29 : decode cX4_onward 29 = .ok (.ifCond .eq 29, 3) := by decide +kernel
theorem dX4_onward_32 : decode cX4_onward 32 = .ok (.aload_n 0, 1) := by decide +kernel
theorem dX4_onward_33 : decode cX4_onward 33 = .ok (.getfield 9, 3) := by decide +kernel
theorem dX4_onward_36 : decode cX4_onward 36 = .ok (.iload 4, 2) := by decide +kernel
theorem dX4_onward_38 : decode cX4_onward 38 = .ok (.iaload, 1) := by decide +kernel
theorem dX4_onward_39 : decode cX4_onward 39 = .ok (.iconst 1, 1) := by decide +kernel
theorem dX4_onward_40 : decode cX4_onward 40 = .ok (.iadd, 1) := by decide +kernel
theorem dX4_onward_41 : decode cX4_onward 41 = .ok (.aload_n 2, 1) := by decide +kernel
theorem dX4_onward_42 : decode cX4_onward 42 = .ok (.iload 4, 2) := by decide +kernel
theorem dX4_onward_44 : decode cX4_onward 44 = .ok (.iaload, 1) := by decide +kernel
theorem dX4_onward_45 : decode cX4_onward 45 = .ok (.iadd, 1) := by decide +kernel
theorem dX4_onward_46 : decode cX4_onward 46 = .ok (.aload_n 0, 1) := by decide +kernel
theorem dX4_onward_47 : decode cX4_onward 47 = .ok (.getfield 9, 3) := by decide +kernel
theorem dX4_onward_50 : decode cX4_onward 50 = .ok (.iload_n 1, 1) := by decide +kernel
theorem dX4_onward_51 : decode cX4_onward 51 = .ok (.iaload, 1) := by decide +kernel
theorem dX4_onward_52 : decode cX4_onward 52 = .ok (.if_icmp .ne 6, 3) := by decide +kernel
theorem dX4_onward_55 : decode cX4_onward 55 = .ok (.iload 4, 2) := by decide +kernel
theorem dX4_onward_57 : decode cX4_onward 57 = .ok (.ireturn, 1) := by decide +kernel
theorem dX4_onward_58 : decode cX4_onward 58 = .ok (.iinc 3 1, 3) := by decide +kernel
theorem dX4_onward_61 : decode cX4_onward 61 = .ok (.goto (-59), 3) := by decide +kernel
theorem dX4_onward_64 : decode cX4_onward 64 = .ok (.iconst (-1), 1) := by decide +kernel
theorem dX4_onward_65 : decode cX4_onward 65 = .ok (.ireturn, 1) := by decide +kernel
theorem dX4_around_0 : decode cX4_around 0 = .ok (.lload_n 0, 1) := by decide +kernel
theorem dX4_around_1 : decode cX4_around 1 = .ok (.iconst 1, 1) := by decide +kernel
theorem dX4_around_2 : decode cX4_around 2 = .ok (.lshl, 1) := by decide +kernel
theorem dX4_around_3 : decode cX4_around 3 = .ok (.ldc2_w 73, 3) := by decide +kernel
theorem dX4_around_6 : decode cX4_around 6 = .ok (.land, 1) := by decide +kernel
theorem dX4_around_7 : decode cX4_around 7 = .ok (.lstore_n 2, 1) := by decide +kernel
theorem dX4_around_8 : decode cX4_around 8 = .ok (.lload_n 0, 1) := by decide +kernel
theorem dX4_around_9 : decode cX4_around 9 = .ok (.ldc2_w 73, 3) := by decide +kernel
theorem dX4_around_12 : decode cX4_around 12 = .ok (.land, 1) := by decide +kernel
theorem dX4_around_13 : decode cX4_around 13 = .ok (.iconst 1, 1) := by decide +kernel
theorem dX4_around_14 : decode cX4_around 14 = .ok (.lushr, 1) := by decide +kernel
theorem dX4_around_15 : decode cX4_around 15 = .ok (.lstore 4, 2) := by decide +kernel
theorem dX4_around_17 : decode cX4_around 17 = .ok (.lload_n 0, 1) := by decide +kernel
theorem dX4_around_18 : decode cX4_around 18 = .ok (.bipush 8, 2) := by decide +kernel
theorem dX4_around_20 : decode cX4_around 20 = .ok (.lushr, 1) := by decide +kernel
theorem dX4_around_21 : decode cX4_around 21 = .ok (.lload_n 2, 1) := by decide +kernel
theorem dX4_around_22 : decode cX4_around 22 = .ok (.lor, 1) := by decide +kernel
theorem dX4_around_23 : decode cX4_around 23 = .ok (.lload_n 0, 1) := by decide +kernel
theorem dX4_around_24 : decode cX4_around 24 = .ok (.bipush 8, 2) := by decide +kernel
theorem dX4_around_26 : decode cX4_around 26 = .ok (.lshl, 1) := by decide +kernel
theorem dX4_around_27 : decode cX4_around 27 = .ok (.lor, 1) := by decide +kernel
theorem dX4_around_28 : decode cX4_around 28 = .ok (.lload 4, 2) := by decide +kernel
theorem dX4_around_30 : decode cX4_around 30 = .ok (.lor, 1) := by decide +kernel
theorem dX4_around_31 : decode cX4_around 31 = .ok (.lreturn, 1) := by decide +kernel
theorem dX5_init_0 : decode cX5_init 0 = .ok (.aload_n 0, 1) := by decide +kernel
theorem dX5_init_1 : decode cX5_init 1 = .ok (.invokespecial 3, 3) := by decide +kernel
theorem dX5_init_4 : decode cX5_init 4 = .ok (.aload_n 0, 1) := by decide +kernel
theorem dX5_init_5 : decode cX5_init 5 = .ok (.bipush 64, 2) := by decide +kernel
theorem dX5_init_7 : decode cX5_init 7 = .ok (.newarray .int, 2) := by decide +kernel
theorem dX5_init_9 : decode cX5_init 9 = .ok (.putfield 9, 3) := by decide +kernel
theorem dX5_init_12 : decode cX5_init 12 = .ok (.aload_n 0, 1) := by decide +kernel
theorem dX5_init_13 : decode cX5_init 13 = .ok (.iconst (-1), 1) := by decide +kernel
theorem dX5_init_14 : decode cX5_init 14 = .ok (.putfield 15, 3) := by decide +kernel
theorem dX5_init_17 : decode cX5_init 17 = .ok (.aload_n 0, 1) := by decide +kernel
theorem dX5_init_18 : decode cX5_init 18 = .ok (.iconst 0, 1) := by decide +kernel
theorem dX5_init_19 : decode cX5_init 19 = .ok (.putfield 19, 3) := by decide +kernel
theorem dX5_init_22 : decode cX5_init 22 = .ok (.return_, 1) := by decide +kernel
theorem dX5_isLost_0 : decode cX5_isLost 0 = .ok (.aload_n 0, 1) := by decide +kernel
theorem dX5_isLost_1 : decode cX5_isLost 1 = .ok (.getfield 15, 3) := by decide +kernel
theorem dX5_isLost_4 : decode cX5_isLost 4 = .ok (.iconst (-1), 1) := by decide +kernel
theorem dX5_isLost_5 : decode cX5_isLost 5 = .ok (.if_icmp .ne 7, 3) := by decide +kernel
theorem dX5_isLost_8 : decode cX5_isLost 8 = .ok (.iconst 1, 1) := by decide +kernel
theorem dX5_isLost_9 : decode cX5_isLost 9 = .ok (.goto 4, 3) := by decide +kernel
theorem dX5_isLost_12 : decode cX5_isLost 12 = .ok (.iconst 0, 1) := by decide +kernel
theorem dX5_isLost_13 : decode cX5_isLost 13 = .ok (.ireturn, 1) := by decide +kernel
theorem dX5_renew_0 : decode cX5_renew 0 = .ok (.aload_n 0, 1) := by decide +kernel
theorem dX5_renew_1 : decode cX5_renew 1 = .ok (.iload_n 1, 1) := by decide +kernel
theorem dX5_renew_2 : decode cX5_renew 2 = .ok (.putfield 15, 3) := by decide +kernel
theorem dX5_renew_5 : decode cX5_renew 5 = .ok (.aload_n 0, 1) := by decide +kernel
theorem dX5_renew_6 : decode cX5_renew 6 = .ok (.iload_n 2, 1) := by decide +kernel
theorem dX5_renew_7 : decode cX5_renew 7 = .ok (.putfield 19, 3) := by decide +kernel
theorem dX5_renew_10 : decode cX5_renew 10 = .ok (.aload_n 0, 1) := by decide +kernel
theorem dX5_renew_11 : decode cX5_renew 11 = .ok (.getfield 9, 3) := by decide +kernel
theorem dX5_renew_14 : decode cX5_renew 14 = .ok (.iconst 0, 1) := by decide +kernel
theorem dX5_renew_15 : decode cX5_renew 15 = .ok (.invokestatic 22, 3) := by decide +kernel
theorem dX5_renew_18 : decode cX5_renew 18 = .ok (.return_, 1) := by decide +kernel
theorem dX5_put_0 : decode cX5_put 0 = .ok (.aload_n 0, 1) := by decide +kernel
theorem dX5_put_1 : decode cX5_put 1 = .ok (.getfield 15, 3) := by decide +kernel
theorem dX5_put_4 : decode cX5_put 4 = .ok (.lookupswitch 50 #[(0, 28), (1, 39)], 28) := by decide +kernel
theorem dX5_put_32 : decode cX5_put 32 = .ok (.aload_n 0, 1) := by decide +kernel
theorem dX5_put_33 : decode cX5_put 33 = .ok (.getfield 9, 3) := by decide +kernel
theorem dX5_put_36 : decode cX5_put 36 = .ok (.iload_n 1, 1) := by decide +kernel
theorem dX5_put_37 : decode cX5_put 37 = .ok (.iload_n 2, 1) := by decide +kernel
theorem dX5_put_38 : decode cX5_put 38 = .ok (.i2b, 1) := by decide +kernel
theorem dX5_put_39 : decode cX5_put 39 = .ok (.iastore, 1) := by decide +kernel
theorem dX5_put_40 : decode cX5_put 40 = .ok (.goto 21, 3) := by decide +kernel
theorem dX5_put_43 : decode cX5_put 43 = .ok (.aload_n 0, 1) := by decide +kernel
theorem dX5_put_44 : decode cX5_put 44 = .ok (.getfield 9, 3) := by decide +kernel
theorem dX5_put_47 : decode cX5_put 47 = .ok (.iload_n 1, 1) := by decide +kernel
theorem dX5_put_48 : decode cX5_put 48 = .ok (.iload_n 2, 1) := by decide +kernel
theorem dX5_put_49 : decode cX5_put 49 = .ok (.i2s, 1) := by decide +kernel
theorem dX5_put_50 : decode cX5_put 50 = .ok (.iastore, 1) := by decide +kernel
theorem dX5_put_51 : decode cX5_put 51 = .ok (.goto 10, 3) := by decide +kernel
theorem dX5_put_54 : decode cX5_put 54 = .ok (.aload_n 0, 1) := by decide +kernel
theorem dX5_put_55 : decode cX5_put 55 = .ok (.getfield 9, 3) := by decide +kernel
theorem dX5_put_58 : decode cX5_put 58 = .ok (.iload_n 1, 1) := by decide +kernel
theorem dX5_put_59 : decode cX5_put 59 = .ok (.iload_n 2, 1) := by decide +kernel
theorem dX5_put_60 : decode cX5_put 60 = .ok (.iastore, 1) := by decide +kernel
theorem dX5_put_61 : decode cX5_put 61 = .ok (.return_, 1) := by decide +kernel
theorem dX5_holds_0 : decode cX5_holds 0 = .ok (.iload_n 1, 1) := by decide +kernel
theorem dX5_holds_1 : decode cX5_holds 1 = .ok (.ifCond .lt 29, 3) := by decide +kernel
theorem dX5_holds_4 : decode cX5_holds 4 = .ok (.iload_n 2, 1) := by decide +kernel
theorem dX5_holds_5 : decode cX5_holds 5 = .ok (.ifCond .lt 25, 3) := by decide +kernel
theorem dX5_holds_8 : decode cX5_holds 8 = .ok (.iload_n 1, 1) := by decide +kernel
theorem dX5_holds_9 : decode cX5_holds 9 = .ok (.aload_n 0, 1) := by decide +kernel
theorem dX5_holds_10 : decode cX5_holds 10 = .ok (.getfield 19, 3) := by decide +kernel
theorem dX5_holds_13 : decode cX5_holds 13 = .ok (.if_icmp .gt 17, 3) := by decide +kernel
theorem dX5_holds_16 : decode cX5_holds 16 = .ok (.iload_n 2, 1) := by decide +kernel
theorem dX5_holds_17 : decode cX5_holds 17 = .ok (.aload_n 0, 1) := by decide +kernel
theorem dX5_holds_18 : decode cX5_holds 18 = .ok (.getfield 19, 3) := by decide +kernel
theorem dX5_holds_21 : decode cX5_holds 21 = .ok (.iload_n 1, 1) := by decide +kernel
theorem dX5_holds_22 : decode cX5_holds 22 = .ok (.isub, 1) := by decide +kernel
theorem dX5_holds_23 : decode cX5_holds 23 = .ok (.if_icmp .gt 7, 3) := by decide +kernel
theorem dX5_holds_26 : decode cX5_holds 26 = .ok (.iconst 1, 1) := by decide +kernel
theorem dX5_holds_27 : decode cX5_holds 27 = .ok (.goto 4, 3) := by decide +kernel
theorem dX5_holds_30 : decode cX5_holds 30 = .ok (.iconst 0, 1) := by decide +kernel
theorem dX5_holds_31 : decode cX5_holds 31 = .ok (.ireturn, 1) := by decide +kernel
theorem dX5_shows_0 : decode cX5_shows 0 = .ok (.iconst 0, 1) := by decide +kernel
theorem dX5_shows_1 : decode cX5_shows 1 = .ok (.istore_n 2, 1) := by decide +kernel
theorem dX5_shows_2 : decode cX5_shows 2 = .ok (.iload_n 2, 1) := by decide +kernel
theorem dX5_shows_3 : decode cX5_shows 3 = .ok (.aload_n 0, 1) := by decide +kernel
theorem dX5_shows_4 : decode cX5_shows 4 = .ok (.getfield 19, 3) := by decide +kernel
theorem dX5_shows_7 : decode cX5_shows 7 = .ok (.if_icmp .ge 23, 3) := by decide +kernel
theorem dX5_shows_10 : decode cX5_shows 10 = .ok (.aload_n 0, 1) := by decide +kernel
theorem dX5_shows_11 : decode cX5_shows 11 = .ok (.getfield 9, 3) := by decide +kernel
theorem dX5_shows_14 : decode cX5_shows 14 = .ok (.iload_n 2, 1) := by decide +kernel
theorem dX5_shows_15 : decode cX5_shows 15 = .ok (.iaload, 1) := by decide +kernel
theorem dX5_shows_16 : decode cX5_shows 16 = .ok (.aload_n 1, 1) := by decide +kernel
theorem dX5_shows_17 : decode cX5_shows 17 = .ok (.iload_n 2, 1) := by decide +kernel
theorem dX5_shows_18 : decode cX5_shows 18 = .ok (.iaload, 1) := by decide +kernel
theorem dX5_shows_19 : decode cX5_shows 19 = .ok (.if_icmp .eq 5, 3) := by decide +kernel
theorem dX5_shows_22 : decode cX5_shows 22 = .ok (.iconst 0, 1) := by decide +kernel
theorem dX5_shows_23 : decode cX5_shows 23 = .ok (.ireturn, 1) := by decide +kernel
theorem dX5_shows_24 : decode cX5_shows 24 = .ok (.iinc 2 1, 3) := by decide +kernel
theorem dX5_shows_27 : decode cX5_shows 27 = .ok (.goto (-25), 3) := by decide +kernel
theorem dX5_shows_30 : decode cX5_shows 30 = .ok (.iconst 1, 1) := by decide +kernel
theorem dX5_shows_31 : decode cX5_shows 31 = .ok (.ireturn, 1) := by decide +kernel
theorem dX6_init_0 : decode cX6_init 0 = .ok (.aload_n 0, 1) := by decide +kernel
theorem dX6_init_1 : decode cX6_init 1 = .ok (.invokespecial 3, 3) := by decide +kernel
theorem dX6_init_4 : decode cX6_init 4 = .ok (.aload_n 0, 1) := by decide +kernel
theorem dX6_init_5 : decode cX6_init 5 = .ok (.bipush 8, 2) := by decide +kernel
theorem dX6_init_7 : decode cX6_init 7 = .ok (.newarray .int, 2) := by decide +kernel
theorem dX6_init_9 : decode cX6_init 9 = .ok (.putfield 9, 3) := by decide +kernel
theorem dX6_init_12 : decode cX6_init 12 = .ok (.aload_n 0, 1) := by decide +kernel
theorem dX6_init_13 : decode cX6_init 13 = .ok (.bipush 8, 2) := by decide +kernel
theorem dX6_init_15 : decode cX6_init 15 = .ok (.newarray .int, 2) := by decide +kernel
theorem dX6_init_17 : decode cX6_init 17 = .ok (.putfield 15, 3) := by decide +kernel
theorem dX6_init_20 : decode cX6_init 20 = .ok (.aload_n 0, 1) := by decide +kernel
theorem dX6_init_21 : decode cX6_init 21 = .ok (.iconst 0, 1) := by decide +kernel
theorem dX6_init_22 : decode cX6_init 22 = .ok (.putfield 18, 3) := by decide +kernel
theorem dX6_init_25 : decode cX6_init 25 = .ok (.return_, 1) := by decide +kernel
theorem dX6_join_0 : decode cX6_join 0 = .ok (.aload_n 0, 1) := by decide +kernel
theorem dX6_join_1 : decode cX6_join 1 = .ok (.getfield 18, 3) := by decide +kernel
theorem dX6_join_4 : decode cX6_join 4 = .ok (.bipush 8, 2) := by decide +kernel
theorem dX6_join_6 : decode cX6_join 6 = .ok (.if_icmp .lt 5, 3) := by decide +kernel
theorem dX6_join_9 : decode cX6_join 9 = .ok (.iconst 0, 1) := by decide +kernel
theorem dX6_join_10 : decode cX6_join 10 = .ok (.ireturn, 1) := by decide +kernel
theorem dX6_join_11 : decode cX6_join 11 = .ok (.aload_n 0, 1) := by decide +kernel
theorem dX6_join_12 : decode cX6_join 12 = .ok (.getfield 9, 3) := by decide +kernel
theorem dX6_join_15 : decode cX6_join 15 = .ok (.aload_n 0, 1) := by decide +kernel
theorem dX6_join_16 : decode cX6_join 16 = .ok (.getfield 18, 3) := by decide +kernel
theorem dX6_join_19 : decode cX6_join 19 = .ok (.iload_n 1, 1) := by decide +kernel
theorem dX6_join_20 : decode cX6_join 20 = .ok (.iastore, 1) := by decide +kernel
theorem dX6_join_21 : decode cX6_join 21 = .ok (.aload_n 0, 1) := by decide +kernel
theorem dX6_join_22 : decode cX6_join 22 = .ok (.getfield 15, 3) := by decide +kernel
theorem dX6_join_25 : decode cX6_join 25 = .ok (.aload_n 0, 1) := by decide +kernel
theorem dX6_join_26 : decode cX6_join 26 = .ok (.getfield 18, 3) := by decide +kernel
theorem dX6_join_29 : decode cX6_join 29 = .ok (.iload_n 2, 1) := by decide +kernel
theorem dX6_join_30 : decode cX6_join 30 = .ok (.iastore, 1) := by decide +kernel
theorem dX6_join_31 : decode cX6_join 31 = .ok (.aload_n 0, 1) := by decide +kernel
theorem dX6_join_32 : decode cX6_join 32 = .ok (.dup, 1) := by decide +kernel
theorem dX6_join_33 : decode cX6_join 33 = .ok (.getfield 18, 3) := by decide +kernel
theorem dX6_join_36 : decode cX6_join 36 = .ok (.iconst 1, 1) := by decide +kernel
theorem dX6_join_37 : decode cX6_join 37 = .ok (.iadd, 1) := by decide +kernel
theorem dX6_join_38 : decode cX6_join 38 = .ok (.putfield 18, 3) := by decide +kernel
theorem dX6_join_41 : decode cX6_join 41 = .ok (.iconst 1, 1) := by decide +kernel
theorem dX6_join_42 : decode cX6_join 42 = .ok (.ireturn, 1) := by decide +kernel
theorem dJ13_bitCount_95d88_0 : decode cJ13_bitCount_95d88 0 = .ok (.lload_n 0, 1) := by decide +kernel
theorem dJ13_bitCount_95d88_1 : decode cJ13_bitCount_95d88 1 = .ok (.lload_n 0, 1) := by decide +kernel
theorem dJ13_bitCount_95d88_2 : decode cJ13_bitCount_95d88 2 = .ok (.iconst 1, 1) := by decide +kernel
theorem dJ13_bitCount_95d88_3 : decode cJ13_bitCount_95d88 3 = .ok (.lushr, 1) := by decide +kernel
theorem dJ13_bitCount_95d88_4 : decode cJ13_bitCount_95d88 4 = .ok (.ldc2_w 314, 3) := by decide +kernel
theorem dJ13_bitCount_95d88_7 : decode cJ13_bitCount_95d88 7 = .ok (.land, 1) := by decide +kernel
theorem dJ13_bitCount_95d88_8 : decode cJ13_bitCount_95d88 8 = .ok (.lsub, 1) := by decide +kernel
theorem dJ13_bitCount_95d88_9 : decode cJ13_bitCount_95d88 9 = .ok (.lstore_n 0, 1) := by decide +kernel
theorem dJ13_bitCount_95d88_10 : decode cJ13_bitCount_95d88 10 = .ok (.lload_n 0, 1) := by decide +kernel
theorem dJ13_bitCount_95d88_11 : decode cJ13_bitCount_95d88 11 = .ok (.ldc2_w 316, 3) := by decide +kernel
theorem dJ13_bitCount_95d88_14 : decode cJ13_bitCount_95d88 14 = .ok (.land, 1) := by decide +kernel
theorem dJ13_bitCount_95d88_15 : decode cJ13_bitCount_95d88 15 = .ok (.lload_n 0, 1) := by decide +kernel
theorem dJ13_bitCount_95d88_16 : decode cJ13_bitCount_95d88 16 = .ok (.iconst 2, 1) := by decide +kernel
theorem dJ13_bitCount_95d88_17 : decode cJ13_bitCount_95d88 17 = .ok (.lushr, 1) := by decide +kernel
theorem dJ13_bitCount_95d88_18 : decode cJ13_bitCount_95d88 18 = .ok (.ldc2_w 316, 3) := by decide +kernel
theorem dJ13_bitCount_95d88_21 : decode cJ13_bitCount_95d88 21 = .ok (.land, 1) := by decide +kernel
theorem dJ13_bitCount_95d88_22 : decode cJ13_bitCount_95d88 22 = .ok (.ladd, 1) := by decide +kernel
theorem dJ13_bitCount_95d88_23 : decode cJ13_bitCount_95d88 23 = .ok (.lstore_n 0, 1) := by decide +kernel
theorem dJ13_bitCount_95d88_24 : decode cJ13_bitCount_95d88 24 = .ok (.lload_n 0, 1) := by decide +kernel
theorem dJ13_bitCount_95d88_25 : decode cJ13_bitCount_95d88 25 = .ok (.lload_n 0, 1) := by decide +kernel
theorem dJ13_bitCount_95d88_26 : decode cJ13_bitCount_95d88 26 = .ok (.iconst 4, 1) := by decide +kernel
theorem dJ13_bitCount_95d88_27 : decode cJ13_bitCount_95d88 27 = .ok (.lushr, 1) := by decide +kernel
theorem dJ13_bitCount_95d88_28 : decode cJ13_bitCount_95d88 28 = .ok (.ladd, 1) := by decide +kernel
theorem dJ13_bitCount_95d88_29 : decode cJ13_bitCount_95d88 29 = .ok (.ldc2_w 318, 3) := by decide +kernel
theorem dJ13_bitCount_95d88_32 : decode cJ13_bitCount_95d88 32 = .ok (.land, 1) := by decide +kernel
theorem dJ13_bitCount_95d88_33 : decode cJ13_bitCount_95d88 33 = .ok (.lstore_n 0, 1) := by decide +kernel
theorem dJ13_bitCount_95d88_34 : decode cJ13_bitCount_95d88 34 = .ok (.lload_n 0, 1) := by decide +kernel
theorem dJ13_bitCount_95d88_35 : decode cJ13_bitCount_95d88 35 = .ok (.lload_n 0, 1) := by decide +kernel
theorem dJ13_bitCount_95d88_36 : decode cJ13_bitCount_95d88 36 = .ok (.bipush 8, 2) := by decide +kernel
theorem dJ13_bitCount_95d88_38 : decode cJ13_bitCount_95d88 38 = .ok (.lushr, 1) := by decide +kernel
theorem dJ13_bitCount_95d88_39 : decode cJ13_bitCount_95d88 39 = .ok (.ladd, 1) := by decide +kernel
theorem dJ13_bitCount_95d88_40 : decode cJ13_bitCount_95d88 40 = .ok (.lstore_n 0, 1) := by decide +kernel
theorem dJ13_bitCount_95d88_41 : decode cJ13_bitCount_95d88 41 = .ok (.lload_n 0, 1) := by decide +kernel
theorem dJ13_bitCount_95d88_42 : decode cJ13_bitCount_95d88 42 = .ok (.lload_n 0, 1) := by decide +kernel
theorem dJ13_bitCount_95d88_43 : decode cJ13_bitCount_95d88 43 = .ok (.bipush 16, 2) := by decide +kernel
theorem dJ13_bitCount_95d88_45 : decode cJ13_bitCount_95d88 45 = .ok (.lushr, 1) := by decide +kernel
theorem dJ13_bitCount_95d88_46 : decode cJ13_bitCount_95d88 46 = .ok (.ladd, 1) := by decide +kernel
theorem dJ13_bitCount_95d88_47 : decode cJ13_bitCount_95d88 47 = .ok (.lstore_n 0, 1) := by decide +kernel
theorem dJ13_bitCount_95d88_48 : decode cJ13_bitCount_95d88 48 = .ok (.lload_n 0, 1) := by decide +kernel
theorem dJ13_bitCount_95d88_49 : decode cJ13_bitCount_95d88 49 = .ok (.lload_n 0, 1) := by decide +kernel
theorem dJ13_bitCount_95d88_50 : decode cJ13_bitCount_95d88 50 = .ok (.bipush 32, 2) := by decide +kernel
theorem dJ13_bitCount_95d88_52 : decode cJ13_bitCount_95d88 52 = .ok (.lushr, 1) := by decide +kernel
theorem dJ13_bitCount_95d88_53 : decode cJ13_bitCount_95d88 53 = .ok (.ladd, 1) := by decide +kernel
theorem dJ13_bitCount_95d88_54 : decode cJ13_bitCount_95d88 54 = .ok (.lstore_n 0, 1) := by decide +kernel
theorem dJ13_bitCount_95d88_55 : decode cJ13_bitCount_95d88 55 = .ok (.lload_n 0, 1) := by decide +kernel
theorem dJ13_bitCount_95d88_56 : decode cJ13_bitCount_95d88 56 = .ok (.l2i, 1) := by decide +kernel
theorem dJ13_bitCount_95d88_57 : decode cJ13_bitCount_95d88 57 = .ok (.bipush 127, 2) := by decide +kernel
theorem dJ13_bitCount_95d88_59 : decode cJ13_bitCount_95d88 59 = .ok (.iand, 1) := by decide +kernel
theorem dJ13_bitCount_95d88_60 : decode cJ13_bitCount_95d88 60 = .ok (.ireturn, 1) := by decide +kernel
theorem dJ9_max_7cf53_0 : decode cJ9_max_7cf53 0 = .ok (.iload_n 0, 1) := by decide +kernel
theorem dJ9_max_7cf53_1 : decode cJ9_max_7cf53 1 = .ok (.iload_n 1, 1) := by decide +kernel
theorem dJ9_max_7cf53_2 : decode cJ9_max_7cf53 2 = .ok (.if_icmp .lt 7, 3) := by decide +kernel
theorem dJ9_max_7cf53_5 : decode cJ9_max_7cf53 5 = .ok (.iload_n 0, 1) := by decide +kernel
theorem dJ9_max_7cf53_6 : decode cJ9_max_7cf53 6 = .ok (.goto 4, 3) := by decide +kernel
theorem dJ9_max_7cf53_9 : decode cJ9_max_7cf53 9 = .ok (.iload_n 1, 1) := by decide +kernel
theorem dJ9_max_7cf53_10 : decode cJ9_max_7cf53 10 = .ok (.ireturn, 1) := by decide +kernel
theorem dJ9_min_7cf53_0 : decode cJ9_min_7cf53 0 = .ok (.iload_n 0, 1) := by decide +kernel
theorem dJ9_min_7cf53_1 : decode cJ9_min_7cf53 1 = .ok (.iload_n 1, 1) := by decide +kernel
theorem dJ9_min_7cf53_2 : decode cJ9_min_7cf53 2 = .ok (.if_icmp .gt 7, 3) := by decide +kernel
theorem dJ9_min_7cf53_5 : decode cJ9_min_7cf53 5 = .ok (.iload_n 0, 1) := by decide +kernel
theorem dJ9_min_7cf53_6 : decode cJ9_min_7cf53 6 = .ok (.goto 4, 3) := by decide +kernel
theorem dJ9_min_7cf53_9 : decode cJ9_min_7cf53 9 = .ok (.iload_n 1, 1) := by decide +kernel
theorem dJ9_min_7cf53_10 : decode cJ9_min_7cf53 10 = .ok (.ireturn, 1) := by decide +kernel
theorem dJ7_fill_d0a16_0 : decode cJ7_fill_d0a16 0 = .ok (.iconst 0, 1) := by decide +kernel
theorem dJ7_fill_d0a16_1 : decode cJ7_fill_d0a16 1 = .ok (.istore_n 3, 1) := by decide +kernel
theorem dJ7_fill_d0a16_2 : decode cJ7_fill_d0a16 2 = .ok (.aload_n 0, 1) := by decide +kernel
theorem dJ7_fill_d0a16_3 : decode cJ7_fill_d0a16 3 = .ok (.arraylength, 1) := by decide +kernel
theorem dJ7_fill_d0a16_4 : decode cJ7_fill_d0a16 4 = .ok (.istore 4, 2) := by decide +kernel
theorem dJ7_fill_d0a16_6 : decode cJ7_fill_d0a16 6 = .ok (.iload_n 3, 1) := by decide +kernel
theorem dJ7_fill_d0a16_7 : decode cJ7_fill_d0a16 7 = .ok (.iload 4, 2) := by decide +kernel
theorem dJ7_fill_d0a16_9 : decode cJ7_fill_d0a16 9 = .ok (.if_icmp .ge 13, 3) := by decide +kernel
theorem dJ7_fill_d0a16_12 : decode cJ7_fill_d0a16 12 = .ok (.aload_n 0, 1) := by decide +kernel
theorem dJ7_fill_d0a16_13 : decode cJ7_fill_d0a16 13 = .ok (.iload_n 3, 1) := by decide +kernel
theorem dJ7_fill_d0a16_14 : decode cJ7_fill_d0a16 14 = .ok (.lload_n 1, 1) := by decide +kernel
theorem dJ7_fill_d0a16_15 : decode cJ7_fill_d0a16 15 = .ok (.lastore, 1) := by decide +kernel
theorem dJ7_fill_d0a16_16 : decode cJ7_fill_d0a16 16 = .ok (.iinc 3 1, 3) := by decide +kernel
theorem dJ7_fill_d0a16_19 : decode cJ7_fill_d0a16 19 = .ok (.goto (-13), 3) := by decide +kernel
theorem dJ7_fill_d0a16_22 : decode cJ7_fill_d0a16 22 = .ok (.return_, 1) := by decide +kernel
theorem dJ7_fill_53178_0 : decode cJ7_fill_53178 0 = .ok (.iconst 0, 1) := by decide +kernel
theorem dJ7_fill_53178_1 : decode cJ7_fill_53178 1 = .ok (.istore_n 2, 1) := by decide +kernel
theorem dJ7_fill_53178_2 : decode cJ7_fill_53178 2 = .ok (.aload_n 0, 1) := by decide +kernel
theorem dJ7_fill_53178_3 : decode cJ7_fill_53178 3 = .ok (.arraylength, 1) := by decide +kernel
theorem dJ7_fill_53178_4 : decode cJ7_fill_53178 4 = .ok (.istore_n 3, 1) := by decide +kernel
theorem dJ7_fill_53178_5 : decode cJ7_fill_53178 5 = .ok (.iload_n 2, 1) := by decide +kernel
theorem dJ7_fill_53178_6 : decode cJ7_fill_53178 6 = .ok (.iload_n 3, 1) := by decide +kernel
theorem dJ7_fill_53178_7 : decode cJ7_fill_53178 7 = .ok (.if_icmp .ge 13, 3) := by decide +kernel
theorem dJ7_fill_53178_10 : decode cJ7_fill_53178 10 = .ok (.aload_n 0, 1) := by decide +kernel
theorem dJ7_fill_53178_11 : decode cJ7_fill_53178 11 = .ok (.iload_n 2, 1) := by decide +kernel
theorem dJ7_fill_53178_12 : decode cJ7_fill_53178 12 = .ok (.iload_n 1, 1) := by decide +kernel
theorem dJ7_fill_53178_13 : decode cJ7_fill_53178 13 = .ok (.iastore, 1) := by decide +kernel
theorem dJ7_fill_53178_14 : decode cJ7_fill_53178 14 = .ok (.iinc 2 1, 3) := by decide +kernel
theorem dJ7_fill_53178_17 : decode cJ7_fill_53178 17 = .ok (.goto (-12), 3) := by decide +kernel
theorem dJ7_fill_53178_20 : decode cJ7_fill_53178 20 = .ok (.return_, 1) := by decide +kernel
end
section
theorem dX7_init_0 : decode cX7_init 0 = .ok (.aload_n 0, 1) := by decide +kernel
theorem dX7_init_1 : decode cX7_init 1 = .ok (.invokespecial 1, 3) := by decide +kernel
theorem dX7_init_4 : decode cX7_init 4 = .ok (.aload_n 0, 1) := by decide +kernel
theorem dX7_init_5 : decode cX7_init 5 = .ok (.new 7, 3) := by decide +kernel
theorem dX7_init_8 : decode cX7_init 8 = .ok (.dup, 1) := by decide +kernel
theorem dX7_init_9 : decode cX7_init 9 = .ok (.invokespecial 9, 3) := by decide +kernel
theorem dX7_init_12 : decode cX7_init 12 = .ok (.putfield 10, 3) := by decide +kernel
theorem dX7_init_15 : decode cX7_init 15 = .ok (.aload_n 0, 1) := by decide +kernel
theorem dX7_init_16 : decode cX7_init 16 = .ok (.new 16, 3) := by decide +kernel
theorem dX7_init_19 : decode cX7_init 19 = .ok (.dup, 1) := by decide +kernel
theorem dX7_init_20 : decode cX7_init 20 = .ok (.invokespecial 18, 3) := by decide +kernel
theorem dX7_init_23 : decode cX7_init 23 = .ok (.putfield 19, 3) := by decide +kernel
theorem dX7_init_26 : decode cX7_init 26 = .ok (.aload_n 0, 1) := by decide +kernel
theorem dX7_init_27 : decode cX7_init 27 = .ok (.new 23, 3) := by decide +kernel
theorem dX7_init_30 : decode cX7_init 30 = .ok (.dup, 1) := by decide +kernel
theorem dX7_init_31 : decode cX7_init 31 = .ok (.invokespecial 25, 3) := by decide +kernel
theorem dX7_init_34 : decode cX7_init 34 = .ok (.putfield 26, 3) := by decide +kernel
theorem dX7_init_37 : decode cX7_init 37 = .ok (.aload_n 0, 1) := by decide +kernel
theorem dX7_init_38 : decode cX7_init 38 = .ok (.new 30, 3) := by decide +kernel
theorem dX7_init_41 : decode cX7_init 41 = .ok (.dup, 1) := by decide +kernel
theorem dX7_init_42 : decode cX7_init 42 = .ok (.invokespecial 32, 3) := by decide +kernel
theorem dX7_init_45 : decode cX7_init 45 = .ok (.putfield 33, 3) := by decide +kernel
theorem dX7_init_48 : decode cX7_init 48 = .ok (.aload_n 0, 1) := by decide +kernel
theorem dX7_init_49 : decode cX7_init 49 = .ok (.new 37, 3) := by decide +kernel
theorem dX7_init_52 : decode cX7_init 52 = .ok (.dup, 1) := by decide +kernel
theorem dX7_init_53 : decode cX7_init 53 = .ok (.aload_n 0, 1) := by decide +kernel
theorem dX7_init_54 : decode cX7_init 54 = .ok (.getfield 10, 3) := by decide +kernel
theorem dX7_init_57 : decode cX7_init 57 = .ok (.aload_n 0, 1) := by decide +kernel
theorem dX7_init_58 : decode cX7_init 58 = .ok (.getfield 33, 3) := by decide +kernel
theorem dX7_init_61 : decode cX7_init 61 = .ok (.invokespecial 39, 3) := by decide +kernel
theorem dX7_init_64 : decode cX7_init 64 = .ok (.putfield 42, 3) := by decide +kernel
theorem dX7_init_67 : decode cX7_init 67 = .ok (.aload_n 0, 1) := by decide +kernel
theorem dX7_init_68 : decode cX7_init 68 = .ok (.new 46, 3) := by decide +kernel
theorem dX7_init_71 : decode cX7_init 71 = .ok (.dup, 1) := by decide +kernel
theorem dX7_init_72 : decode cX7_init 72 = .ok (.aload_n 0, 1) := by decide +kernel
theorem dX7_init_73 : decode cX7_init 73 = .ok (.getfield 10, 3) := by decide +kernel
theorem dX7_init_76 : decode cX7_init 76 = .ok (.aload_n 0, 1) := by decide +kernel
theorem dX7_init_77 : decode cX7_init 77 = .ok (.getfield 26, 3) := by decide +kernel
theorem dX7_init_80 : decode cX7_init 80 = .ok (.aload_n 0, 1) := by decide +kernel
theorem dX7_init_81 : decode cX7_init 81 = .ok (.getfield 33, 3) := by decide +kernel
theorem dX7_init_84 : decode cX7_init 84 = .ok (.invokespecial 48, 3) := by decide +kernel
theorem dX7_init_87 : decode cX7_init 87 = .ok (.putfield 51, 3) := by decide +kernel
theorem dX7_init_90 : decode cX7_init 90 = .ok (.aload_n 0, 1) := by decide +kernel
theorem dX7_init_91 : decode cX7_init 91 = .ok (.iconst 4, 1) := by decide +kernel
theorem dX7_init_92 : decode cX7_init 92 = .ok (.anewarray 55, 3) := by decide +kernel
theorem dX7_init_95 : decode cX7_init 95 = .ok (.putfield 57, 3) := by decide +kernel
theorem dX7_init_98 : decode cX7_init 98 = .ok (.aload_n 0, 1) := by decide +kernel
theorem dX7_init_99 : decode cX7_init 99 = .ok (.iconst 0, 1) := by decide +kernel
theorem dX7_init_100 : decode cX7_init 100 = .ok (.putfield 61, 3) := by decide +kernel
theorem dX7_init_103 : decode cX7_init 103 = .ok (.aload_n 0, 1) := by decide +kernel
theorem dX7_init_104 : decode cX7_init 104 = .ok (.iconst (-1), 1) := by decide +kernel
theorem dX7_init_105 : decode cX7_init 105 = .ok (.putfield 65, 3) := by decide +kernel
theorem dX7_init_108 : decode cX7_init 108 = .ok (.aload_n 0, 1) := by decide +kernel
theorem dX7_init_109 : decode cX7_init 109 = .ok (.iconst 0, 1) := by decide +kernel
theorem dX7_init_110 : decode cX7_init 110 = .ok (.putfield 68, 3) := by decide +kernel
theorem dX7_init_113 : decode cX7_init 113 = .ok (.aload_n 0, 1) := by decide +kernel
theorem dX7_init_114 : decode cX7_init 114 = .ok (.iconst (-1), 1) := by decide +kernel
theorem dX7_init_115 : decode cX7_init 115 = .ok (.putfield 71, 3) := by decide +kernel
theorem dX7_init_118 : decode cX7_init 118 = .ok (.aload_n 0, 1) := by decide +kernel
theorem dX7_init_119 : decode cX7_init 119 = .ok (.iconst 0, 1) := by decide +kernel
theorem dX7_init_120 : decode cX7_init 120 = .ok (.putfield 74, 3) := by decide +kernel
theorem dX7_init_123 : decode cX7_init 123 = .ok (.iconst 0, 1) := by decide +kernel
theorem dX7_init_124 : decode cX7_init 124 = .ok (.istore_n 1, 1) := by decide +kernel
theorem dX7_init_125 : decode cX7_init 125 = .ok (.iload_n 1, 1) := by decide +kernel
theorem dX7_init_126 : decode cX7_init 126 = .ok (.iconst 4, 1) := by decide +kernel
theorem dX7_init_127 : decode cX7_init 127 = .ok (.if_icmp .ge 22, 3) := by decide +kernel
theorem dX7_init_130 : decode cX7_init 130 = .ok (.aload_n 0, 1) := by decide +kernel
theorem dX7_init_131 : decode cX7_init 131 = .ok (.getfield 57, 3) := by decide +kernel
theorem dX7_init_134 : decode cX7_init 134 = .ok (.iload_n 1, 1) := by decide +kernel
theorem dX7_init_135 : decode cX7_init 135 = .ok (.new 55, 3) := by decide +kernel
theorem dX7_init_138 : decode cX7_init 138 = .ok (.dup, 1) := by decide +kernel
theorem dX7_init_139 : decode cX7_init 139 = .ok (.invokespecial 77, 3) := by decide +kernel
theorem dX7_init_142 : decode cX7_init 142 = .ok (.aastore, 1) := by decide +kernel
theorem dX7_init_143 : decode cX7_init 143 = .ok (.iinc 1 1, 3) := by decide +kernel
theorem dX7_init_146 : decode cX7_init 146 = .ok (.goto (-21), 3) := by decide +kernel
theorem dX7_init_149 : decode cX7_init 149 = .ok (.return_, 1) := by decide +kernel
theorem dX7_type_0 : decode cX7_type 0 = .ok (.iload_n 1, 1) := by decide +kernel
theorem dX7_type_1 : decode cX7_type 1 = .ok (.ifCond .lt 10, 3) := by decide +kernel
theorem dX7_type_4 : decode cX7_type 4 = .ok (.iload_n 1, 1) := by decide +kernel
theorem dX7_type_5 : decode cX7_type 5 = .ok (.sipush 255, 3) := by decide +kernel
theorem dX7_type_8 : decode cX7_type 8 = .ok (.if_icmp .le 6, 3) := by decide +kernel
theorem dX7_type_11 : decode cX7_type 11 = .ok (.bipush (-2), 2) := by decide +kernel
theorem dX7_type_13 : decode cX7_type 13 = .ok (.ireturn, 1) := by decide +kernel
theorem dX7_type_14 : decode cX7_type 14 = .ok (.aload_n 0, 1) := by decide +kernel
theorem dX7_type_15 : decode cX7_type 15 = .ok (.getfield 10, 3) := by decide +kernel
theorem dX7_type_18 : decode cX7_type 18 = .ok (.iload_n 1, 1) := by decide +kernel
theorem dX7_type_19 : decode cX7_type 19 = .ok (.invokevirtual 78, 3) := by decide +kernel
theorem dX7_type_22 : decode cX7_type 22 = .ok (.ifCond .eq 13, 3) := by decide +kernel
theorem dX7_type_25 : decode cX7_type 25 = .ok (.aload_n 0, 1) := by decide +kernel
theorem dX7_type_26 : decode cX7_type 26 = .ok (.getfield 10, 3) := by decide +kernel
theorem dX7_type_29 : decode cX7_type 29 = .ok (.getfield 82, 3) := by decide +kernel
theorem dX7_type_32 : decode cX7_type 32 = .ok (.goto 5, 3) := by decide +kernel
theorem dX7_type_35 : decode cX7_type 35 = .ok (.bipush (-4), 2) := by decide +kernel
theorem dX7_type_37 : decode cX7_type 37 = .ok (.ireturn, 1) := by decide +kernel
theorem dX7_wipe_0 : decode cX7_wipe 0 = .ok (.aload_n 0, 1) := by decide +kernel
theorem dX7_wipe_1 : decode cX7_wipe 1 = .ok (.getfield 10, 3) := by decide +kernel
theorem dX7_wipe_4 : decode cX7_wipe 4 = .ok (.getfield 82, 3) := by decide +kernel
theorem dX7_wipe_7 : decode cX7_wipe 7 = .ok (.istore_n 1, 1) := by decide +kernel
theorem dX7_wipe_8 : decode cX7_wipe 8 = .ok (.aload_n 0, 1) := by decide +kernel
theorem dX7_wipe_9 : decode cX7_wipe 9 = .ok (.getfield 10, 3) := by decide +kernel
theorem dX7_wipe_12 : decode cX7_wipe 12 = .ok (.invokevirtual 85, 3) := by decide +kernel
theorem dX7_wipe_15 : decode cX7_wipe 15 = .ok (.iload_n 1, 1) := by decide +kernel
theorem dX7_wipe_16 : decode cX7_wipe 16 = .ok (.ireturn, 1) := by decide +kernel
theorem dX7_fault_0 : decode cX7_fault 0 = .ok (.aload_n 0, 1) := by decide +kernel
theorem dX7_fault_1 : decode cX7_fault 1 = .ok (.getfield 10, 3) := by decide +kernel
theorem dX7_fault_4 : decode cX7_fault 4 = .ok (.getfield 88, 3) := by decide +kernel
theorem dX7_fault_7 : decode cX7_fault 7 = .ok (.ireturn, 1) := by decide +kernel
theorem dX7_cell_0 : decode cX7_cell 0 = .ok (.iload_n 1, 1) := by decide +kernel
theorem dX7_cell_1 : decode cX7_cell 1 = .ok (.invokestatic 91, 3) := by decide +kernel
theorem dX7_cell_4 : decode cX7_cell 4 = .ok (.ifCond .ne 6, 3) := by decide +kernel
theorem dX7_cell_7 : decode cX7_cell 7 = .ok (.bipush (-2), 2) := by decide +kernel
theorem dX7_cell_9 : decode cX7_cell 9 = .ok (.ireturn, 1) := by decide +kernel
theorem dX7_cell_10 : decode cX7_cell 10 = .ok (.iload_n 2, 1) := by decide +kernel
theorem dX7_cell_11 : decode cX7_cell 11 = .ok (.tableswitch 82 0 4 #[33, 42, 52, 62, 72], 33) := by decide +kernel
theorem dX7_cell_44 : decode cX7_cell 44 = .ok (.aload_n 0, 1) := by decide +kernel
theorem dX7_cell_45 : decode cX7_cell 45 = .ok (.getfield 10, 3) := by decide +kernel
theorem dX7_cell_48 : decode cX7_cell 48 = .ok (.iload_n 1, 1) := by decide +kernel
theorem dX7_cell_49 : decode cX7_cell 49 = .ok (.invokevirtual 94, 3) := by decide +kernel
theorem dX7_cell_52 : decode cX7_cell 52 = .ok (.ireturn, 1) := by decide +kernel
theorem dX7_cell_53 : decode cX7_cell 53 = .ok (.aload_n 0, 1) := by decide +kernel
theorem dX7_cell_54 : decode cX7_cell 54 = .ok (.getfield 19, 3) := by decide +kernel
theorem dX7_cell_57 : decode cX7_cell 57 = .ok (.getfield 98, 3) := by decide +kernel
theorem dX7_cell_60 : decode cX7_cell 60 = .ok (.iload_n 1, 1) := by decide +kernel
theorem dX7_cell_61 : decode cX7_cell 61 = .ok (.iaload, 1) := by decide +kernel
theorem dX7_cell_62 : decode cX7_cell 62 = .ok (.ireturn, 1) := by decide +kernel
theorem dX7_cell_63 : decode cX7_cell 63 = .ok (.aload_n 0, 1) := by decide +kernel
theorem dX7_cell_64 : decode cX7_cell 64 = .ok (.getfield 19, 3) := by decide +kernel
theorem dX7_cell_67 : decode cX7_cell 67 = .ok (.getfield 102, 3) := by decide +kernel
theorem dX7_cell_70 : decode cX7_cell 70 = .ok (.iload_n 1, 1) := by decide +kernel
theorem dX7_cell_71 : decode cX7_cell 71 = .ok (.iaload, 1) := by decide +kernel
theorem dX7_cell_72 : decode cX7_cell 72 = .ok (.ireturn, 1) := by decide +kernel
theorem dX7_cell_73 : decode cX7_cell 73 = .ok (.aload_n 0, 1) := by decide +kernel
theorem dX7_cell_74 : decode cX7_cell 74 = .ok (.getfield 19, 3) := by decide +kernel
theorem dX7_cell_77 : decode cX7_cell 77 = .ok (.getfield 105, 3) := by decide +kernel
theorem dX7_cell_80 : decode cX7_cell 80 = .ok (.iload_n 1, 1) := by decide +kernel
theorem dX7_cell_81 : decode cX7_cell 81 = .ok (.iaload, 1) := by decide +kernel
theorem dX7_cell_82 : decode cX7_cell 82 = .ok (.ireturn, 1) := by decide +kernel
theorem dX7_cell_83 : decode cX7_cell 83 = .ok (.aload_n 0, 1) := by decide +kernel
theorem dX7_cell_84 : decode cX7_cell 84 = .ok (.getfield 19, 3) := by decide +kernel
theorem dX7_cell_87 : decode cX7_cell 87 = .ok (.getfield 108, 3) := by decide +kernel
theorem dX7_cell_90 : decode cX7_cell 90 = .ok (.iload_n 1, 1) := by decide +kernel
theorem dX7_cell_91 : decode cX7_cell 91 = .ok (.iaload, 1) := by decide +kernel
theorem dX7_cell_92 : decode cX7_cell 92 = .ok (.ireturn, 1) := by decide +kernel
theorem dX7_cell_93 : decode cX7_cell 93 = .ok (.bipush (-2), 2) := by decide +kernel
theorem dX7_cell_95 : decode cX7_cell 95 = .ok (.ireturn, 1) := by decide +kernel
theorem dX7_snows_0 : decode cX7_snows 0 = .ok (.iload_n 1, 1) := by decide +kernel
theorem dX7_snows_1 : decode cX7_snows 1 = .ok (.ifCond .lt 9, 3) := by decide +kernel
theorem dX7_snows_4 : decode cX7_snows 4 = .ok (.iload_n 1, 1) := by decide +kernel
theorem dX7_snows_5 : decode cX7_snows 5 = .ok (.bipush 9, 2) := by decide +kernel
theorem dX7_snows_7 : decode cX7_snows 7 = .ok (.if_icmp .le 8, 3) := by decide +kernel
theorem dX7_snows_10 : decode cX7_snows 10 = .ok (.bipush (-2), 2) := by decide +kernel
theorem dX7_snows_12 : decode cX7_snows 12 = .ok (.goto 18, 3) := by decide +kernel
theorem dX7_snows_15 : decode cX7_snows 15 = .ok (.aload_n 0, 1) := by decide +kernel
theorem dX7_snows_16 : decode cX7_snows 16 = .ok (.getfield 19, 3) := by decide +kernel
theorem dX7_snows_19 : decode cX7_snows 19 = .ok (.iload_n 1, 1) := by decide +kernel
theorem dX7_snows_20 : decode cX7_snows 20 = .ok (.aload_n 0, 1) := by decide +kernel
theorem dX7_snows_21 : decode cX7_snows 21 = .ok (.getfield 10, 3) := by decide +kernel
theorem dX7_snows_24 : decode cX7_snows 24 = .ok (.getfield 111, 3) := by decide +kernel
theorem dX7_snows_27 : decode cX7_snows 27 = .ok (.invokevirtual 115, 3) := by decide +kernel
theorem dX7_snows_30 : decode cX7_snows 30 = .ok (.ireturn, 1) := by decide +kernel
theorem dX7_thaws_0 : decode cX7_thaws 0 = .ok (.iload_n 1, 1) := by decide +kernel
theorem dX7_thaws_1 : decode cX7_thaws 1 = .ok (.ifCond .lt 9, 3) := by decide +kernel
theorem dX7_thaws_4 : decode cX7_thaws 4 = .ok (.iload_n 1, 1) := by decide +kernel
theorem dX7_thaws_5 : decode cX7_thaws 5 = .ok (.bipush 9, 2) := by decide +kernel
theorem dX7_thaws_7 : decode cX7_thaws 7 = .ok (.if_icmp .le 8, 3) := by decide +kernel
theorem dX7_thaws_10 : decode cX7_thaws 10 = .ok (.bipush (-2), 2) := by decide +kernel
theorem dX7_thaws_12 : decode cX7_thaws 12 = .ok (.goto 11, 3) := by decide +kernel
theorem dX7_thaws_15 : decode cX7_thaws 15 = .ok (.aload_n 0, 1) := by decide +kernel
theorem dX7_thaws_16 : decode cX7_thaws 16 = .ok (.getfield 19, 3) := by decide +kernel
theorem dX7_thaws_19 : decode cX7_thaws 19 = .ok (.iload_n 1, 1) := by decide +kernel
theorem dX7_thaws_20 : decode cX7_thaws 20 = .ok (.invokevirtual 119, 3) := by decide +kernel
theorem dX7_thaws_23 : decode cX7_thaws 23 = .ok (.ireturn, 1) := by decide +kernel
theorem dX7_freezes_0 : decode cX7_freezes 0 = .ok (.aload_n 0, 1) := by decide +kernel
theorem dX7_freezes_1 : decode cX7_freezes 1 = .ok (.getfield 19, 3) := by decide +kernel
theorem dX7_freezes_4 : decode cX7_freezes 4 = .ok (.invokevirtual 122, 3) := by decide +kernel
theorem dX7_freezes_7 : decode cX7_freezes 7 = .ok (.ireturn, 1) := by decide +kernel
theorem dX7_clear_0 : decode cX7_clear 0 = .ok (.iload_n 1, 1) := by decide +kernel
theorem dX7_clear_1 : decode cX7_clear 1 = .ok (.invokestatic 91, 3) := by decide +kernel
theorem dX7_clear_4 : decode cX7_clear 4 = .ok (.ifCond .eq 12, 3) := by decide +kernel
theorem dX7_clear_7 : decode cX7_clear 7 = .ok (.iload_n 2, 1) := by decide +kernel
theorem dX7_clear_8 : decode cX7_clear 8 = .ok (.ifCond .lt 8, 3) := by decide +kernel
theorem dX7_clear_11 : decode cX7_clear 11 = .ok (.iload_n 2, 1) := by decide +kernel
theorem dX7_clear_12 : decode cX7_clear 12 = .ok (.iconst 3, 1) := by decide +kernel
theorem dX7_clear_13 : decode cX7_clear 13 = .ok (.if_icmp .le 6, 3) := by decide +kernel
theorem dX7_clear_16 : decode cX7_clear 16 = .ok (.bipush (-2), 2) := by decide +kernel
theorem dX7_clear_18 : decode cX7_clear 18 = .ok (.ireturn, 1) := by decide +kernel
theorem dX7_clear_19 : decode cX7_clear 19 = .ok (.iload_n 1, 1) := by decide +kernel
theorem dX7_clear_20 : decode cX7_clear 20 = .ok (.iload_n 2, 1) := by decide +kernel
theorem dX7_clear_21 : decode cX7_clear 21 = .ok (.invokestatic 126, 3) := by decide +kernel
theorem dX7_clear_24 : decode cX7_clear 24 = .ok (.istore_n 3, 1) := by decide +kernel
theorem dX7_clear_25 : decode cX7_clear 25 = .ok (.iload_n 3, 1) := by decide +kernel
theorem dX7_clear_26 : decode cX7_clear 26 = .ok (.iconst (-1), 1) := by decide +kernel
theorem dX7_clear_27 : decode cX7_clear 27 = .ok (.if_icmp .eq 31, 3) := by decide +kernel
theorem dX7_clear_30 : decode cX7_clear 30 = .ok (.aload_n 0, 1) := by decide +kernel
theorem dX7_clear_31 : decode cX7_clear 31 = .ok (.getfield 10, 3) := by decide +kernel
theorem dX7_clear_34 : decode cX7_clear 34 = .ok (.getfield 111, 3) := by decide +kernel
theorem dX7_clear_37 : decode cX7_clear 37 = .ok (.iload_n 1, 1) := by decide +kernel
theorem dX7_clear_38 : decode cX7_clear 38 = .ok (.invokestatic 130, 3) := by decide +kernel
theorem dX7_clear_41 : decode cX7_clear 41 = .ok (.ifCond .ne 17, 3) := by decide +kernel
theorem dX7_clear_44 : decode cX7_clear 44 = .ok (.aload_n 0, 1) := by decide +kernel
theorem dX7_clear_45 : decode cX7_clear 45 = .ok (.getfield 10, 3) := by decide +kernel
theorem dX7_clear_48 : decode cX7_clear 48 = .ok (.getfield 111, 3) := by decide +kernel
theorem dX7_clear_51 : decode cX7_clear 51 = .ok (.iload_n 3, 1) := by decide +kernel
theorem dX7_clear_52 : decode cX7_clear 52 = .ok (.invokestatic 130, 3) := by decide +kernel
theorem dX7_clear_55 : decode cX7_clear 55 = .ok (.ifCond .eq 6, 3) := by decide +kernel
theorem dX7_clear_58 : decode cX7_clear 58 = .ok (.bipush (-3), 2) := by decide +kernel
theorem dX7_clear_60 : decode cX7_clear 60 = .ok (.ireturn, 1) := by decide +kernel
theorem dX7_clear_61 : decode cX7_clear 61 = .ok (.aload_n 0, 1) := by decide +kernel
theorem dX7_clear_62 : decode cX7_clear 62 = .ok (.getfield 19, 3) := by decide +kernel
theorem dX7_clear_65 : decode cX7_clear 65 = .ok (.iload_n 1, 1) := by decide +kernel
theorem dX7_clear_66 : decode cX7_clear 66 = .ok (.iload_n 3, 1) := by decide +kernel
theorem dX7_clear_67 : decode cX7_clear 67 = .ok (.invokevirtual 134, 3) := by decide +kernel
theorem dX7_clear_70 : decode cX7_clear 70 = .ok (.ireturn, 1) := by decide +kernel
theorem dX7_read_0 : decode cX7_read 0 = .ok (.iload_n 1, 1) := by decide +kernel
theorem dX7_read_1 : decode cX7_read 1 = .ok (.invokestatic 137, 3) := by decide +kernel
theorem dX7_read_4 : decode cX7_read 4 = .ok (.ifCond .ne 6, 3) := by decide +kernel
theorem dX7_read_7 : decode cX7_read 7 = .ok (.bipush (-2), 2) := by decide +kernel
theorem dX7_read_9 : decode cX7_read 9 = .ok (.ireturn, 1) := by decide +kernel
theorem dX7_read_10 : decode cX7_read 10 = .ok (.aload_n 0, 1) := by decide +kernel
theorem dX7_read_11 : decode cX7_read 11 = .ok (.getfield 57, 3) := by decide +kernel
theorem dX7_read_14 : decode cX7_read 14 = .ok (.iload_n 1, 1) := by decide +kernel
theorem dX7_read_15 : decode cX7_read 15 = .ok (.aaload, 1) := by decide +kernel
theorem dX7_read_16 : decode cX7_read 16 = .ok (.invokevirtual 140, 3) := by decide +kernel
theorem dX7_read_19 : decode cX7_read 19 = .ok (.ifCond .eq 9, 3) := by decide +kernel
theorem dX7_read_22 : decode cX7_read 22 = .ok (.aload_n 0, 1) := by decide +kernel
theorem dX7_read_23 : decode cX7_read 23 = .ok (.iconst 1, 1) := by decide +kernel
theorem dX7_read_24 : decode cX7_read 24 = .ok (.invokevirtual 144, 3) := by decide +kernel
theorem dX7_read_27 : decode cX7_read 27 = .ok (.ireturn, 1) := by decide +kernel
theorem dX7_read_28 : decode cX7_read 28 = .ok (.aload_n 0, 1) := by decide +kernel
theorem dX7_read_29 : decode cX7_read 29 = .ok (.getfield 19, 3) := by decide +kernel
theorem dX7_read_32 : decode cX7_read 32 = .ok (.aload_n 0, 1) := by decide +kernel
theorem dX7_read_33 : decode cX7_read 33 = .ok (.getfield 57, 3) := by decide +kernel
theorem dX7_read_36 : decode cX7_read 36 = .ok (.iload_n 1, 1) := by decide +kernel
theorem dX7_read_37 : decode cX7_read 37 = .ok (.aaload, 1) := by decide +kernel
theorem dX7_read_38 : decode cX7_read 38 = .ok (.invokevirtual 147, 3) := by decide +kernel
theorem dX7_read_41 : decode cX7_read 41 = .ok (.ireturn, 1) := by decide +kernel
theorem dX7_walker_0 : decode cX7_walker 0 = .ok (.iload_n 1, 1) := by decide +kernel
theorem dX7_walker_1 : decode cX7_walker 1 = .ok (.invokestatic 91, 3) := by decide +kernel
theorem dX7_walker_4 : decode cX7_walker 4 = .ok (.ifCond .eq 10, 3) := by decide +kernel
theorem dX7_walker_7 : decode cX7_walker 7 = .ok (.iload_n 2, 1) := by decide +kernel
theorem dX7_walker_8 : decode cX7_walker 8 = .ok (.invokestatic 91, 3) := by decide +kernel
theorem dX7_walker_11 : decode cX7_walker 11 = .ok (.ifCond .ne 6, 3) := by decide +kernel
theorem dX7_walker_14 : decode cX7_walker 14 = .ok (.bipush (-2), 2) := by decide +kernel
theorem dX7_walker_16 : decode cX7_walker 16 = .ok (.ireturn, 1) := by decide +kernel
theorem dX7_walker_17 : decode cX7_walker 17 = .ok (.aload_n 0, 1) := by decide +kernel
theorem dX7_walker_18 : decode cX7_walker 18 = .ok (.getfield 26, 3) := by decide +kernel
theorem dX7_walker_21 : decode cX7_walker 21 = .ok (.iload_n 1, 1) := by decide +kernel
theorem dX7_walker_22 : decode cX7_walker 22 = .ok (.iload_n 2, 1) := by decide +kernel
theorem dX7_walker_23 : decode cX7_walker 23 = .ok (.invokevirtual 151, 3) := by decide +kernel
theorem dX7_walker_26 : decode cX7_walker 26 = .ok (.ifCond .eq 15, 3) := by decide +kernel
theorem dX7_walker_29 : decode cX7_walker 29 = .ok (.aload_n 0, 1) := by decide +kernel
theorem dX7_walker_30 : decode cX7_walker 30 = .ok (.getfield 26, 3) := by decide +kernel
theorem dX7_walker_33 : decode cX7_walker 33 = .ok (.getfield 155, 3) := by decide +kernel
theorem dX7_walker_36 : decode cX7_walker 36 = .ok (.iconst 1, 1) := by decide +kernel
theorem dX7_walker_37 : decode cX7_walker 37 = .ok (.isub, 1) := by decide +kernel
theorem dX7_walker_38 : decode cX7_walker 38 = .ok (.goto 5, 3) := by decide +kernel
theorem dX7_walker_41 : decode cX7_walker 41 = .ok (.bipush (-4), 2) := by decide +kernel
theorem dX7_walker_43 : decode cX7_walker 43 = .ok (.ireturn, 1) := by decide +kernel
theorem dX7_gone_0 : decode cX7_gone 0 = .ok (.aload_n 0, 1) := by decide +kernel
theorem dX7_gone_1 : decode cX7_gone 1 = .ok (.getfield 26, 3) := by decide +kernel
theorem dX7_gone_4 : decode cX7_gone 4 = .ok (.getfield 155, 3) := by decide +kernel
theorem dX7_gone_7 : decode cX7_gone 7 = .ok (.istore_n 1, 1) := by decide +kernel
theorem dX7_gone_8 : decode cX7_gone 8 = .ok (.aload_n 0, 1) := by decide +kernel
theorem dX7_gone_9 : decode cX7_gone 9 = .ok (.getfield 26, 3) := by decide +kernel
theorem dX7_gone_12 : decode cX7_gone 12 = .ok (.iconst 0, 1) := by decide +kernel
theorem dX7_gone_13 : decode cX7_gone 13 = .ok (.putfield 155, 3) := by decide +kernel
theorem dX7_gone_16 : decode cX7_gone 16 = .ok (.iload_n 1, 1) := by decide +kernel
theorem dX7_gone_17 : decode cX7_gone 17 = .ok (.ireturn, 1) := by decide +kernel
theorem dX7_plan_0 : decode cX7_plan 0 = .ok (.iload_n 1, 1) := by decide +kernel
theorem dX7_plan_1 : decode cX7_plan 1 = .ok (.invokestatic 91, 3) := by decide +kernel
theorem dX7_plan_4 : decode cX7_plan 4 = .ok (.ifCond .eq 15, 3) := by decide +kernel
theorem dX7_plan_7 : decode cX7_plan 7 = .ok (.iload_n 2, 1) := by decide +kernel
theorem dX7_plan_8 : decode cX7_plan 8 = .ok (.invokestatic 91, 3) := by decide +kernel
theorem dX7_plan_11 : decode cX7_plan 11 = .ok (.ifCond .eq 8, 3) := by decide +kernel
theorem dX7_plan_14 : decode cX7_plan 14 = .ok (.iload_n 3, 1) := by decide +kernel
theorem dX7_plan_15 : decode cX7_plan 15 = .ok (.iconst (-1), 1) := by decide +kernel
theorem dX7_plan_16 : decode cX7_plan 16 = .ok (.if_icmp .ge 6, 3) := by decide +kernel
theorem dX7_plan_19 : decode cX7_plan 19 = .ok (.bipush (-2), 2) := by decide +kernel
theorem dX7_plan_21 : decode cX7_plan 21 = .ok (.ireturn, 1) := by decide +kernel
theorem dX7_plan_22 : decode cX7_plan 22 = .ok (.aload_n 0, 1) := by decide +kernel
theorem dX7_plan_23 : decode cX7_plan 23 = .ok (.getfield 10, 3) := by decide +kernel
theorem dX7_plan_26 : decode cX7_plan 26 = .ok (.getfield 158, 3) := by decide +kernel
theorem dX7_plan_29 : decode cX7_plan 29 = .ok (.iload_n 1, 1) := by decide +kernel
theorem dX7_plan_30 : decode cX7_plan 30 = .ok (.invokestatic 130, 3) := by decide +kernel
theorem dX7_plan_33 : decode cX7_plan 33 = .ok (.ifCond .eq 5, 3) := by decide +kernel
theorem dX7_plan_36 : decode cX7_plan 36 = .ok (.iconst (-1), 1) := by decide +kernel
theorem dX7_plan_37 : decode cX7_plan 37 = .ok (.ireturn, 1) := by decide +kernel
theorem dX7_plan_38 : decode cX7_plan 38 = .ok (.aload_n 0, 1) := by decide +kernel
theorem dX7_plan_39 : decode cX7_plan 39 = .ok (.getfield 33, 3) := by decide +kernel
theorem dX7_plan_42 : decode cX7_plan 42 = .ok (.iload_n 1, 1) := by decide +kernel
theorem dX7_plan_43 : decode cX7_plan 43 = .ok (.iload_n 2, 1) := by decide +kernel
theorem dX7_plan_44 : decode cX7_plan 44 = .ok (.aload_n 0, 1) := by decide +kernel
theorem dX7_plan_45 : decode cX7_plan 45 = .ok (.getfield 10, 3) := by decide +kernel
theorem dX7_plan_48 : decode cX7_plan 48 = .ok (.getfield 111, 3) := by decide +kernel
theorem dX7_plan_51 : decode cX7_plan 51 = .ok (.aload_n 0, 1) := by decide +kernel
theorem dX7_plan_52 : decode cX7_plan 52 = .ok (.getfield 19, 3) := by decide +kernel
theorem dX7_plan_55 : decode cX7_plan 55 = .ok (.getfield 98, 3) := by decide +kernel
theorem dX7_plan_58 : decode cX7_plan 58 = .ok (.invokevirtual 161, 3) := by decide +kernel
theorem dX7_plan_61 : decode cX7_plan 61 = .ok (.istore 4, 2) := by decide +kernel
theorem dX7_plan_63 : decode cX7_plan 63 = .ok (.iload_n 3, 1) := by decide +kernel
theorem dX7_plan_64 : decode cX7_plan 64 = .ok (.iconst (-1), 1) := by decide +kernel
theorem dX7_plan_65 : decode cX7_plan 65 = .ok (.if_icmp .ne 6, 3) := by decide +kernel
theorem dX7_plan_68 : decode cX7_plan 68 = .ok (.iload 4, 2) := by decide +kernel
theorem dX7_plan_70 : decode cX7_plan 70 = .ok (.ireturn, 1) := by decide +kernel
theorem dX7_plan_71 : decode cX7_plan 71 = .ok (.iload_n 3, 1) := by decide +kernel
theorem dX7_plan_72 : decode cX7_plan 72 = .ok (.aload_n 0, 1) := by decide +kernel
theorem dX7_plan_73 : decode cX7_plan 73 = .ok (.getfield 33, 3) := by decide +kernel
theorem dX7_plan_76 : decode cX7_plan 76 = .ok (.getfield 165, 3) := by decide +kernel
theorem dX7_plan_79 : decode cX7_plan 79 = .ok (.if_icmp .ge 15, 3) := by decide +kernel
theorem dX7_plan_82 : decode cX7_plan 82 = .ok (.aload_n 0, 1) := by decide +kernel
theorem dX7_plan_83 : decode cX7_plan 83 = .ok (.getfield 33, 3) := by decide +kernel
theorem dX7_plan_86 : decode cX7_plan 86 = .ok (.getfield 166, 3) := by decide +kernel
theorem dX7_plan_89 : decode cX7_plan 89 = .ok (.iload_n 3, 1) := by decide +kernel
theorem dX7_plan_90 : decode cX7_plan 90 = .ok (.iaload, 1) := by decide +kernel
theorem dX7_plan_91 : decode cX7_plan 91 = .ok (.goto 4, 3) := by decide +kernel
theorem dX7_plan_94 : decode cX7_plan 94 = .ok (.iconst (-1), 1) := by decide +kernel
theorem dX7_plan_95 : decode cX7_plan 95 = .ok (.ireturn, 1) := by decide +kernel
theorem dX7_walk_0 : decode cX7_walk 0 = .ok (.aload_n 0, 1) := by decide +kernel
theorem dX7_walk_1 : decode cX7_walk 1 = .ok (.iload_n 1, 1) := by decide +kernel
theorem dX7_walk_2 : decode cX7_walk 2 = .ok (.invokevirtual 169, 3) := by decide +kernel
theorem dX7_walk_5 : decode cX7_walk 5 = .ok (.ifCond .ne 6, 3) := by decide +kernel
theorem dX7_walk_8 : decode cX7_walk 8 = .ok (.bipush (-2), 2) := by decide +kernel
theorem dX7_walk_10 : decode cX7_walk 10 = .ok (.ireturn, 1) := by decide +kernel
theorem dX7_walk_11 : decode cX7_walk 11 = .ok (.aload_n 0, 1) := by decide +kernel
theorem dX7_walk_12 : decode cX7_walk 12 = .ok (.getfield 42, 3) := by decide +kernel
theorem dX7_walk_15 : decode cX7_walk 15 = .ok (.aload_n 0, 1) := by decide +kernel
theorem dX7_walk_16 : decode cX7_walk 16 = .ok (.getfield 19, 3) := by decide +kernel
theorem dX7_walk_19 : decode cX7_walk 19 = .ok (.getfield 98, 3) := by decide +kernel
theorem dX7_walk_22 : decode cX7_walk 22 = .ok (.invokevirtual 172, 3) := by decide +kernel
theorem dX7_walk_25 : decode cX7_walk 25 = .ok (.aload_n 0, 1) := by decide +kernel
theorem dX7_walk_26 : decode cX7_walk 26 = .ok (.getfield 42, 3) := by decide +kernel
theorem dX7_walk_29 : decode cX7_walk 29 = .ok (.aload_n 0, 1) := by decide +kernel
theorem dX7_walk_30 : decode cX7_walk 30 = .ok (.getfield 26, 3) := by decide +kernel
theorem dX7_walk_33 : decode cX7_walk 33 = .ok (.getfield 176, 3) := by decide +kernel
theorem dX7_walk_36 : decode cX7_walk 36 = .ok (.iload_n 1, 1) := by decide +kernel
theorem dX7_walk_37 : decode cX7_walk 37 = .ok (.iaload, 1) := by decide +kernel
theorem dX7_walk_38 : decode cX7_walk 38 = .ok (.aload_n 0, 1) := by decide +kernel
theorem dX7_walk_39 : decode cX7_walk 39 = .ok (.getfield 26, 3) := by decide +kernel
theorem dX7_walk_42 : decode cX7_walk 42 = .ok (.getfield 179, 3) := by decide +kernel
theorem dX7_walk_45 : decode cX7_walk 45 = .ok (.iload_n 1, 1) := by decide +kernel
theorem dX7_walk_46 : decode cX7_walk 46 = .ok (.iaload, 1) := by decide +kernel
theorem dX7_walk_47 : decode cX7_walk 47 = .ok (.aload_n 0, 1) := by decide +kernel
theorem dX7_walk_48 : decode cX7_walk 48 = .ok (.getfield 10, 3) := by decide +kernel
theorem dX7_walk_51 : decode cX7_walk 51 = .ok (.getfield 158, 3) := by decide +kernel
theorem dX7_walk_54 : decode cX7_walk 54 = .ok (.invokevirtual 182, 3) := by decide +kernel
theorem dX7_walk_57 : decode cX7_walk 57 = .ok (.pop, 1) := by decide +kernel
theorem dX7_walk_58 : decode cX7_walk 58 = .ok (.aload_n 0, 1) := by decide +kernel
theorem dX7_walk_59 : decode cX7_walk 59 = .ok (.getfield 19, 3) := by decide +kernel
theorem dX7_walk_62 : decode cX7_walk 62 = .ok (.aload_n 0, 1) := by decide +kernel
theorem dX7_walk_63 : decode cX7_walk 63 = .ok (.getfield 42, 3) := by decide +kernel
theorem dX7_walk_66 : decode cX7_walk 66 = .ok (.invokevirtual 186, 3) := by decide +kernel
theorem dX7_walk_69 : decode cX7_walk 69 = .ok (.aload_n 0, 1) := by decide +kernel
theorem dX7_walk_70 : decode cX7_walk 70 = .ok (.getfield 42, 3) := by decide +kernel
theorem dX7_walk_73 : decode cX7_walk 73 = .ok (.getfield 190, 3) := by decide +kernel
theorem dX7_walk_76 : decode cX7_walk 76 = .ok (.ireturn, 1) := by decide +kernel
theorem dX7_morning_0 : decode cX7_morning 0 = .ok (.aload_n 0, 1) := by decide +kernel
theorem dX7_morning_1 : decode cX7_morning 1 = .ok (.iconst (-1), 1) := by decide +kernel
theorem dX7_morning_2 : decode cX7_morning 2 = .ok (.iconst (-1), 1) := by decide +kernel
theorem dX7_morning_3 : decode cX7_morning 3 = .ok (.invokevirtual 193, 3) := by decide +kernel
theorem dX7_morning_6 : decode cX7_morning 6 = .ok (.aload_n 0, 1) := by decide +kernel
theorem dX7_morning_7 : decode cX7_morning 7 = .ok (.getfield 19, 3) := by decide +kernel
theorem dX7_morning_10 : decode cX7_morning 10 = .ok (.aload_n 0, 1) := by decide +kernel
theorem dX7_morning_11 : decode cX7_morning 11 = .ok (.getfield 42, 3) := by decide +kernel
theorem dX7_morning_14 : decode cX7_morning 14 = .ok (.invokevirtual 186, 3) := by decide +kernel
theorem dX7_morning_17 : decode cX7_morning 17 = .ok (.aload_n 0, 1) := by decide +kernel
theorem dX7_morning_18 : decode cX7_morning 18 = .ok (.getfield 42, 3) := by decide +kernel
theorem dX7_morning_21 : decode cX7_morning 21 = .ok (.getfield 190, 3) := by decide +kernel
theorem dX7_morning_24 : decode cX7_morning 24 = .ok (.ireturn, 1) := by decide +kernel
theorem dX7_all_0 : decode cX7_all 0 = .ok (.iload_n 1, 1) := by decide +kernel
theorem dX7_all_1 : decode cX7_all 1 = .ok (.ifCond .lt 8, 3) := by decide +kernel
theorem dX7_all_4 : decode cX7_all 4 = .ok (.iload_n 1, 1) := by decide +kernel
theorem dX7_all_5 : decode cX7_all 5 = .ok (.iconst 3, 1) := by decide +kernel
theorem dX7_all_6 : decode cX7_all 6 = .ok (.if_icmp .le 6, 3) := by decide +kernel
theorem dX7_all_9 : decode cX7_all 9 = .ok (.bipush (-2), 2) := by decide +kernel
theorem dX7_all_11 : decode cX7_all 11 = .ok (.ireturn, 1) := by decide +kernel
theorem dX7_all_12 : decode cX7_all 12 = .ok (.aload_n 0, 1) := by decide +kernel
theorem dX7_all_13 : decode cX7_all 13 = .ok (.iconst (-1), 1) := by decide +kernel
theorem dX7_all_14 : decode cX7_all 14 = .ok (.iconst (-1), 1) := by decide +kernel
theorem dX7_all_15 : decode cX7_all 15 = .ok (.invokevirtual 193, 3) := by decide +kernel
theorem dX7_all_18 : decode cX7_all 18 = .ok (.aload_n 0, 1) := by decide +kernel
theorem dX7_all_19 : decode cX7_all 19 = .ok (.iload_n 1, 1) := by decide +kernel
theorem dX7_all_20 : decode cX7_all 20 = .ok (.invokevirtual 197, 3) := by decide +kernel
theorem dX7_all_23 : decode cX7_all 23 = .ok (.ireturn, 1) := by decide +kernel
theorem dX7_straight_0 : decode cX7_straight 0 = .ok (.aload_n 0, 1) := by decide +kernel
theorem dX7_straight_1 : decode cX7_straight 1 = .ok (.iload_n 1, 1) := by decide +kernel
theorem dX7_straight_2 : decode cX7_straight 2 = .ok (.invokevirtual 169, 3) := by decide +kernel
theorem dX7_straight_5 : decode cX7_straight 5 = .ok (.ifCond .ne 6, 3) := by decide +kernel
theorem dX7_straight_8 : decode cX7_straight 8 = .ok (.bipush (-2), 2) := by decide +kernel
theorem dX7_straight_10 : decode cX7_straight 10 = .ok (.ireturn, 1) := by decide +kernel
theorem dX7_straight_11 : decode cX7_straight 11 = .ok (.aload_n 0, 1) := by decide +kernel
theorem dX7_straight_12 : decode cX7_straight 12 = .ok (.iload_n 1, 1) := by decide +kernel
theorem dX7_straight_13 : decode cX7_straight 13 = .ok (.invokevirtual 200, 3) := by decide +kernel
theorem dX7_straight_16 : decode cX7_straight 16 = .ok (.ireturn, 1) := by decide +kernel
theorem dX7_longer_0 : decode cX7_longer 0 = .ok (.aload_n 0, 1) := by decide +kernel
theorem dX7_longer_1 : decode cX7_longer 1 = .ok (.getfield 42, 3) := by decide +kernel
theorem dX7_longer_4 : decode cX7_longer 4 = .ok (.aload_n 0, 1) := by decide +kernel
theorem dX7_longer_5 : decode cX7_longer 5 = .ok (.getfield 19, 3) := by decide +kernel
theorem dX7_longer_8 : decode cX7_longer 8 = .ok (.getfield 98, 3) := by decide +kernel
theorem dX7_longer_11 : decode cX7_longer 11 = .ok (.invokevirtual 172, 3) := by decide +kernel
theorem dX7_longer_14 : decode cX7_longer 14 = .ok (.iconst 0, 1) := by decide +kernel
theorem dX7_longer_15 : decode cX7_longer 15 = .ok (.istore_n 1, 1) := by decide +kernel
theorem dX7_longer_16 : decode cX7_longer 16 = .ok (.iconst 0, 1) := by decide +kernel
theorem dX7_longer_17 : decode cX7_longer 17 = .ok (.istore_n 2, 1) := by decide +kernel
theorem dX7_longer_18 : decode cX7_longer 18 = .ok (.iload_n 2, 1) := by decide +kernel
theorem dX7_longer_19 : decode cX7_longer 19 = .ok (.aload_n 0, 1) := by decide +kernel
theorem dX7_longer_20 : decode cX7_longer 20 = .ok (.getfield 26, 3) := by decide +kernel
theorem dX7_longer_23 : decode cX7_longer 23 = .ok (.getfield 155, 3) := by decide +kernel
theorem dX7_longer_26 : decode cX7_longer 26 = .ok (.if_icmp .ge 70, 3) := by decide +kernel
theorem dX7_longer_29 : decode cX7_longer 29 = .ok (.aload_n 0, 1) := by decide +kernel
theorem dX7_longer_30 : decode cX7_longer 30 = .ok (.getfield 42, 3) := by decide +kernel
theorem dX7_longer_33 : decode cX7_longer 33 = .ok (.getfield 203, 3) := by decide +kernel
theorem dX7_longer_36 : decode cX7_longer 36 = .ok (.istore_n 3, 1) := by decide +kernel
theorem dX7_longer_37 : decode cX7_longer 37 = .ok (.aload_n 0, 1) := by decide +kernel
theorem dX7_longer_38 : decode cX7_longer 38 = .ok (.getfield 42, 3) := by decide +kernel
theorem dX7_longer_41 : decode cX7_longer 41 = .ok (.aload_n 0, 1) := by decide +kernel
theorem dX7_longer_42 : decode cX7_longer 42 = .ok (.getfield 26, 3) := by decide +kernel
theorem dX7_longer_45 : decode cX7_longer 45 = .ok (.getfield 176, 3) := by decide +kernel
theorem dX7_longer_48 : decode cX7_longer 48 = .ok (.iload_n 2, 1) := by decide +kernel
theorem dX7_longer_49 : decode cX7_longer 49 = .ok (.iaload, 1) := by decide +kernel
theorem dX7_longer_50 : decode cX7_longer 50 = .ok (.aload_n 0, 1) := by decide +kernel
theorem dX7_longer_51 : decode cX7_longer 51 = .ok (.getfield 26, 3) := by decide +kernel
theorem dX7_longer_54 : decode cX7_longer 54 = .ok (.getfield 179, 3) := by decide +kernel
theorem dX7_longer_57 : decode cX7_longer 57 = .ok (.iload_n 2, 1) := by decide +kernel
theorem dX7_longer_58 : decode cX7_longer 58 = .ok (.iaload, 1) := by decide +kernel
theorem dX7_longer_59 : decode cX7_longer 59 = .ok (.aload_n 0, 1) := by decide +kernel
theorem dX7_longer_60 : decode cX7_longer 60 = .ok (.getfield 10, 3) := by decide +kernel
theorem dX7_longer_63 : decode cX7_longer 63 = .ok (.getfield 158, 3) := by decide +kernel
theorem dX7_longer_66 : decode cX7_longer 66 = .ok (.invokevirtual 182, 3) := by decide +kernel
theorem dX7_longer_69 : decode cX7_longer 69 = .ok (.ifCond .eq 21, 3) := by decide +kernel
theorem dX7_longer_72 : decode cX7_longer 72 = .ok (.iload_n 1, 1) := by decide +kernel
theorem dX7_longer_73 : decode cX7_longer 73 = .ok (.aload_n 0, 1) := by decide +kernel
theorem dX7_longer_74 : decode cX7_longer 74 = .ok (.getfield 42, 3) := by decide +kernel
theorem dX7_longer_77 : decode cX7_longer 77 = .ok (.getfield 203, 3) := by decide +kernel
theorem dX7_longer_80 : decode cX7_longer 80 = .ok (.iload_n 3, 1) := by decide +kernel
theorem dX7_longer_81 : decode cX7_longer 81 = .ok (.isub, 1) := by decide +kernel
theorem dX7_longer_82 : decode cX7_longer 82 = .ok (.aload_n 0, 1) := by decide +kernel
theorem dX7_longer_83 : decode cX7_longer 83 = .ok (.iload_n 2, 1) := by decide +kernel
theorem dX7_longer_84 : decode cX7_longer 84 = .ok (.invokevirtual 200, 3) := by decide +kernel
theorem dX7_longer_87 : decode cX7_longer 87 = .ok (.isub, 1) := by decide +kernel
theorem dX7_longer_88 : decode cX7_longer 88 = .ok (.iadd, 1) := by decide +kernel
theorem dX7_longer_89 : decode cX7_longer 89 = .ok (.istore_n 1, 1) := by decide +kernel
theorem dX7_longer_90 : decode cX7_longer 90 = .ok (.iinc 2 1, 3) := by decide +kernel
theorem dX7_longer_93 : decode cX7_longer 93 = .ok (.goto (-75), 3) := by decide +kernel
theorem dX7_longer_96 : decode cX7_longer 96 = .ok (.iload_n 1, 1) := by decide +kernel
theorem dX7_longer_97 : decode cX7_longer 97 = .ok (.ireturn, 1) := by decide +kernel
theorem dX7_orders_0 : decode cX7_orders 0 = .ok (.iload_n 1, 1) := by decide +kernel
theorem dX7_orders_1 : decode cX7_orders 1 = .ok (.ifCond .lt 8, 3) := by decide +kernel
theorem dX7_orders_4 : decode cX7_orders 4 = .ok (.iload_n 1, 1) := by decide +kernel
theorem dX7_orders_5 : decode cX7_orders 5 = .ok (.iconst 1, 1) := by decide +kernel
theorem dX7_orders_6 : decode cX7_orders 6 = .ok (.if_icmp .le 6, 3) := by decide +kernel
theorem dX7_orders_9 : decode cX7_orders 9 = .ok (.bipush (-2), 2) := by decide +kernel
theorem dX7_orders_11 : decode cX7_orders 11 = .ok (.ireturn, 1) := by decide +kernel
theorem dX7_orders_12 : decode cX7_orders 12 = .ok (.aload_n 0, 1) := by decide +kernel
theorem dX7_orders_13 : decode cX7_orders 13 = .ok (.getfield 26, 3) := by decide +kernel
theorem dX7_orders_16 : decode cX7_orders 16 = .ok (.getfield 155, 3) := by decide +kernel
theorem dX7_orders_19 : decode cX7_orders 19 = .ok (.iconst 5, 1) := by decide +kernel
theorem dX7_orders_20 : decode cX7_orders 20 = .ok (.if_icmp .le 6, 3) := by decide +kernel
theorem dX7_orders_23 : decode cX7_orders 23 = .ok (.bipush (-4), 2) := by decide +kernel
theorem dX7_orders_25 : decode cX7_orders 25 = .ok (.ireturn, 1) := by decide +kernel
theorem dX7_orders_26 : decode cX7_orders 26 = .ok (.aload_n 0, 1) := by decide +kernel
theorem dX7_orders_27 : decode cX7_orders 27 = .ok (.getfield 51, 3) := by decide +kernel
theorem dX7_orders_30 : decode cX7_orders 30 = .ok (.aload_n 0, 1) := by decide +kernel
theorem dX7_orders_31 : decode cX7_orders 31 = .ok (.getfield 19, 3) := by decide +kernel
theorem dX7_orders_34 : decode cX7_orders 34 = .ok (.getfield 98, 3) := by decide +kernel
theorem dX7_orders_37 : decode cX7_orders 37 = .ok (.aconst_null, 1) := by decide +kernel
theorem dX7_orders_38 : decode cX7_orders 38 = .ok (.invokevirtual 206, 3) := by decide +kernel
theorem dX7_orders_41 : decode cX7_orders 41 = .ok (.iload_n 1, 1) := by decide +kernel
theorem dX7_orders_42 : decode cX7_orders 42 = .ok (.ifCond .ne 13, 3) := by decide +kernel
theorem dX7_orders_45 : decode cX7_orders 45 = .ok (.aload_n 0, 1) := by decide +kernel
theorem dX7_orders_46 : decode cX7_orders 46 = .ok (.getfield 51, 3) := by decide +kernel
theorem dX7_orders_49 : decode cX7_orders 49 = .ok (.getfield 210, 3) := by decide +kernel
theorem dX7_orders_52 : decode cX7_orders 52 = .ok (.goto 10, 3) := by decide +kernel
theorem dX7_orders_55 : decode cX7_orders 55 = .ok (.aload_n 0, 1) := by decide +kernel
theorem dX7_orders_56 : decode cX7_orders 56 = .ok (.getfield 51, 3) := by decide +kernel
theorem dX7_orders_59 : decode cX7_orders 59 = .ok (.getfield 213, 3) := by decide +kernel
theorem dX7_orders_62 : decode cX7_orders 62 = .ok (.ireturn, 1) := by decide +kernel
theorem dX7_order_0 : decode cX7_order 0 = .ok (.iload_n 1, 1) := by decide +kernel
theorem dX7_order_1 : decode cX7_order 1 = .ok (.ifCond .ge 6, 3) := by decide +kernel
theorem dX7_order_4 : decode cX7_order 4 = .ok (.bipush (-2), 2) := by decide +kernel
theorem dX7_order_6 : decode cX7_order 6 = .ok (.ireturn, 1) := by decide +kernel
theorem dX7_order_7 : decode cX7_order 7 = .ok (.aload_n 0, 1) := by decide +kernel
theorem dX7_order_8 : decode cX7_order 8 = .ok (.getfield 26, 3) := by decide +kernel
theorem dX7_order_11 : decode cX7_order 11 = .ok (.getfield 155, 3) := by decide +kernel
theorem dX7_order_14 : decode cX7_order 14 = .ok (.iconst 5, 1) := by decide +kernel
theorem dX7_order_15 : decode cX7_order 15 = .ok (.if_icmp .le 6, 3) := by decide +kernel
theorem dX7_order_18 : decode cX7_order 18 = .ok (.bipush (-4), 2) := by decide +kernel
theorem dX7_order_20 : decode cX7_order 20 = .ok (.ireturn, 1) := by decide +kernel
theorem dX7_order_21 : decode cX7_order 21 = .ok (.iload_n 1, 1) := by decide +kernel
theorem dX7_order_22 : decode cX7_order 22 = .ok (.aload_n 0, 1) := by decide +kernel
theorem dX7_order_23 : decode cX7_order 23 = .ok (.getfield 26, 3) := by decide +kernel
theorem dX7_order_26 : decode cX7_order 26 = .ok (.getfield 155, 3) := by decide +kernel
theorem dX7_order_29 : decode cX7_order 29 = .ok (.if_icmp .lt 6, 3) := by decide +kernel
theorem dX7_order_32 : decode cX7_order 32 = .ok (.bipush (-2), 2) := by decide +kernel
theorem dX7_order_34 : decode cX7_order 34 = .ok (.ireturn, 1) := by decide +kernel
theorem dX7_order_35 : decode cX7_order 35 = .ok (.aload_n 0, 1) := by decide +kernel
theorem dX7_order_36 : decode cX7_order 36 = .ok (.getfield 51, 3) := by decide +kernel
theorem dX7_order_39 : decode cX7_order 39 = .ok (.aload_n 0, 1) := by decide +kernel
theorem dX7_order_40 : decode cX7_order 40 = .ok (.getfield 19, 3) := by decide +kernel
theorem dX7_order_43 : decode cX7_order 43 = .ok (.getfield 98, 3) := by decide +kernel
theorem dX7_order_46 : decode cX7_order 46 = .ok (.aconst_null, 1) := by decide +kernel
theorem dX7_order_47 : decode cX7_order 47 = .ok (.invokevirtual 206, 3) := by decide +kernel
theorem dX7_order_50 : decode cX7_order 50 = .ok (.aload_n 0, 1) := by decide +kernel
theorem dX7_order_51 : decode cX7_order 51 = .ok (.getfield 51, 3) := by decide +kernel
theorem dX7_order_54 : decode cX7_order 54 = .ok (.getfield 216, 3) := by decide +kernel
theorem dX7_order_57 : decode cX7_order 57 = .ok (.iload_n 1, 1) := by decide +kernel
theorem dX7_order_58 : decode cX7_order 58 = .ok (.iaload, 1) := by decide +kernel
theorem dX7_order_59 : decode cX7_order 59 = .ok (.ireturn, 1) := by decide +kernel
theorem dX7_first_0 : decode cX7_first 0 = .ok (.iload_n 1, 1) := by decide +kernel
theorem dX7_first_1 : decode cX7_first 1 = .ok (.ifCond .lt 8, 3) := by decide +kernel
theorem dX7_first_4 : decode cX7_first 4 = .ok (.iload_n 1, 1) := by decide +kernel
theorem dX7_first_5 : decode cX7_first 5 = .ok (.iconst 1, 1) := by decide +kernel
theorem dX7_first_6 : decode cX7_first 6 = .ok (.if_icmp .le 6, 3) := by decide +kernel
theorem dX7_first_9 : decode cX7_first 9 = .ok (.bipush (-2), 2) := by decide +kernel
theorem dX7_first_11 : decode cX7_first 11 = .ok (.ireturn, 1) := by decide +kernel
theorem dX7_first_12 : decode cX7_first 12 = .ok (.aload_n 0, 1) := by decide +kernel
theorem dX7_first_13 : decode cX7_first 13 = .ok (.getfield 26, 3) := by decide +kernel
theorem dX7_first_16 : decode cX7_first 16 = .ok (.getfield 155, 3) := by decide +kernel
theorem dX7_first_19 : decode cX7_first 19 = .ok (.ifCond .ne 6, 3) := by decide +kernel
theorem dX7_first_22 : decode cX7_first 22 = .ok (.bipush (-3), 2) := by decide +kernel
theorem dX7_first_24 : decode cX7_first 24 = .ok (.ireturn, 1) := by decide +kernel
theorem dX7_first_25 : decode cX7_first 25 = .ok (.aload_n 0, 1) := by decide +kernel
theorem dX7_first_26 : decode cX7_first 26 = .ok (.invokevirtual 219, 3) := by decide +kernel
theorem dX7_first_29 : decode cX7_first 29 = .ok (.iload_n 1, 1) := by decide +kernel
theorem dX7_first_30 : decode cX7_first 30 = .ok (.ifCond .ne 10, 3) := by decide +kernel
theorem dX7_first_33 : decode cX7_first 33 = .ok (.aload_n 0, 1) := by decide +kernel
theorem dX7_first_34 : decode cX7_first 34 = .ok (.getfield 65, 3) := by decide +kernel
theorem dX7_first_37 : decode cX7_first 37 = .ok (.goto 7, 3) := by decide +kernel
theorem dX7_first_40 : decode cX7_first 40 = .ok (.aload_n 0, 1) := by decide +kernel
theorem dX7_first_41 : decode cX7_first 41 = .ok (.getfield 68, 3) := by decide +kernel
theorem dX7_first_44 : decode cX7_first 44 = .ok (.ireturn, 1) := by decide +kernel
theorem dX7_yard_0 : decode cX7_yard 0 = .ok (.iload_n 1, 1) := by decide +kernel
theorem dX7_yard_1 : decode cX7_yard 1 = .ok (.ifCond .lt 8, 3) := by decide +kernel
theorem dX7_yard_4 : decode cX7_yard 4 = .ok (.iload_n 1, 1) := by decide +kernel
theorem dX7_yard_5 : decode cX7_yard 5 = .ok (.iconst 1, 1) := by decide +kernel
theorem dX7_yard_6 : decode cX7_yard 6 = .ok (.if_icmp .le 6, 3) := by decide +kernel
theorem dX7_yard_9 : decode cX7_yard 9 = .ok (.bipush (-2), 2) := by decide +kernel
theorem dX7_yard_11 : decode cX7_yard 11 = .ok (.ireturn, 1) := by decide +kernel
theorem dX7_yard_12 : decode cX7_yard 12 = .ok (.aload_n 0, 1) := by decide +kernel
theorem dX7_yard_13 : decode cX7_yard 13 = .ok (.invokevirtual 222, 3) := by decide +kernel
theorem dX7_yard_16 : decode cX7_yard 16 = .ok (.iload_n 1, 1) := by decide +kernel
theorem dX7_yard_17 : decode cX7_yard 17 = .ok (.ifCond .ne 10, 3) := by decide +kernel
theorem dX7_yard_20 : decode cX7_yard 20 = .ok (.aload_n 0, 1) := by decide +kernel
theorem dX7_yard_21 : decode cX7_yard 21 = .ok (.getfield 71, 3) := by decide +kernel
theorem dX7_yard_24 : decode cX7_yard 24 = .ok (.goto 7, 3) := by decide +kernel
theorem dX7_yard_27 : decode cX7_yard 27 = .ok (.aload_n 0, 1) := by decide +kernel
theorem dX7_yard_28 : decode cX7_yard 28 = .ok (.getfield 74, 3) := by decide +kernel
theorem dX7_yard_31 : decode cX7_yard 31 = .ok (.ireturn, 1) := by decide +kernel
theorem dX7_falls_0 : decode cX7_falls 0 = .ok (.aload_n 0, 1) := by decide +kernel
theorem dX7_falls_1 : decode cX7_falls 1 = .ok (.iconst 0, 1) := by decide +kernel
theorem dX7_falls_2 : decode cX7_falls 2 = .ok (.iload_n 1, 1) := by decide +kernel
theorem dX7_falls_3 : decode cX7_falls 3 = .ok (.invokevirtual 225, 3) := by decide +kernel
theorem dX7_falls_6 : decode cX7_falls 6 = .ok (.lreturn, 1) := by decide +kernel
theorem dX7_grit_0 : decode cX7_grit 0 = .ok (.iload_n 1, 1) := by decide +kernel
theorem dX7_grit_1 : decode cX7_grit 1 = .ok (.ifCond .lt 13, 3) := by decide +kernel
theorem dX7_grit_4 : decode cX7_grit 4 = .ok (.iload_n 1, 1) := by decide +kernel
theorem dX7_grit_5 : decode cX7_grit 5 = .ok (.bipush 8, 2) := by decide +kernel
theorem dX7_grit_7 : decode cX7_grit 7 = .ok (.if_icmp .gt 7, 3) := by decide +kernel
theorem dX7_grit_10 : decode cX7_grit 10 = .ok (.iload_n 2, 1) := by decide +kernel
theorem dX7_grit_11 : decode cX7_grit 11 = .ok (.ifCond .ge 6, 3) := by decide +kernel
theorem dX7_grit_14 : decode cX7_grit 14 = .ok (.bipush (-2), 2) := by decide +kernel
theorem dX7_grit_16 : decode cX7_grit 16 = .ok (.ireturn, 1) := by decide +kernel
theorem dX7_grit_17 : decode cX7_grit 17 = .ok (.iload_n 2, 1) := by decide +kernel
theorem dX7_grit_18 : decode cX7_grit 18 = .ok (.iload_n 1, 1) := by decide +kernel
theorem dX7_grit_19 : decode cX7_grit 19 = .ok (.if_icmp .lt 5, 3) := by decide +kernel
theorem dX7_grit_22 : decode cX7_grit 22 = .ok (.iconst (-1), 1) := by decide +kernel
theorem dX7_grit_23 : decode cX7_grit 23 = .ok (.ireturn, 1) := by decide +kernel
theorem dX7_grit_24 : decode cX7_grit 24 = .ok (.aload_n 0, 1) := by decide +kernel
theorem dX7_grit_25 : decode cX7_grit 25 = .ok (.iconst (-1), 1) := by decide +kernel
theorem dX7_grit_26 : decode cX7_grit 26 = .ok (.iconst (-1), 1) := by decide +kernel
theorem dX7_grit_27 : decode cX7_grit 27 = .ok (.invokevirtual 193, 3) := by decide +kernel
theorem dX7_grit_30 : decode cX7_grit 30 = .ok (.lconst 0, 1) := by decide +kernel
theorem dX7_grit_31 : decode cX7_grit 31 = .ok (.lstore_n 3, 1) := by decide +kernel
theorem dX7_grit_32 : decode cX7_grit 32 = .ok (.iconst (-1), 1) := by decide +kernel
theorem dX7_grit_33 : decode cX7_grit 33 = .ok (.istore 5, 2) := by decide +kernel
theorem dX7_grit_35 : decode cX7_grit 35 = .ok (.iconst 0, 1) := by decide +kernel
theorem dX7_grit_36 : decode cX7_grit 36 = .ok (.istore 6, 2) := by decide +kernel
theorem dX7_grit_38 : decode cX7_grit 38 = .ok (.iload 6, 2) := by decide +kernel
theorem dX7_grit_40 : decode cX7_grit 40 = .ok (.iload_n 2, 1) := by decide +kernel
theorem dX7_grit_41 : decode cX7_grit 41 = .ok (.if_icmp .gt 32, 3) := by decide +kernel
theorem dX7_grit_44 : decode cX7_grit 44 = .ok (.aload_n 0, 1) := by decide +kernel
theorem dX7_grit_45 : decode cX7_grit 45 = .ok (.lload_n 3, 1) := by decide +kernel
theorem dX7_grit_46 : decode cX7_grit 46 = .ok (.invokevirtual 229, 3) := by decide +kernel
theorem dX7_grit_49 : decode cX7_grit 49 = .ok (.istore 5, 2) := by decide +kernel
theorem dX7_grit_51 : decode cX7_grit 51 = .ok (.iload 5, 2) := by decide +kernel
theorem dX7_grit_53 : decode cX7_grit 53 = .ok (.iconst (-1), 1) := by decide +kernel
theorem dX7_grit_54 : decode cX7_grit 54 = .ok (.if_icmp .ne 5, 3) := by decide +kernel
theorem dX7_grit_57 : decode cX7_grit 57 = .ok (.iconst (-1), 1) := by decide +kernel
theorem dX7_grit_58 : decode cX7_grit 58 = .ok (.ireturn, 1) := by decide +kernel
theorem dX7_grit_59 : decode cX7_grit 59 = .ok (.lload_n 3, 1) := by decide +kernel
theorem dX7_grit_60 : decode cX7_grit 60 = .ok (.iload 5, 2) := by decide +kernel
theorem dX7_grit_62 : decode cX7_grit 62 = .ok (.invokestatic 233, 3) := by decide +kernel
theorem dX7_grit_65 : decode cX7_grit 65 = .ok (.lor, 1) := by decide +kernel
theorem dX7_grit_66 : decode cX7_grit 66 = .ok (.lstore_n 3, 1) := by decide +kernel
theorem dX7_grit_67 : decode cX7_grit 67 = .ok (.iinc 6 1, 3) := by decide +kernel
theorem dX7_grit_70 : decode cX7_grit 70 = .ok (.goto (-32), 3) := by decide +kernel
theorem dX7_grit_73 : decode cX7_grit 73 = .ok (.iload 5, 2) := by decide +kernel
theorem dX7_grit_75 : decode cX7_grit 75 = .ok (.ireturn, 1) := by decide +kernel
theorem dX7_left_0 : decode cX7_left 0 = .ok (.iload_n 1, 1) := by decide +kernel
theorem dX7_left_1 : decode cX7_left 1 = .ok (.ifCond .lt 18, 3) := by decide +kernel
theorem dX7_left_4 : decode cX7_left 4 = .ok (.iload_n 1, 1) := by decide +kernel
theorem dX7_left_5 : decode cX7_left 5 = .ok (.bipush 8, 2) := by decide +kernel
theorem dX7_left_7 : decode cX7_left 7 = .ok (.if_icmp .gt 12, 3) := by decide +kernel
theorem dX7_left_10 : decode cX7_left 10 = .ok (.iload_n 2, 1) := by decide +kernel
theorem dX7_left_11 : decode cX7_left 11 = .ok (.ifCond .lt 8, 3) := by decide +kernel
theorem dX7_left_14 : decode cX7_left 14 = .ok (.iload_n 2, 1) := by decide +kernel
theorem dX7_left_15 : decode cX7_left 15 = .ok (.iconst 1, 1) := by decide +kernel
theorem dX7_left_16 : decode cX7_left 16 = .ok (.if_icmp .le 9, 3) := by decide +kernel
theorem dX7_left_19 : decode cX7_left 19 = .ok (.bipush (-2), 2) := by decide +kernel
theorem dX7_left_21 : decode cX7_left 21 = .ok (.invokestatic 237, 3) := by decide +kernel
theorem dX7_left_24 : decode cX7_left 24 = .ok (.lreturn, 1) := by decide +kernel
theorem dX7_left_25 : decode cX7_left 25 = .ok (.aload_n 0, 1) := by decide +kernel
theorem dX7_left_26 : decode cX7_left 26 = .ok (.iconst (-1), 1) := by decide +kernel
theorem dX7_left_27 : decode cX7_left 27 = .ok (.iconst (-1), 1) := by decide +kernel
theorem dX7_left_28 : decode cX7_left 28 = .ok (.invokevirtual 193, 3) := by decide +kernel
theorem dX7_left_31 : decode cX7_left 31 = .ok (.aload_n 0, 1) := by decide +kernel
theorem dX7_left_32 : decode cX7_left 32 = .ok (.iload_n 1, 1) := by decide +kernel
theorem dX7_left_33 : decode cX7_left 33 = .ok (.invokevirtual 240, 3) := by decide +kernel
theorem dX7_left_36 : decode cX7_left 36 = .ok (.iload_n 2, 1) := by decide +kernel
theorem dX7_left_37 : decode cX7_left 37 = .ok (.invokestatic 243, 3) := by decide +kernel
theorem dX7_left_40 : decode cX7_left 40 = .ok (.lreturn, 1) := by decide +kernel
theorem dX7_tower_0 : decode cX7_tower 0 = .ok (.iload_n 1, 1) := by decide +kernel
theorem dX7_tower_1 : decode cX7_tower 1 = .ok (.invokestatic 137, 3) := by decide +kernel
theorem dX7_tower_4 : decode cX7_tower 4 = .ok (.ifCond .eq 12, 3) := by decide +kernel
theorem dX7_tower_7 : decode cX7_tower 7 = .ok (.iload_n 2, 1) := by decide +kernel
theorem dX7_tower_8 : decode cX7_tower 8 = .ok (.ifCond .lt 8, 3) := by decide +kernel
theorem dX7_tower_11 : decode cX7_tower 11 = .ok (.iload_n 2, 1) := by decide +kernel
theorem dX7_tower_12 : decode cX7_tower 12 = .ok (.iconst 1, 1) := by decide +kernel
theorem dX7_tower_13 : decode cX7_tower 13 = .ok (.if_icmp .le 6, 3) := by decide +kernel
theorem dX7_tower_16 : decode cX7_tower 16 = .ok (.bipush (-2), 2) := by decide +kernel
theorem dX7_tower_18 : decode cX7_tower 18 = .ok (.ireturn, 1) := by decide +kernel
theorem dX7_tower_19 : decode cX7_tower 19 = .ok (.aload_n 0, 1) := by decide +kernel
theorem dX7_tower_20 : decode cX7_tower 20 = .ok (.getfield 57, 3) := by decide +kernel
theorem dX7_tower_23 : decode cX7_tower 23 = .ok (.iload_n 1, 1) := by decide +kernel
theorem dX7_tower_24 : decode cX7_tower 24 = .ok (.aaload, 1) := by decide +kernel
theorem dX7_tower_25 : decode cX7_tower 25 = .ok (.invokevirtual 140, 3) := by decide +kernel
theorem dX7_tower_28 : decode cX7_tower 28 = .ok (.ifCond .eq 9, 3) := by decide +kernel
theorem dX7_tower_31 : decode cX7_tower 31 = .ok (.aload_n 0, 1) := by decide +kernel
theorem dX7_tower_32 : decode cX7_tower 32 = .ok (.iconst 1, 1) := by decide +kernel
theorem dX7_tower_33 : decode cX7_tower 33 = .ok (.invokevirtual 144, 3) := by decide +kernel
theorem dX7_tower_36 : decode cX7_tower 36 = .ok (.ireturn, 1) := by decide +kernel
theorem dX7_tower_37 : decode cX7_tower 37 = .ok (.aload_n 0, 1) := by decide +kernel
theorem dX7_tower_38 : decode cX7_tower 38 = .ok (.getfield 26, 3) := by decide +kernel
theorem dX7_tower_41 : decode cX7_tower 41 = .ok (.getfield 155, 3) := by decide +kernel
theorem dX7_tower_44 : decode cX7_tower 44 = .ok (.iconst 5, 1) := by decide +kernel
theorem dX7_tower_45 : decode cX7_tower 45 = .ok (.if_icmp .le 6, 3) := by decide +kernel
theorem dX7_tower_48 : decode cX7_tower 48 = .ok (.bipush (-4), 2) := by decide +kernel
theorem dX7_tower_50 : decode cX7_tower 50 = .ok (.ireturn, 1) := by decide +kernel
theorem dX7_tower_51 : decode cX7_tower 51 = .ok (.aload_n 0, 1) := by decide +kernel
theorem dX7_tower_52 : decode cX7_tower 52 = .ok (.getfield 51, 3) := by decide +kernel
theorem dX7_tower_55 : decode cX7_tower 55 = .ok (.aload_n 0, 1) := by decide +kernel
theorem dX7_tower_56 : decode cX7_tower 56 = .ok (.getfield 19, 3) := by decide +kernel
theorem dX7_tower_59 : decode cX7_tower 59 = .ok (.getfield 98, 3) := by decide +kernel
theorem dX7_tower_62 : decode cX7_tower 62 = .ok (.aload_n 0, 1) := by decide +kernel
theorem dX7_tower_63 : decode cX7_tower 63 = .ok (.getfield 57, 3) := by decide +kernel
theorem dX7_tower_66 : decode cX7_tower 66 = .ok (.iload_n 1, 1) := by decide +kernel
theorem dX7_tower_67 : decode cX7_tower 67 = .ok (.aaload, 1) := by decide +kernel
theorem dX7_tower_68 : decode cX7_tower 68 = .ok (.invokevirtual 206, 3) := by decide +kernel
theorem dX7_tower_71 : decode cX7_tower 71 = .ok (.iload_n 2, 1) := by decide +kernel
theorem dX7_tower_72 : decode cX7_tower 72 = .ok (.ifCond .ne 13, 3) := by decide +kernel
theorem dX7_tower_75 : decode cX7_tower 75 = .ok (.aload_n 0, 1) := by decide +kernel
theorem dX7_tower_76 : decode cX7_tower 76 = .ok (.getfield 51, 3) := by decide +kernel
theorem dX7_tower_79 : decode cX7_tower 79 = .ok (.getfield 246, 3) := by decide +kernel
theorem dX7_tower_82 : decode cX7_tower 82 = .ok (.goto 10, 3) := by decide +kernel
theorem dX7_tower_85 : decode cX7_tower 85 = .ok (.aload_n 0, 1) := by decide +kernel
theorem dX7_tower_86 : decode cX7_tower 86 = .ok (.getfield 51, 3) := by decide +kernel
theorem dX7_tower_89 : decode cX7_tower 89 = .ok (.getfield 249, 3) := by decide +kernel
theorem dX7_tower_92 : decode cX7_tower 92 = .ok (.ireturn, 1) := by decide +kernel
theorem dX7_towerOrder_0 : decode cX7_towerOrder 0 = .ok (.iload_n 1, 1) := by decide +kernel
theorem dX7_towerOrder_1 : decode cX7_towerOrder 1 = .ok (.invokestatic 137, 3) := by decide +kernel
theorem dX7_towerOrder_4 : decode cX7_towerOrder 4 = .ok (.ifCond .eq 18, 3) := by decide +kernel
theorem dX7_towerOrder_7 : decode cX7_towerOrder 7 = .ok (.iload_n 2, 1) := by decide +kernel
theorem dX7_towerOrder_8 : decode cX7_towerOrder 8 = .ok (.ifCond .lt 14, 3) := by decide +kernel
theorem dX7_towerOrder_11 : decode cX7_towerOrder 11 = .ok (.iload_n 2, 1) := by decide +kernel
theorem dX7_towerOrder_12 : decode cX7_towerOrder 12 = .ok (.aload_n 0, 1) := by decide +kernel
theorem dX7_towerOrder_13 : decode cX7_towerOrder 13 = .ok (.getfield 26, 3) := by decide +kernel
theorem dX7_towerOrder_16 : decode cX7_towerOrder 16 = .ok (.getfield 155, 3) := by decide +kernel
theorem dX7_towerOrder_19 : decode cX7_towerOrder 19 = .ok (.if_icmp .lt 6, 3) := by decide +kernel
theorem dX7_towerOrder_22 : decode cX7_towerOrder 22 = .ok (.bipush (-2), 2) := by decide +kernel
theorem dX7_towerOrder_24 : decode cX7_towerOrder 24 = .ok (.ireturn, 1) := by decide +kernel
theorem dX7_towerOrder_25 : decode cX7_towerOrder 25 = .ok (.aload_n 0, 1) := by decide +kernel
theorem dX7_towerOrder_26 : decode cX7_towerOrder 26 = .ok (.getfield 57, 3) := by decide +kernel
theorem dX7_towerOrder_29 : decode cX7_towerOrder 29 = .ok (.iload_n 1, 1) := by decide +kernel
theorem dX7_towerOrder_30 : decode cX7_towerOrder 30 = .ok (.aaload, 1) := by decide +kernel
theorem dX7_towerOrder_31 : decode cX7_towerOrder 31 = .ok (.invokevirtual 140, 3) := by decide +kernel
theorem dX7_towerOrder_34 : decode cX7_towerOrder 34 = .ok (.ifCond .eq 9, 3) := by decide +kernel
theorem dX7_towerOrder_37 : decode cX7_towerOrder 37 = .ok (.aload_n 0, 1) := by decide +kernel
theorem dX7_towerOrder_38 : decode cX7_towerOrder 38 = .ok (.iconst 1, 1) := by decide +kernel
theorem dX7_towerOrder_39 : decode cX7_towerOrder 39 = .ok (.invokevirtual 144, 3) := by decide +kernel
theorem dX7_towerOrder_42 : decode cX7_towerOrder 42 = .ok (.ireturn, 1) := by decide +kernel
theorem dX7_towerOrder_43 : decode cX7_towerOrder 43 = .ok (.aload_n 0, 1) := by decide +kernel
theorem dX7_towerOrder_44 : decode cX7_towerOrder 44 = .ok (.getfield 26, 3) := by decide +kernel
theorem dX7_towerOrder_47 : decode cX7_towerOrder 47 = .ok (.getfield 155, 3) := by decide +kernel
theorem dX7_towerOrder_50 : decode cX7_towerOrder 50 = .ok (.iconst 5, 1) := by decide +kernel
theorem dX7_towerOrder_51 : decode cX7_towerOrder 51 = .ok (.if_icmp .le 6, 3) := by decide +kernel
theorem dX7_towerOrder_54 : decode cX7_towerOrder 54 = .ok (.bipush (-4), 2) := by decide +kernel
theorem dX7_towerOrder_56 : decode cX7_towerOrder 56 = .ok (.ireturn, 1) := by decide +kernel
theorem dX7_towerOrder_57 : decode cX7_towerOrder 57 = .ok (.aload_n 0, 1) := by decide +kernel
theorem dX7_towerOrder_58 : decode cX7_towerOrder 58 = .ok (.getfield 51, 3) := by decide +kernel
theorem dX7_towerOrder_61 : decode cX7_towerOrder 61 = .ok (.aload_n 0, 1) := by decide +kernel
theorem dX7_towerOrder_62 : decode cX7_towerOrder 62 = .ok (.getfield 19, 3) := by decide +kernel
theorem dX7_towerOrder_65 : decode cX7_towerOrder 65 = .ok (.getfield 98, 3) := by decide +kernel
theorem dX7_towerOrder_68 : decode cX7_towerOrder 68 = .ok (.aload_n 0, 1) := by decide +kernel
theorem dX7_towerOrder_69 : decode cX7_towerOrder 69 = .ok (.getfield 57, 3) := by decide +kernel
theorem dX7_towerOrder_72 : decode cX7_towerOrder 72 = .ok (.iload_n 1, 1) := by decide +kernel
theorem dX7_towerOrder_73 : decode cX7_towerOrder 73 = .ok (.aaload, 1) := by decide +kernel
theorem dX7_towerOrder_74 : decode cX7_towerOrder 74 = .ok (.invokevirtual 206, 3) := by decide +kernel
theorem dX7_towerOrder_77 : decode cX7_towerOrder 77 = .ok (.aload_n 0, 1) := by decide +kernel
theorem dX7_towerOrder_78 : decode cX7_towerOrder 78 = .ok (.getfield 51, 3) := by decide +kernel
theorem dX7_towerOrder_81 : decode cX7_towerOrder 81 = .ok (.getfield 246, 3) := by decide +kernel
theorem dX7_towerOrder_84 : decode cX7_towerOrder 84 = .ok (.ifCond .ne 7, 3) := by decide +kernel
theorem dX7_towerOrder_87 : decode cX7_towerOrder 87 = .ok (.iconst (-1), 1) := by decide +kernel
theorem dX7_towerOrder_88 : decode cX7_towerOrder 88 = .ok (.goto 12, 3) := by decide +kernel
theorem dX7_towerOrder_91 : decode cX7_towerOrder 91 = .ok (.aload_n 0, 1) := by decide +kernel
theorem dX7_towerOrder_92 : decode cX7_towerOrder 92 = .ok (.getfield 51, 3) := by decide +kernel
theorem dX7_towerOrder_95 : decode cX7_towerOrder 95 = .ok (.getfield 252, 3) := by decide +kernel
theorem dX7_towerOrder_98 : decode cX7_towerOrder 98 = .ok (.iload_n 2, 1) := by decide +kernel
theorem dX7_towerOrder_99 : decode cX7_towerOrder 99 = .ok (.iaload, 1) := by decide +kernel
theorem dX7_towerOrder_100 : decode cX7_towerOrder 100 = .ok (.ireturn, 1) := by decide +kernel
theorem dX7_hints_0 : decode cX7_hints 0 = .ok (.iload_n 1, 1) := by decide +kernel
theorem dX7_hints_1 : decode cX7_hints 1 = .ok (.invokestatic 137, 3) := by decide +kernel
theorem dX7_hints_4 : decode cX7_hints 4 = .ok (.ifCond .eq 20, 3) := by decide +kernel
theorem dX7_hints_7 : decode cX7_hints 7 = .ok (.aload_n 0, 1) := by decide +kernel
theorem dX7_hints_8 : decode cX7_hints 8 = .ok (.iload_n 2, 1) := by decide +kernel
theorem dX7_hints_9 : decode cX7_hints 9 = .ok (.invokevirtual 169, 3) := by decide +kernel
theorem dX7_hints_12 : decode cX7_hints 12 = .ok (.ifCond .eq 12, 3) := by decide +kernel
theorem dX7_hints_15 : decode cX7_hints 15 = .ok (.iload_n 3, 1) := by decide +kernel
theorem dX7_hints_16 : decode cX7_hints 16 = .ok (.ifCond .lt 8, 3) := by decide +kernel
theorem dX7_hints_19 : decode cX7_hints 19 = .ok (.iload_n 3, 1) := by decide +kernel
theorem dX7_hints_20 : decode cX7_hints 20 = .ok (.iconst 1, 1) := by decide +kernel
theorem dX7_hints_21 : decode cX7_hints 21 = .ok (.if_icmp .le 6, 3) := by decide +kernel
theorem dX7_hints_24 : decode cX7_hints 24 = .ok (.bipush (-2), 2) := by decide +kernel
theorem dX7_hints_26 : decode cX7_hints 26 = .ok (.ireturn, 1) := by decide +kernel
theorem dX7_hints_27 : decode cX7_hints 27 = .ok (.aload_n 0, 1) := by decide +kernel
theorem dX7_hints_28 : decode cX7_hints 28 = .ok (.getfield 57, 3) := by decide +kernel
theorem dX7_hints_31 : decode cX7_hints 31 = .ok (.iload_n 1, 1) := by decide +kernel
theorem dX7_hints_32 : decode cX7_hints 32 = .ok (.aaload, 1) := by decide +kernel
theorem dX7_hints_33 : decode cX7_hints 33 = .ok (.invokevirtual 140, 3) := by decide +kernel
theorem dX7_hints_36 : decode cX7_hints 36 = .ok (.ifCond .eq 9, 3) := by decide +kernel
theorem dX7_hints_39 : decode cX7_hints 39 = .ok (.aload_n 0, 1) := by decide +kernel
theorem dX7_hints_40 : decode cX7_hints 40 = .ok (.iconst 1, 1) := by decide +kernel
theorem dX7_hints_41 : decode cX7_hints 41 = .ok (.invokevirtual 144, 3) := by decide +kernel
theorem dX7_hints_44 : decode cX7_hints 44 = .ok (.ireturn, 1) := by decide +kernel
theorem dX7_hints_45 : decode cX7_hints 45 = .ok (.iconst 0, 1) := by decide +kernel
theorem dX7_hints_46 : decode cX7_hints 46 = .ok (.istore 4, 2) := by decide +kernel
theorem dX7_hints_48 : decode cX7_hints 48 = .ok (.iconst (-1), 1) := by decide +kernel
theorem dX7_hints_49 : decode cX7_hints 49 = .ok (.istore 5, 2) := by decide +kernel
theorem dX7_hints_51 : decode cX7_hints 51 = .ok (.iconst 0, 1) := by decide +kernel
theorem dX7_hints_52 : decode cX7_hints 52 = .ok (.istore 6, 2) := by decide +kernel
theorem dX7_hints_54 : decode cX7_hints 54 = .ok (.iload 6, 2) := by decide +kernel
theorem dX7_hints_56 : decode cX7_hints 56 = .ok (.bipush 64, 2) := by decide +kernel
theorem dX7_hints_58 : decode cX7_hints 58 = .ok (.if_icmp .ge 55, 3) := by decide +kernel
theorem dX7_hints_61 : decode cX7_hints 61 = .ok (.aload_n 0, 1) := by decide +kernel
theorem dX7_hints_62 : decode cX7_hints 62 = .ok (.getfield 10, 3) := by decide +kernel
theorem dX7_hints_65 : decode cX7_hints 65 = .ok (.iload 6, 2) := by decide +kernel
theorem dX7_hints_67 : decode cX7_hints 67 = .ok (.invokevirtual 94, 3) := by decide +kernel
theorem dX7_hints_70 : decode cX7_hints 70 = .ok (.ifCond .ne 37, 3) := by decide +kernel
theorem dX7_hints_73 : decode cX7_hints 73 = .ok (.aload_n 0, 1) := by decide +kernel
theorem dX7_hints_74 : decode cX7_hints 74 = .ok (.aload_n 0, 1) := by decide +kernel
theorem dX7_hints_75 : decode cX7_hints 75 = .ok (.getfield 57, 3) := by decide +kernel
theorem dX7_hints_78 : decode cX7_hints 78 = .ok (.iload_n 1, 1) := by decide +kernel
theorem dX7_hints_79 : decode cX7_hints 79 = .ok (.aaload, 1) := by decide +kernel
theorem dX7_hints_80 : decode cX7_hints 80 = .ok (.iload_n 2, 1) := by decide +kernel
theorem dX7_hints_81 : decode cX7_hints 81 = .ok (.iload 6, 2) := by decide +kernel
theorem dX7_hints_83 : decode cX7_hints 83 = .ok (.invokevirtual 255, 3) := by decide +kernel
theorem dX7_hints_86 : decode cX7_hints 86 = .ok (.ifCond .eq 21, 3) := by decide +kernel
theorem dX7_hints_89 : decode cX7_hints 89 = .ok (.iinc 4 1, 3) := by decide +kernel
theorem dX7_hints_92 : decode cX7_hints 92 = .ok (.iload 5, 2) := by decide +kernel
theorem dX7_hints_94 : decode cX7_hints 94 = .ok (.iconst (-1), 1) := by decide +kernel
theorem dX7_hints_95 : decode cX7_hints 95 = .ok (.if_icmp .ne 8, 3) := by decide +kernel
theorem dX7_hints_98 : decode cX7_hints 98 = .ok (.iload 6, 2) := by decide +kernel
theorem dX7_hints_100 : decode cX7_hints 100 = .ok (.goto 5, 3) := by decide +kernel
theorem dX7_hints_103 : decode cX7_hints 103 = .ok (.iload 5, 2) := by decide +kernel
theorem dX7_hints_105 : decode cX7_hints 105 = .ok (.istore 5, 2) := by decide +kernel
theorem dX7_hints_107 : decode cX7_hints 107 = .ok (.iinc 6 1, 3) := by decide +kernel
theorem dX7_hints_110 : decode cX7_hints 110 = .ok (.goto (-56), 3) := by decide +kernel
theorem dX7_hints_113 : decode cX7_hints 113 = .ok (.iload_n 3, 1) := by decide +kernel
theorem dX7_hints_114 : decode cX7_hints 114 = .ok (.ifCond .ne 8, 3) := by decide +kernel
theorem dX7_hints_117 : decode cX7_hints 117 = .ok (.iload 4, 2) := by decide +kernel
theorem dX7_hints_119 : decode cX7_hints 119 = .ok (.goto 5, 3) := by decide +kernel
theorem dX7_hints_122 : decode cX7_hints 122 = .ok (.iload 5, 2) := by decide +kernel
theorem dX7_hints_124 : decode cX7_hints 124 = .ok (.ireturn, 1) := by decide +kernel
theorem dX7_sheet_0 : decode cX7_sheet 0 = .ok (.iload_n 1, 1) := by decide +kernel
theorem dX7_sheet_1 : decode cX7_sheet 1 = .ok (.invokestatic 137, 3) := by decide +kernel
theorem dX7_sheet_4 : decode cX7_sheet 4 = .ok (.ifCond .eq 16, 3) := by decide +kernel
theorem dX7_sheet_7 : decode cX7_sheet 7 = .ok (.iload_n 2, 1) := by decide +kernel
theorem dX7_sheet_8 : decode cX7_sheet 8 = .ok (.invokestatic 259, 3) := by decide +kernel
theorem dX7_sheet_11 : decode cX7_sheet 11 = .ok (.ifCond .eq 9, 3) := by decide +kernel
theorem dX7_sheet_14 : decode cX7_sheet 14 = .ok (.iload_n 3, 1) := by decide +kernel
theorem dX7_sheet_15 : decode cX7_sheet 15 = .ok (.bipush 64, 2) := by decide +kernel
theorem dX7_sheet_17 : decode cX7_sheet 17 = .ok (.if_icmp .le 6, 3) := by decide +kernel
theorem dX7_sheet_20 : decode cX7_sheet 20 = .ok (.bipush (-2), 2) := by decide +kernel
theorem dX7_sheet_22 : decode cX7_sheet 22 = .ok (.ireturn, 1) := by decide +kernel
theorem dX7_sheet_23 : decode cX7_sheet 23 = .ok (.iload_n 3, 1) := by decide +kernel
theorem dX7_sheet_24 : decode cX7_sheet 24 = .ok (.ifCond .ge 9, 3) := by decide +kernel
theorem dX7_sheet_27 : decode cX7_sheet 27 = .ok (.aload_n 0, 1) := by decide +kernel
theorem dX7_sheet_28 : decode cX7_sheet 28 = .ok (.iconst 5, 1) := by decide +kernel
theorem dX7_sheet_29 : decode cX7_sheet 29 = .ok (.invokevirtual 144, 3) := by decide +kernel
theorem dX7_sheet_32 : decode cX7_sheet 32 = .ok (.ireturn, 1) := by decide +kernel
theorem dX7_sheet_33 : decode cX7_sheet 33 = .ok (.aload_n 0, 1) := by decide +kernel
theorem dX7_sheet_34 : decode cX7_sheet 34 = .ok (.getfield 57, 3) := by decide +kernel
theorem dX7_sheet_37 : decode cX7_sheet 37 = .ok (.iload_n 1, 1) := by decide +kernel
theorem dX7_sheet_38 : decode cX7_sheet 38 = .ok (.aaload, 1) := by decide +kernel
theorem dX7_sheet_39 : decode cX7_sheet 39 = .ok (.iload_n 2, 1) := by decide +kernel
theorem dX7_sheet_40 : decode cX7_sheet 40 = .ok (.iload_n 3, 1) := by decide +kernel
theorem dX7_sheet_41 : decode cX7_sheet 41 = .ok (.invokevirtual 262, 3) := by decide +kernel
theorem dX7_sheet_44 : decode cX7_sheet 44 = .ok (.iload_n 3, 1) := by decide +kernel
theorem dX7_sheet_45 : decode cX7_sheet 45 = .ok (.ireturn, 1) := by decide +kernel
theorem dX7_lose_0 : decode cX7_lose 0 = .ok (.iload_n 1, 1) := by decide +kernel
theorem dX7_lose_1 : decode cX7_lose 1 = .ok (.invokestatic 137, 3) := by decide +kernel
theorem dX7_lose_4 : decode cX7_lose 4 = .ok (.ifCond .ne 6, 3) := by decide +kernel
theorem dX7_lose_7 : decode cX7_lose 7 = .ok (.bipush (-2), 2) := by decide +kernel
theorem dX7_lose_9 : decode cX7_lose 9 = .ok (.ireturn, 1) := by decide +kernel
theorem dX7_lose_10 : decode cX7_lose 10 = .ok (.aload_n 0, 1) := by decide +kernel
theorem dX7_lose_11 : decode cX7_lose 11 = .ok (.getfield 57, 3) := by decide +kernel
theorem dX7_lose_14 : decode cX7_lose 14 = .ok (.iload_n 1, 1) := by decide +kernel
theorem dX7_lose_15 : decode cX7_lose 15 = .ok (.aaload, 1) := by decide +kernel
theorem dX7_lose_16 : decode cX7_lose 16 = .ok (.invokevirtual 140, 3) := by decide +kernel
theorem dX7_lose_19 : decode cX7_lose 19 = .ok (.ifCond .eq 9, 3) := by decide +kernel
theorem dX7_lose_22 : decode cX7_lose 22 = .ok (.aload_n 0, 1) := by decide +kernel
theorem dX7_lose_23 : decode cX7_lose 23 = .ok (.iconst 1, 1) := by decide +kernel
theorem dX7_lose_24 : decode cX7_lose 24 = .ok (.invokevirtual 144, 3) := by decide +kernel
theorem dX7_lose_27 : decode cX7_lose 27 = .ok (.ireturn, 1) := by decide +kernel
theorem dX7_lose_28 : decode cX7_lose 28 = .ok (.aload_n 0, 1) := by decide +kernel
theorem dX7_lose_29 : decode cX7_lose 29 = .ok (.getfield 57, 3) := by decide +kernel
theorem dX7_lose_32 : decode cX7_lose 32 = .ok (.iload_n 1, 1) := by decide +kernel
theorem dX7_lose_33 : decode cX7_lose 33 = .ok (.aaload, 1) := by decide +kernel
theorem dX7_lose_34 : decode cX7_lose 34 = .ok (.getfield 265, 3) := by decide +kernel
theorem dX7_lose_37 : decode cX7_lose 37 = .ok (.istore_n 2, 1) := by decide +kernel
theorem dX7_lose_38 : decode cX7_lose 38 = .ok (.aload_n 0, 1) := by decide +kernel
theorem dX7_lose_39 : decode cX7_lose 39 = .ok (.getfield 57, 3) := by decide +kernel
theorem dX7_lose_42 : decode cX7_lose 42 = .ok (.iload_n 1, 1) := by decide +kernel
theorem dX7_lose_43 : decode cX7_lose 43 = .ok (.aaload, 1) := by decide +kernel
theorem dX7_lose_44 : decode cX7_lose 44 = .ok (.iconst (-1), 1) := by decide +kernel
theorem dX7_lose_45 : decode cX7_lose 45 = .ok (.iconst 0, 1) := by decide +kernel
theorem dX7_lose_46 : decode cX7_lose 46 = .ok (.invokevirtual 262, 3) := by decide +kernel
theorem dX7_lose_49 : decode cX7_lose 49 = .ok (.iload_n 2, 1) := by decide +kernel
theorem dX7_lose_50 : decode cX7_lose 50 = .ok (.ireturn, 1) := by decide +kernel
theorem dX7_lay_0 : decode cX7_lay 0 = .ok (.aload_n 0, 1) := by decide +kernel
theorem dX7_lay_1 : decode cX7_lay 1 = .ok (.iload_n 1, 1) := by decide +kernel
theorem dX7_lay_2 : decode cX7_lay 2 = .ok (.iload_n 2, 1) := by decide +kernel
theorem dX7_lay_3 : decode cX7_lay 3 = .ok (.iload_n 3, 1) := by decide +kernel
theorem dX7_lay_4 : decode cX7_lay 4 = .ok (.invokevirtual 268, 3) := by decide +kernel
theorem dX7_lay_7 : decode cX7_lay 7 = .ok (.istore 5, 2) := by decide +kernel
theorem dX7_lay_9 : decode cX7_lay 9 = .ok (.iload 5, 2) := by decide +kernel
theorem dX7_lay_11 : decode cX7_lay 11 = .ok (.ifCond .eq 6, 3) := by decide +kernel
theorem dX7_lay_14 : decode cX7_lay 14 = .ok (.iload 5, 2) := by decide +kernel
theorem dX7_lay_16 : decode cX7_lay 16 = .ok (.ireturn, 1) := by decide +kernel
theorem dX7_lay_17 : decode cX7_lay 17 = .ok (.aload_n 0, 1) := by decide +kernel
theorem dX7_lay_18 : decode cX7_lay 18 = .ok (.getfield 57, 3) := by decide +kernel
theorem dX7_lay_21 : decode cX7_lay 21 = .ok (.iload_n 1, 1) := by decide +kernel
theorem dX7_lay_22 : decode cX7_lay 22 = .ok (.aaload, 1) := by decide +kernel
theorem dX7_lay_23 : decode cX7_lay 23 = .ok (.iload_n 3, 1) := by decide +kernel
theorem dX7_lay_24 : decode cX7_lay 24 = .ok (.iload 4, 2) := by decide +kernel
theorem dX7_lay_26 : decode cX7_lay 26 = .ok (.invokevirtual 272, 3) := by decide +kernel
theorem dX7_lay_29 : decode cX7_lay 29 = .ok (.iconst 1, 1) := by decide +kernel
theorem dX7_lay_30 : decode cX7_lay 30 = .ok (.ireturn, 1) := by decide +kernel
theorem dX7_get_0 : decode cX7_get 0 = .ok (.aload_n 0, 1) := by decide +kernel
theorem dX7_get_1 : decode cX7_get 1 = .ok (.iload_n 1, 1) := by decide +kernel
theorem dX7_get_2 : decode cX7_get 2 = .ok (.iload_n 2, 1) := by decide +kernel
theorem dX7_get_3 : decode cX7_get 3 = .ok (.iload_n 3, 1) := by decide +kernel
theorem dX7_get_4 : decode cX7_get 4 = .ok (.invokevirtual 268, 3) := by decide +kernel
theorem dX7_get_7 : decode cX7_get 7 = .ok (.ifCond .eq 9, 3) := by decide +kernel
theorem dX7_get_10 : decode cX7_get 10 = .ok (.ldc_w 275, 3) := by decide +kernel
theorem dX7_get_13 : decode cX7_get 13 = .ok (.goto 14, 3) := by decide +kernel
theorem dX7_get_16 : decode cX7_get 16 = .ok (.aload_n 0, 1) := by decide +kernel
theorem dX7_get_17 : decode cX7_get 17 = .ok (.getfield 57, 3) := by decide +kernel
theorem dX7_get_20 : decode cX7_get 20 = .ok (.iload_n 1, 1) := by decide +kernel
theorem dX7_get_21 : decode cX7_get 21 = .ok (.aaload, 1) := by decide +kernel
theorem dX7_get_22 : decode cX7_get 22 = .ok (.getfield 276, 3) := by decide +kernel
theorem dX7_get_25 : decode cX7_get 25 = .ok (.iload_n 3, 1) := by decide +kernel
theorem dX7_get_26 : decode cX7_get 26 = .ok (.iaload, 1) := by decide +kernel
theorem dX7_get_27 : decode cX7_get 27 = .ok (.ireturn, 1) := by decide +kernel
theorem dX7_copy_0 : decode cX7_copy 0 = .ok (.iload_n 1, 1) := by decide +kernel
theorem dX7_copy_1 : decode cX7_copy 1 = .ok (.invokestatic 137, 3) := by decide +kernel
theorem dX7_copy_4 : decode cX7_copy 4 = .ok (.ifCond .eq 10, 3) := by decide +kernel
theorem dX7_copy_7 : decode cX7_copy 7 = .ok (.iload_n 3, 1) := by decide +kernel
theorem dX7_copy_8 : decode cX7_copy 8 = .ok (.invokestatic 137, 3) := by decide +kernel
theorem dX7_copy_11 : decode cX7_copy 11 = .ok (.ifCond .ne 6, 3) := by decide +kernel
theorem dX7_copy_14 : decode cX7_copy 14 = .ok (.bipush (-2), 2) := by decide +kernel
theorem dX7_copy_16 : decode cX7_copy 16 = .ok (.ireturn, 1) := by decide +kernel
theorem dX7_copy_17 : decode cX7_copy 17 = .ok (.aload_n 0, 1) := by decide +kernel
theorem dX7_copy_18 : decode cX7_copy 18 = .ok (.getfield 57, 3) := by decide +kernel
theorem dX7_copy_21 : decode cX7_copy 21 = .ok (.iload_n 1, 1) := by decide +kernel
theorem dX7_copy_22 : decode cX7_copy 22 = .ok (.aaload, 1) := by decide +kernel
theorem dX7_copy_23 : decode cX7_copy 23 = .ok (.invokevirtual 140, 3) := by decide +kernel
theorem dX7_copy_26 : decode cX7_copy 26 = .ok (.ifCond .ne 15, 3) := by decide +kernel
theorem dX7_copy_29 : decode cX7_copy 29 = .ok (.aload_n 0, 1) := by decide +kernel
theorem dX7_copy_30 : decode cX7_copy 30 = .ok (.getfield 57, 3) := by decide +kernel
theorem dX7_copy_33 : decode cX7_copy 33 = .ok (.iload_n 3, 1) := by decide +kernel
theorem dX7_copy_34 : decode cX7_copy 34 = .ok (.aaload, 1) := by decide +kernel
theorem dX7_copy_35 : decode cX7_copy 35 = .ok (.invokevirtual 140, 3) := by decide +kernel
theorem dX7_copy_38 : decode cX7_copy 38 = .ok (.ifCond .eq 9, 3) := by decide +kernel
theorem dX7_copy_41 : decode cX7_copy 41 = .ok (.aload_n 0, 1) := by decide +kernel
theorem dX7_copy_42 : decode cX7_copy 42 = .ok (.iconst 1, 1) := by decide +kernel
theorem dX7_copy_43 : decode cX7_copy 43 = .ok (.invokevirtual 144, 3) := by decide +kernel
theorem dX7_copy_46 : decode cX7_copy 46 = .ok (.ireturn, 1) := by decide +kernel
theorem dX7_copy_47 : decode cX7_copy 47 = .ok (.aload_n 0, 1) := by decide +kernel
theorem dX7_copy_48 : decode cX7_copy 48 = .ok (.getfield 57, 3) := by decide +kernel
theorem dX7_copy_51 : decode cX7_copy 51 = .ok (.iload_n 1, 1) := by decide +kernel
theorem dX7_copy_52 : decode cX7_copy 52 = .ok (.aaload, 1) := by decide +kernel
theorem dX7_copy_53 : decode cX7_copy 53 = .ok (.getfield 279, 3) := by decide +kernel
theorem dX7_copy_56 : decode cX7_copy 56 = .ok (.aload_n 0, 1) := by decide +kernel
theorem dX7_copy_57 : decode cX7_copy 57 = .ok (.getfield 57, 3) := by decide +kernel
theorem dX7_copy_60 : decode cX7_copy 60 = .ok (.iload_n 3, 1) := by decide +kernel
theorem dX7_copy_61 : decode cX7_copy 61 = .ok (.aaload, 1) := by decide +kernel
theorem dX7_copy_62 : decode cX7_copy 62 = .ok (.getfield 279, 3) := by decide +kernel
theorem dX7_copy_65 : decode cX7_copy 65 = .ok (.if_icmp .eq 9, 3) := by decide +kernel
theorem dX7_copy_68 : decode cX7_copy 68 = .ok (.aload_n 0, 1) := by decide +kernel
theorem dX7_copy_69 : decode cX7_copy 69 = .ok (.iconst 4, 1) := by decide +kernel
theorem dX7_copy_70 : decode cX7_copy 70 = .ok (.invokevirtual 144, 3) := by decide +kernel
theorem dX7_copy_73 : decode cX7_copy 73 = .ok (.ireturn, 1) := by decide +kernel
theorem dX7_copy_74 : decode cX7_copy 74 = .ok (.aload_n 0, 1) := by decide +kernel
theorem dX7_copy_75 : decode cX7_copy 75 = .ok (.getfield 57, 3) := by decide +kernel
theorem dX7_copy_78 : decode cX7_copy 78 = .ok (.iload_n 1, 1) := by decide +kernel
theorem dX7_copy_79 : decode cX7_copy 79 = .ok (.aaload, 1) := by decide +kernel
theorem dX7_copy_80 : decode cX7_copy 80 = .ok (.iload_n 2, 1) := by decide +kernel
theorem dX7_copy_81 : decode cX7_copy 81 = .ok (.iload 5, 2) := by decide +kernel
theorem dX7_copy_83 : decode cX7_copy 83 = .ok (.invokevirtual 282, 3) := by decide +kernel
theorem dX7_copy_86 : decode cX7_copy 86 = .ok (.ifCond .eq 19, 3) := by decide +kernel
theorem dX7_copy_89 : decode cX7_copy 89 = .ok (.aload_n 0, 1) := by decide +kernel
theorem dX7_copy_90 : decode cX7_copy 90 = .ok (.getfield 57, 3) := by decide +kernel
theorem dX7_copy_93 : decode cX7_copy 93 = .ok (.iload_n 3, 1) := by decide +kernel
theorem dX7_copy_94 : decode cX7_copy 94 = .ok (.aaload, 1) := by decide +kernel
theorem dX7_copy_95 : decode cX7_copy 95 = .ok (.iload 4, 2) := by decide +kernel
theorem dX7_copy_97 : decode cX7_copy 97 = .ok (.iload 5, 2) := by decide +kernel
theorem dX7_copy_99 : decode cX7_copy 99 = .ok (.invokevirtual 282, 3) := by decide +kernel
theorem dX7_copy_102 : decode cX7_copy 102 = .ok (.ifCond .ne 9, 3) := by decide +kernel
theorem dX7_copy_105 : decode cX7_copy 105 = .ok (.aload_n 0, 1) := by decide +kernel
theorem dX7_copy_106 : decode cX7_copy 106 = .ok (.iconst 2, 1) := by decide +kernel
theorem dX7_copy_107 : decode cX7_copy 107 = .ok (.invokevirtual 144, 3) := by decide +kernel
theorem dX7_copy_110 : decode cX7_copy 110 = .ok (.ireturn, 1) := by decide +kernel
theorem dX7_copy_111 : decode cX7_copy 111 = .ok (.aload_n 0, 1) := by decide +kernel
theorem dX7_copy_112 : decode cX7_copy 112 = .ok (.getfield 57, 3) := by decide +kernel
theorem dX7_copy_115 : decode cX7_copy 115 = .ok (.iload_n 1, 1) := by decide +kernel
theorem dX7_copy_116 : decode cX7_copy 116 = .ok (.aaload, 1) := by decide +kernel
theorem dX7_copy_117 : decode cX7_copy 117 = .ok (.getfield 276, 3) := by decide +kernel
theorem dX7_copy_120 : decode cX7_copy 120 = .ok (.iload_n 2, 1) := by decide +kernel
theorem dX7_copy_121 : decode cX7_copy 121 = .ok (.aload_n 0, 1) := by decide +kernel
theorem dX7_copy_122 : decode cX7_copy 122 = .ok (.getfield 57, 3) := by decide +kernel
theorem dX7_copy_125 : decode cX7_copy 125 = .ok (.iload_n 3, 1) := by decide +kernel
theorem dX7_copy_126 : decode cX7_copy 126 = .ok (.aaload, 1) := by decide +kernel
theorem dX7_copy_127 : decode cX7_copy 127 = .ok (.getfield 276, 3) := by decide +kernel
theorem dX7_copy_130 : decode cX7_copy 130 = .ok (.iload 4, 2) := by decide +kernel
theorem dX7_copy_132 : decode cX7_copy 132 = .ok (.iload 5, 2) := by decide +kernel
theorem dX7_copy_134 : decode cX7_copy 134 = .ok (.invokestatic 285, 3) := by decide +kernel
theorem dX7_copy_137 : decode cX7_copy 137 = .ok (.iconst 1, 1) := by decide +kernel
theorem dX7_copy_138 : decode cX7_copy 138 = .ok (.ireturn, 1) := by decide +kernel
theorem dX7_write_0 : decode cX7_write 0 = .ok (.iload_n 1, 1) := by decide +kernel
theorem dX7_write_1 : decode cX7_write 1 = .ok (.invokestatic 137, 3) := by decide +kernel
theorem dX7_write_4 : decode cX7_write 4 = .ok (.ifCond .ne 6, 3) := by decide +kernel
theorem dX7_write_7 : decode cX7_write 7 = .ok (.bipush (-2), 2) := by decide +kernel
theorem dX7_write_9 : decode cX7_write 9 = .ok (.ireturn, 1) := by decide +kernel
theorem dX7_write_10 : decode cX7_write 10 = .ok (.aload_n 0, 1) := by decide +kernel
theorem dX7_write_11 : decode cX7_write 11 = .ok (.getfield 57, 3) := by decide +kernel
theorem dX7_write_14 : decode cX7_write 14 = .ok (.iload_n 1, 1) := by decide +kernel
theorem dX7_write_15 : decode cX7_write 15 = .ok (.aaload, 1) := by decide +kernel
theorem dX7_write_16 : decode cX7_write 16 = .ok (.invokevirtual 140, 3) := by decide +kernel
theorem dX7_write_19 : decode cX7_write 19 = .ok (.ifCond .eq 9, 3) := by decide +kernel
theorem dX7_write_22 : decode cX7_write 22 = .ok (.aload_n 0, 1) := by decide +kernel
theorem dX7_write_23 : decode cX7_write 23 = .ok (.iconst 1, 1) := by decide +kernel
theorem dX7_write_24 : decode cX7_write 24 = .ok (.invokevirtual 144, 3) := by decide +kernel
theorem dX7_write_27 : decode cX7_write 27 = .ok (.ireturn, 1) := by decide +kernel
theorem dX7_write_28 : decode cX7_write 28 = .ok (.aload_n 0, 1) := by decide +kernel
theorem dX7_write_29 : decode cX7_write 29 = .ok (.iconst (-1), 1) := by decide +kernel
theorem dX7_write_30 : decode cX7_write 30 = .ok (.iconst (-1), 1) := by decide +kernel
theorem dX7_write_31 : decode cX7_write 31 = .ok (.invokevirtual 193, 3) := by decide +kernel
theorem dX7_write_34 : decode cX7_write 34 = .ok (.iconst 0, 1) := by decide +kernel
theorem dX7_write_35 : decode cX7_write 35 = .ok (.istore_n 2, 1) := by decide +kernel
theorem dX7_write_36 : decode cX7_write 36 = .ok (.iload_n 2, 1) := by decide +kernel
theorem dX7_write_37 : decode cX7_write 37 = .ok (.aload_n 0, 1) := by decide +kernel
theorem dX7_write_38 : decode cX7_write 38 = .ok (.getfield 57, 3) := by decide +kernel
theorem dX7_write_41 : decode cX7_write 41 = .ok (.iload_n 1, 1) := by decide +kernel
theorem dX7_write_42 : decode cX7_write 42 = .ok (.aaload, 1) := by decide +kernel
theorem dX7_write_43 : decode cX7_write 43 = .ok (.getfield 265, 3) := by decide +kernel
theorem dX7_write_46 : decode cX7_write 46 = .ok (.if_icmp .ge 28, 3) := by decide +kernel
theorem dX7_write_49 : decode cX7_write 49 = .ok (.aload_n 0, 1) := by decide +kernel
theorem dX7_write_50 : decode cX7_write 50 = .ok (.getfield 57, 3) := by decide +kernel
theorem dX7_write_53 : decode cX7_write 53 = .ok (.iload_n 1, 1) := by decide +kernel
theorem dX7_write_54 : decode cX7_write 54 = .ok (.aaload, 1) := by decide +kernel
theorem dX7_write_55 : decode cX7_write 55 = .ok (.iload_n 2, 1) := by decide +kernel
theorem dX7_write_56 : decode cX7_write 56 = .ok (.aload_n 0, 1) := by decide +kernel
theorem dX7_write_57 : decode cX7_write 57 = .ok (.getfield 42, 3) := by decide +kernel
theorem dX7_write_60 : decode cX7_write 60 = .ok (.getfield 291, 3) := by decide +kernel
theorem dX7_write_63 : decode cX7_write 63 = .ok (.iload_n 2, 1) := by decide +kernel
theorem dX7_write_64 : decode cX7_write 64 = .ok (.iaload, 1) := by decide +kernel
theorem dX7_write_65 : decode cX7_write 65 = .ok (.invokevirtual 272, 3) := by decide +kernel
theorem dX7_write_68 : decode cX7_write 68 = .ok (.iinc 2 1, 3) := by decide +kernel
theorem dX7_write_71 : decode cX7_write 71 = .ok (.goto (-35), 3) := by decide +kernel
theorem dX7_write_74 : decode cX7_write 74 = .ok (.aload_n 0, 1) := by decide +kernel
theorem dX7_write_75 : decode cX7_write 75 = .ok (.getfield 57, 3) := by decide +kernel
theorem dX7_write_78 : decode cX7_write 78 = .ok (.iload_n 1, 1) := by decide +kernel
theorem dX7_write_79 : decode cX7_write 79 = .ok (.aaload, 1) := by decide +kernel
theorem dX7_write_80 : decode cX7_write 80 = .ok (.getfield 265, 3) := by decide +kernel
theorem dX7_write_83 : decode cX7_write 83 = .ok (.ireturn, 1) := by decide +kernel
theorem dX7_count_0 : decode cX7_count 0 = .ok (.iload_n 1, 1) := by decide +kernel
theorem dX7_count_1 : decode cX7_count 1 = .ok (.tableswitch 138 0 8 #[51, 59, 70, 81, 92, 103, 114, 125, 133], 51) := by decide +kernel
theorem dX7_count_52 : decode cX7_count 52 = .ok (.aload_n 0, 1) := by decide +kernel
theorem dX7_count_53 : decode cX7_count 53 = .ok (.getfield 10, 3) := by decide +kernel
theorem dX7_count_56 : decode cX7_count 56 = .ok (.getfield 82, 3) := by decide +kernel
theorem dX7_count_59 : decode cX7_count 59 = .ok (.ireturn, 1) := by decide +kernel
theorem dX7_count_60 : decode cX7_count 60 = .ok (.aload_n 0, 1) := by decide +kernel
theorem dX7_count_61 : decode cX7_count 61 = .ok (.getfield 10, 3) := by decide +kernel
theorem dX7_count_64 : decode cX7_count 64 = .ok (.getfield 111, 3) := by decide +kernel
theorem dX7_count_67 : decode cX7_count 67 = .ok (.invokestatic 294, 3) := by decide +kernel
theorem dX7_count_70 : decode cX7_count 70 = .ok (.ireturn, 1) := by decide +kernel
theorem dX7_count_71 : decode cX7_count 71 = .ok (.aload_n 0, 1) := by decide +kernel
theorem dX7_count_72 : decode cX7_count 72 = .ok (.getfield 10, 3) := by decide +kernel
theorem dX7_count_75 : decode cX7_count 75 = .ok (.getfield 158, 3) := by decide +kernel
theorem dX7_count_78 : decode cX7_count 78 = .ok (.invokestatic 294, 3) := by decide +kernel
theorem dX7_count_81 : decode cX7_count 81 = .ok (.ireturn, 1) := by decide +kernel
theorem dX7_count_82 : decode cX7_count 82 = .ok (.aload_n 0, 1) := by decide +kernel
theorem dX7_count_83 : decode cX7_count 83 = .ok (.getfield 19, 3) := by decide +kernel
theorem dX7_count_86 : decode cX7_count 86 = .ok (.getfield 98, 3) := by decide +kernel
theorem dX7_count_89 : decode cX7_count 89 = .ok (.invokestatic 299, 3) := by decide +kernel
theorem dX7_count_92 : decode cX7_count 92 = .ok (.ireturn, 1) := by decide +kernel
theorem dX7_count_93 : decode cX7_count 93 = .ok (.aload_n 0, 1) := by decide +kernel
theorem dX7_count_94 : decode cX7_count 94 = .ok (.getfield 19, 3) := by decide +kernel
theorem dX7_count_97 : decode cX7_count 97 = .ok (.getfield 102, 3) := by decide +kernel
theorem dX7_count_100 : decode cX7_count 100 = .ok (.invokestatic 299, 3) := by decide +kernel
theorem dX7_count_103 : decode cX7_count 103 = .ok (.ireturn, 1) := by decide +kernel
theorem dX7_count_104 : decode cX7_count 104 = .ok (.aload_n 0, 1) := by decide +kernel
theorem dX7_count_105 : decode cX7_count 105 = .ok (.getfield 19, 3) := by decide +kernel
theorem dX7_count_108 : decode cX7_count 108 = .ok (.getfield 105, 3) := by decide +kernel
theorem dX7_count_111 : decode cX7_count 111 = .ok (.invokestatic 299, 3) := by decide +kernel
theorem dX7_count_114 : decode cX7_count 114 = .ok (.ireturn, 1) := by decide +kernel
theorem dX7_count_115 : decode cX7_count 115 = .ok (.aload_n 0, 1) := by decide +kernel
theorem dX7_count_116 : decode cX7_count 116 = .ok (.getfield 19, 3) := by decide +kernel
theorem dX7_count_119 : decode cX7_count 119 = .ok (.getfield 108, 3) := by decide +kernel
theorem dX7_count_122 : decode cX7_count 122 = .ok (.invokestatic 299, 3) := by decide +kernel
theorem dX7_count_125 : decode cX7_count 125 = .ok (.ireturn, 1) := by decide +kernel
theorem dX7_count_126 : decode cX7_count 126 = .ok (.aload_n 0, 1) := by decide +kernel
theorem dX7_count_127 : decode cX7_count 127 = .ok (.getfield 26, 3) := by decide +kernel
theorem dX7_count_130 : decode cX7_count 130 = .ok (.getfield 155, 3) := by decide +kernel
theorem dX7_count_133 : decode cX7_count 133 = .ok (.ireturn, 1) := by decide +kernel
theorem dX7_count_134 : decode cX7_count 134 = .ok (.aload_n 0, 1) := by decide +kernel
theorem dX7_count_135 : decode cX7_count 135 = .ok (.getfield 61, 3) := by decide +kernel
theorem dX7_count_138 : decode cX7_count 138 = .ok (.ireturn, 1) := by decide +kernel
theorem dX7_count_139 : decode cX7_count 139 = .ok (.bipush (-2), 2) := by decide +kernel
theorem dX7_count_141 : decode cX7_count 141 = .ok (.ireturn, 1) := by decide +kernel
theorem dX7_digest_0 : decode cX7_digest 0 = .ok (.ldc2_w 303, 3) := by decide +kernel
theorem dX7_digest_3 : decode cX7_digest 3 = .ok (.lstore_n 1, 1) := by decide +kernel
theorem dX7_digest_4 : decode cX7_digest 4 = .ok (.iconst 0, 1) := by decide +kernel
theorem dX7_digest_5 : decode cX7_digest 5 = .ok (.istore_n 3, 1) := by decide +kernel
theorem dX7_digest_6 : decode cX7_digest 6 = .ok (.iload_n 3, 1) := by decide +kernel
theorem dX7_digest_7 : decode cX7_digest 7 = .ok (.bipush 7, 2) := by decide +kernel
theorem dX7_digest_9 : decode cX7_digest 9 = .ok (.if_icmp .gt 22, 3) := by decide +kernel
theorem dX7_digest_12 : decode cX7_digest 12 = .ok (.ldc2_w 305, 3) := by decide +kernel
theorem dX7_digest_15 : decode cX7_digest 15 = .ok (.lload_n 1, 1) := by decide +kernel
theorem dX7_digest_16 : decode cX7_digest 16 = .ok (.lmul, 1) := by decide +kernel
theorem dX7_digest_17 : decode cX7_digest 17 = .ok (.aload_n 0, 1) := by decide +kernel
theorem dX7_digest_18 : decode cX7_digest 18 = .ok (.iload_n 3, 1) := by decide +kernel
theorem dX7_digest_19 : decode cX7_digest 19 = .ok (.invokevirtual 307, 3) := by decide +kernel
theorem dX7_digest_22 : decode cX7_digest 22 = .ok (.i2l, 1) := by decide +kernel
theorem dX7_digest_23 : decode cX7_digest 23 = .ok (.ladd, 1) := by decide +kernel
theorem dX7_digest_24 : decode cX7_digest 24 = .ok (.lstore_n 1, 1) := by decide +kernel
theorem dX7_digest_25 : decode cX7_digest 25 = .ok (.iinc 3 1, 3) := by decide +kernel
theorem dX7_digest_28 : decode cX7_digest 28 = .ok (.goto (-22), 3) := by decide +kernel
theorem dX7_digest_31 : decode cX7_digest 31 = .ok (.ldc2_w 305, 3) := by decide +kernel
theorem dX7_digest_34 : decode cX7_digest 34 = .ok (.lload_n 1, 1) := by decide +kernel
theorem dX7_digest_35 : decode cX7_digest 35 = .ok (.lmul, 1) := by decide +kernel
theorem dX7_digest_36 : decode cX7_digest 36 = .ok (.aload_n 0, 1) := by decide +kernel
theorem dX7_digest_37 : decode cX7_digest 37 = .ok (.invokevirtual 310, 3) := by decide +kernel
theorem dX7_digest_40 : decode cX7_digest 40 = .ok (.i2l, 1) := by decide +kernel
theorem dX7_digest_41 : decode cX7_digest 41 = .ok (.ladd, 1) := by decide +kernel
theorem dX7_digest_42 : decode cX7_digest 42 = .ok (.lstore_n 1, 1) := by decide +kernel
theorem dX7_digest_43 : decode cX7_digest 43 = .ok (.iconst 0, 1) := by decide +kernel
theorem dX7_digest_44 : decode cX7_digest 44 = .ok (.istore_n 3, 1) := by decide +kernel
theorem dX7_digest_45 : decode cX7_digest 45 = .ok (.iload_n 3, 1) := by decide +kernel
theorem dX7_digest_46 : decode cX7_digest 46 = .ok (.bipush 64, 2) := by decide +kernel
theorem dX7_digest_48 : decode cX7_digest 48 = .ok (.if_icmp .ge 39, 3) := by decide +kernel
theorem dX7_digest_51 : decode cX7_digest 51 = .ok (.iconst 0, 1) := by decide +kernel
theorem dX7_digest_52 : decode cX7_digest 52 = .ok (.istore 4, 2) := by decide +kernel
theorem dX7_digest_54 : decode cX7_digest 54 = .ok (.iload 4, 2) := by decide +kernel
theorem dX7_digest_56 : decode cX7_digest 56 = .ok (.iconst 4, 1) := by decide +kernel
theorem dX7_digest_57 : decode cX7_digest 57 = .ok (.if_icmp .gt 24, 3) := by decide +kernel
theorem dX7_digest_60 : decode cX7_digest 60 = .ok (.ldc2_w 305, 3) := by decide +kernel
theorem dX7_digest_63 : decode cX7_digest 63 = .ok (.lload_n 1, 1) := by decide +kernel
theorem dX7_digest_64 : decode cX7_digest 64 = .ok (.lmul, 1) := by decide +kernel
theorem dX7_digest_65 : decode cX7_digest 65 = .ok (.aload_n 0, 1) := by decide +kernel
theorem dX7_digest_66 : decode cX7_digest 66 = .ok (.iload_n 3, 1) := by decide +kernel
theorem dX7_digest_67 : decode cX7_digest 67 = .ok (.iload 4, 2) := by decide +kernel
theorem dX7_digest_69 : decode cX7_digest 69 = .ok (.invokevirtual 313, 3) := by decide +kernel
theorem dX7_digest_72 : decode cX7_digest 72 = .ok (.i2l, 1) := by decide +kernel
theorem dX7_digest_73 : decode cX7_digest 73 = .ok (.ladd, 1) := by decide +kernel
theorem dX7_digest_74 : decode cX7_digest 74 = .ok (.lstore_n 1, 1) := by decide +kernel
theorem dX7_digest_75 : decode cX7_digest 75 = .ok (.iinc 4 1, 3) := by decide +kernel
theorem dX7_digest_78 : decode cX7_digest 78 = .ok (.goto (-24), 3) := by decide +kernel
theorem dX7_digest_81 : decode cX7_digest 81 = .ok (.iinc 3 1, 3) := by decide +kernel
theorem dX7_digest_84 : decode cX7_digest 84 = .ok (.goto (-39), 3) := by decide +kernel
theorem dX7_digest_87 : decode cX7_digest 87 = .ok (.iconst 0, 1) := by decide +kernel
theorem dX7_digest_88 : decode cX7_digest 88 = .ok (.istore_n 3, 1) := by decide +kernel
theorem dX7_digest_89 : decode cX7_digest 89 = .ok (.iload_n 3, 1) := by decide +kernel
theorem dX7_digest_90 : decode cX7_digest 90 = .ok (.aload_n 0, 1) := by decide +kernel
theorem dX7_digest_91 : decode cX7_digest 91 = .ok (.getfield 26, 3) := by decide +kernel
theorem dX7_digest_94 : decode cX7_digest 94 = .ok (.getfield 155, 3) := by decide +kernel
theorem dX7_digest_97 : decode cX7_digest 97 = .ok (.if_icmp .ge 53, 3) := by decide +kernel
theorem dX7_digest_100 : decode cX7_digest 100 = .ok (.ldc2_w 305, 3) := by decide +kernel
theorem dX7_digest_103 : decode cX7_digest 103 = .ok (.lload_n 1, 1) := by decide +kernel
theorem dX7_digest_104 : decode cX7_digest 104 = .ok (.lmul, 1) := by decide +kernel
theorem dX7_digest_105 : decode cX7_digest 105 = .ok (.aload_n 0, 1) := by decide +kernel
theorem dX7_digest_106 : decode cX7_digest 106 = .ok (.iload_n 3, 1) := by decide +kernel
theorem dX7_digest_107 : decode cX7_digest 107 = .ok (.invokevirtual 316, 3) := by decide +kernel
theorem dX7_digest_110 : decode cX7_digest 110 = .ok (.i2l, 1) := by decide +kernel
theorem dX7_digest_111 : decode cX7_digest 111 = .ok (.ladd, 1) := by decide +kernel
theorem dX7_digest_112 : decode cX7_digest 112 = .ok (.lstore_n 1, 1) := by decide +kernel
theorem dX7_digest_113 : decode cX7_digest 113 = .ok (.ldc2_w 305, 3) := by decide +kernel
theorem dX7_digest_116 : decode cX7_digest 116 = .ok (.lload_n 1, 1) := by decide +kernel
theorem dX7_digest_117 : decode cX7_digest 117 = .ok (.lmul, 1) := by decide +kernel
theorem dX7_digest_118 : decode cX7_digest 118 = .ok (.aload_n 0, 1) := by decide +kernel
theorem dX7_digest_119 : decode cX7_digest 119 = .ok (.aload_n 0, 1) := by decide +kernel
theorem dX7_digest_120 : decode cX7_digest 120 = .ok (.getfield 26, 3) := by decide +kernel
theorem dX7_digest_123 : decode cX7_digest 123 = .ok (.getfield 176, 3) := by decide +kernel
theorem dX7_digest_126 : decode cX7_digest 126 = .ok (.iload_n 3, 1) := by decide +kernel
theorem dX7_digest_127 : decode cX7_digest 127 = .ok (.iaload, 1) := by decide +kernel
theorem dX7_digest_128 : decode cX7_digest 128 = .ok (.aload_n 0, 1) := by decide +kernel
theorem dX7_digest_129 : decode cX7_digest 129 = .ok (.getfield 26, 3) := by decide +kernel
theorem dX7_digest_132 : decode cX7_digest 132 = .ok (.getfield 179, 3) := by decide +kernel
theorem dX7_digest_135 : decode cX7_digest 135 = .ok (.iload_n 3, 1) := by decide +kernel
theorem dX7_digest_136 : decode cX7_digest 136 = .ok (.iaload, 1) := by decide +kernel
theorem dX7_digest_137 : decode cX7_digest 137 = .ok (.iconst (-1), 1) := by decide +kernel
theorem dX7_digest_138 : decode cX7_digest 138 = .ok (.invokevirtual 319, 3) := by decide +kernel
theorem dX7_digest_141 : decode cX7_digest 141 = .ok (.i2l, 1) := by decide +kernel
theorem dX7_digest_142 : decode cX7_digest 142 = .ok (.ladd, 1) := by decide +kernel
theorem dX7_digest_143 : decode cX7_digest 143 = .ok (.lstore_n 1, 1) := by decide +kernel
theorem dX7_digest_144 : decode cX7_digest 144 = .ok (.iinc 3 1, 3) := by decide +kernel
theorem dX7_digest_147 : decode cX7_digest 147 = .ok (.goto (-58), 3) := by decide +kernel
theorem dX7_digest_150 : decode cX7_digest 150 = .ok (.aload_n 0, 1) := by decide +kernel
theorem dX7_digest_151 : decode cX7_digest 151 = .ok (.iconst (-1), 1) := by decide +kernel
theorem dX7_digest_152 : decode cX7_digest 152 = .ok (.iconst (-1), 1) := by decide +kernel
theorem dX7_digest_153 : decode cX7_digest 153 = .ok (.invokevirtual 193, 3) := by decide +kernel
theorem dX7_digest_156 : decode cX7_digest 156 = .ok (.iconst 0, 1) := by decide +kernel
theorem dX7_digest_157 : decode cX7_digest 157 = .ok (.istore_n 3, 1) := by decide +kernel
theorem dX7_digest_158 : decode cX7_digest 158 = .ok (.iload_n 3, 1) := by decide +kernel
theorem dX7_digest_159 : decode cX7_digest 159 = .ok (.iconst 3, 1) := by decide +kernel
theorem dX7_digest_160 : decode cX7_digest 160 = .ok (.if_icmp .gt 22, 3) := by decide +kernel
theorem dX7_digest_163 : decode cX7_digest 163 = .ok (.ldc2_w 305, 3) := by decide +kernel
theorem dX7_digest_166 : decode cX7_digest 166 = .ok (.lload_n 1, 1) := by decide +kernel
theorem dX7_digest_167 : decode cX7_digest 167 = .ok (.lmul, 1) := by decide +kernel
theorem dX7_digest_168 : decode cX7_digest 168 = .ok (.aload_n 0, 1) := by decide +kernel
theorem dX7_digest_169 : decode cX7_digest 169 = .ok (.iload_n 3, 1) := by decide +kernel
theorem dX7_digest_170 : decode cX7_digest 170 = .ok (.invokevirtual 197, 3) := by decide +kernel
theorem dX7_digest_173 : decode cX7_digest 173 = .ok (.i2l, 1) := by decide +kernel
theorem dX7_digest_174 : decode cX7_digest 174 = .ok (.ladd, 1) := by decide +kernel
theorem dX7_digest_175 : decode cX7_digest 175 = .ok (.lstore_n 1, 1) := by decide +kernel
theorem dX7_digest_176 : decode cX7_digest 176 = .ok (.iinc 3 1, 3) := by decide +kernel
theorem dX7_digest_179 : decode cX7_digest 179 = .ok (.goto (-21), 3) := by decide +kernel
theorem dX7_digest_182 : decode cX7_digest 182 = .ok (.ldc2_w 305, 3) := by decide +kernel
theorem dX7_digest_185 : decode cX7_digest 185 = .ok (.lload_n 1, 1) := by decide +kernel
theorem dX7_digest_186 : decode cX7_digest 186 = .ok (.lmul, 1) := by decide +kernel
theorem dX7_digest_187 : decode cX7_digest 187 = .ok (.aload_n 0, 1) := by decide +kernel
theorem dX7_digest_188 : decode cX7_digest 188 = .ok (.invokevirtual 322, 3) := by decide +kernel
theorem dX7_digest_191 : decode cX7_digest 191 = .ok (.i2l, 1) := by decide +kernel
theorem dX7_digest_192 : decode cX7_digest 192 = .ok (.ladd, 1) := by decide +kernel
theorem dX7_digest_193 : decode cX7_digest 193 = .ok (.lstore_n 1, 1) := by decide +kernel
theorem dX7_digest_194 : decode cX7_digest 194 = .ok (.ldc2_w 305, 3) := by decide +kernel
theorem dX7_digest_197 : decode cX7_digest 197 = .ok (.lload_n 1, 1) := by decide +kernel
theorem dX7_digest_198 : decode cX7_digest 198 = .ok (.lmul, 1) := by decide +kernel
theorem dX7_digest_199 : decode cX7_digest 199 = .ok (.aload_n 0, 1) := by decide +kernel
theorem dX7_digest_200 : decode cX7_digest 200 = .ok (.iconst 0, 1) := by decide +kernel
theorem dX7_digest_201 : decode cX7_digest 201 = .ok (.invokevirtual 325, 3) := by decide +kernel
theorem dX7_digest_204 : decode cX7_digest 204 = .ok (.i2l, 1) := by decide +kernel
theorem dX7_digest_205 : decode cX7_digest 205 = .ok (.ladd, 1) := by decide +kernel
theorem dX7_digest_206 : decode cX7_digest 206 = .ok (.lstore_n 1, 1) := by decide +kernel
theorem dX7_digest_207 : decode cX7_digest 207 = .ok (.ldc2_w 305, 3) := by decide +kernel
theorem dX7_digest_210 : decode cX7_digest 210 = .ok (.lload_n 1, 1) := by decide +kernel
theorem dX7_digest_211 : decode cX7_digest 211 = .ok (.lmul, 1) := by decide +kernel
theorem dX7_digest_212 : decode cX7_digest 212 = .ok (.aload_n 0, 1) := by decide +kernel
theorem dX7_digest_213 : decode cX7_digest 213 = .ok (.iconst 1, 1) := by decide +kernel
theorem dX7_digest_214 : decode cX7_digest 214 = .ok (.invokevirtual 325, 3) := by decide +kernel
theorem dX7_digest_217 : decode cX7_digest 217 = .ok (.i2l, 1) := by decide +kernel
theorem dX7_digest_218 : decode cX7_digest 218 = .ok (.ladd, 1) := by decide +kernel
theorem dX7_digest_219 : decode cX7_digest 219 = .ok (.lstore_n 1, 1) := by decide +kernel
theorem dX7_digest_220 : decode cX7_digest 220 = .ok (.aload_n 0, 1) := by decide +kernel
theorem dX7_digest_221 : decode cX7_digest 221 = .ok (.invokevirtual 222, 3) := by decide +kernel
theorem dX7_digest_224 : decode cX7_digest 224 = .ok (.ldc2_w 305, 3) := by decide +kernel
theorem dX7_digest_227 : decode cX7_digest 227 = .ok (.lload_n 1, 1) := by decide +kernel
theorem dX7_digest_228 : decode cX7_digest 228 = .ok (.lmul, 1) := by decide +kernel
theorem dX7_digest_229 : decode cX7_digest 229 = .ok (.aload_n 0, 1) := by decide +kernel
theorem dX7_digest_230 : decode cX7_digest 230 = .ok (.getfield 71, 3) := by decide +kernel
theorem dX7_digest_233 : decode cX7_digest 233 = .ok (.i2l, 1) := by decide +kernel
theorem dX7_digest_234 : decode cX7_digest 234 = .ok (.ladd, 1) := by decide +kernel
theorem dX7_digest_235 : decode cX7_digest 235 = .ok (.lstore_n 1, 1) := by decide +kernel
theorem dX7_digest_236 : decode cX7_digest 236 = .ok (.ldc2_w 305, 3) := by decide +kernel
theorem dX7_digest_239 : decode cX7_digest 239 = .ok (.lload_n 1, 1) := by decide +kernel
theorem dX7_digest_240 : decode cX7_digest 240 = .ok (.lmul, 1) := by decide +kernel
theorem dX7_digest_241 : decode cX7_digest 241 = .ok (.aload_n 0, 1) := by decide +kernel
theorem dX7_digest_242 : decode cX7_digest 242 = .ok (.getfield 74, 3) := by decide +kernel
theorem dX7_digest_245 : decode cX7_digest 245 = .ok (.i2l, 1) := by decide +kernel
theorem dX7_digest_246 : decode cX7_digest 246 = .ok (.ladd, 1) := by decide +kernel
theorem dX7_digest_247 : decode cX7_digest 247 = .ok (.lstore_n 1, 1) := by decide +kernel
theorem dX7_digest_248 : decode cX7_digest 248 = .ok (.ldc2_w 305, 3) := by decide +kernel
theorem dX7_digest_251 : decode cX7_digest 251 = .ok (.lload_n 1, 1) := by decide +kernel
theorem dX7_digest_252 : decode cX7_digest 252 = .ok (.lmul, 1) := by decide +kernel
theorem dX7_digest_253 : decode cX7_digest 253 = .ok (.aload_n 0, 1) := by decide +kernel
theorem dX7_digest_254 : decode cX7_digest 254 = .ok (.iconst 0, 1) := by decide +kernel
theorem dX7_digest_255 : decode cX7_digest 255 = .ok (.invokevirtual 328, 3) := by decide +kernel
theorem dX7_digest_258 : decode cX7_digest 258 = .ok (.ladd, 1) := by decide +kernel
theorem dX7_digest_259 : decode cX7_digest 259 = .ok (.lstore_n 1, 1) := by decide +kernel
theorem dX7_digest_260 : decode cX7_digest 260 = .ok (.ldc2_w 305, 3) := by decide +kernel
theorem dX7_digest_263 : decode cX7_digest 263 = .ok (.lload_n 1, 1) := by decide +kernel
theorem dX7_digest_264 : decode cX7_digest 264 = .ok (.lmul, 1) := by decide +kernel
theorem dX7_digest_265 : decode cX7_digest 265 = .ok (.aload_n 0, 1) := by decide +kernel
theorem dX7_digest_266 : decode cX7_digest 266 = .ok (.iconst 1, 1) := by decide +kernel
theorem dX7_digest_267 : decode cX7_digest 267 = .ok (.invokevirtual 328, 3) := by decide +kernel
theorem dX7_digest_270 : decode cX7_digest 270 = .ok (.ladd, 1) := by decide +kernel
theorem dX7_digest_271 : decode cX7_digest 271 = .ok (.lstore_n 1, 1) := by decide +kernel
theorem dX7_digest_272 : decode cX7_digest 272 = .ok (.ldc2_w 305, 3) := by decide +kernel
theorem dX7_digest_275 : decode cX7_digest 275 = .ok (.lload_n 1, 1) := by decide +kernel
theorem dX7_digest_276 : decode cX7_digest 276 = .ok (.lmul, 1) := by decide +kernel
theorem dX7_digest_277 : decode cX7_digest 277 = .ok (.aload_n 0, 1) := by decide +kernel
theorem dX7_digest_278 : decode cX7_digest 278 = .ok (.iconst 2, 1) := by decide +kernel
theorem dX7_digest_279 : decode cX7_digest 279 = .ok (.iconst 0, 1) := by decide +kernel
theorem dX7_digest_280 : decode cX7_digest 280 = .ok (.invokevirtual 225, 3) := by decide +kernel
theorem dX7_digest_283 : decode cX7_digest 283 = .ok (.ladd, 1) := by decide +kernel
theorem dX7_digest_284 : decode cX7_digest 284 = .ok (.lstore_n 1, 1) := by decide +kernel
theorem dX7_digest_285 : decode cX7_digest 285 = .ok (.ldc2_w 305, 3) := by decide +kernel
theorem dX7_digest_288 : decode cX7_digest 288 = .ok (.lload_n 1, 1) := by decide +kernel
theorem dX7_digest_289 : decode cX7_digest 289 = .ok (.lmul, 1) := by decide +kernel
theorem dX7_digest_290 : decode cX7_digest 290 = .ok (.aload_n 0, 1) := by decide +kernel
theorem dX7_digest_291 : decode cX7_digest 291 = .ok (.iconst 2, 1) := by decide +kernel
theorem dX7_digest_292 : decode cX7_digest 292 = .ok (.iconst 1, 1) := by decide +kernel
theorem dX7_digest_293 : decode cX7_digest 293 = .ok (.invokevirtual 225, 3) := by decide +kernel
theorem dX7_digest_296 : decode cX7_digest 296 = .ok (.ladd, 1) := by decide +kernel
theorem dX7_digest_297 : decode cX7_digest 297 = .ok (.lstore_n 1, 1) := by decide +kernel
theorem dX7_digest_298 : decode cX7_digest 298 = .ok (.lload_n 1, 1) := by decide +kernel
theorem dX7_digest_299 : decode cX7_digest 299 = .ok (.lreturn, 1) := by decide +kernel
theorem dX7_tryMorning_0 : decode cX7_tryMorning 0 = .ok (.aload_n 0, 1) := by decide +kernel
theorem dX7_tryMorning_1 : decode cX7_tryMorning 1 = .ok (.getfield 42, 3) := by decide +kernel
theorem dX7_tryMorning_4 : decode cX7_tryMorning 4 = .ok (.aload_n 0, 1) := by decide +kernel
theorem dX7_tryMorning_5 : decode cX7_tryMorning 5 = .ok (.getfield 19, 3) := by decide +kernel
theorem dX7_tryMorning_8 : decode cX7_tryMorning 8 = .ok (.getfield 98, 3) := by decide +kernel
theorem dX7_tryMorning_11 : decode cX7_tryMorning 11 = .ok (.invokevirtual 172, 3) := by decide +kernel
theorem dX7_tryMorning_14 : decode cX7_tryMorning 14 = .ok (.iload_n 2, 1) := by decide +kernel
theorem dX7_tryMorning_15 : decode cX7_tryMorning 15 = .ok (.invokestatic 91, 3) := by decide +kernel
theorem dX7_tryMorning_18 : decode cX7_tryMorning 18 = .ok (.ifCond .eq 13, 3) := by decide +kernel
theorem dX7_tryMorning_21 : decode cX7_tryMorning 21 = .ok (.aload_n 0, 1) := by decide +kernel
theorem dX7_tryMorning_22 : decode cX7_tryMorning 22 = .ok (.getfield 42, 3) := by decide +kernel
theorem dX7_tryMorning_25 : decode cX7_tryMorning 25 = .ok (.getfield 331, 3) := by decide +kernel
theorem dX7_tryMorning_28 : decode cX7_tryMorning 28 = .ok (.iload_n 2, 1) := by decide +kernel
theorem dX7_tryMorning_29 : decode cX7_tryMorning 29 = .ok (.iconst 0, 1) := by decide +kernel
theorem dX7_tryMorning_30 : decode cX7_tryMorning 30 = .ok (.iastore, 1) := by decide +kernel
theorem dX7_tryMorning_31 : decode cX7_tryMorning 31 = .ok (.aload_n 0, 1) := by decide +kernel
theorem dX7_tryMorning_32 : decode cX7_tryMorning 32 = .ok (.iload_n 1, 1) := by decide +kernel
theorem dX7_tryMorning_33 : decode cX7_tryMorning 33 = .ok (.invokevirtual 169, 3) := by decide +kernel
theorem dX7_tryMorning_36 : decode cX7_tryMorning 36 = .ok (.ifCond .eq 36, 3) := by decide +kernel
theorem dX7_tryMorning_39 : decode cX7_tryMorning 39 = .ok (.aload_n 0, 1) := by decide +kernel
theorem dX7_tryMorning_40 : decode cX7_tryMorning 40 = .ok (.getfield 42, 3) := by decide +kernel
theorem dX7_tryMorning_43 : decode cX7_tryMorning 43 = .ok (.aload_n 0, 1) := by decide +kernel
theorem dX7_tryMorning_44 : decode cX7_tryMorning 44 = .ok (.getfield 26, 3) := by decide +kernel
theorem dX7_tryMorning_47 : decode cX7_tryMorning 47 = .ok (.getfield 176, 3) := by decide +kernel
theorem dX7_tryMorning_50 : decode cX7_tryMorning 50 = .ok (.iload_n 1, 1) := by decide +kernel
theorem dX7_tryMorning_51 : decode cX7_tryMorning 51 = .ok (.iaload, 1) := by decide +kernel
theorem dX7_tryMorning_52 : decode cX7_tryMorning 52 = .ok (.aload_n 0, 1) := by decide +kernel
theorem dX7_tryMorning_53 : decode cX7_tryMorning 53 = .ok (.getfield 26, 3) := by decide +kernel
theorem dX7_tryMorning_56 : decode cX7_tryMorning 56 = .ok (.getfield 179, 3) := by decide +kernel
theorem dX7_tryMorning_59 : decode cX7_tryMorning 59 = .ok (.iload_n 1, 1) := by decide +kernel
theorem dX7_tryMorning_60 : decode cX7_tryMorning 60 = .ok (.iaload, 1) := by decide +kernel
theorem dX7_tryMorning_61 : decode cX7_tryMorning 61 = .ok (.aload_n 0, 1) := by decide +kernel
theorem dX7_tryMorning_62 : decode cX7_tryMorning 62 = .ok (.getfield 10, 3) := by decide +kernel
theorem dX7_tryMorning_65 : decode cX7_tryMorning 65 = .ok (.getfield 158, 3) := by decide +kernel
theorem dX7_tryMorning_68 : decode cX7_tryMorning 68 = .ok (.invokevirtual 182, 3) := by decide +kernel
theorem dX7_tryMorning_71 : decode cX7_tryMorning 71 = .ok (.pop, 1) := by decide +kernel
theorem dX7_tryMorning_72 : decode cX7_tryMorning 72 = .ok (.iconst 0, 1) := by decide +kernel
theorem dX7_tryMorning_73 : decode cX7_tryMorning 73 = .ok (.istore_n 3, 1) := by decide +kernel
theorem dX7_tryMorning_74 : decode cX7_tryMorning 74 = .ok (.iload_n 3, 1) := by decide +kernel
theorem dX7_tryMorning_75 : decode cX7_tryMorning 75 = .ok (.aload_n 0, 1) := by decide +kernel
theorem dX7_tryMorning_76 : decode cX7_tryMorning 76 = .ok (.getfield 26, 3) := by decide +kernel
theorem dX7_tryMorning_79 : decode cX7_tryMorning 79 = .ok (.getfield 155, 3) := by decide +kernel
theorem dX7_tryMorning_82 : decode cX7_tryMorning 82 = .ok (.if_icmp .ge 47, 3) := by decide +kernel
theorem dX7_tryMorning_85 : decode cX7_tryMorning 85 = .ok (.iload_n 3, 1) := by decide +kernel
theorem dX7_tryMorning_86 : decode cX7_tryMorning 86 = .ok (.iload_n 1, 1) := by decide +kernel
theorem dX7_tryMorning_87 : decode cX7_tryMorning 87 = .ok (.if_icmp .eq 36, 3) := by decide +kernel
theorem dX7_tryMorning_90 : decode cX7_tryMorning 90 = .ok (.aload_n 0, 1) := by decide +kernel
theorem dX7_tryMorning_91 : decode cX7_tryMorning 91 = .ok (.getfield 42, 3) := by decide +kernel
theorem dX7_tryMorning_94 : decode cX7_tryMorning 94 = .ok (.aload_n 0, 1) := by decide +kernel
theorem dX7_tryMorning_95 : decode cX7_tryMorning 95 = .ok (.getfield 26, 3) := by decide +kernel
theorem dX7_tryMorning_98 : decode cX7_tryMorning 98 = .ok (.getfield 176, 3) := by decide +kernel
theorem dX7_tryMorning_101 : decode cX7_tryMorning 101 = .ok (.iload_n 3, 1) := by decide +kernel
theorem dX7_tryMorning_102 : decode cX7_tryMorning 102 = .ok (.iaload, 1) := by decide +kernel
theorem dX7_tryMorning_103 : decode cX7_tryMorning 103 = .ok (.aload_n 0, 1) := by decide +kernel
theorem dX7_tryMorning_104 : decode cX7_tryMorning 104 = .ok (.getfield 26, 3) := by decide +kernel
theorem dX7_tryMorning_107 : decode cX7_tryMorning 107 = .ok (.getfield 179, 3) := by decide +kernel
theorem dX7_tryMorning_110 : decode cX7_tryMorning 110 = .ok (.iload_n 3, 1) := by decide +kernel
theorem dX7_tryMorning_111 : decode cX7_tryMorning 111 = .ok (.iaload, 1) := by decide +kernel
theorem dX7_tryMorning_112 : decode cX7_tryMorning 112 = .ok (.aload_n 0, 1) := by decide +kernel
theorem dX7_tryMorning_113 : decode cX7_tryMorning 113 = .ok (.getfield 10, 3) := by decide +kernel
theorem dX7_tryMorning_116 : decode cX7_tryMorning 116 = .ok (.getfield 158, 3) := by decide +kernel
theorem dX7_tryMorning_119 : decode cX7_tryMorning 119 = .ok (.invokevirtual 182, 3) := by decide +kernel
theorem dX7_tryMorning_122 : decode cX7_tryMorning 122 = .ok (.pop, 1) := by decide +kernel
theorem dX7_tryMorning_123 : decode cX7_tryMorning 123 = .ok (.iinc 3 1, 3) := by decide +kernel
theorem dX7_tryMorning_126 : decode cX7_tryMorning 126 = .ok (.goto (-52), 3) := by decide +kernel
theorem dX7_tryMorning_129 : decode cX7_tryMorning 129 = .ok (.return_, 1) := by decide +kernel
theorem dX7_told_0 : decode cX7_told 0 = .ok (.iload_n 1, 1) := by decide +kernel
theorem dX7_told_1 : decode cX7_told 1 = .ok (.tableswitch 51 0 2 #[27, 35, 43], 27) := by decide +kernel
theorem dX7_told_28 : decode cX7_told 28 = .ok (.aload_n 0, 1) := by decide +kernel
theorem dX7_told_29 : decode cX7_told 29 = .ok (.getfield 42, 3) := by decide +kernel
theorem dX7_told_32 : decode cX7_told 32 = .ok (.getfield 190, 3) := by decide +kernel
theorem dX7_told_35 : decode cX7_told 35 = .ok (.ireturn, 1) := by decide +kernel
theorem dX7_told_36 : decode cX7_told 36 = .ok (.aload_n 0, 1) := by decide +kernel
theorem dX7_told_37 : decode cX7_told 37 = .ok (.getfield 42, 3) := by decide +kernel
theorem dX7_told_40 : decode cX7_told 40 = .ok (.getfield 203, 3) := by decide +kernel
theorem dX7_told_43 : decode cX7_told 43 = .ok (.ireturn, 1) := by decide +kernel
theorem dX7_told_44 : decode cX7_told 44 = .ok (.aload_n 0, 1) := by decide +kernel
theorem dX7_told_45 : decode cX7_told 45 = .ok (.getfield 42, 3) := by decide +kernel
theorem dX7_told_48 : decode cX7_told 48 = .ok (.invokevirtual 332, 3) := by decide +kernel
theorem dX7_told_51 : decode cX7_told 51 = .ok (.ireturn, 1) := by decide +kernel
theorem dX7_told_52 : decode cX7_told 52 = .ok (.aload_n 0, 1) := by decide +kernel
theorem dX7_told_53 : decode cX7_told 53 = .ok (.getfield 42, 3) := by decide +kernel
theorem dX7_told_56 : decode cX7_told 56 = .ok (.getfield 335, 3) := by decide +kernel
theorem dX7_told_59 : decode cX7_told 59 = .ok (.ireturn, 1) := by decide +kernel
theorem dX7_fewestSteps_0 : decode cX7_fewestSteps 0 = .ok (.aload_n 0, 1) := by decide +kernel
theorem dX7_fewestSteps_1 : decode cX7_fewestSteps 1 = .ok (.getfield 10, 3) := by decide +kernel
theorem dX7_fewestSteps_4 : decode cX7_fewestSteps 4 = .ok (.getfield 111, 3) := by decide +kernel
theorem dX7_fewestSteps_7 : decode cX7_fewestSteps 7 = .ok (.aload_n 0, 1) := by decide +kernel
theorem dX7_fewestSteps_8 : decode cX7_fewestSteps 8 = .ok (.getfield 10, 3) := by decide +kernel
theorem dX7_fewestSteps_11 : decode cX7_fewestSteps 11 = .ok (.getfield 158, 3) := by decide +kernel
theorem dX7_fewestSteps_14 : decode cX7_fewestSteps 14 = .ok (.lor, 1) := by decide +kernel
theorem dX7_fewestSteps_15 : decode cX7_fewestSteps 15 = .ok (.lstore_n 2, 1) := by decide +kernel
theorem dX7_fewestSteps_16 : decode cX7_fewestSteps 16 = .ok (.aload_n 0, 1) := by decide +kernel
theorem dX7_fewestSteps_17 : decode cX7_fewestSteps 17 = .ok (.getfield 33, 3) := by decide +kernel
theorem dX7_fewestSteps_20 : decode cX7_fewestSteps 20 = .ok (.aload_n 0, 1) := by decide +kernel
theorem dX7_fewestSteps_21 : decode cX7_fewestSteps 21 = .ok (.getfield 26, 3) := by decide +kernel
theorem dX7_fewestSteps_24 : decode cX7_fewestSteps 24 = .ok (.getfield 176, 3) := by decide +kernel
theorem dX7_fewestSteps_27 : decode cX7_fewestSteps 27 = .ok (.iload_n 1, 1) := by decide +kernel
theorem dX7_fewestSteps_28 : decode cX7_fewestSteps 28 = .ok (.iaload, 1) := by decide +kernel
theorem dX7_fewestSteps_29 : decode cX7_fewestSteps 29 = .ok (.aload_n 0, 1) := by decide +kernel
theorem dX7_fewestSteps_30 : decode cX7_fewestSteps 30 = .ok (.getfield 26, 3) := by decide +kernel
theorem dX7_fewestSteps_33 : decode cX7_fewestSteps 33 = .ok (.getfield 179, 3) := by decide +kernel
theorem dX7_fewestSteps_36 : decode cX7_fewestSteps 36 = .ok (.iload_n 1, 1) := by decide +kernel
theorem dX7_fewestSteps_37 : decode cX7_fewestSteps 37 = .ok (.iaload, 1) := by decide +kernel
theorem dX7_fewestSteps_38 : decode cX7_fewestSteps 38 = .ok (.lload_n 2, 1) := by decide +kernel
theorem dX7_fewestSteps_39 : decode cX7_fewestSteps 39 = .ok (.aload_n 0, 1) := by decide +kernel
theorem dX7_fewestSteps_40 : decode cX7_fewestSteps 40 = .ok (.getfield 19, 3) := by decide +kernel
theorem dX7_fewestSteps_43 : decode cX7_fewestSteps 43 = .ok (.getfield 338, 3) := by decide +kernel
theorem dX7_fewestSteps_46 : decode cX7_fewestSteps 46 = .ok (.invokevirtual 161, 3) := by decide +kernel
theorem dX7_fewestSteps_49 : decode cX7_fewestSteps 49 = .ok (.ireturn, 1) := by decide +kernel
theorem dX7_seekFirst_0 : decode cX7_seekFirst 0 = .ok (.aload_n 0, 1) := by decide +kernel
theorem dX7_seekFirst_1 : decode cX7_seekFirst 1 = .ok (.iconst (-1), 1) := by decide +kernel
theorem dX7_seekFirst_2 : decode cX7_seekFirst 2 = .ok (.putfield 65, 3) := by decide +kernel
theorem dX7_seekFirst_5 : decode cX7_seekFirst 5 = .ok (.aload_n 0, 1) := by decide +kernel
theorem dX7_seekFirst_6 : decode cX7_seekFirst 6 = .ok (.iconst 0, 1) := by decide +kernel
theorem dX7_seekFirst_7 : decode cX7_seekFirst 7 = .ok (.putfield 68, 3) := by decide +kernel
theorem dX7_seekFirst_10 : decode cX7_seekFirst 10 = .ok (.iconst 0, 1) := by decide +kernel
theorem dX7_seekFirst_11 : decode cX7_seekFirst 11 = .ok (.istore_n 1, 1) := by decide +kernel
theorem dX7_seekFirst_12 : decode cX7_seekFirst 12 = .ok (.iload_n 1, 1) := by decide +kernel
theorem dX7_seekFirst_13 : decode cX7_seekFirst 13 = .ok (.aload_n 0, 1) := by decide +kernel
theorem dX7_seekFirst_14 : decode cX7_seekFirst 14 = .ok (.getfield 26, 3) := by decide +kernel
theorem dX7_seekFirst_17 : decode cX7_seekFirst 17 = .ok (.getfield 155, 3) := by decide +kernel
theorem dX7_seekFirst_20 : decode cX7_seekFirst 20 = .ok (.if_icmp .ge 53, 3) := by decide +kernel
theorem dX7_seekFirst_23 : decode cX7_seekFirst 23 = .ok (.aload_n 0, 1) := by decide +kernel
theorem dX7_seekFirst_24 : decode cX7_seekFirst 24 = .ok (.iload_n 1, 1) := by decide +kernel
theorem dX7_seekFirst_25 : decode cX7_seekFirst 25 = .ok (.iconst (-1), 1) := by decide +kernel
theorem dX7_seekFirst_26 : decode cX7_seekFirst 26 = .ok (.invokevirtual 193, 3) := by decide +kernel
theorem dX7_seekFirst_29 : decode cX7_seekFirst 29 = .ok (.aload_n 0, 1) := by decide +kernel
theorem dX7_seekFirst_30 : decode cX7_seekFirst 30 = .ok (.getfield 65, 3) := by decide +kernel
theorem dX7_seekFirst_33 : decode cX7_seekFirst 33 = .ok (.iconst (-1), 1) := by decide +kernel
theorem dX7_seekFirst_34 : decode cX7_seekFirst 34 = .ok (.if_icmp .eq 17, 3) := by decide +kernel
theorem dX7_seekFirst_37 : decode cX7_seekFirst 37 = .ok (.aload_n 0, 1) := by decide +kernel
theorem dX7_seekFirst_38 : decode cX7_seekFirst 38 = .ok (.getfield 42, 3) := by decide +kernel
theorem dX7_seekFirst_41 : decode cX7_seekFirst 41 = .ok (.getfield 190, 3) := by decide +kernel
theorem dX7_seekFirst_44 : decode cX7_seekFirst 44 = .ok (.aload_n 0, 1) := by decide +kernel
theorem dX7_seekFirst_45 : decode cX7_seekFirst 45 = .ok (.getfield 68, 3) := by decide +kernel
theorem dX7_seekFirst_48 : decode cX7_seekFirst 48 = .ok (.if_icmp .ge 19, 3) := by decide +kernel
theorem dX7_seekFirst_51 : decode cX7_seekFirst 51 = .ok (.aload_n 0, 1) := by decide +kernel
theorem dX7_seekFirst_52 : decode cX7_seekFirst 52 = .ok (.iload_n 1, 1) := by decide +kernel
theorem dX7_seekFirst_53 : decode cX7_seekFirst 53 = .ok (.putfield 65, 3) := by decide +kernel
theorem dX7_seekFirst_56 : decode cX7_seekFirst 56 = .ok (.aload_n 0, 1) := by decide +kernel
theorem dX7_seekFirst_57 : decode cX7_seekFirst 57 = .ok (.aload_n 0, 1) := by decide +kernel
theorem dX7_seekFirst_58 : decode cX7_seekFirst 58 = .ok (.getfield 42, 3) := by decide +kernel
theorem dX7_seekFirst_61 : decode cX7_seekFirst 61 = .ok (.getfield 190, 3) := by decide +kernel
theorem dX7_seekFirst_64 : decode cX7_seekFirst 64 = .ok (.putfield 68, 3) := by decide +kernel
theorem dX7_seekFirst_67 : decode cX7_seekFirst 67 = .ok (.iinc 1 1, 3) := by decide +kernel
theorem dX7_seekFirst_70 : decode cX7_seekFirst 70 = .ok (.goto (-58), 3) := by decide +kernel
theorem dX7_seekFirst_73 : decode cX7_seekFirst 73 = .ok (.return_, 1) := by decide +kernel
theorem dX7_seekYard_0 : decode cX7_seekYard 0 = .ok (.aload_n 0, 1) := by decide +kernel
theorem dX7_seekYard_1 : decode cX7_seekYard 1 = .ok (.iconst (-1), 1) := by decide +kernel
theorem dX7_seekYard_2 : decode cX7_seekYard 2 = .ok (.putfield 71, 3) := by decide +kernel
theorem dX7_seekYard_5 : decode cX7_seekYard 5 = .ok (.aload_n 0, 1) := by decide +kernel
theorem dX7_seekYard_6 : decode cX7_seekYard 6 = .ok (.iconst 0, 1) := by decide +kernel
theorem dX7_seekYard_7 : decode cX7_seekYard 7 = .ok (.putfield 74, 3) := by decide +kernel
theorem dX7_seekYard_10 : decode cX7_seekYard 10 = .ok (.aload_n 0, 1) := by decide +kernel
theorem dX7_seekYard_11 : decode cX7_seekYard 11 = .ok (.iconst (-1), 1) := by decide +kernel
theorem dX7_seekYard_12 : decode cX7_seekYard 12 = .ok (.iconst (-1), 1) := by decide +kernel
theorem dX7_seekYard_13 : decode cX7_seekYard 13 = .ok (.invokevirtual 193, 3) := by decide +kernel
theorem dX7_seekYard_16 : decode cX7_seekYard 16 = .ok (.aload_n 0, 1) := by decide +kernel
theorem dX7_seekYard_17 : decode cX7_seekYard 17 = .ok (.getfield 42, 3) := by decide +kernel
theorem dX7_seekYard_20 : decode cX7_seekYard 20 = .ok (.getfield 190, 3) := by decide +kernel
theorem dX7_seekYard_23 : decode cX7_seekYard 23 = .ok (.istore_n 1, 1) := by decide +kernel
theorem dX7_seekYard_24 : decode cX7_seekYard 24 = .ok (.iconst 0, 1) := by decide +kernel
theorem dX7_seekYard_25 : decode cX7_seekYard 25 = .ok (.istore_n 2, 1) := by decide +kernel
theorem dX7_seekYard_26 : decode cX7_seekYard 26 = .ok (.iload_n 2, 1) := by decide +kernel
theorem dX7_seekYard_27 : decode cX7_seekYard 27 = .ok (.bipush 64, 2) := by decide +kernel
theorem dX7_seekYard_29 : decode cX7_seekYard 29 = .ok (.if_icmp .ge 78, 3) := by decide +kernel
theorem dX7_seekYard_32 : decode cX7_seekYard 32 = .ok (.aload_n 0, 1) := by decide +kernel
theorem dX7_seekYard_33 : decode cX7_seekYard 33 = .ok (.getfield 10, 3) := by decide +kernel
theorem dX7_seekYard_36 : decode cX7_seekYard 36 = .ok (.getfield 111, 3) := by decide +kernel
theorem dX7_seekYard_39 : decode cX7_seekYard 39 = .ok (.iload_n 2, 1) := by decide +kernel
theorem dX7_seekYard_40 : decode cX7_seekYard 40 = .ok (.invokestatic 130, 3) := by decide +kernel
theorem dX7_seekYard_43 : decode cX7_seekYard 43 = .ok (.ifCond .ne 58, 3) := by decide +kernel
theorem dX7_seekYard_46 : decode cX7_seekYard 46 = .ok (.aload_n 0, 1) := by decide +kernel
theorem dX7_seekYard_47 : decode cX7_seekYard 47 = .ok (.getfield 19, 3) := by decide +kernel
theorem dX7_seekYard_50 : decode cX7_seekYard 50 = .ok (.getfield 98, 3) := by decide +kernel
theorem dX7_seekYard_53 : decode cX7_seekYard 53 = .ok (.iload_n 2, 1) := by decide +kernel
theorem dX7_seekYard_54 : decode cX7_seekYard 54 = .ok (.iaload, 1) := by decide +kernel
theorem dX7_seekYard_55 : decode cX7_seekYard 55 = .ok (.ifCond .ne 6, 3) := by decide +kernel
theorem dX7_seekYard_58 : decode cX7_seekYard 58 = .ok (.goto 43, 3) := by decide +kernel
theorem dX7_seekYard_61 : decode cX7_seekYard 61 = .ok (.aload_n 0, 1) := by decide +kernel
theorem dX7_seekYard_62 : decode cX7_seekYard 62 = .ok (.iconst (-1), 1) := by decide +kernel
theorem dX7_seekYard_63 : decode cX7_seekYard 63 = .ok (.iload_n 2, 1) := by decide +kernel
theorem dX7_seekYard_64 : decode cX7_seekYard 64 = .ok (.invokevirtual 193, 3) := by decide +kernel
theorem dX7_seekYard_67 : decode cX7_seekYard 67 = .ok (.iload_n 1, 1) := by decide +kernel
theorem dX7_seekYard_68 : decode cX7_seekYard 68 = .ok (.aload_n 0, 1) := by decide +kernel
theorem dX7_seekYard_69 : decode cX7_seekYard 69 = .ok (.getfield 42, 3) := by decide +kernel
theorem dX7_seekYard_72 : decode cX7_seekYard 72 = .ok (.getfield 190, 3) := by decide +kernel
theorem dX7_seekYard_75 : decode cX7_seekYard 75 = .ok (.isub, 1) := by decide +kernel
theorem dX7_seekYard_76 : decode cX7_seekYard 76 = .ok (.aload_n 0, 1) := by decide +kernel
theorem dX7_seekYard_77 : decode cX7_seekYard 77 = .ok (.getfield 74, 3) := by decide +kernel
theorem dX7_seekYard_80 : decode cX7_seekYard 80 = .ok (.if_icmp .le 21, 3) := by decide +kernel
theorem dX7_seekYard_83 : decode cX7_seekYard 83 = .ok (.aload_n 0, 1) := by decide +kernel
theorem dX7_seekYard_84 : decode cX7_seekYard 84 = .ok (.iload_n 2, 1) := by decide +kernel
theorem dX7_seekYard_85 : decode cX7_seekYard 85 = .ok (.putfield 71, 3) := by decide +kernel
theorem dX7_seekYard_88 : decode cX7_seekYard 88 = .ok (.aload_n 0, 1) := by decide +kernel
theorem dX7_seekYard_89 : decode cX7_seekYard 89 = .ok (.iload_n 1, 1) := by decide +kernel
theorem dX7_seekYard_90 : decode cX7_seekYard 90 = .ok (.aload_n 0, 1) := by decide +kernel
theorem dX7_seekYard_91 : decode cX7_seekYard 91 = .ok (.getfield 42, 3) := by decide +kernel
theorem dX7_seekYard_94 : decode cX7_seekYard 94 = .ok (.getfield 190, 3) := by decide +kernel
theorem dX7_seekYard_97 : decode cX7_seekYard 97 = .ok (.isub, 1) := by decide +kernel
theorem dX7_seekYard_98 : decode cX7_seekYard 98 = .ok (.putfield 74, 3) := by decide +kernel
theorem dX7_seekYard_101 : decode cX7_seekYard 101 = .ok (.iinc 2 1, 3) := by decide +kernel
theorem dX7_seekYard_104 : decode cX7_seekYard 104 = .ok (.goto (-78), 3) := by decide +kernel
theorem dX7_seekYard_107 : decode cX7_seekYard 107 = .ok (.return_, 1) := by decide +kernel
theorem dX7_wouldShow_0 : decode cX7_wouldShow 0 = .ok (.aload_n 0, 1) := by decide +kernel
theorem dX7_wouldShow_1 : decode cX7_wouldShow 1 = .ok (.getfield 42, 3) := by decide +kernel
theorem dX7_wouldShow_4 : decode cX7_wouldShow 4 = .ok (.aload_n 0, 1) := by decide +kernel
theorem dX7_wouldShow_5 : decode cX7_wouldShow 5 = .ok (.getfield 19, 3) := by decide +kernel
theorem dX7_wouldShow_8 : decode cX7_wouldShow 8 = .ok (.getfield 98, 3) := by decide +kernel
theorem dX7_wouldShow_11 : decode cX7_wouldShow 11 = .ok (.invokevirtual 172, 3) := by decide +kernel
theorem dX7_wouldShow_14 : decode cX7_wouldShow 14 = .ok (.aload_n 0, 1) := by decide +kernel
theorem dX7_wouldShow_15 : decode cX7_wouldShow 15 = .ok (.getfield 10, 3) := by decide +kernel
theorem dX7_wouldShow_18 : decode cX7_wouldShow 18 = .ok (.getfield 158, 3) := by decide +kernel
theorem dX7_wouldShow_21 : decode cX7_wouldShow 21 = .ok (.iload_n 3, 1) := by decide +kernel
theorem dX7_wouldShow_22 : decode cX7_wouldShow 22 = .ok (.invokestatic 233, 3) := by decide +kernel
theorem dX7_wouldShow_25 : decode cX7_wouldShow 25 = .ok (.lor, 1) := by decide +kernel
theorem dX7_wouldShow_26 : decode cX7_wouldShow 26 = .ok (.lstore 4, 2) := by decide +kernel
theorem dX7_wouldShow_28 : decode cX7_wouldShow 28 = .ok (.aload_n 0, 1) := by decide +kernel
theorem dX7_wouldShow_29 : decode cX7_wouldShow 29 = .ok (.getfield 42, 3) := by decide +kernel
theorem dX7_wouldShow_32 : decode cX7_wouldShow 32 = .ok (.aload_n 0, 1) := by decide +kernel
theorem dX7_wouldShow_33 : decode cX7_wouldShow 33 = .ok (.getfield 26, 3) := by decide +kernel
theorem dX7_wouldShow_36 : decode cX7_wouldShow 36 = .ok (.getfield 176, 3) := by decide +kernel
theorem dX7_wouldShow_39 : decode cX7_wouldShow 39 = .ok (.iload_n 2, 1) := by decide +kernel
theorem dX7_wouldShow_40 : decode cX7_wouldShow 40 = .ok (.iaload, 1) := by decide +kernel
theorem dX7_wouldShow_41 : decode cX7_wouldShow 41 = .ok (.aload_n 0, 1) := by decide +kernel
theorem dX7_wouldShow_42 : decode cX7_wouldShow 42 = .ok (.getfield 26, 3) := by decide +kernel
theorem dX7_wouldShow_45 : decode cX7_wouldShow 45 = .ok (.getfield 179, 3) := by decide +kernel
theorem dX7_wouldShow_48 : decode cX7_wouldShow 48 = .ok (.iload_n 2, 1) := by decide +kernel
theorem dX7_wouldShow_49 : decode cX7_wouldShow 49 = .ok (.iaload, 1) := by decide +kernel
theorem dX7_wouldShow_50 : decode cX7_wouldShow 50 = .ok (.lload 4, 2) := by decide +kernel
theorem dX7_wouldShow_52 : decode cX7_wouldShow 52 = .ok (.invokevirtual 182, 3) := by decide +kernel
theorem dX7_wouldShow_55 : decode cX7_wouldShow 55 = .ok (.pop, 1) := by decide +kernel
theorem dX7_wouldShow_56 : decode cX7_wouldShow 56 = .ok (.aload_n 1, 1) := by decide +kernel
theorem dX7_wouldShow_57 : decode cX7_wouldShow 57 = .ok (.aload_n 0, 1) := by decide +kernel
theorem dX7_wouldShow_58 : decode cX7_wouldShow 58 = .ok (.getfield 42, 3) := by decide +kernel
theorem dX7_wouldShow_61 : decode cX7_wouldShow 61 = .ok (.getfield 291, 3) := by decide +kernel
theorem dX7_wouldShow_64 : decode cX7_wouldShow 64 = .ok (.invokevirtual 341, 3) := by decide +kernel
theorem dX7_wouldShow_67 : decode cX7_wouldShow 67 = .ok (.ireturn, 1) := by decide +kernel
theorem dX7_slipperiness_0 : decode cX7_slipperiness 0 = .ok (.aload_n 0, 1) := by decide +kernel
theorem dX7_slipperiness_1 : decode cX7_slipperiness 1 = .ok (.getfield 19, 3) := by decide +kernel
theorem dX7_slipperiness_4 : decode cX7_slipperiness 4 = .ok (.getfield 105, 3) := by decide +kernel
theorem dX7_slipperiness_7 : decode cX7_slipperiness 7 = .ok (.iload_n 1, 1) := by decide +kernel
theorem dX7_slipperiness_8 : decode cX7_slipperiness 8 = .ok (.iaload, 1) := by decide +kernel
theorem dX7_slipperiness_9 : decode cX7_slipperiness 9 = .ok (.aload_n 0, 1) := by decide +kernel
theorem dX7_slipperiness_10 : decode cX7_slipperiness 10 = .ok (.getfield 42, 3) := by decide +kernel
theorem dX7_slipperiness_13 : decode cX7_slipperiness 13 = .ok (.getfield 291, 3) := by decide +kernel
theorem dX7_slipperiness_16 : decode cX7_slipperiness 16 = .ok (.iload_n 1, 1) := by decide +kernel
theorem dX7_slipperiness_17 : decode cX7_slipperiness 17 = .ok (.iaload, 1) := by decide +kernel
theorem dX7_slipperiness_18 : decode cX7_slipperiness 18 = .ok (.imul, 1) := by decide +kernel
theorem dX7_slipperiness_19 : decode cX7_slipperiness 19 = .ok (.ireturn, 1) := by decide +kernel
theorem dX7_mostSlippery_0 : decode cX7_mostSlippery 0 = .ok (.iconst (-1), 1) := by decide +kernel
theorem dX7_mostSlippery_1 : decode cX7_mostSlippery 1 = .ok (.istore_n 3, 1) := by decide +kernel
theorem dX7_mostSlippery_2 : decode cX7_mostSlippery 2 = .ok (.iconst 0, 1) := by decide +kernel
theorem dX7_mostSlippery_3 : decode cX7_mostSlippery 3 = .ok (.istore 4, 2) := by decide +kernel
theorem dX7_mostSlippery_5 : decode cX7_mostSlippery 5 = .ok (.iconst 0, 1) := by decide +kernel
theorem dX7_mostSlippery_6 : decode cX7_mostSlippery 6 = .ok (.istore 5, 2) := by decide +kernel
theorem dX7_mostSlippery_8 : decode cX7_mostSlippery 8 = .ok (.iload 5, 2) := by decide +kernel
theorem dX7_mostSlippery_10 : decode cX7_mostSlippery 10 = .ok (.bipush 64, 2) := by decide +kernel
theorem dX7_mostSlippery_12 : decode cX7_mostSlippery 12 = .ok (.if_icmp .ge 40, 3) := by decide +kernel
theorem dX7_mostSlippery_15 : decode cX7_mostSlippery 15 = .ok (.lload_n 1, 1) := by decide +kernel
theorem dX7_mostSlippery_16 : decode cX7_mostSlippery 16 = .ok (.iload 5, 2) := by decide +kernel
theorem dX7_mostSlippery_18 : decode cX7_mostSlippery 18 = .ok (.invokestatic 130, 3) := by decide +kernel
theorem dX7_mostSlippery_21 : decode cX7_mostSlippery 21 = .ok (.ifCond .ne 25, 3) := by decide +kernel
theorem dX7_mostSlippery_24 : decode cX7_mostSlippery 24 = .ok (.aload_n 0, 1) := by decide +kernel
theorem dX7_mostSlippery_25 : decode cX7_mostSlippery 25 = .ok (.iload 5, 2) := by decide +kernel
theorem dX7_mostSlippery_27 : decode cX7_mostSlippery 27 = .ok (.invokevirtual 345, 3) := by decide +kernel
theorem dX7_mostSlippery_30 : decode cX7_mostSlippery 30 = .ok (.iload 4, 2) := by decide +kernel
theorem dX7_mostSlippery_32 : decode cX7_mostSlippery 32 = .ok (.if_icmp .le 14, 3) := by decide +kernel
theorem dX7_mostSlippery_35 : decode cX7_mostSlippery 35 = .ok (.iload 5, 2) := by decide +kernel
theorem dX7_mostSlippery_37 : decode cX7_mostSlippery 37 = .ok (.istore_n 3, 1) := by decide +kernel
theorem dX7_mostSlippery_38 : decode cX7_mostSlippery 38 = .ok (.aload_n 0, 1) := by decide +kernel
theorem dX7_mostSlippery_39 : decode cX7_mostSlippery 39 = .ok (.iload 5, 2) := by decide +kernel
theorem dX7_mostSlippery_41 : decode cX7_mostSlippery 41 = .ok (.invokevirtual 345, 3) := by decide +kernel
theorem dX7_mostSlippery_44 : decode cX7_mostSlippery 44 = .ok (.istore 4, 2) := by decide +kernel
theorem dX7_mostSlippery_46 : decode cX7_mostSlippery 46 = .ok (.iinc 5 1, 3) := by decide +kernel
theorem dX7_mostSlippery_49 : decode cX7_mostSlippery 49 = .ok (.goto (-41), 3) := by decide +kernel
theorem dX7_mostSlippery_52 : decode cX7_mostSlippery 52 = .ok (.iload_n 3, 1) := by decide +kernel
theorem dX7_mostSlippery_53 : decode cX7_mostSlippery 53 = .ok (.ireturn, 1) := by decide +kernel
theorem dX7_slipperinessLeft_0 : decode cX7_slipperinessLeft 0 = .ok (.iconst 0, 1) := by decide +kernel
theorem dX7_slipperinessLeft_1 : decode cX7_slipperinessLeft 1 = .ok (.istore_n 2, 1) := by decide +kernel
theorem dX7_slipperinessLeft_2 : decode cX7_slipperinessLeft 2 = .ok (.iconst 0, 1) := by decide +kernel
theorem dX7_slipperinessLeft_3 : decode cX7_slipperinessLeft 3 = .ok (.istore_n 3, 1) := by decide +kernel
theorem dX7_slipperinessLeft_4 : decode cX7_slipperinessLeft 4 = .ok (.iload_n 3, 1) := by decide +kernel
theorem dX7_slipperinessLeft_5 : decode cX7_slipperinessLeft 5 = .ok (.bipush 64, 2) := by decide +kernel
theorem dX7_slipperinessLeft_7 : decode cX7_slipperinessLeft 7 = .ok (.if_icmp .ge 17, 3) := by decide +kernel
theorem dX7_slipperinessLeft_10 : decode cX7_slipperinessLeft 10 = .ok (.iload_n 2, 1) := by decide +kernel
theorem dX7_slipperinessLeft_11 : decode cX7_slipperinessLeft 11 = .ok (.aload_n 0, 1) := by decide +kernel
theorem dX7_slipperinessLeft_12 : decode cX7_slipperinessLeft 12 = .ok (.iload_n 3, 1) := by decide +kernel
theorem dX7_slipperinessLeft_13 : decode cX7_slipperinessLeft 13 = .ok (.invokevirtual 345, 3) := by decide +kernel
theorem dX7_slipperinessLeft_16 : decode cX7_slipperinessLeft 16 = .ok (.iadd, 1) := by decide +kernel
theorem dX7_slipperinessLeft_17 : decode cX7_slipperinessLeft 17 = .ok (.istore_n 2, 1) := by decide +kernel
theorem dX7_slipperinessLeft_18 : decode cX7_slipperinessLeft 18 = .ok (.iinc 3 1, 3) := by decide +kernel
theorem dX7_slipperinessLeft_21 : decode cX7_slipperinessLeft 21 = .ok (.goto (-17), 3) := by decide +kernel
theorem dX7_slipperinessLeft_24 : decode cX7_slipperinessLeft 24 = .ok (.lconst 0, 1) := by decide +kernel
theorem dX7_slipperinessLeft_25 : decode cX7_slipperinessLeft 25 = .ok (.lstore_n 3, 1) := by decide +kernel
theorem dX7_slipperinessLeft_26 : decode cX7_slipperinessLeft 26 = .ok (.iconst 0, 1) := by decide +kernel
theorem dX7_slipperinessLeft_27 : decode cX7_slipperinessLeft 27 = .ok (.istore 5, 2) := by decide +kernel
theorem dX7_slipperinessLeft_29 : decode cX7_slipperinessLeft 29 = .ok (.iload 5, 2) := by decide +kernel
theorem dX7_slipperinessLeft_31 : decode cX7_slipperinessLeft 31 = .ok (.iload_n 1, 1) := by decide +kernel
theorem dX7_slipperinessLeft_32 : decode cX7_slipperinessLeft 32 = .ok (.if_icmp .ge 42, 3) := by decide +kernel
theorem dX7_slipperinessLeft_35 : decode cX7_slipperinessLeft 35 = .ok (.aload_n 0, 1) := by decide +kernel
theorem dX7_slipperinessLeft_36 : decode cX7_slipperinessLeft 36 = .ok (.lload_n 3, 1) := by decide +kernel
theorem dX7_slipperinessLeft_37 : decode cX7_slipperinessLeft 37 = .ok (.invokevirtual 229, 3) := by decide +kernel
theorem dX7_slipperinessLeft_40 : decode cX7_slipperinessLeft 40 = .ok (.istore 6, 2) := by decide +kernel
theorem dX7_slipperinessLeft_42 : decode cX7_slipperinessLeft 42 = .ok (.iload 6, 2) := by decide +kernel
theorem dX7_slipperinessLeft_44 : decode cX7_slipperinessLeft 44 = .ok (.iconst (-1), 1) := by decide +kernel
theorem dX7_slipperinessLeft_45 : decode cX7_slipperinessLeft 45 = .ok (.if_icmp .ne 6, 3) := by decide +kernel
theorem dX7_slipperinessLeft_48 : decode cX7_slipperinessLeft 48 = .ok (.goto 26, 3) := by decide +kernel
theorem dX7_slipperinessLeft_51 : decode cX7_slipperinessLeft 51 = .ok (.lload_n 3, 1) := by decide +kernel
theorem dX7_slipperinessLeft_52 : decode cX7_slipperinessLeft 52 = .ok (.iload 6, 2) := by decide +kernel
theorem dX7_slipperinessLeft_54 : decode cX7_slipperinessLeft 54 = .ok (.invokestatic 233, 3) := by decide +kernel
theorem dX7_slipperinessLeft_57 : decode cX7_slipperinessLeft 57 = .ok (.lor, 1) := by decide +kernel
theorem dX7_slipperinessLeft_58 : decode cX7_slipperinessLeft 58 = .ok (.lstore_n 3, 1) := by decide +kernel
theorem dX7_slipperinessLeft_59 : decode cX7_slipperinessLeft 59 = .ok (.iload_n 2, 1) := by decide +kernel
theorem dX7_slipperinessLeft_60 : decode cX7_slipperinessLeft 60 = .ok (.aload_n 0, 1) := by decide +kernel
theorem dX7_slipperinessLeft_61 : decode cX7_slipperinessLeft 61 = .ok (.iload 6, 2) := by decide +kernel
theorem dX7_slipperinessLeft_63 : decode cX7_slipperinessLeft 63 = .ok (.invokevirtual 345, 3) := by decide +kernel
theorem dX7_slipperinessLeft_66 : decode cX7_slipperinessLeft 66 = .ok (.isub, 1) := by decide +kernel
theorem dX7_slipperinessLeft_67 : decode cX7_slipperinessLeft 67 = .ok (.istore_n 2, 1) := by decide +kernel
theorem dX7_slipperinessLeft_68 : decode cX7_slipperinessLeft 68 = .ok (.iinc 5 1, 3) := by decide +kernel
theorem dX7_slipperinessLeft_71 : decode cX7_slipperinessLeft 71 = .ok (.goto (-42), 3) := by decide +kernel
theorem dX7_slipperinessLeft_74 : decode cX7_slipperinessLeft 74 = .ok (.iload_n 2, 1) := by decide +kernel
theorem dX7_slipperinessLeft_75 : decode cX7_slipperinessLeft 75 = .ok (.ireturn, 1) := by decide +kernel
theorem dX7_thirtieths_0 : decode cX7_thirtieths 0 = .ok (.bipush 30, 2) := by decide +kernel
theorem dX7_thirtieths_2 : decode cX7_thirtieths 2 = .ok (.istore_n 2, 1) := by decide +kernel
theorem dX7_thirtieths_3 : decode cX7_thirtieths 3 = .ok (.iload_n 2, 1) := by decide +kernel
theorem dX7_thirtieths_4 : decode cX7_thirtieths 4 = .ok (.iconst 1, 1) := by decide +kernel
theorem dX7_thirtieths_5 : decode cX7_thirtieths 5 = .ok (.if_icmp .le 22, 3) := by decide +kernel
theorem dX7_thirtieths_8 : decode cX7_thirtieths 8 = .ok (.bipush 30, 2) := by decide +kernel
theorem dX7_thirtieths_10 : decode cX7_thirtieths 10 = .ok (.iload_n 2, 1) := by decide +kernel
theorem dX7_thirtieths_11 : decode cX7_thirtieths 11 = .ok (.irem, 1) := by decide +kernel
theorem dX7_thirtieths_12 : decode cX7_thirtieths 12 = .ok (.ifCond .ne 9, 3) := by decide +kernel
theorem dX7_thirtieths_15 : decode cX7_thirtieths 15 = .ok (.iload_n 0, 1) := by decide +kernel
theorem dX7_thirtieths_16 : decode cX7_thirtieths 16 = .ok (.iload_n 2, 1) := by decide +kernel
theorem dX7_thirtieths_17 : decode cX7_thirtieths 17 = .ok (.irem, 1) := by decide +kernel
theorem dX7_thirtieths_18 : decode cX7_thirtieths 18 = .ok (.ifCond .eq 9, 3) := by decide +kernel
theorem dX7_thirtieths_21 : decode cX7_thirtieths 21 = .ok (.iinc 2 (-1), 3) := by decide +kernel
theorem dX7_thirtieths_24 : decode cX7_thirtieths 24 = .ok (.goto (-21), 3) := by decide +kernel
theorem dX7_thirtieths_27 : decode cX7_thirtieths 27 = .ok (.iload_n 1, 1) := by decide +kernel
theorem dX7_thirtieths_28 : decode cX7_thirtieths 28 = .ok (.ifCond .ne 10, 3) := by decide +kernel
theorem dX7_thirtieths_31 : decode cX7_thirtieths 31 = .ok (.iload_n 0, 1) := by decide +kernel
theorem dX7_thirtieths_32 : decode cX7_thirtieths 32 = .ok (.iload_n 2, 1) := by decide +kernel
theorem dX7_thirtieths_33 : decode cX7_thirtieths 33 = .ok (.idiv, 1) := by decide +kernel
theorem dX7_thirtieths_34 : decode cX7_thirtieths 34 = .ok (.i2l, 1) := by decide +kernel
theorem dX7_thirtieths_35 : decode cX7_thirtieths 35 = .ok (.goto 8, 3) := by decide +kernel
theorem dX7_thirtieths_38 : decode cX7_thirtieths 38 = .ok (.bipush 30, 2) := by decide +kernel
theorem dX7_thirtieths_40 : decode cX7_thirtieths 40 = .ok (.iload_n 2, 1) := by decide +kernel
theorem dX7_thirtieths_41 : decode cX7_thirtieths 41 = .ok (.idiv, 1) := by decide +kernel
theorem dX7_thirtieths_42 : decode cX7_thirtieths 42 = .ok (.i2l, 1) := by decide +kernel
theorem dX7_thirtieths_43 : decode cX7_thirtieths 43 = .ok (.lreturn, 1) := by decide +kernel
theorem dX7_found_0 : decode cX7_found 0 = .ok (.aload_n 0, 1) := by decide +kernel
theorem dX7_found_1 : decode cX7_found 1 = .ok (.iload_n 1, 1) := by decide +kernel
theorem dX7_found_2 : decode cX7_found 2 = .ok (.putfield 61, 3) := by decide +kernel
theorem dX7_found_5 : decode cX7_found 5 = .ok (.bipush (-10), 2) := by decide +kernel
theorem dX7_found_7 : decode cX7_found 7 = .ok (.iload_n 1, 1) := by decide +kernel
theorem dX7_found_8 : decode cX7_found 8 = .ok (.isub, 1) := by decide +kernel
theorem dX7_found_9 : decode cX7_found 9 = .ok (.ireturn, 1) := by decide +kernel
theorem dX7_refusedLong_0 : decode cX7_refusedLong 0 = .ok (.ldc2_w 348, 3) := by decide +kernel
theorem dX7_refusedLong_3 : decode cX7_refusedLong 3 = .ok (.iload_n 0, 1) := by decide +kernel
theorem dX7_refusedLong_4 : decode cX7_refusedLong 4 = .ok (.i2l, 1) := by decide +kernel
theorem dX7_refusedLong_5 : decode cX7_refusedLong 5 = .ok (.lsub, 1) := by decide +kernel
theorem dX7_refusedLong_6 : decode cX7_refusedLong 6 = .ok (.lreturn, 1) := by decide +kernel
theorem dX7_refusedItem_0 : decode cX7_refusedItem 0 = .ok (.iload_n 1, 1) := by decide +kernel
theorem dX7_refusedItem_1 : decode cX7_refusedItem 1 = .ok (.invokestatic 137, 3) := by decide +kernel
theorem dX7_refusedItem_4 : decode cX7_refusedItem 4 = .ok (.ifCond .eq 10, 3) := by decide +kernel
theorem dX7_refusedItem_7 : decode cX7_refusedItem 7 = .ok (.iload_n 2, 1) := by decide +kernel
theorem dX7_refusedItem_8 : decode cX7_refusedItem 8 = .ok (.invokestatic 259, 3) := by decide +kernel
theorem dX7_refusedItem_11 : decode cX7_refusedItem 11 = .ok (.ifCond .ne 6, 3) := by decide +kernel
theorem dX7_refusedItem_14 : decode cX7_refusedItem 14 = .ok (.bipush (-2), 2) := by decide +kernel
theorem dX7_refusedItem_16 : decode cX7_refusedItem 16 = .ok (.ireturn, 1) := by decide +kernel
theorem dX7_refusedItem_17 : decode cX7_refusedItem 17 = .ok (.aload_n 0, 1) := by decide +kernel
theorem dX7_refusedItem_18 : decode cX7_refusedItem 18 = .ok (.getfield 57, 3) := by decide +kernel
theorem dX7_refusedItem_21 : decode cX7_refusedItem 21 = .ok (.iload_n 1, 1) := by decide +kernel
theorem dX7_refusedItem_22 : decode cX7_refusedItem 22 = .ok (.aaload, 1) := by decide +kernel
theorem dX7_refusedItem_23 : decode cX7_refusedItem 23 = .ok (.invokevirtual 140, 3) := by decide +kernel
theorem dX7_refusedItem_26 : decode cX7_refusedItem 26 = .ok (.ifCond .eq 9, 3) := by decide +kernel
theorem dX7_refusedItem_29 : decode cX7_refusedItem 29 = .ok (.aload_n 0, 1) := by decide +kernel
theorem dX7_refusedItem_30 : decode cX7_refusedItem 30 = .ok (.iconst 1, 1) := by decide +kernel
theorem dX7_refusedItem_31 : decode cX7_refusedItem 31 = .ok (.invokevirtual 144, 3) := by decide +kernel
theorem dX7_refusedItem_34 : decode cX7_refusedItem 34 = .ok (.ireturn, 1) := by decide +kernel
theorem dX7_refusedItem_35 : decode cX7_refusedItem 35 = .ok (.aload_n 0, 1) := by decide +kernel
theorem dX7_refusedItem_36 : decode cX7_refusedItem 36 = .ok (.getfield 57, 3) := by decide +kernel
theorem dX7_refusedItem_39 : decode cX7_refusedItem 39 = .ok (.iload_n 1, 1) := by decide +kernel
theorem dX7_refusedItem_40 : decode cX7_refusedItem 40 = .ok (.aaload, 1) := by decide +kernel
theorem dX7_refusedItem_41 : decode cX7_refusedItem 41 = .ok (.getfield 279, 3) := by decide +kernel
theorem dX7_refusedItem_44 : decode cX7_refusedItem 44 = .ok (.iload_n 2, 1) := by decide +kernel
theorem dX7_refusedItem_45 : decode cX7_refusedItem 45 = .ok (.if_icmp .eq 9, 3) := by decide +kernel
theorem dX7_refusedItem_48 : decode cX7_refusedItem 48 = .ok (.aload_n 0, 1) := by decide +kernel
theorem dX7_refusedItem_49 : decode cX7_refusedItem 49 = .ok (.iconst 3, 1) := by decide +kernel
theorem dX7_refusedItem_50 : decode cX7_refusedItem 50 = .ok (.invokevirtual 144, 3) := by decide +kernel
theorem dX7_refusedItem_53 : decode cX7_refusedItem 53 = .ok (.ireturn, 1) := by decide +kernel
theorem dX7_refusedItem_54 : decode cX7_refusedItem 54 = .ok (.aload_n 0, 1) := by decide +kernel
theorem dX7_refusedItem_55 : decode cX7_refusedItem 55 = .ok (.getfield 57, 3) := by decide +kernel
theorem dX7_refusedItem_58 : decode cX7_refusedItem 58 = .ok (.iload_n 1, 1) := by decide +kernel
theorem dX7_refusedItem_59 : decode cX7_refusedItem 59 = .ok (.aaload, 1) := by decide +kernel
theorem dX7_refusedItem_60 : decode cX7_refusedItem 60 = .ok (.iload_n 3, 1) := by decide +kernel
theorem dX7_refusedItem_61 : decode cX7_refusedItem 61 = .ok (.iconst 1, 1) := by decide +kernel
theorem dX7_refusedItem_62 : decode cX7_refusedItem 62 = .ok (.invokevirtual 282, 3) := by decide +kernel
theorem dX7_refusedItem_65 : decode cX7_refusedItem 65 = .ok (.ifCond .eq 7, 3) := by decide +kernel
theorem dX7_refusedItem_68 : decode cX7_refusedItem 68 = .ok (.iconst 0, 1) := by decide +kernel
theorem dX7_refusedItem_69 : decode cX7_refusedItem 69 = .ok (.goto 8, 3) := by decide +kernel
theorem dX7_refusedItem_72 : decode cX7_refusedItem 72 = .ok (.aload_n 0, 1) := by decide +kernel
theorem dX7_refusedItem_73 : decode cX7_refusedItem 73 = .ok (.iconst 2, 1) := by decide +kernel
theorem dX7_refusedItem_74 : decode cX7_refusedItem 74 = .ok (.invokevirtual 144, 3) := by decide +kernel
theorem dX7_refusedItem_77 : decode cX7_refusedItem 77 = .ok (.ireturn, 1) := by decide +kernel
theorem dX7_isCell_0 : decode cX7_isCell 0 = .ok (.iload_n 0, 1) := by decide +kernel
theorem dX7_isCell_1 : decode cX7_isCell 1 = .ok (.ifCond .lt 13, 3) := by decide +kernel
theorem dX7_isCell_4 : decode cX7_isCell 4 = .ok (.iload_n 0, 1) := by decide +kernel
theorem dX7_isCell_5 : decode cX7_isCell 5 = .ok (.bipush 64, 2) := by decide +kernel
theorem dX7_isCell_7 : decode cX7_isCell 7 = .ok (.if_icmp .ge 7, 3) := by decide +kernel
theorem dX7_isCell_10 : decode cX7_isCell 10 = .ok (.iconst 1, 1) := by decide +kernel
theorem dX7_isCell_11 : decode cX7_isCell 11 = .ok (.goto 4, 3) := by decide +kernel
theorem dX7_isCell_14 : decode cX7_isCell 14 = .ok (.iconst 0, 1) := by decide +kernel
theorem dX7_isCell_15 : decode cX7_isCell 15 = .ok (.ireturn, 1) := by decide +kernel
theorem dX7_isWalker_0 : decode cX7_isWalker 0 = .ok (.iload_n 1, 1) := by decide +kernel
theorem dX7_isWalker_1 : decode cX7_isWalker 1 = .ok (.ifCond .lt 18, 3) := by decide +kernel
theorem dX7_isWalker_4 : decode cX7_isWalker 4 = .ok (.iload_n 1, 1) := by decide +kernel
theorem dX7_isWalker_5 : decode cX7_isWalker 5 = .ok (.aload_n 0, 1) := by decide +kernel
theorem dX7_isWalker_6 : decode cX7_isWalker 6 = .ok (.getfield 26, 3) := by decide +kernel
theorem dX7_isWalker_9 : decode cX7_isWalker 9 = .ok (.getfield 155, 3) := by decide +kernel
theorem dX7_isWalker_12 : decode cX7_isWalker 12 = .ok (.if_icmp .ge 7, 3) := by decide +kernel
theorem dX7_isWalker_15 : decode cX7_isWalker 15 = .ok (.iconst 1, 1) := by decide +kernel
theorem dX7_isWalker_16 : decode cX7_isWalker 16 = .ok (.goto 4, 3) := by decide +kernel
theorem dX7_isWalker_19 : decode cX7_isWalker 19 = .ok (.iconst 0, 1) := by decide +kernel
theorem dX7_isWalker_20 : decode cX7_isWalker 20 = .ok (.ireturn, 1) := by decide +kernel
theorem dX7_isSheet_0 : decode cX7_isSheet 0 = .ok (.iload_n 0, 1) := by decide +kernel
theorem dX7_isSheet_1 : decode cX7_isSheet 1 = .ok (.ifCond .lt 12, 3) := by decide +kernel
theorem dX7_isSheet_4 : decode cX7_isSheet 4 = .ok (.iload_n 0, 1) := by decide +kernel
theorem dX7_isSheet_5 : decode cX7_isSheet 5 = .ok (.iconst 4, 1) := by decide +kernel
theorem dX7_isSheet_6 : decode cX7_isSheet 6 = .ok (.if_icmp .ge 7, 3) := by decide +kernel
theorem dX7_isSheet_9 : decode cX7_isSheet 9 = .ok (.iconst 1, 1) := by decide +kernel
theorem dX7_isSheet_10 : decode cX7_isSheet 10 = .ok (.goto 4, 3) := by decide +kernel
theorem dX7_isSheet_13 : decode cX7_isSheet 13 = .ok (.iconst 0, 1) := by decide +kernel
theorem dX7_isSheet_14 : decode cX7_isSheet 14 = .ok (.ireturn, 1) := by decide +kernel
theorem dX7_isForm_0 : decode cX7_isForm 0 = .ok (.iload_n 0, 1) := by decide +kernel
theorem dX7_isForm_1 : decode cX7_isForm 1 = .ok (.ifCond .lt 12, 3) := by decide +kernel
theorem dX7_isForm_4 : decode cX7_isForm 4 = .ok (.iload_n 0, 1) := by decide +kernel
theorem dX7_isForm_5 : decode cX7_isForm 5 = .ok (.iconst 2, 1) := by decide +kernel
theorem dX7_isForm_6 : decode cX7_isForm 6 = .ok (.if_icmp .gt 7, 3) := by decide +kernel
theorem dX7_isForm_9 : decode cX7_isForm 9 = .ok (.iconst 1, 1) := by decide +kernel
theorem dX7_isForm_10 : decode cX7_isForm 10 = .ok (.goto 4, 3) := by decide +kernel
theorem dX7_isForm_13 : decode cX7_isForm 13 = .ok (.iconst 0, 1) := by decide +kernel
theorem dX7_isForm_14 : decode cX7_isForm 14 = .ok (.ireturn, 1) := by decide +kernel
theorem dX7_bit_0 : decode cX7_bit 0 = .ok (.lconst 1, 1) := by decide +kernel
theorem dX7_bit_1 : decode cX7_bit 1 = .ok (.iload_n 0, 1) := by decide +kernel
theorem dX7_bit_2 : decode cX7_bit 2 = .ok (.lshl, 1) := by decide +kernel
theorem dX7_bit_3 : decode cX7_bit 3 = .ok (.lreturn, 1) := by decide +kernel
theorem dX7_has_0 : decode cX7_has 0 = .ok (.lload_n 0, 1) := by decide +kernel
theorem dX7_has_1 : decode cX7_has 1 = .ok (.iload_n 2, 1) := by decide +kernel
theorem dX7_has_2 : decode cX7_has 2 = .ok (.lushr, 1) := by decide +kernel
theorem dX7_has_3 : decode cX7_has 3 = .ok (.lconst 1, 1) := by decide +kernel
theorem dX7_has_4 : decode cX7_has 4 = .ok (.land, 1) := by decide +kernel
theorem dX7_has_5 : decode cX7_has 5 = .ok (.lconst 0, 1) := by decide +kernel
theorem dX7_has_6 : decode cX7_has 6 = .ok (.lcmp, 1) := by decide +kernel
theorem dX7_has_7 : decode cX7_has 7 = .ok (.ifCond .eq 7, 3) := by decide +kernel
theorem dX7_has_10 : decode cX7_has 10 = .ok (.iconst 1, 1) := by decide +kernel
theorem dX7_has_11 : decode cX7_has 11 = .ok (.goto 4, 3) := by decide +kernel
theorem dX7_has_14 : decode cX7_has 14 = .ok (.iconst 0, 1) := by decide +kernel
theorem dX7_has_15 : decode cX7_has 15 = .ok (.ireturn, 1) := by decide +kernel
theorem dX7_beside_0 : decode cX7_beside 0 = .ok (.iload_n 0, 1) := by decide +kernel
theorem dX7_beside_1 : decode cX7_beside 1 = .ok (.bipush 7, 2) := by decide +kernel
theorem dX7_beside_3 : decode cX7_beside 3 = .ok (.iand, 1) := by decide +kernel
theorem dX7_beside_4 : decode cX7_beside 4 = .ok (.istore_n 2, 1) := by decide +kernel
theorem dX7_beside_5 : decode cX7_beside 5 = .ok (.iload_n 1, 1) := by decide +kernel
theorem dX7_beside_6 : decode cX7_beside 6 = .ok (.tableswitch 86 0 3 #[30, 45, 59, 74], 30) := by decide +kernel
theorem dX7_beside_36 : decode cX7_beside 36 = .ok (.iload_n 0, 1) := by decide +kernel
theorem dX7_beside_37 : decode cX7_beside 37 = .ok (.bipush 8, 2) := by decide +kernel
theorem dX7_beside_39 : decode cX7_beside 39 = .ok (.if_icmp .lt 10, 3) := by decide +kernel
theorem dX7_beside_42 : decode cX7_beside 42 = .ok (.iload_n 0, 1) := by decide +kernel
theorem dX7_beside_43 : decode cX7_beside 43 = .ok (.bipush 8, 2) := by decide +kernel
theorem dX7_beside_45 : decode cX7_beside 45 = .ok (.isub, 1) := by decide +kernel
theorem dX7_beside_46 : decode cX7_beside 46 = .ok (.goto 4, 3) := by decide +kernel
theorem dX7_beside_49 : decode cX7_beside 49 = .ok (.iconst (-1), 1) := by decide +kernel
theorem dX7_beside_50 : decode cX7_beside 50 = .ok (.ireturn, 1) := by decide +kernel
theorem dX7_beside_51 : decode cX7_beside 51 = .ok (.iload_n 2, 1) := by decide +kernel
theorem dX7_beside_52 : decode cX7_beside 52 = .ok (.bipush 7, 2) := by decide +kernel
theorem dX7_beside_54 : decode cX7_beside 54 = .ok (.if_icmp .ge 9, 3) := by decide +kernel
theorem dX7_beside_57 : decode cX7_beside 57 = .ok (.iload_n 0, 1) := by decide +kernel
theorem dX7_beside_58 : decode cX7_beside 58 = .ok (.iconst 1, 1) := by decide +kernel
theorem dX7_beside_59 : decode cX7_beside 59 = .ok (.iadd, 1) := by decide +kernel
theorem dX7_beside_60 : decode cX7_beside 60 = .ok (.goto 4, 3) := by decide +kernel
theorem dX7_beside_63 : decode cX7_beside 63 = .ok (.iconst (-1), 1) := by decide +kernel
theorem dX7_beside_64 : decode cX7_beside 64 = .ok (.ireturn, 1) := by decide +kernel
theorem dX7_beside_65 : decode cX7_beside 65 = .ok (.iload_n 0, 1) := by decide +kernel
theorem dX7_beside_66 : decode cX7_beside 66 = .ok (.bipush 56, 2) := by decide +kernel
theorem dX7_beside_68 : decode cX7_beside 68 = .ok (.if_icmp .ge 10, 3) := by decide +kernel
theorem dX7_beside_71 : decode cX7_beside 71 = .ok (.iload_n 0, 1) := by decide +kernel
theorem dX7_beside_72 : decode cX7_beside 72 = .ok (.bipush 8, 2) := by decide +kernel
theorem dX7_beside_74 : decode cX7_beside 74 = .ok (.iadd, 1) := by decide +kernel
theorem dX7_beside_75 : decode cX7_beside 75 = .ok (.goto 4, 3) := by decide +kernel
theorem dX7_beside_78 : decode cX7_beside 78 = .ok (.iconst (-1), 1) := by decide +kernel
theorem dX7_beside_79 : decode cX7_beside 79 = .ok (.ireturn, 1) := by decide +kernel
theorem dX7_beside_80 : decode cX7_beside 80 = .ok (.iload_n 2, 1) := by decide +kernel
theorem dX7_beside_81 : decode cX7_beside 81 = .ok (.ifCond .le 9, 3) := by decide +kernel
theorem dX7_beside_84 : decode cX7_beside 84 = .ok (.iload_n 0, 1) := by decide +kernel
theorem dX7_beside_85 : decode cX7_beside 85 = .ok (.iconst 1, 1) := by decide +kernel
theorem dX7_beside_86 : decode cX7_beside 86 = .ok (.isub, 1) := by decide +kernel
theorem dX7_beside_87 : decode cX7_beside 87 = .ok (.goto 4, 3) := by decide +kernel
theorem dX7_beside_90 : decode cX7_beside 90 = .ok (.iconst (-1), 1) := by decide +kernel
theorem dX7_beside_91 : decode cX7_beside 91 = .ok (.ireturn, 1) := by decide +kernel
theorem dX7_beside_92 : decode cX7_beside 92 = .ok (.iconst (-1), 1) := by decide +kernel
theorem dX7_beside_93 : decode cX7_beside 93 = .ok (.ireturn, 1) := by decide +kernel
theorem dX7_sum_0 : decode cX7_sum 0 = .ok (.iconst 0, 1) := by decide +kernel
theorem dX7_sum_1 : decode cX7_sum 1 = .ok (.istore_n 1, 1) := by decide +kernel
theorem dX7_sum_2 : decode cX7_sum 2 = .ok (.aload_n 0, 1) := by decide +kernel
theorem dX7_sum_3 : decode cX7_sum 3 = .ok (.astore_n 2, 1) := by decide +kernel
theorem dX7_sum_4 : decode cX7_sum 4 = .ok (.aload_n 2, 1) := by decide +kernel
theorem dX7_sum_5 : decode cX7_sum 5 = .ok (.arraylength, 1) := by decide +kernel
theorem dX7_sum_6 : decode cX7_sum 6 = .ok (.istore_n 3, 1) := by decide +kernel
theorem dX7_sum_7 : decode cX7_sum 7 = .ok (.iconst 0, 1) := by decide +kernel
theorem dX7_sum_8 : decode cX7_sum 8 = .ok (.istore 4, 2) := by decide +kernel
theorem dX7_sum_10 : decode cX7_sum 10 = .ok (.iload 4, 2) := by decide +kernel
theorem dX7_sum_12 : decode cX7_sum 12 = .ok (.iload_n 3, 1) := by decide +kernel
theorem dX7_sum_13 : decode cX7_sum 13 = .ok (.if_icmp .ge 20, 3) := by decide +kernel
theorem dX7_sum_16 : decode cX7_sum 16 = .ok (.aload_n 2, 1) := by decide +kernel
theorem dX7_sum_17 : decode cX7_sum 17 = .ok (.iload 4, 2) := by decide +kernel
theorem dX7_sum_19 : decode cX7_sum 19 = .ok (.iaload, 1) := by decide +kernel
theorem dX7_sum_20 : decode cX7_sum 20 = .ok (.istore 5, 2) := by decide +kernel
theorem dX7_sum_22 : decode cX7_sum 22 = .ok (.iload_n 1, 1) := by decide +kernel
theorem dX7_sum_23 : decode cX7_sum 23 = .ok (.iload 5, 2) := by decide +kernel
theorem dX7_sum_25 : decode cX7_sum 25 = .ok (.iadd, 1) := by decide +kernel
theorem dX7_sum_26 : decode cX7_sum 26 = .ok (.istore_n 1, 1) := by decide +kernel
theorem dX7_sum_27 : decode cX7_sum 27 = .ok (.iinc 4 1, 3) := by decide +kernel
theorem dX7_sum_30 : decode cX7_sum 30 = .ok (.goto (-20), 3) := by decide +kernel
theorem dX7_sum_33 : decode cX7_sum 33 = .ok (.iload_n 1, 1) := by decide +kernel
theorem dX7_sum_34 : decode cX7_sum 34 = .ok (.ireturn, 1) := by decide +kernel
end
section
theorem dX8_init_0 : decode cX8_init 0 = .ok (.aload_n 0, 1) := by decide +kernel
theorem dX8_init_1 : decode cX8_init 1 = .ok (.invokespecial 1, 3) := by decide +kernel
theorem dX8_init_4 : decode cX8_init 4 = .ok (.aload_n 0, 1) := by decide +kernel
theorem dX8_init_5 : decode cX8_init 5 = .ok (.iconst 4, 1) := by decide +kernel
theorem dX8_init_6 : decode cX8_init 6 = .ok (.newarray .int, 2) := by decide +kernel
theorem dX8_init_8 : decode cX8_init 8 = .ok (.putfield 7, 3) := by decide +kernel
theorem dX8_init_11 : decode cX8_init 11 = .ok (.aload_n 0, 1) := by decide +kernel
theorem dX8_init_12 : decode cX8_init 12 = .ok (.iconst 4, 1) := by decide +kernel
theorem dX8_init_13 : decode cX8_init 13 = .ok (.newarray .int, 2) := by decide +kernel
theorem dX8_init_15 : decode cX8_init 15 = .ok (.putfield 13, 3) := by decide +kernel
theorem dX8_init_18 : decode cX8_init 18 = .ok (.aload_n 0, 1) := by decide +kernel
theorem dX8_init_19 : decode cX8_init 19 = .ok (.sipush 256, 3) := by decide +kernel
theorem dX8_init_22 : decode cX8_init 22 = .ok (.newarray .int, 2) := by decide +kernel
theorem dX8_init_24 : decode cX8_init 24 = .ok (.putfield 16, 3) := by decide +kernel
theorem dX8_init_27 : decode cX8_init 27 = .ok (.aload_n 0, 1) := by decide +kernel
theorem dX8_init_28 : decode cX8_init 28 = .ok (.bipush 64, 2) := by decide +kernel
theorem dX8_init_30 : decode cX8_init 30 = .ok (.newarray .int, 2) := by decide +kernel
theorem dX8_init_32 : decode cX8_init 32 = .ok (.putfield 19, 3) := by decide +kernel
theorem dX8_init_35 : decode cX8_init 35 = .ok (.aload_n 0, 1) := by decide +kernel
theorem dX8_init_36 : decode cX8_init 36 = .ok (.bipush 75, 2) := by decide +kernel
theorem dX8_init_38 : decode cX8_init 38 = .ok (.newarray .int, 2) := by decide +kernel
theorem dX8_init_40 : decode cX8_init 40 = .ok (.putfield 22, 3) := by decide +kernel
theorem dX8_init_43 : decode cX8_init 43 = .ok (.aload_n 0, 1) := by decide +kernel
theorem dX8_init_44 : decode cX8_init 44 = .ok (.bipush 64, 2) := by decide +kernel
theorem dX8_init_46 : decode cX8_init 46 = .ok (.newarray .int, 2) := by decide +kernel
theorem dX8_init_48 : decode cX8_init 48 = .ok (.putfield 25, 3) := by decide +kernel
theorem dX8_init_51 : decode cX8_init 51 = .ok (.aload_n 0, 1) := by decide +kernel
theorem dX8_init_52 : decode cX8_init 52 = .ok (.bipush 64, 2) := by decide +kernel
theorem dX8_init_54 : decode cX8_init 54 = .ok (.newarray .int, 2) := by decide +kernel
theorem dX8_init_56 : decode cX8_init 56 = .ok (.putfield 28, 3) := by decide +kernel
theorem dX8_init_59 : decode cX8_init 59 = .ok (.aload_n 0, 1) := by decide +kernel
theorem dX8_init_60 : decode cX8_init 60 = .ok (.bipush 64, 2) := by decide +kernel
theorem dX8_init_62 : decode cX8_init 62 = .ok (.newarray .int, 2) := by decide +kernel
theorem dX8_init_64 : decode cX8_init 64 = .ok (.putfield 31, 3) := by decide +kernel
theorem dX8_init_67 : decode cX8_init 67 = .ok (.aload_n 0, 1) := by decide +kernel
theorem dX8_init_68 : decode cX8_init 68 = .ok (.bipush 64, 2) := by decide +kernel
theorem dX8_init_70 : decode cX8_init 70 = .ok (.newarray .int, 2) := by decide +kernel
theorem dX8_init_72 : decode cX8_init 72 = .ok (.putfield 34, 3) := by decide +kernel
theorem dX8_init_75 : decode cX8_init 75 = .ok (.aload_n 0, 1) := by decide +kernel
theorem dX8_init_76 : decode cX8_init 76 = .ok (.bipush 64, 2) := by decide +kernel
theorem dX8_init_78 : decode cX8_init 78 = .ok (.newarray .int, 2) := by decide +kernel
theorem dX8_init_80 : decode cX8_init 80 = .ok (.putfield 37, 3) := by decide +kernel
theorem dX8_init_83 : decode cX8_init 83 = .ok (.aload_n 0, 1) := by decide +kernel
theorem dX8_init_84 : decode cX8_init 84 = .ok (.bipush 8, 2) := by decide +kernel
theorem dX8_init_86 : decode cX8_init 86 = .ok (.newarray .int, 2) := by decide +kernel
theorem dX8_init_88 : decode cX8_init 88 = .ok (.putfield 40, 3) := by decide +kernel
theorem dX8_init_91 : decode cX8_init 91 = .ok (.aload_n 0, 1) := by decide +kernel
theorem dX8_init_92 : decode cX8_init 92 = .ok (.bipush 8, 2) := by decide +kernel
theorem dX8_init_94 : decode cX8_init 94 = .ok (.newarray .int, 2) := by decide +kernel
theorem dX8_init_96 : decode cX8_init 96 = .ok (.putfield 43, 3) := by decide +kernel
theorem dX8_init_99 : decode cX8_init 99 = .ok (.aload_n 0, 1) := by decide +kernel
theorem dX8_init_100 : decode cX8_init 100 = .ok (.bipush 64, 2) := by decide +kernel
theorem dX8_init_102 : decode cX8_init 102 = .ok (.newarray .int, 2) := by decide +kernel
theorem dX8_init_104 : decode cX8_init 104 = .ok (.putfield 46, 3) := by decide +kernel
theorem dX8_init_107 : decode cX8_init 107 = .ok (.aload_n 0, 1) := by decide +kernel
theorem dX8_init_108 : decode cX8_init 108 = .ok (.bipush 64, 2) := by decide +kernel
theorem dX8_init_110 : decode cX8_init 110 = .ok (.newarray .int, 2) := by decide +kernel
theorem dX8_init_112 : decode cX8_init 112 = .ok (.putfield 49, 3) := by decide +kernel
theorem dX8_init_115 : decode cX8_init 115 = .ok (.aload_n 0, 1) := by decide +kernel
theorem dX8_init_116 : decode cX8_init 116 = .ok (.bipush 64, 2) := by decide +kernel
theorem dX8_init_118 : decode cX8_init 118 = .ok (.newarray .int, 2) := by decide +kernel
theorem dX8_init_120 : decode cX8_init 120 = .ok (.putfield 52, 3) := by decide +kernel
theorem dX8_init_123 : decode cX8_init 123 = .ok (.aload_n 0, 1) := by decide +kernel
theorem dX8_init_124 : decode cX8_init 124 = .ok (.bipush 64, 2) := by decide +kernel
theorem dX8_init_126 : decode cX8_init 126 = .ok (.newarray .boolean, 2) := by decide +kernel
theorem dX8_init_128 : decode cX8_init 128 = .ok (.putfield 55, 3) := by decide +kernel
theorem dX8_init_131 : decode cX8_init 131 = .ok (.aload_n 0, 1) := by decide +kernel
theorem dX8_init_132 : decode cX8_init 132 = .ok (.iconst (-1), 1) := by decide +kernel
theorem dX8_init_133 : decode cX8_init 133 = .ok (.putfield 59, 3) := by decide +kernel
theorem dX8_init_136 : decode cX8_init 136 = .ok (.aload_n 0, 1) := by decide +kernel
theorem dX8_init_137 : decode cX8_init 137 = .ok (.bipush 64, 2) := by decide +kernel
theorem dX8_init_139 : decode cX8_init 139 = .ok (.newarray .int, 2) := by decide +kernel
theorem dX8_init_141 : decode cX8_init 141 = .ok (.putfield 63, 3) := by decide +kernel
theorem dX8_init_144 : decode cX8_init 144 = .ok (.aload_n 0, 1) := by decide +kernel
theorem dX8_init_145 : decode cX8_init 145 = .ok (.bipush 64, 2) := by decide +kernel
theorem dX8_init_147 : decode cX8_init 147 = .ok (.newarray .int, 2) := by decide +kernel
theorem dX8_init_149 : decode cX8_init 149 = .ok (.putfield 66, 3) := by decide +kernel
theorem dX8_init_152 : decode cX8_init 152 = .ok (.aload_n 0, 1) := by decide +kernel
theorem dX8_init_153 : decode cX8_init 153 = .ok (.iconst 5, 1) := by decide +kernel
theorem dX8_init_154 : decode cX8_init 154 = .ok (.newarray .int, 2) := by decide +kernel
theorem dX8_init_156 : decode cX8_init 156 = .ok (.putfield 69, 3) := by decide +kernel
theorem dX8_init_159 : decode cX8_init 159 = .ok (.aload_n 0, 1) := by decide +kernel
theorem dX8_init_160 : decode cX8_init 160 = .ok (.iconst 5, 1) := by decide +kernel
theorem dX8_init_161 : decode cX8_init 161 = .ok (.newarray .int, 2) := by decide +kernel
theorem dX8_init_163 : decode cX8_init 163 = .ok (.putfield 72, 3) := by decide +kernel
theorem dX8_init_166 : decode cX8_init 166 = .ok (.aload_n 0, 1) := by decide +kernel
theorem dX8_init_167 : decode cX8_init 167 = .ok (.bipush 64, 2) := by decide +kernel
theorem dX8_init_169 : decode cX8_init 169 = .ok (.newarray .boolean, 2) := by decide +kernel
theorem dX8_init_171 : decode cX8_init 171 = .ok (.putfield 75, 3) := by decide +kernel
theorem dX8_init_174 : decode cX8_init 174 = .ok (.iconst 0, 1) := by decide +kernel
theorem dX8_init_175 : decode cX8_init 175 = .ok (.istore_n 1, 1) := by decide +kernel
theorem dX8_init_176 : decode cX8_init 176 = .ok (.iload_n 1, 1) := by decide +kernel
theorem dX8_init_177 : decode cX8_init 177 = .ok (.iconst 4, 1) := by decide +kernel
theorem dX8_init_178 : decode cX8_init 178 = .ok (.if_icmp .ge 16, 3) := by decide +kernel
theorem dX8_init_181 : decode cX8_init 181 = .ok (.aload_n 0, 1) := by decide +kernel
theorem dX8_init_182 : decode cX8_init 182 = .ok (.getfield 7, 3) := by decide +kernel
theorem dX8_init_185 : decode cX8_init 185 = .ok (.iload_n 1, 1) := by decide +kernel
theorem dX8_init_186 : decode cX8_init 186 = .ok (.iconst (-1), 1) := by decide +kernel
theorem dX8_init_187 : decode cX8_init 187 = .ok (.iastore, 1) := by decide +kernel
theorem dX8_init_188 : decode cX8_init 188 = .ok (.iinc 1 1, 3) := by decide +kernel
theorem dX8_init_191 : decode cX8_init 191 = .ok (.goto (-15), 3) := by decide +kernel
theorem dX8_init_194 : decode cX8_init 194 = .ok (.return_, 1) := by decide +kernel
theorem dX8_in_0 : decode cX8_in 0 = .ok (.lload_n 0, 1) := by decide +kernel
theorem dX8_in_1 : decode cX8_in 1 = .ok (.lload_n 2, 1) := by decide +kernel
theorem dX8_in_2 : decode cX8_in 2 = .ok (.lcmp, 1) := by decide +kernel
theorem dX8_in_3 : decode cX8_in 3 = .ok (.ifCond .lt 14, 3) := by decide +kernel
theorem dX8_in_6 : decode cX8_in 6 = .ok (.lload_n 0, 1) := by decide +kernel
theorem dX8_in_7 : decode cX8_in 7 = .ok (.lload 4, 2) := by decide +kernel
theorem dX8_in_9 : decode cX8_in 9 = .ok (.lcmp, 1) := by decide +kernel
theorem dX8_in_10 : decode cX8_in 10 = .ok (.ifCond .gt 7, 3) := by decide +kernel
theorem dX8_in_13 : decode cX8_in 13 = .ok (.iconst 1, 1) := by decide +kernel
theorem dX8_in_14 : decode cX8_in 14 = .ok (.goto 4, 3) := by decide +kernel
theorem dX8_in_17 : decode cX8_in 17 = .ok (.iconst 0, 1) := by decide +kernel
theorem dX8_in_18 : decode cX8_in 18 = .ok (.ireturn, 1) := by decide +kernel
theorem dX8_no_0 : decode cX8_no 0 = .ok (.ldc2_w 78, 3) := by decide +kernel
theorem dX8_no_3 : decode cX8_no 3 = .ok (.iload_n 0, 1) := by decide +kernel
theorem dX8_no_4 : decode cX8_no 4 = .ok (.i2l, 1) := by decide +kernel
theorem dX8_no_5 : decode cX8_no 5 = .ok (.lsub, 1) := by decide +kernel
theorem dX8_no_6 : decode cX8_no 6 = .ok (.lreturn, 1) := by decide +kernel
theorem dX8_isTwo_0 : decode cX8_isTwo 0 = .ok (.iload_n 0, 1) := by decide +kernel
theorem dX8_isTwo_1 : decode cX8_isTwo 1 = .ok (.i2l, 1) := by decide +kernel
theorem dX8_isTwo_2 : decode cX8_isTwo 2 = .ok (.lconst 0, 1) := by decide +kernel
theorem dX8_isTwo_3 : decode cX8_isTwo 3 = .ok (.lconst 1, 1) := by decide +kernel
theorem dX8_isTwo_4 : decode cX8_isTwo 4 = .ok (.invokestatic 80, 3) := by decide +kernel
theorem dX8_isTwo_7 : decode cX8_isTwo 7 = .ok (.ireturn, 1) := by decide +kernel
theorem dX8_isCell_0 : decode cX8_isCell 0 = .ok (.iload_n 0, 1) := by decide +kernel
theorem dX8_isCell_1 : decode cX8_isCell 1 = .ok (.i2l, 1) := by decide +kernel
theorem dX8_isCell_2 : decode cX8_isCell 2 = .ok (.lconst 0, 1) := by decide +kernel
theorem dX8_isCell_3 : decode cX8_isCell 3 = .ok (.ldc2_w 84, 3) := by decide +kernel
theorem dX8_isCell_6 : decode cX8_isCell 6 = .ok (.invokestatic 80, 3) := by decide +kernel
theorem dX8_isCell_9 : decode cX8_isCell 9 = .ok (.ireturn, 1) := by decide +kernel
theorem dX8_met_0 : decode cX8_met 0 = .ok (.aload_n 0, 1) := by decide +kernel
theorem dX8_met_1 : decode cX8_met 1 = .ok (.iload_n 1, 1) := by decide +kernel
theorem dX8_met_2 : decode cX8_met 2 = .ok (.putfield 86, 3) := by decide +kernel
theorem dX8_met_5 : decode cX8_met 5 = .ok (.bipush (-10), 2) := by decide +kernel
theorem dX8_met_7 : decode cX8_met 7 = .ok (.iload_n 1, 1) := by decide +kernel
theorem dX8_met_8 : decode cX8_met 8 = .ok (.isub, 1) := by decide +kernel
theorem dX8_met_9 : decode cX8_met 9 = .ok (.ireturn, 1) := by decide +kernel
theorem dX8_isSheet_0 : decode cX8_isSheet 0 = .ok (.iload_n 0, 1) := by decide +kernel
theorem dX8_isSheet_1 : decode cX8_isSheet 1 = .ok (.i2l, 1) := by decide +kernel
theorem dX8_isSheet_2 : decode cX8_isSheet 2 = .ok (.lconst 0, 1) := by decide +kernel
theorem dX8_isSheet_3 : decode cX8_isSheet 3 = .ok (.ldc2_w 89, 3) := by decide +kernel
theorem dX8_isSheet_6 : decode cX8_isSheet 6 = .ok (.invokestatic 80, 3) := by decide +kernel
theorem dX8_isSheet_9 : decode cX8_isSheet 9 = .ok (.ireturn, 1) := by decide +kernel
theorem dX8_sheet_0 : decode cX8_sheet 0 = .ok (.iload_n 1, 1) := by decide +kernel
theorem dX8_sheet_1 : decode cX8_sheet 1 = .ok (.invokestatic 91, 3) := by decide +kernel
theorem dX8_sheet_4 : decode cX8_sheet 4 = .ok (.ifCond .eq 21, 3) := by decide +kernel
theorem dX8_sheet_7 : decode cX8_sheet 7 = .ok (.iload_n 2, 1) := by decide +kernel
theorem dX8_sheet_8 : decode cX8_sheet 8 = .ok (.i2l, 1) := by decide +kernel
theorem dX8_sheet_9 : decode cX8_sheet 9 = .ok (.lconst 0, 1) := by decide +kernel
theorem dX8_sheet_10 : decode cX8_sheet 10 = .ok (.ldc2_w 95, 3) := by decide +kernel
theorem dX8_sheet_13 : decode cX8_sheet 13 = .ok (.invokestatic 80, 3) := by decide +kernel
theorem dX8_sheet_16 : decode cX8_sheet 16 = .ok (.ifCond .eq 9, 3) := by decide +kernel
theorem dX8_sheet_19 : decode cX8_sheet 19 = .ok (.iload_n 3, 1) := by decide +kernel
theorem dX8_sheet_20 : decode cX8_sheet 20 = .ok (.bipush 64, 2) := by decide +kernel
theorem dX8_sheet_22 : decode cX8_sheet 22 = .ok (.if_icmp .le 6, 3) := by decide +kernel
theorem dX8_sheet_25 : decode cX8_sheet 25 = .ok (.bipush (-2), 2) := by decide +kernel
theorem dX8_sheet_27 : decode cX8_sheet 27 = .ok (.ireturn, 1) := by decide +kernel
theorem dX8_sheet_28 : decode cX8_sheet 28 = .ok (.iload_n 3, 1) := by decide +kernel
theorem dX8_sheet_29 : decode cX8_sheet 29 = .ok (.ifCond .ge 9, 3) := by decide +kernel
theorem dX8_sheet_32 : decode cX8_sheet 32 = .ok (.aload_n 0, 1) := by decide +kernel
theorem dX8_sheet_33 : decode cX8_sheet 33 = .ok (.iconst 5, 1) := by decide +kernel
theorem dX8_sheet_34 : decode cX8_sheet 34 = .ok (.invokevirtual 97, 3) := by decide +kernel
theorem dX8_sheet_37 : decode cX8_sheet 37 = .ok (.ireturn, 1) := by decide +kernel
theorem dX8_sheet_38 : decode cX8_sheet 38 = .ok (.aload_n 0, 1) := by decide +kernel
theorem dX8_sheet_39 : decode cX8_sheet 39 = .ok (.getfield 7, 3) := by decide +kernel
theorem dX8_sheet_42 : decode cX8_sheet 42 = .ok (.iload_n 1, 1) := by decide +kernel
theorem dX8_sheet_43 : decode cX8_sheet 43 = .ok (.iload_n 2, 1) := by decide +kernel
theorem dX8_sheet_44 : decode cX8_sheet 44 = .ok (.iastore, 1) := by decide +kernel
theorem dX8_sheet_45 : decode cX8_sheet 45 = .ok (.aload_n 0, 1) := by decide +kernel
theorem dX8_sheet_46 : decode cX8_sheet 46 = .ok (.getfield 13, 3) := by decide +kernel
theorem dX8_sheet_49 : decode cX8_sheet 49 = .ok (.iload_n 1, 1) := by decide +kernel
theorem dX8_sheet_50 : decode cX8_sheet 50 = .ok (.iload_n 3, 1) := by decide +kernel
theorem dX8_sheet_51 : decode cX8_sheet 51 = .ok (.iastore, 1) := by decide +kernel
theorem dX8_sheet_52 : decode cX8_sheet 52 = .ok (.iconst 0, 1) := by decide +kernel
theorem dX8_sheet_53 : decode cX8_sheet 53 = .ok (.istore 4, 2) := by decide +kernel
theorem dX8_sheet_55 : decode cX8_sheet 55 = .ok (.iload 4, 2) := by decide +kernel
theorem dX8_sheet_57 : decode cX8_sheet 57 = .ok (.iload_n 3, 1) := by decide +kernel
theorem dX8_sheet_58 : decode cX8_sheet 58 = .ok (.if_icmp .ge 22, 3) := by decide +kernel
theorem dX8_sheet_61 : decode cX8_sheet 61 = .ok (.aload_n 0, 1) := by decide +kernel
theorem dX8_sheet_62 : decode cX8_sheet 62 = .ok (.getfield 16, 3) := by decide +kernel
theorem dX8_sheet_65 : decode cX8_sheet 65 = .ok (.bipush 64, 2) := by decide +kernel
theorem dX8_sheet_67 : decode cX8_sheet 67 = .ok (.iload_n 1, 1) := by decide +kernel
theorem dX8_sheet_68 : decode cX8_sheet 68 = .ok (.imul, 1) := by decide +kernel
theorem dX8_sheet_69 : decode cX8_sheet 69 = .ok (.iload 4, 2) := by decide +kernel
theorem dX8_sheet_71 : decode cX8_sheet 71 = .ok (.iadd, 1) := by decide +kernel
theorem dX8_sheet_72 : decode cX8_sheet 72 = .ok (.iconst 0, 1) := by decide +kernel
theorem dX8_sheet_73 : decode cX8_sheet 73 = .ok (.iastore, 1) := by decide +kernel
theorem dX8_sheet_74 : decode cX8_sheet 74 = .ok (.iinc 4 1, 3) := by decide +kernel
theorem dX8_sheet_77 : decode cX8_sheet 77 = .ok (.goto (-22), 3) := by decide +kernel
theorem dX8_sheet_80 : decode cX8_sheet 80 = .ok (.iload_n 3, 1) := by decide +kernel
theorem dX8_sheet_81 : decode cX8_sheet 81 = .ok (.ireturn, 1) := by decide +kernel
theorem dX8_lose_0 : decode cX8_lose 0 = .ok (.iload_n 1, 1) := by decide +kernel
theorem dX8_lose_1 : decode cX8_lose 1 = .ok (.invokestatic 91, 3) := by decide +kernel
theorem dX8_lose_4 : decode cX8_lose 4 = .ok (.ifCond .ne 6, 3) := by decide +kernel
theorem dX8_lose_7 : decode cX8_lose 7 = .ok (.bipush (-2), 2) := by decide +kernel
theorem dX8_lose_9 : decode cX8_lose 9 = .ok (.ireturn, 1) := by decide +kernel
theorem dX8_lose_10 : decode cX8_lose 10 = .ok (.aload_n 0, 1) := by decide +kernel
theorem dX8_lose_11 : decode cX8_lose 11 = .ok (.getfield 7, 3) := by decide +kernel
theorem dX8_lose_14 : decode cX8_lose 14 = .ok (.iload_n 1, 1) := by decide +kernel
theorem dX8_lose_15 : decode cX8_lose 15 = .ok (.iaload, 1) := by decide +kernel
theorem dX8_lose_16 : decode cX8_lose 16 = .ok (.ifCond .ge 9, 3) := by decide +kernel
theorem dX8_lose_19 : decode cX8_lose 19 = .ok (.aload_n 0, 1) := by decide +kernel
theorem dX8_lose_20 : decode cX8_lose 20 = .ok (.iconst 1, 1) := by decide +kernel
theorem dX8_lose_21 : decode cX8_lose 21 = .ok (.invokevirtual 97, 3) := by decide +kernel
theorem dX8_lose_24 : decode cX8_lose 24 = .ok (.ireturn, 1) := by decide +kernel
theorem dX8_lose_25 : decode cX8_lose 25 = .ok (.aload_n 0, 1) := by decide +kernel
theorem dX8_lose_26 : decode cX8_lose 26 = .ok (.getfield 7, 3) := by decide +kernel
theorem dX8_lose_29 : decode cX8_lose 29 = .ok (.iload_n 1, 1) := by decide +kernel
theorem dX8_lose_30 : decode cX8_lose 30 = .ok (.iconst (-1), 1) := by decide +kernel
theorem dX8_lose_31 : decode cX8_lose 31 = .ok (.iastore, 1) := by decide +kernel
theorem dX8_lose_32 : decode cX8_lose 32 = .ok (.aload_n 0, 1) := by decide +kernel
theorem dX8_lose_33 : decode cX8_lose 33 = .ok (.getfield 13, 3) := by decide +kernel
theorem dX8_lose_36 : decode cX8_lose 36 = .ok (.iload_n 1, 1) := by decide +kernel
theorem dX8_lose_37 : decode cX8_lose 37 = .ok (.iaload, 1) := by decide +kernel
theorem dX8_lose_38 : decode cX8_lose 38 = .ok (.ireturn, 1) := by decide +kernel
theorem dX8_lacks_0 : decode cX8_lacks 0 = .ok (.aload_n 0, 1) := by decide +kernel
theorem dX8_lacks_1 : decode cX8_lacks 1 = .ok (.getfield 7, 3) := by decide +kernel
theorem dX8_lacks_4 : decode cX8_lacks 4 = .ok (.iload_n 1, 1) := by decide +kernel
theorem dX8_lacks_5 : decode cX8_lacks 5 = .ok (.iaload, 1) := by decide +kernel
theorem dX8_lacks_6 : decode cX8_lacks 6 = .ok (.ifCond .ge 9, 3) := by decide +kernel
theorem dX8_lacks_9 : decode cX8_lacks 9 = .ok (.aload_n 0, 1) := by decide +kernel
theorem dX8_lacks_10 : decode cX8_lacks 10 = .ok (.iconst 1, 1) := by decide +kernel
theorem dX8_lacks_11 : decode cX8_lacks 11 = .ok (.invokevirtual 97, 3) := by decide +kernel
theorem dX8_lacks_14 : decode cX8_lacks 14 = .ok (.ireturn, 1) := by decide +kernel
theorem dX8_lacks_15 : decode cX8_lacks 15 = .ok (.aload_n 0, 1) := by decide +kernel
theorem dX8_lacks_16 : decode cX8_lacks 16 = .ok (.getfield 7, 3) := by decide +kernel
theorem dX8_lacks_19 : decode cX8_lacks 19 = .ok (.iload_n 1, 1) := by decide +kernel
theorem dX8_lacks_20 : decode cX8_lacks 20 = .ok (.iaload, 1) := by decide +kernel
theorem dX8_lacks_21 : decode cX8_lacks 21 = .ok (.iload_n 2, 1) := by decide +kernel
theorem dX8_lacks_22 : decode cX8_lacks 22 = .ok (.if_icmp .eq 9, 3) := by decide +kernel
theorem dX8_lacks_25 : decode cX8_lacks 25 = .ok (.aload_n 0, 1) := by decide +kernel
theorem dX8_lacks_26 : decode cX8_lacks 26 = .ok (.iconst 3, 1) := by decide +kernel
theorem dX8_lacks_27 : decode cX8_lacks 27 = .ok (.invokevirtual 97, 3) := by decide +kernel
theorem dX8_lacks_30 : decode cX8_lacks 30 = .ok (.ireturn, 1) := by decide +kernel
theorem dX8_lacks_31 : decode cX8_lacks 31 = .ok (.iload_n 3, 1) := by decide +kernel
theorem dX8_lacks_32 : decode cX8_lacks 32 = .ok (.i2l, 1) := by decide +kernel
theorem dX8_lacks_33 : decode cX8_lacks 33 = .ok (.lconst 0, 1) := by decide +kernel
theorem dX8_lacks_34 : decode cX8_lacks 34 = .ok (.aload_n 0, 1) := by decide +kernel
theorem dX8_lacks_35 : decode cX8_lacks 35 = .ok (.getfield 13, 3) := by decide +kernel
theorem dX8_lacks_38 : decode cX8_lacks 38 = .ok (.iload_n 1, 1) := by decide +kernel
theorem dX8_lacks_39 : decode cX8_lacks 39 = .ok (.iaload, 1) := by decide +kernel
theorem dX8_lacks_40 : decode cX8_lacks 40 = .ok (.iconst 1, 1) := by decide +kernel
theorem dX8_lacks_41 : decode cX8_lacks 41 = .ok (.isub, 1) := by decide +kernel
theorem dX8_lacks_42 : decode cX8_lacks 42 = .ok (.i2l, 1) := by decide +kernel
theorem dX8_lacks_43 : decode cX8_lacks 43 = .ok (.invokestatic 80, 3) := by decide +kernel
theorem dX8_lacks_46 : decode cX8_lacks 46 = .ok (.ifCond .eq 7, 3) := by decide +kernel
theorem dX8_lacks_49 : decode cX8_lacks 49 = .ok (.iconst 0, 1) := by decide +kernel
theorem dX8_lacks_50 : decode cX8_lacks 50 = .ok (.goto 8, 3) := by decide +kernel
theorem dX8_lacks_53 : decode cX8_lacks 53 = .ok (.aload_n 0, 1) := by decide +kernel
theorem dX8_lacks_54 : decode cX8_lacks 54 = .ok (.iconst 2, 1) := by decide +kernel
theorem dX8_lacks_55 : decode cX8_lacks 55 = .ok (.invokevirtual 97, 3) := by decide +kernel
theorem dX8_lacks_58 : decode cX8_lacks 58 = .ok (.ireturn, 1) := by decide +kernel
theorem dX8_cut_0 : decode cX8_cut 0 = .ok (.iload_n 0, 1) := by decide +kernel
theorem dX8_cut_1 : decode cX8_cut 1 = .ok (.ifCond .ne 8, 3) := by decide +kernel
theorem dX8_cut_4 : decode cX8_cut 4 = .ok (.iload_n 1, 1) := by decide +kernel
theorem dX8_cut_5 : decode cX8_cut 5 = .ok (.i2b, 1) := by decide +kernel
theorem dX8_cut_6 : decode cX8_cut 6 = .ok (.goto 14, 3) := by decide +kernel
theorem dX8_cut_9 : decode cX8_cut 9 = .ok (.iload_n 0, 1) := by decide +kernel
theorem dX8_cut_10 : decode cX8_cut 10 = .ok (.iconst 1, 1) := by decide +kernel
theorem dX8_cut_11 : decode cX8_cut 11 = .ok (.if_icmp .ne 8, 3) := by decide +kernel
theorem dX8_cut_14 : decode cX8_cut 14 = .ok (.iload_n 1, 1) := by decide +kernel
theorem dX8_cut_15 : decode cX8_cut 15 = .ok (.i2s, 1) := by decide +kernel
theorem dX8_cut_16 : decode cX8_cut 16 = .ok (.goto 4, 3) := by decide +kernel
theorem dX8_cut_19 : decode cX8_cut 19 = .ok (.iload_n 1, 1) := by decide +kernel
theorem dX8_cut_20 : decode cX8_cut 20 = .ok (.ireturn, 1) := by decide +kernel
theorem dX8_lay_0 : decode cX8_lay 0 = .ok (.iload_n 1, 1) := by decide +kernel
theorem dX8_lay_1 : decode cX8_lay 1 = .ok (.invokestatic 91, 3) := by decide +kernel
theorem dX8_lay_4 : decode cX8_lay 4 = .ok (.ifCond .eq 15, 3) := by decide +kernel
theorem dX8_lay_7 : decode cX8_lay 7 = .ok (.iload_n 2, 1) := by decide +kernel
theorem dX8_lay_8 : decode cX8_lay 8 = .ok (.i2l, 1) := by decide +kernel
theorem dX8_lay_9 : decode cX8_lay 9 = .ok (.lconst 0, 1) := by decide +kernel
theorem dX8_lay_10 : decode cX8_lay 10 = .ok (.ldc2_w 95, 3) := by decide +kernel
theorem dX8_lay_13 : decode cX8_lay 13 = .ok (.invokestatic 80, 3) := by decide +kernel
theorem dX8_lay_16 : decode cX8_lay 16 = .ok (.ifCond .ne 6, 3) := by decide +kernel
theorem dX8_lay_19 : decode cX8_lay 19 = .ok (.bipush (-2), 2) := by decide +kernel
theorem dX8_lay_21 : decode cX8_lay 21 = .ok (.ireturn, 1) := by decide +kernel
theorem dX8_lay_22 : decode cX8_lay 22 = .ok (.aload_n 0, 1) := by decide +kernel
theorem dX8_lay_23 : decode cX8_lay 23 = .ok (.iload_n 1, 1) := by decide +kernel
theorem dX8_lay_24 : decode cX8_lay 24 = .ok (.iload_n 2, 1) := by decide +kernel
theorem dX8_lay_25 : decode cX8_lay 25 = .ok (.iload_n 3, 1) := by decide +kernel
theorem dX8_lay_26 : decode cX8_lay 26 = .ok (.invokevirtual 101, 3) := by decide +kernel
theorem dX8_lay_29 : decode cX8_lay 29 = .ok (.istore 5, 2) := by decide +kernel
theorem dX8_lay_31 : decode cX8_lay 31 = .ok (.iload 5, 2) := by decide +kernel
theorem dX8_lay_33 : decode cX8_lay 33 = .ok (.ifCond .eq 6, 3) := by decide +kernel
theorem dX8_lay_36 : decode cX8_lay 36 = .ok (.iload 5, 2) := by decide +kernel
theorem dX8_lay_38 : decode cX8_lay 38 = .ok (.ireturn, 1) := by decide +kernel
theorem dX8_lay_39 : decode cX8_lay 39 = .ok (.aload_n 0, 1) := by decide +kernel
theorem dX8_lay_40 : decode cX8_lay 40 = .ok (.getfield 16, 3) := by decide +kernel
theorem dX8_lay_43 : decode cX8_lay 43 = .ok (.bipush 64, 2) := by decide +kernel
theorem dX8_lay_45 : decode cX8_lay 45 = .ok (.iload_n 1, 1) := by decide +kernel
theorem dX8_lay_46 : decode cX8_lay 46 = .ok (.imul, 1) := by decide +kernel
theorem dX8_lay_47 : decode cX8_lay 47 = .ok (.iload_n 3, 1) := by decide +kernel
theorem dX8_lay_48 : decode cX8_lay 48 = .ok (.iadd, 1) := by decide +kernel
theorem dX8_lay_49 : decode cX8_lay 49 = .ok (.iload_n 2, 1) := by decide +kernel
theorem dX8_lay_50 : decode cX8_lay 50 = .ok (.iload 4, 2) := by decide +kernel
theorem dX8_lay_52 : decode cX8_lay 52 = .ok (.invokestatic 105, 3) := by decide +kernel
theorem dX8_lay_55 : decode cX8_lay 55 = .ok (.iastore, 1) := by decide +kernel
theorem dX8_lay_56 : decode cX8_lay 56 = .ok (.iconst 1, 1) := by decide +kernel
theorem dX8_lay_57 : decode cX8_lay 57 = .ok (.ireturn, 1) := by decide +kernel
theorem dX8_get_0 : decode cX8_get 0 = .ok (.iload_n 1, 1) := by decide +kernel
theorem dX8_get_1 : decode cX8_get 1 = .ok (.invokestatic 91, 3) := by decide +kernel
theorem dX8_get_4 : decode cX8_get 4 = .ok (.ifCond .eq 25, 3) := by decide +kernel
theorem dX8_get_7 : decode cX8_get 7 = .ok (.iload_n 2, 1) := by decide +kernel
theorem dX8_get_8 : decode cX8_get 8 = .ok (.i2l, 1) := by decide +kernel
theorem dX8_get_9 : decode cX8_get 9 = .ok (.lconst 0, 1) := by decide +kernel
theorem dX8_get_10 : decode cX8_get 10 = .ok (.ldc2_w 95, 3) := by decide +kernel
theorem dX8_get_13 : decode cX8_get 13 = .ok (.invokestatic 80, 3) := by decide +kernel
theorem dX8_get_16 : decode cX8_get 16 = .ok (.ifCond .eq 13, 3) := by decide +kernel
theorem dX8_get_19 : decode cX8_get 19 = .ok (.aload_n 0, 1) := by decide +kernel
theorem dX8_get_20 : decode cX8_get 20 = .ok (.iload_n 1, 1) := by decide +kernel
theorem dX8_get_21 : decode cX8_get 21 = .ok (.iload_n 2, 1) := by decide +kernel
theorem dX8_get_22 : decode cX8_get 22 = .ok (.iload_n 3, 1) := by decide +kernel
theorem dX8_get_23 : decode cX8_get 23 = .ok (.invokevirtual 101, 3) := by decide +kernel
theorem dX8_get_26 : decode cX8_get 26 = .ok (.ifCond .eq 6, 3) := by decide +kernel
theorem dX8_get_29 : decode cX8_get 29 = .ok (.ldc 109, 2) := by decide +kernel
theorem dX8_get_31 : decode cX8_get 31 = .ok (.ireturn, 1) := by decide +kernel
theorem dX8_get_32 : decode cX8_get 32 = .ok (.aload_n 0, 1) := by decide +kernel
theorem dX8_get_33 : decode cX8_get 33 = .ok (.getfield 16, 3) := by decide +kernel
theorem dX8_get_36 : decode cX8_get 36 = .ok (.bipush 64, 2) := by decide +kernel
theorem dX8_get_38 : decode cX8_get 38 = .ok (.iload_n 1, 1) := by decide +kernel
theorem dX8_get_39 : decode cX8_get 39 = .ok (.imul, 1) := by decide +kernel
theorem dX8_get_40 : decode cX8_get 40 = .ok (.iload_n 3, 1) := by decide +kernel
theorem dX8_get_41 : decode cX8_get 41 = .ok (.iadd, 1) := by decide +kernel
theorem dX8_get_42 : decode cX8_get 42 = .ok (.iaload, 1) := by decide +kernel
theorem dX8_get_43 : decode cX8_get 43 = .ok (.ireturn, 1) := by decide +kernel
theorem dX8_copy_0 : decode cX8_copy 0 = .ok (.iload_n 1, 1) := by decide +kernel
theorem dX8_copy_1 : decode cX8_copy 1 = .ok (.invokestatic 91, 3) := by decide +kernel
theorem dX8_copy_4 : decode cX8_copy 4 = .ok (.ifCond .eq 10, 3) := by decide +kernel
theorem dX8_copy_7 : decode cX8_copy 7 = .ok (.iload_n 3, 1) := by decide +kernel
theorem dX8_copy_8 : decode cX8_copy 8 = .ok (.invokestatic 91, 3) := by decide +kernel
theorem dX8_copy_11 : decode cX8_copy 11 = .ok (.ifCond .ne 6, 3) := by decide +kernel
theorem dX8_copy_14 : decode cX8_copy 14 = .ok (.bipush (-2), 2) := by decide +kernel
theorem dX8_copy_16 : decode cX8_copy 16 = .ok (.ireturn, 1) := by decide +kernel
theorem dX8_copy_17 : decode cX8_copy 17 = .ok (.aload_n 0, 1) := by decide +kernel
theorem dX8_copy_18 : decode cX8_copy 18 = .ok (.getfield 7, 3) := by decide +kernel
theorem dX8_copy_21 : decode cX8_copy 21 = .ok (.iload_n 1, 1) := by decide +kernel
theorem dX8_copy_22 : decode cX8_copy 22 = .ok (.iaload, 1) := by decide +kernel
theorem dX8_copy_23 : decode cX8_copy 23 = .ok (.ifCond .lt 12, 3) := by decide +kernel
theorem dX8_copy_26 : decode cX8_copy 26 = .ok (.aload_n 0, 1) := by decide +kernel
theorem dX8_copy_27 : decode cX8_copy 27 = .ok (.getfield 7, 3) := by decide +kernel
theorem dX8_copy_30 : decode cX8_copy 30 = .ok (.iload_n 3, 1) := by decide +kernel
theorem dX8_copy_31 : decode cX8_copy 31 = .ok (.iaload, 1) := by decide +kernel
theorem dX8_copy_32 : decode cX8_copy 32 = .ok (.ifCond .ge 9, 3) := by decide +kernel
theorem dX8_copy_35 : decode cX8_copy 35 = .ok (.aload_n 0, 1) := by decide +kernel
theorem dX8_copy_36 : decode cX8_copy 36 = .ok (.iconst 1, 1) := by decide +kernel
theorem dX8_copy_37 : decode cX8_copy 37 = .ok (.invokevirtual 97, 3) := by decide +kernel
theorem dX8_copy_40 : decode cX8_copy 40 = .ok (.ireturn, 1) := by decide +kernel
theorem dX8_copy_41 : decode cX8_copy 41 = .ok (.aload_n 0, 1) := by decide +kernel
theorem dX8_copy_42 : decode cX8_copy 42 = .ok (.getfield 7, 3) := by decide +kernel
theorem dX8_copy_45 : decode cX8_copy 45 = .ok (.iload_n 1, 1) := by decide +kernel
theorem dX8_copy_46 : decode cX8_copy 46 = .ok (.iaload, 1) := by decide +kernel
theorem dX8_copy_47 : decode cX8_copy 47 = .ok (.aload_n 0, 1) := by decide +kernel
theorem dX8_copy_48 : decode cX8_copy 48 = .ok (.getfield 7, 3) := by decide +kernel
theorem dX8_copy_51 : decode cX8_copy 51 = .ok (.iload_n 3, 1) := by decide +kernel
theorem dX8_copy_52 : decode cX8_copy 52 = .ok (.iaload, 1) := by decide +kernel
theorem dX8_copy_53 : decode cX8_copy 53 = .ok (.if_icmp .eq 9, 3) := by decide +kernel
theorem dX8_copy_56 : decode cX8_copy 56 = .ok (.aload_n 0, 1) := by decide +kernel
theorem dX8_copy_57 : decode cX8_copy 57 = .ok (.iconst 4, 1) := by decide +kernel
theorem dX8_copy_58 : decode cX8_copy 58 = .ok (.invokevirtual 97, 3) := by decide +kernel
theorem dX8_copy_61 : decode cX8_copy 61 = .ok (.ireturn, 1) := by decide +kernel
theorem dX8_copy_62 : decode cX8_copy 62 = .ok (.iload_n 2, 1) := by decide +kernel
theorem dX8_copy_63 : decode cX8_copy 63 = .ok (.ifCond .lt 48, 3) := by decide +kernel
theorem dX8_copy_66 : decode cX8_copy 66 = .ok (.iload 4, 2) := by decide +kernel
theorem dX8_copy_68 : decode cX8_copy 68 = .ok (.ifCond .lt 43, 3) := by decide +kernel
theorem dX8_copy_71 : decode cX8_copy 71 = .ok (.iload 5, 2) := by decide +kernel
theorem dX8_copy_73 : decode cX8_copy 73 = .ok (.ifCond .lt 38, 3) := by decide +kernel
theorem dX8_copy_76 : decode cX8_copy 76 = .ok (.iload_n 2, 1) := by decide +kernel
theorem dX8_copy_77 : decode cX8_copy 77 = .ok (.i2l, 1) := by decide +kernel
theorem dX8_copy_78 : decode cX8_copy 78 = .ok (.iload 5, 2) := by decide +kernel
theorem dX8_copy_80 : decode cX8_copy 80 = .ok (.i2l, 1) := by decide +kernel
theorem dX8_copy_81 : decode cX8_copy 81 = .ok (.ladd, 1) := by decide +kernel
theorem dX8_copy_82 : decode cX8_copy 82 = .ok (.aload_n 0, 1) := by decide +kernel
theorem dX8_copy_83 : decode cX8_copy 83 = .ok (.getfield 13, 3) := by decide +kernel
theorem dX8_copy_86 : decode cX8_copy 86 = .ok (.iload_n 1, 1) := by decide +kernel
theorem dX8_copy_87 : decode cX8_copy 87 = .ok (.iaload, 1) := by decide +kernel
theorem dX8_copy_88 : decode cX8_copy 88 = .ok (.i2l, 1) := by decide +kernel
theorem dX8_copy_89 : decode cX8_copy 89 = .ok (.lcmp, 1) := by decide +kernel
theorem dX8_copy_90 : decode cX8_copy 90 = .ok (.ifCond .gt 21, 3) := by decide +kernel
theorem dX8_copy_93 : decode cX8_copy 93 = .ok (.iload 4, 2) := by decide +kernel
theorem dX8_copy_95 : decode cX8_copy 95 = .ok (.i2l, 1) := by decide +kernel
theorem dX8_copy_96 : decode cX8_copy 96 = .ok (.iload 5, 2) := by decide +kernel
theorem dX8_copy_98 : decode cX8_copy 98 = .ok (.i2l, 1) := by decide +kernel
theorem dX8_copy_99 : decode cX8_copy 99 = .ok (.ladd, 1) := by decide +kernel
theorem dX8_copy_100 : decode cX8_copy 100 = .ok (.aload_n 0, 1) := by decide +kernel
theorem dX8_copy_101 : decode cX8_copy 101 = .ok (.getfield 13, 3) := by decide +kernel
theorem dX8_copy_104 : decode cX8_copy 104 = .ok (.iload_n 3, 1) := by decide +kernel
theorem dX8_copy_105 : decode cX8_copy 105 = .ok (.iaload, 1) := by decide +kernel
theorem dX8_copy_106 : decode cX8_copy 106 = .ok (.i2l, 1) := by decide +kernel
theorem dX8_copy_107 : decode cX8_copy 107 = .ok (.lcmp, 1) := by decide +kernel
theorem dX8_copy_108 : decode cX8_copy 108 = .ok (.ifCond .le 9, 3) := by decide +kernel
theorem dX8_copy_111 : decode cX8_copy 111 = .ok (.aload_n 0, 1) := by decide +kernel
theorem dX8_copy_112 : decode cX8_copy 112 = .ok (.iconst 2, 1) := by decide +kernel
theorem dX8_copy_113 : decode cX8_copy 113 = .ok (.invokevirtual 97, 3) := by decide +kernel
theorem dX8_copy_116 : decode cX8_copy 116 = .ok (.ireturn, 1) := by decide +kernel
theorem dX8_copy_117 : decode cX8_copy 117 = .ok (.iconst 0, 1) := by decide +kernel
theorem dX8_copy_118 : decode cX8_copy 118 = .ok (.istore 6, 2) := by decide +kernel
theorem dX8_copy_120 : decode cX8_copy 120 = .ok (.iload 6, 2) := by decide +kernel
theorem dX8_copy_122 : decode cX8_copy 122 = .ok (.iload 5, 2) := by decide +kernel
theorem dX8_copy_124 : decode cX8_copy 124 = .ok (.if_icmp .ge 30, 3) := by decide +kernel
theorem dX8_copy_127 : decode cX8_copy 127 = .ok (.aload_n 0, 1) := by decide +kernel
theorem dX8_copy_128 : decode cX8_copy 128 = .ok (.getfield 19, 3) := by decide +kernel
theorem dX8_copy_131 : decode cX8_copy 131 = .ok (.iload 6, 2) := by decide +kernel
theorem dX8_copy_133 : decode cX8_copy 133 = .ok (.aload_n 0, 1) := by decide +kernel
theorem dX8_copy_134 : decode cX8_copy 134 = .ok (.getfield 16, 3) := by decide +kernel
theorem dX8_copy_137 : decode cX8_copy 137 = .ok (.bipush 64, 2) := by decide +kernel
theorem dX8_copy_139 : decode cX8_copy 139 = .ok (.iload_n 1, 1) := by decide +kernel
theorem dX8_copy_140 : decode cX8_copy 140 = .ok (.imul, 1) := by decide +kernel
theorem dX8_copy_141 : decode cX8_copy 141 = .ok (.iload_n 2, 1) := by decide +kernel
theorem dX8_copy_142 : decode cX8_copy 142 = .ok (.iadd, 1) := by decide +kernel
theorem dX8_copy_143 : decode cX8_copy 143 = .ok (.iload 6, 2) := by decide +kernel
theorem dX8_copy_145 : decode cX8_copy 145 = .ok (.iadd, 1) := by decide +kernel
theorem dX8_copy_146 : decode cX8_copy 146 = .ok (.iaload, 1) := by decide +kernel
theorem dX8_copy_147 : decode cX8_copy 147 = .ok (.iastore, 1) := by decide +kernel
theorem dX8_copy_148 : decode cX8_copy 148 = .ok (.iinc 6 1, 3) := by decide +kernel
theorem dX8_copy_151 : decode cX8_copy 151 = .ok (.goto (-31), 3) := by decide +kernel
theorem dX8_copy_154 : decode cX8_copy 154 = .ok (.iconst 0, 1) := by decide +kernel
theorem dX8_copy_155 : decode cX8_copy 155 = .ok (.istore 6, 2) := by decide +kernel
theorem dX8_copy_157 : decode cX8_copy 157 = .ok (.iload 6, 2) := by decide +kernel
theorem dX8_copy_159 : decode cX8_copy 159 = .ok (.iload 5, 2) := by decide +kernel
theorem dX8_copy_161 : decode cX8_copy 161 = .ok (.if_icmp .ge 31, 3) := by decide +kernel
theorem dX8_copy_164 : decode cX8_copy 164 = .ok (.aload_n 0, 1) := by decide +kernel
theorem dX8_copy_165 : decode cX8_copy 165 = .ok (.getfield 16, 3) := by decide +kernel
theorem dX8_copy_168 : decode cX8_copy 168 = .ok (.bipush 64, 2) := by decide +kernel
theorem dX8_copy_170 : decode cX8_copy 170 = .ok (.iload_n 3, 1) := by decide +kernel
theorem dX8_copy_171 : decode cX8_copy 171 = .ok (.imul, 1) := by decide +kernel
theorem dX8_copy_172 : decode cX8_copy 172 = .ok (.iload 4, 2) := by decide +kernel
theorem dX8_copy_174 : decode cX8_copy 174 = .ok (.iadd, 1) := by decide +kernel
theorem dX8_copy_175 : decode cX8_copy 175 = .ok (.iload 6, 2) := by decide +kernel
theorem dX8_copy_177 : decode cX8_copy 177 = .ok (.iadd, 1) := by decide +kernel
theorem dX8_copy_178 : decode cX8_copy 178 = .ok (.aload_n 0, 1) := by decide +kernel
theorem dX8_copy_179 : decode cX8_copy 179 = .ok (.getfield 19, 3) := by decide +kernel
theorem dX8_copy_182 : decode cX8_copy 182 = .ok (.iload 6, 2) := by decide +kernel
theorem dX8_copy_184 : decode cX8_copy 184 = .ok (.iaload, 1) := by decide +kernel
theorem dX8_copy_185 : decode cX8_copy 185 = .ok (.iastore, 1) := by decide +kernel
theorem dX8_copy_186 : decode cX8_copy 186 = .ok (.iinc 6 1, 3) := by decide +kernel
theorem dX8_copy_189 : decode cX8_copy 189 = .ok (.goto (-32), 3) := by decide +kernel
theorem dX8_copy_192 : decode cX8_copy 192 = .ok (.iconst 1, 1) := by decide +kernel
theorem dX8_copy_193 : decode cX8_copy 193 = .ok (.ireturn, 1) := by decide +kernel
theorem dX8_type_0 : decode cX8_type 0 = .ok (.iload_n 1, 1) := by decide +kernel
theorem dX8_type_1 : decode cX8_type 1 = .ok (.i2l, 1) := by decide +kernel
theorem dX8_type_2 : decode cX8_type 2 = .ok (.lconst 0, 1) := by decide +kernel
theorem dX8_type_3 : decode cX8_type 3 = .ok (.ldc2_w 110, 3) := by decide +kernel
theorem dX8_type_6 : decode cX8_type 6 = .ok (.invokestatic 80, 3) := by decide +kernel
theorem dX8_type_9 : decode cX8_type 9 = .ok (.ifCond .ne 6, 3) := by decide +kernel
theorem dX8_type_12 : decode cX8_type 12 = .ok (.bipush (-2), 2) := by decide +kernel
theorem dX8_type_14 : decode cX8_type 14 = .ok (.ireturn, 1) := by decide +kernel
theorem dX8_type_15 : decode cX8_type 15 = .ok (.aload_n 0, 1) := by decide +kernel
theorem dX8_type_16 : decode cX8_type 16 = .ok (.getfield 112, 3) := by decide +kernel
theorem dX8_type_19 : decode cX8_type 19 = .ok (.bipush 75, 2) := by decide +kernel
theorem dX8_type_21 : decode cX8_type 21 = .ok (.if_icmp .ne 6, 3) := by decide +kernel
theorem dX8_type_24 : decode cX8_type 24 = .ok (.bipush (-4), 2) := by decide +kernel
theorem dX8_type_26 : decode cX8_type 26 = .ok (.ireturn, 1) := by decide +kernel
theorem dX8_type_27 : decode cX8_type 27 = .ok (.aload_n 0, 1) := by decide +kernel
theorem dX8_type_28 : decode cX8_type 28 = .ok (.getfield 22, 3) := by decide +kernel
theorem dX8_type_31 : decode cX8_type 31 = .ok (.aload_n 0, 1) := by decide +kernel
theorem dX8_type_32 : decode cX8_type 32 = .ok (.getfield 112, 3) := by decide +kernel
theorem dX8_type_35 : decode cX8_type 35 = .ok (.iload_n 1, 1) := by decide +kernel
theorem dX8_type_36 : decode cX8_type 36 = .ok (.iastore, 1) := by decide +kernel
theorem dX8_type_37 : decode cX8_type 37 = .ok (.aload_n 0, 1) := by decide +kernel
theorem dX8_type_38 : decode cX8_type 38 = .ok (.dup, 1) := by decide +kernel
theorem dX8_type_39 : decode cX8_type 39 = .ok (.getfield 112, 3) := by decide +kernel
theorem dX8_type_42 : decode cX8_type 42 = .ok (.iconst 1, 1) := by decide +kernel
theorem dX8_type_43 : decode cX8_type 43 = .ok (.iadd, 1) := by decide +kernel
theorem dX8_type_44 : decode cX8_type 44 = .ok (.putfield 112, 3) := by decide +kernel
theorem dX8_type_47 : decode cX8_type 47 = .ok (.aload_n 0, 1) := by decide +kernel
theorem dX8_type_48 : decode cX8_type 48 = .ok (.getfield 112, 3) := by decide +kernel
theorem dX8_type_51 : decode cX8_type 51 = .ok (.ireturn, 1) := by decide +kernel
theorem dX8_wipe_0 : decode cX8_wipe 0 = .ok (.aload_n 0, 1) := by decide +kernel
theorem dX8_wipe_1 : decode cX8_wipe 1 = .ok (.getfield 112, 3) := by decide +kernel
theorem dX8_wipe_4 : decode cX8_wipe 4 = .ok (.istore_n 1, 1) := by decide +kernel
theorem dX8_wipe_5 : decode cX8_wipe 5 = .ok (.aload_n 0, 1) := by decide +kernel
theorem dX8_wipe_6 : decode cX8_wipe 6 = .ok (.iconst 0, 1) := by decide +kernel
theorem dX8_wipe_7 : decode cX8_wipe 7 = .ok (.putfield 112, 3) := by decide +kernel
theorem dX8_wipe_10 : decode cX8_wipe 10 = .ok (.iload_n 1, 1) := by decide +kernel
theorem dX8_wipe_11 : decode cX8_wipe 11 = .ok (.ireturn, 1) := by decide +kernel
theorem dX8_kindOf_0 : decode cX8_kindOf 0 = .ok (.iload_n 0, 1) := by decide +kernel
theorem dX8_kindOf_1 : decode cX8_kindOf 1 = .ok (.bipush 46, 2) := by decide +kernel
theorem dX8_kindOf_3 : decode cX8_kindOf 3 = .ok (.if_icmp .ne 7, 3) := by decide +kernel
theorem dX8_kindOf_6 : decode cX8_kindOf 6 = .ok (.iconst 0, 1) := by decide +kernel
theorem dX8_kindOf_7 : decode cX8_kindOf 7 = .ok (.goto 24, 3) := by decide +kernel
theorem dX8_kindOf_10 : decode cX8_kindOf 10 = .ok (.iload_n 0, 1) := by decide +kernel
theorem dX8_kindOf_11 : decode cX8_kindOf 11 = .ok (.bipush 35, 2) := by decide +kernel
theorem dX8_kindOf_13 : decode cX8_kindOf 13 = .ok (.if_icmp .ne 7, 3) := by decide +kernel
theorem dX8_kindOf_16 : decode cX8_kindOf 16 = .ok (.iconst 1, 1) := by decide +kernel
theorem dX8_kindOf_17 : decode cX8_kindOf 17 = .ok (.goto 14, 3) := by decide +kernel
theorem dX8_kindOf_20 : decode cX8_kindOf 20 = .ok (.iload_n 0, 1) := by decide +kernel
theorem dX8_kindOf_21 : decode cX8_kindOf 21 = .ok (.bipush 111, 2) := by decide +kernel
theorem dX8_kindOf_23 : decode cX8_kindOf 23 = .ok (.if_icmp .ne 7, 3) := by decide +kernel
theorem dX8_kindOf_26 : decode cX8_kindOf 26 = .ok (.iconst 2, 1) := by decide +kernel
theorem dX8_kindOf_27 : decode cX8_kindOf 27 = .ok (.goto 4, 3) := by decide +kernel
theorem dX8_kindOf_30 : decode cX8_kindOf 30 = .ok (.iconst (-1), 1) := by decide +kernel
theorem dX8_kindOf_31 : decode cX8_kindOf 31 = .ok (.ireturn, 1) := by decide +kernel
theorem dX8_faultNow_0 : decode cX8_faultNow 0 = .ok (.iconst 0, 1) := by decide +kernel
theorem dX8_faultNow_1 : decode cX8_faultNow 1 = .ok (.istore_n 1, 1) := by decide +kernel
theorem dX8_faultNow_2 : decode cX8_faultNow 2 = .ok (.iload_n 1, 1) := by decide +kernel
theorem dX8_faultNow_3 : decode cX8_faultNow 3 = .ok (.bipush 71, 2) := by decide +kernel
theorem dX8_faultNow_5 : decode cX8_faultNow 5 = .ok (.if_icmp .ge 55, 3) := by decide +kernel
theorem dX8_faultNow_8 : decode cX8_faultNow 8 = .ok (.iload_n 1, 1) := by decide +kernel
theorem dX8_faultNow_9 : decode cX8_faultNow 9 = .ok (.aload_n 0, 1) := by decide +kernel
theorem dX8_faultNow_10 : decode cX8_faultNow 10 = .ok (.getfield 112, 3) := by decide +kernel
theorem dX8_faultNow_13 : decode cX8_faultNow 13 = .ok (.if_icmp .ge 39, 3) := by decide +kernel
theorem dX8_faultNow_16 : decode cX8_faultNow 16 = .ok (.iload_n 1, 1) := by decide +kernel
theorem dX8_faultNow_17 : decode cX8_faultNow 17 = .ok (.bipush 9, 2) := by decide +kernel
theorem dX8_faultNow_19 : decode cX8_faultNow 19 = .ok (.irem, 1) := by decide +kernel
theorem dX8_faultNow_20 : decode cX8_faultNow 20 = .ok (.bipush 8, 2) := by decide +kernel
theorem dX8_faultNow_22 : decode cX8_faultNow 22 = .ok (.if_icmp .ne 17, 3) := by decide +kernel
theorem dX8_faultNow_25 : decode cX8_faultNow 25 = .ok (.aload_n 0, 1) := by decide +kernel
theorem dX8_faultNow_26 : decode cX8_faultNow 26 = .ok (.getfield 22, 3) := by decide +kernel
theorem dX8_faultNow_29 : decode cX8_faultNow 29 = .ok (.iload_n 1, 1) := by decide +kernel
theorem dX8_faultNow_30 : decode cX8_faultNow 30 = .ok (.iaload, 1) := by decide +kernel
theorem dX8_faultNow_31 : decode cX8_faultNow 31 = .ok (.bipush 59, 2) := by decide +kernel
theorem dX8_faultNow_33 : decode cX8_faultNow 33 = .ok (.if_icmp .eq 21, 3) := by decide +kernel
theorem dX8_faultNow_36 : decode cX8_faultNow 36 = .ok (.goto 16, 3) := by decide +kernel
theorem dX8_faultNow_39 : decode cX8_faultNow 39 = .ok (.aload_n 0, 1) := by decide +kernel
theorem dX8_faultNow_40 : decode cX8_faultNow 40 = .ok (.getfield 22, 3) := by decide +kernel
theorem dX8_faultNow_43 : decode cX8_faultNow 43 = .ok (.iload_n 1, 1) := by decide +kernel
theorem dX8_faultNow_44 : decode cX8_faultNow 44 = .ok (.iaload, 1) := by decide +kernel
theorem dX8_faultNow_45 : decode cX8_faultNow 45 = .ok (.invokestatic 115, 3) := by decide +kernel
theorem dX8_faultNow_48 : decode cX8_faultNow 48 = .ok (.iconst (-1), 1) := by decide +kernel
theorem dX8_faultNow_49 : decode cX8_faultNow 49 = .ok (.if_icmp .ne 5, 3) := by decide +kernel
theorem dX8_faultNow_52 : decode cX8_faultNow 52 = .ok (.iload_n 1, 1) := by decide +kernel
theorem dX8_faultNow_53 : decode cX8_faultNow 53 = .ok (.ireturn, 1) := by decide +kernel
theorem dX8_faultNow_54 : decode cX8_faultNow 54 = .ok (.iinc 1 1, 3) := by decide +kernel
theorem dX8_faultNow_57 : decode cX8_faultNow 57 = .ok (.goto (-55), 3) := by decide +kernel
theorem dX8_faultNow_60 : decode cX8_faultNow 60 = .ok (.aload_n 0, 1) := by decide +kernel
theorem dX8_faultNow_61 : decode cX8_faultNow 61 = .ok (.getfield 112, 3) := by decide +kernel
theorem dX8_faultNow_64 : decode cX8_faultNow 64 = .ok (.bipush 71, 2) := by decide +kernel
theorem dX8_faultNow_66 : decode cX8_faultNow 66 = .ok (.if_icmp .le 8, 3) := by decide +kernel
theorem dX8_faultNow_69 : decode cX8_faultNow 69 = .ok (.bipush 71, 2) := by decide +kernel
theorem dX8_faultNow_71 : decode cX8_faultNow 71 = .ok (.goto 4, 3) := by decide +kernel
theorem dX8_faultNow_74 : decode cX8_faultNow 74 = .ok (.iconst (-1), 1) := by decide +kernel
theorem dX8_faultNow_75 : decode cX8_faultNow 75 = .ok (.ireturn, 1) := by decide +kernel
theorem dX8_reads_0 : decode cX8_reads 0 = .ok (.aload_n 0, 1) := by decide +kernel
theorem dX8_reads_1 : decode cX8_reads 1 = .ok (.invokevirtual 118, 3) := by decide +kernel
theorem dX8_reads_4 : decode cX8_reads 4 = .ok (.istore_n 1, 1) := by decide +kernel
theorem dX8_reads_5 : decode cX8_reads 5 = .ok (.iconst 0, 1) := by decide +kernel
theorem dX8_reads_6 : decode cX8_reads 6 = .ok (.istore_n 2, 1) := by decide +kernel
theorem dX8_reads_7 : decode cX8_reads 7 = .ok (.iload_n 2, 1) := by decide +kernel
theorem dX8_reads_8 : decode cX8_reads 8 = .ok (.bipush 64, 2) := by decide +kernel
theorem dX8_reads_10 : decode cX8_reads 10 = .ok (.if_icmp .ge 44, 3) := by decide +kernel
theorem dX8_reads_13 : decode cX8_reads 13 = .ok (.aload_n 0, 1) := by decide +kernel
theorem dX8_reads_14 : decode cX8_reads 14 = .ok (.getfield 25, 3) := by decide +kernel
theorem dX8_reads_17 : decode cX8_reads 17 = .ok (.iload_n 2, 1) := by decide +kernel
theorem dX8_reads_18 : decode cX8_reads 18 = .ok (.iload_n 1, 1) := by decide +kernel
theorem dX8_reads_19 : decode cX8_reads 19 = .ok (.iconst (-1), 1) := by decide +kernel
theorem dX8_reads_20 : decode cX8_reads 20 = .ok (.if_icmp .ne 26, 3) := by decide +kernel
theorem dX8_reads_23 : decode cX8_reads 23 = .ok (.aload_n 0, 1) := by decide +kernel
theorem dX8_reads_24 : decode cX8_reads 24 = .ok (.getfield 22, 3) := by decide +kernel
theorem dX8_reads_27 : decode cX8_reads 27 = .ok (.bipush 9, 2) := by decide +kernel
theorem dX8_reads_29 : decode cX8_reads 29 = .ok (.iload_n 2, 1) := by decide +kernel
theorem dX8_reads_30 : decode cX8_reads 30 = .ok (.bipush 8, 2) := by decide +kernel
theorem dX8_reads_32 : decode cX8_reads 32 = .ok (.idiv, 1) := by decide +kernel
theorem dX8_reads_33 : decode cX8_reads 33 = .ok (.imul, 1) := by decide +kernel
theorem dX8_reads_34 : decode cX8_reads 34 = .ok (.iload_n 2, 1) := by decide +kernel
theorem dX8_reads_35 : decode cX8_reads 35 = .ok (.bipush 8, 2) := by decide +kernel
theorem dX8_reads_37 : decode cX8_reads 37 = .ok (.irem, 1) := by decide +kernel
theorem dX8_reads_38 : decode cX8_reads 38 = .ok (.iadd, 1) := by decide +kernel
theorem dX8_reads_39 : decode cX8_reads 39 = .ok (.iaload, 1) := by decide +kernel
theorem dX8_reads_40 : decode cX8_reads 40 = .ok (.invokestatic 115, 3) := by decide +kernel
theorem dX8_reads_43 : decode cX8_reads 43 = .ok (.goto 4, 3) := by decide +kernel
theorem dX8_reads_46 : decode cX8_reads 46 = .ok (.iconst 0, 1) := by decide +kernel
theorem dX8_reads_47 : decode cX8_reads 47 = .ok (.iastore, 1) := by decide +kernel
theorem dX8_reads_48 : decode cX8_reads 48 = .ok (.iinc 2 1, 3) := by decide +kernel
theorem dX8_reads_51 : decode cX8_reads 51 = .ok (.goto (-44), 3) := by decide +kernel
theorem dX8_reads_54 : decode cX8_reads 54 = .ok (.iload_n 1, 1) := by decide +kernel
theorem dX8_reads_55 : decode cX8_reads 55 = .ok (.ireturn, 1) := by decide +kernel
theorem dX8_fault_0 : decode cX8_fault 0 = .ok (.aload_n 0, 1) := by decide +kernel
theorem dX8_fault_1 : decode cX8_fault 1 = .ok (.invokevirtual 122, 3) := by decide +kernel
theorem dX8_fault_4 : decode cX8_fault 4 = .ok (.ireturn, 1) := by decide +kernel
theorem dX8_cellOf_0 : decode cX8_cellOf 0 = .ok (.aload_n 0, 1) := by decide +kernel
theorem dX8_cellOf_1 : decode cX8_cellOf 1 = .ok (.invokevirtual 122, 3) := by decide +kernel
theorem dX8_cellOf_4 : decode cX8_cellOf 4 = .ok (.pop, 1) := by decide +kernel
theorem dX8_cellOf_5 : decode cX8_cellOf 5 = .ok (.iload_n 2, 1) := by decide +kernel
theorem dX8_cellOf_6 : decode cX8_cellOf 6 = .ok (.ifCond .ne 12, 3) := by decide +kernel
theorem dX8_cellOf_9 : decode cX8_cellOf 9 = .ok (.aload_n 0, 1) := by decide +kernel
theorem dX8_cellOf_10 : decode cX8_cellOf 10 = .ok (.getfield 25, 3) := by decide +kernel
theorem dX8_cellOf_13 : decode cX8_cellOf 13 = .ok (.iload_n 1, 1) := by decide +kernel
theorem dX8_cellOf_14 : decode cX8_cellOf 14 = .ok (.iaload, 1) := by decide +kernel
theorem dX8_cellOf_15 : decode cX8_cellOf 15 = .ok (.goto 51, 3) := by decide +kernel
theorem dX8_cellOf_18 : decode cX8_cellOf 18 = .ok (.iload_n 2, 1) := by decide +kernel
theorem dX8_cellOf_19 : decode cX8_cellOf 19 = .ok (.iconst 1, 1) := by decide +kernel
theorem dX8_cellOf_20 : decode cX8_cellOf 20 = .ok (.if_icmp .ne 12, 3) := by decide +kernel
theorem dX8_cellOf_23 : decode cX8_cellOf 23 = .ok (.aload_n 0, 1) := by decide +kernel
theorem dX8_cellOf_24 : decode cX8_cellOf 24 = .ok (.getfield 28, 3) := by decide +kernel
theorem dX8_cellOf_27 : decode cX8_cellOf 27 = .ok (.iload_n 1, 1) := by decide +kernel
theorem dX8_cellOf_28 : decode cX8_cellOf 28 = .ok (.iaload, 1) := by decide +kernel
theorem dX8_cellOf_29 : decode cX8_cellOf 29 = .ok (.goto 37, 3) := by decide +kernel
theorem dX8_cellOf_32 : decode cX8_cellOf 32 = .ok (.iload_n 2, 1) := by decide +kernel
theorem dX8_cellOf_33 : decode cX8_cellOf 33 = .ok (.iconst 2, 1) := by decide +kernel
theorem dX8_cellOf_34 : decode cX8_cellOf 34 = .ok (.if_icmp .ne 12, 3) := by decide +kernel
theorem dX8_cellOf_37 : decode cX8_cellOf 37 = .ok (.aload_n 0, 1) := by decide +kernel
theorem dX8_cellOf_38 : decode cX8_cellOf 38 = .ok (.getfield 31, 3) := by decide +kernel
theorem dX8_cellOf_41 : decode cX8_cellOf 41 = .ok (.iload_n 1, 1) := by decide +kernel
theorem dX8_cellOf_42 : decode cX8_cellOf 42 = .ok (.iaload, 1) := by decide +kernel
theorem dX8_cellOf_43 : decode cX8_cellOf 43 = .ok (.goto 23, 3) := by decide +kernel
theorem dX8_cellOf_46 : decode cX8_cellOf 46 = .ok (.iload_n 2, 1) := by decide +kernel
theorem dX8_cellOf_47 : decode cX8_cellOf 47 = .ok (.iconst 3, 1) := by decide +kernel
theorem dX8_cellOf_48 : decode cX8_cellOf 48 = .ok (.if_icmp .ne 12, 3) := by decide +kernel
theorem dX8_cellOf_51 : decode cX8_cellOf 51 = .ok (.aload_n 0, 1) := by decide +kernel
theorem dX8_cellOf_52 : decode cX8_cellOf 52 = .ok (.getfield 34, 3) := by decide +kernel
theorem dX8_cellOf_55 : decode cX8_cellOf 55 = .ok (.iload_n 1, 1) := by decide +kernel
theorem dX8_cellOf_56 : decode cX8_cellOf 56 = .ok (.iaload, 1) := by decide +kernel
theorem dX8_cellOf_57 : decode cX8_cellOf 57 = .ok (.goto 9, 3) := by decide +kernel
theorem dX8_cellOf_60 : decode cX8_cellOf 60 = .ok (.aload_n 0, 1) := by decide +kernel
theorem dX8_cellOf_61 : decode cX8_cellOf 61 = .ok (.getfield 37, 3) := by decide +kernel
theorem dX8_cellOf_64 : decode cX8_cellOf 64 = .ok (.iload_n 1, 1) := by decide +kernel
theorem dX8_cellOf_65 : decode cX8_cellOf 65 = .ok (.iaload, 1) := by decide +kernel
theorem dX8_cellOf_66 : decode cX8_cellOf 66 = .ok (.ireturn, 1) := by decide +kernel
theorem dX8_cell_0 : decode cX8_cell 0 = .ok (.iload_n 1, 1) := by decide +kernel
theorem dX8_cell_1 : decode cX8_cell 1 = .ok (.invokestatic 125, 3) := by decide +kernel
theorem dX8_cell_4 : decode cX8_cell 4 = .ok (.ifCond .eq 24, 3) := by decide +kernel
theorem dX8_cell_7 : decode cX8_cell 7 = .ok (.iload_n 2, 1) := by decide +kernel
theorem dX8_cell_8 : decode cX8_cell 8 = .ok (.i2l, 1) := by decide +kernel
theorem dX8_cell_9 : decode cX8_cell 9 = .ok (.lconst 0, 1) := by decide +kernel
theorem dX8_cell_10 : decode cX8_cell 10 = .ok (.ldc2_w 128, 3) := by decide +kernel
theorem dX8_cell_13 : decode cX8_cell 13 = .ok (.invokestatic 80, 3) := by decide +kernel
theorem dX8_cell_16 : decode cX8_cell 16 = .ok (.ifCond .eq 12, 3) := by decide +kernel
theorem dX8_cell_19 : decode cX8_cell 19 = .ok (.aload_n 0, 1) := by decide +kernel
theorem dX8_cell_20 : decode cX8_cell 20 = .ok (.iload_n 1, 1) := by decide +kernel
theorem dX8_cell_21 : decode cX8_cell 21 = .ok (.iload_n 2, 1) := by decide +kernel
theorem dX8_cell_22 : decode cX8_cell 22 = .ok (.invokevirtual 130, 3) := by decide +kernel
theorem dX8_cell_25 : decode cX8_cell 25 = .ok (.goto 5, 3) := by decide +kernel
theorem dX8_cell_28 : decode cX8_cell 28 = .ok (.bipush (-2), 2) := by decide +kernel
theorem dX8_cell_30 : decode cX8_cell 30 = .ok (.ireturn, 1) := by decide +kernel
theorem dX8_least_0 : decode cX8_least 0 = .ok (.iload_n 0, 1) := by decide +kernel
theorem dX8_least_1 : decode cX8_least 1 = .ok (.iload_n 1, 1) := by decide +kernel
theorem dX8_least_2 : decode cX8_least 2 = .ok (.if_icmp .ge 7, 3) := by decide +kernel
theorem dX8_least_5 : decode cX8_least 5 = .ok (.iload_n 0, 1) := by decide +kernel
theorem dX8_least_6 : decode cX8_least 6 = .ok (.goto 4, 3) := by decide +kernel
theorem dX8_least_9 : decode cX8_least 9 = .ok (.iload_n 1, 1) := by decide +kernel
theorem dX8_least_10 : decode cX8_least 10 = .ok (.ireturn, 1) := by decide +kernel
theorem dX8_snows_0 : decode cX8_snows 0 = .ok (.iload_n 1, 1) := by decide +kernel
theorem dX8_snows_1 : decode cX8_snows 1 = .ok (.i2l, 1) := by decide +kernel
theorem dX8_snows_2 : decode cX8_snows 2 = .ok (.lconst 0, 1) := by decide +kernel
theorem dX8_snows_3 : decode cX8_snows 3 = .ok (.ldc2_w 133, 3) := by decide +kernel
theorem dX8_snows_6 : decode cX8_snows 6 = .ok (.invokestatic 80, 3) := by decide +kernel
theorem dX8_snows_9 : decode cX8_snows 9 = .ok (.ifCond .ne 6, 3) := by decide +kernel
theorem dX8_snows_12 : decode cX8_snows 12 = .ok (.bipush (-2), 2) := by decide +kernel
theorem dX8_snows_14 : decode cX8_snows 14 = .ok (.ireturn, 1) := by decide +kernel
theorem dX8_snows_15 : decode cX8_snows 15 = .ok (.aload_n 0, 1) := by decide +kernel
theorem dX8_snows_16 : decode cX8_snows 16 = .ok (.invokevirtual 122, 3) := by decide +kernel
theorem dX8_snows_19 : decode cX8_snows 19 = .ok (.pop, 1) := by decide +kernel
theorem dX8_snows_20 : decode cX8_snows 20 = .ok (.iconst 0, 1) := by decide +kernel
theorem dX8_snows_21 : decode cX8_snows 21 = .ok (.istore_n 2, 1) := by decide +kernel
theorem dX8_snows_22 : decode cX8_snows 22 = .ok (.iconst 0, 1) := by decide +kernel
theorem dX8_snows_23 : decode cX8_snows 23 = .ok (.istore_n 3, 1) := by decide +kernel
theorem dX8_snows_24 : decode cX8_snows 24 = .ok (.iload_n 3, 1) := by decide +kernel
theorem dX8_snows_25 : decode cX8_snows 25 = .ok (.bipush 64, 2) := by decide +kernel
theorem dX8_snows_27 : decode cX8_snows 27 = .ok (.if_icmp .ge 61, 3) := by decide +kernel
theorem dX8_snows_30 : decode cX8_snows 30 = .ok (.aload_n 0, 1) := by decide +kernel
theorem dX8_snows_31 : decode cX8_snows 31 = .ok (.getfield 25, 3) := by decide +kernel
theorem dX8_snows_34 : decode cX8_snows 34 = .ok (.iload_n 3, 1) := by decide +kernel
theorem dX8_snows_35 : decode cX8_snows 35 = .ok (.iaload, 1) := by decide +kernel
theorem dX8_snows_36 : decode cX8_snows 36 = .ok (.iconst 1, 1) := by decide +kernel
theorem dX8_snows_37 : decode cX8_snows 37 = .ok (.if_icmp .eq 45, 3) := by decide +kernel
theorem dX8_snows_40 : decode cX8_snows 40 = .ok (.aload_n 0, 1) := by decide +kernel
theorem dX8_snows_41 : decode cX8_snows 41 = .ok (.getfield 28, 3) := by decide +kernel
theorem dX8_snows_44 : decode cX8_snows 44 = .ok (.iload_n 3, 1) := by decide +kernel
theorem dX8_snows_45 : decode cX8_snows 45 = .ok (.iaload, 1) := by decide +kernel
theorem dX8_snows_46 : decode cX8_snows 46 = .ok (.iload_n 1, 1) := by decide +kernel
theorem dX8_snows_47 : decode cX8_snows 47 = .ok (.iadd, 1) := by decide +kernel
theorem dX8_snows_48 : decode cX8_snows 48 = .ok (.bipush 30, 2) := by decide +kernel
theorem dX8_snows_50 : decode cX8_snows 50 = .ok (.invokestatic 135, 3) := by decide +kernel
theorem dX8_snows_53 : decode cX8_snows 53 = .ok (.istore 4, 2) := by decide +kernel
theorem dX8_snows_55 : decode cX8_snows 55 = .ok (.iload_n 2, 1) := by decide +kernel
theorem dX8_snows_56 : decode cX8_snows 56 = .ok (.iload 4, 2) := by decide +kernel
theorem dX8_snows_58 : decode cX8_snows 58 = .ok (.aload_n 0, 1) := by decide +kernel
theorem dX8_snows_59 : decode cX8_snows 59 = .ok (.getfield 28, 3) := by decide +kernel
theorem dX8_snows_62 : decode cX8_snows 62 = .ok (.iload_n 3, 1) := by decide +kernel
theorem dX8_snows_63 : decode cX8_snows 63 = .ok (.iaload, 1) := by decide +kernel
theorem dX8_snows_64 : decode cX8_snows 64 = .ok (.if_icmp .le 7, 3) := by decide +kernel
theorem dX8_snows_67 : decode cX8_snows 67 = .ok (.iconst 1, 1) := by decide +kernel
theorem dX8_snows_68 : decode cX8_snows 68 = .ok (.goto 4, 3) := by decide +kernel
theorem dX8_snows_71 : decode cX8_snows 71 = .ok (.iconst 0, 1) := by decide +kernel
theorem dX8_snows_72 : decode cX8_snows 72 = .ok (.iadd, 1) := by decide +kernel
theorem dX8_snows_73 : decode cX8_snows 73 = .ok (.istore_n 2, 1) := by decide +kernel
theorem dX8_snows_74 : decode cX8_snows 74 = .ok (.aload_n 0, 1) := by decide +kernel
theorem dX8_snows_75 : decode cX8_snows 75 = .ok (.getfield 28, 3) := by decide +kernel
theorem dX8_snows_78 : decode cX8_snows 78 = .ok (.iload_n 3, 1) := by decide +kernel
theorem dX8_snows_79 : decode cX8_snows 79 = .ok (.iload 4, 2) := by decide +kernel
theorem dX8_snows_81 : decode cX8_snows 81 = .ok (.iastore, 1) := by decide +kernel
theorem dX8_snows_82 : decode cX8_snows 82 = .ok (.iinc 3 1, 3) := by decide +kernel
theorem dX8_snows_85 : decode cX8_snows 85 = .ok (.goto (-61), 3) := by decide +kernel
theorem dX8_snows_88 : decode cX8_snows 88 = .ok (.iload_n 2, 1) := by decide +kernel
theorem dX8_snows_89 : decode cX8_snows 89 = .ok (.ireturn, 1) := by decide +kernel
theorem dX8_less_0 : decode cX8_less 0 = .ok (.iload_n 0, 1) := by decide +kernel
theorem dX8_less_1 : decode cX8_less 1 = .ok (.iload_n 1, 1) := by decide +kernel
theorem dX8_less_2 : decode cX8_less 2 = .ok (.if_icmp .le 9, 3) := by decide +kernel
theorem dX8_less_5 : decode cX8_less 5 = .ok (.iload_n 0, 1) := by decide +kernel
theorem dX8_less_6 : decode cX8_less 6 = .ok (.iload_n 1, 1) := by decide +kernel
theorem dX8_less_7 : decode cX8_less 7 = .ok (.isub, 1) := by decide +kernel
theorem dX8_less_8 : decode cX8_less 8 = .ok (.goto 4, 3) := by decide +kernel
theorem dX8_less_11 : decode cX8_less 11 = .ok (.iconst 0, 1) := by decide +kernel
theorem dX8_less_12 : decode cX8_less 12 = .ok (.ireturn, 1) := by decide +kernel
theorem dX8_thaws_0 : decode cX8_thaws 0 = .ok (.iload_n 1, 1) := by decide +kernel
theorem dX8_thaws_1 : decode cX8_thaws 1 = .ok (.i2l, 1) := by decide +kernel
theorem dX8_thaws_2 : decode cX8_thaws 2 = .ok (.lconst 0, 1) := by decide +kernel
theorem dX8_thaws_3 : decode cX8_thaws 3 = .ok (.ldc2_w 133, 3) := by decide +kernel
theorem dX8_thaws_6 : decode cX8_thaws 6 = .ok (.invokestatic 80, 3) := by decide +kernel
theorem dX8_thaws_9 : decode cX8_thaws 9 = .ok (.ifCond .ne 6, 3) := by decide +kernel
theorem dX8_thaws_12 : decode cX8_thaws 12 = .ok (.bipush (-2), 2) := by decide +kernel
theorem dX8_thaws_14 : decode cX8_thaws 14 = .ok (.ireturn, 1) := by decide +kernel
theorem dX8_thaws_15 : decode cX8_thaws 15 = .ok (.iconst 0, 1) := by decide +kernel
theorem dX8_thaws_16 : decode cX8_thaws 16 = .ok (.istore_n 2, 1) := by decide +kernel
theorem dX8_thaws_17 : decode cX8_thaws 17 = .ok (.iconst 0, 1) := by decide +kernel
theorem dX8_thaws_18 : decode cX8_thaws 18 = .ok (.istore_n 3, 1) := by decide +kernel
theorem dX8_thaws_19 : decode cX8_thaws 19 = .ok (.iload_n 3, 1) := by decide +kernel
theorem dX8_thaws_20 : decode cX8_thaws 20 = .ok (.bipush 64, 2) := by decide +kernel
theorem dX8_thaws_22 : decode cX8_thaws 22 = .ok (.if_icmp .ge 92, 3) := by decide +kernel
theorem dX8_thaws_25 : decode cX8_thaws 25 = .ok (.iload_n 2, 1) := by decide +kernel
theorem dX8_thaws_26 : decode cX8_thaws 26 = .ok (.iload_n 1, 1) := by decide +kernel
theorem dX8_thaws_27 : decode cX8_thaws 27 = .ok (.ifCond .le 30, 3) := by decide +kernel
theorem dX8_thaws_30 : decode cX8_thaws 30 = .ok (.aload_n 0, 1) := by decide +kernel
theorem dX8_thaws_31 : decode cX8_thaws 31 = .ok (.getfield 28, 3) := by decide +kernel
theorem dX8_thaws_34 : decode cX8_thaws 34 = .ok (.iload_n 3, 1) := by decide +kernel
theorem dX8_thaws_35 : decode cX8_thaws 35 = .ok (.iaload, 1) := by decide +kernel
theorem dX8_thaws_36 : decode cX8_thaws 36 = .ok (.aload_n 0, 1) := by decide +kernel
theorem dX8_thaws_37 : decode cX8_thaws 37 = .ok (.getfield 31, 3) := by decide +kernel
theorem dX8_thaws_40 : decode cX8_thaws 40 = .ok (.iload_n 3, 1) := by decide +kernel
theorem dX8_thaws_41 : decode cX8_thaws 41 = .ok (.iaload, 1) := by decide +kernel
theorem dX8_thaws_42 : decode cX8_thaws 42 = .ok (.iadd, 1) := by decide +kernel
theorem dX8_thaws_43 : decode cX8_thaws 43 = .ok (.aload_n 0, 1) := by decide +kernel
theorem dX8_thaws_44 : decode cX8_thaws 44 = .ok (.getfield 34, 3) := by decide +kernel
theorem dX8_thaws_47 : decode cX8_thaws 47 = .ok (.iload_n 3, 1) := by decide +kernel
theorem dX8_thaws_48 : decode cX8_thaws 48 = .ok (.iaload, 1) := by decide +kernel
theorem dX8_thaws_49 : decode cX8_thaws 49 = .ok (.iadd, 1) := by decide +kernel
theorem dX8_thaws_50 : decode cX8_thaws 50 = .ok (.ifCond .le 7, 3) := by decide +kernel
theorem dX8_thaws_53 : decode cX8_thaws 53 = .ok (.iconst 1, 1) := by decide +kernel
theorem dX8_thaws_54 : decode cX8_thaws 54 = .ok (.goto 4, 3) := by decide +kernel
theorem dX8_thaws_57 : decode cX8_thaws 57 = .ok (.iconst 0, 1) := by decide +kernel
theorem dX8_thaws_58 : decode cX8_thaws 58 = .ok (.iadd, 1) := by decide +kernel
theorem dX8_thaws_59 : decode cX8_thaws 59 = .ok (.istore_n 2, 1) := by decide +kernel
theorem dX8_thaws_60 : decode cX8_thaws 60 = .ok (.aload_n 0, 1) := by decide +kernel
theorem dX8_thaws_61 : decode cX8_thaws 61 = .ok (.getfield 28, 3) := by decide +kernel
theorem dX8_thaws_64 : decode cX8_thaws 64 = .ok (.iload_n 3, 1) := by decide +kernel
theorem dX8_thaws_65 : decode cX8_thaws 65 = .ok (.aload_n 0, 1) := by decide +kernel
theorem dX8_thaws_66 : decode cX8_thaws 66 = .ok (.getfield 28, 3) := by decide +kernel
theorem dX8_thaws_69 : decode cX8_thaws 69 = .ok (.iload_n 3, 1) := by decide +kernel
theorem dX8_thaws_70 : decode cX8_thaws 70 = .ok (.iaload, 1) := by decide +kernel
theorem dX8_thaws_71 : decode cX8_thaws 71 = .ok (.iload_n 1, 1) := by decide +kernel
theorem dX8_thaws_72 : decode cX8_thaws 72 = .ok (.invokestatic 138, 3) := by decide +kernel
theorem dX8_thaws_75 : decode cX8_thaws 75 = .ok (.iastore, 1) := by decide +kernel
theorem dX8_thaws_76 : decode cX8_thaws 76 = .ok (.aload_n 0, 1) := by decide +kernel
theorem dX8_thaws_77 : decode cX8_thaws 77 = .ok (.getfield 31, 3) := by decide +kernel
theorem dX8_thaws_80 : decode cX8_thaws 80 = .ok (.iload_n 3, 1) := by decide +kernel
theorem dX8_thaws_81 : decode cX8_thaws 81 = .ok (.aload_n 0, 1) := by decide +kernel
theorem dX8_thaws_82 : decode cX8_thaws 82 = .ok (.getfield 31, 3) := by decide +kernel
theorem dX8_thaws_85 : decode cX8_thaws 85 = .ok (.iload_n 3, 1) := by decide +kernel
theorem dX8_thaws_86 : decode cX8_thaws 86 = .ok (.iaload, 1) := by decide +kernel
theorem dX8_thaws_87 : decode cX8_thaws 87 = .ok (.iload_n 1, 1) := by decide +kernel
theorem dX8_thaws_88 : decode cX8_thaws 88 = .ok (.invokestatic 138, 3) := by decide +kernel
theorem dX8_thaws_91 : decode cX8_thaws 91 = .ok (.iastore, 1) := by decide +kernel
theorem dX8_thaws_92 : decode cX8_thaws 92 = .ok (.aload_n 0, 1) := by decide +kernel
theorem dX8_thaws_93 : decode cX8_thaws 93 = .ok (.getfield 34, 3) := by decide +kernel
theorem dX8_thaws_96 : decode cX8_thaws 96 = .ok (.iload_n 3, 1) := by decide +kernel
theorem dX8_thaws_97 : decode cX8_thaws 97 = .ok (.aload_n 0, 1) := by decide +kernel
theorem dX8_thaws_98 : decode cX8_thaws 98 = .ok (.getfield 34, 3) := by decide +kernel
theorem dX8_thaws_101 : decode cX8_thaws 101 = .ok (.iload_n 3, 1) := by decide +kernel
theorem dX8_thaws_102 : decode cX8_thaws 102 = .ok (.iaload, 1) := by decide +kernel
theorem dX8_thaws_103 : decode cX8_thaws 103 = .ok (.iload_n 1, 1) := by decide +kernel
theorem dX8_thaws_104 : decode cX8_thaws 104 = .ok (.invokestatic 138, 3) := by decide +kernel
theorem dX8_thaws_107 : decode cX8_thaws 107 = .ok (.iastore, 1) := by decide +kernel
theorem dX8_thaws_108 : decode cX8_thaws 108 = .ok (.iinc 3 1, 3) := by decide +kernel
theorem dX8_thaws_111 : decode cX8_thaws 111 = .ok (.goto (-92), 3) := by decide +kernel
theorem dX8_thaws_114 : decode cX8_thaws 114 = .ok (.iload_n 2, 1) := by decide +kernel
theorem dX8_thaws_115 : decode cX8_thaws 115 = .ok (.ireturn, 1) := by decide +kernel
theorem dX8_freezes_0 : decode cX8_freezes 0 = .ok (.iconst 0, 1) := by decide +kernel
theorem dX8_freezes_1 : decode cX8_freezes 1 = .ok (.istore_n 1, 1) := by decide +kernel
theorem dX8_freezes_2 : decode cX8_freezes 2 = .ok (.iconst 0, 1) := by decide +kernel
theorem dX8_freezes_3 : decode cX8_freezes 3 = .ok (.istore_n 2, 1) := by decide +kernel
theorem dX8_freezes_4 : decode cX8_freezes 4 = .ok (.iload_n 2, 1) := by decide +kernel
theorem dX8_freezes_5 : decode cX8_freezes 5 = .ok (.bipush 64, 2) := by decide +kernel
theorem dX8_freezes_7 : decode cX8_freezes 7 = .ok (.if_icmp .ge 38, 3) := by decide +kernel
theorem dX8_freezes_10 : decode cX8_freezes 10 = .ok (.aload_n 0, 1) := by decide +kernel
theorem dX8_freezes_11 : decode cX8_freezes 11 = .ok (.getfield 34, 3) := by decide +kernel
theorem dX8_freezes_14 : decode cX8_freezes 14 = .ok (.iload_n 2, 1) := by decide +kernel
theorem dX8_freezes_15 : decode cX8_freezes 15 = .ok (.aload_n 0, 1) := by decide +kernel
theorem dX8_freezes_16 : decode cX8_freezes 16 = .ok (.getfield 31, 3) := by decide +kernel
theorem dX8_freezes_19 : decode cX8_freezes 19 = .ok (.iload_n 2, 1) := by decide +kernel
theorem dX8_freezes_20 : decode cX8_freezes 20 = .ok (.iaload, 1) := by decide +kernel
theorem dX8_freezes_21 : decode cX8_freezes 21 = .ok (.iastore, 1) := by decide +kernel
theorem dX8_freezes_22 : decode cX8_freezes 22 = .ok (.iload_n 1, 1) := by decide +kernel
theorem dX8_freezes_23 : decode cX8_freezes 23 = .ok (.aload_n 0, 1) := by decide +kernel
theorem dX8_freezes_24 : decode cX8_freezes 24 = .ok (.getfield 34, 3) := by decide +kernel
theorem dX8_freezes_27 : decode cX8_freezes 27 = .ok (.iload_n 2, 1) := by decide +kernel
theorem dX8_freezes_28 : decode cX8_freezes 28 = .ok (.iaload, 1) := by decide +kernel
theorem dX8_freezes_29 : decode cX8_freezes 29 = .ok (.ifCond .le 7, 3) := by decide +kernel
theorem dX8_freezes_32 : decode cX8_freezes 32 = .ok (.iconst 1, 1) := by decide +kernel
theorem dX8_freezes_33 : decode cX8_freezes 33 = .ok (.goto 4, 3) := by decide +kernel
theorem dX8_freezes_36 : decode cX8_freezes 36 = .ok (.iconst 0, 1) := by decide +kernel
theorem dX8_freezes_37 : decode cX8_freezes 37 = .ok (.iadd, 1) := by decide +kernel
theorem dX8_freezes_38 : decode cX8_freezes 38 = .ok (.istore_n 1, 1) := by decide +kernel
theorem dX8_freezes_39 : decode cX8_freezes 39 = .ok (.iinc 2 1, 3) := by decide +kernel
theorem dX8_freezes_42 : decode cX8_freezes 42 = .ok (.goto (-38), 3) := by decide +kernel
theorem dX8_freezes_45 : decode cX8_freezes 45 = .ok (.iload_n 1, 1) := by decide +kernel
theorem dX8_freezes_46 : decode cX8_freezes 46 = .ok (.ireturn, 1) := by decide +kernel
theorem dX8_next_0 : decode cX8_next 0 = .ok (.iload_n 1, 1) := by decide +kernel
theorem dX8_next_1 : decode cX8_next 1 = .ok (.tableswitch 74 0 2 #[27, 42, 59], 27) := by decide +kernel
theorem dX8_next_28 : decode cX8_next 28 = .ok (.iload_n 0, 1) := by decide +kernel
theorem dX8_next_29 : decode cX8_next 29 = .ok (.bipush 8, 2) := by decide +kernel
theorem dX8_next_31 : decode cX8_next 31 = .ok (.if_icmp .ge 7, 3) := by decide +kernel
theorem dX8_next_34 : decode cX8_next 34 = .ok (.iconst (-1), 1) := by decide +kernel
theorem dX8_next_35 : decode cX8_next 35 = .ok (.goto 7, 3) := by decide +kernel
theorem dX8_next_38 : decode cX8_next 38 = .ok (.iload_n 0, 1) := by decide +kernel
theorem dX8_next_39 : decode cX8_next 39 = .ok (.bipush 8, 2) := by decide +kernel
theorem dX8_next_41 : decode cX8_next 41 = .ok (.isub, 1) := by decide +kernel
theorem dX8_next_42 : decode cX8_next 42 = .ok (.ireturn, 1) := by decide +kernel
theorem dX8_next_43 : decode cX8_next 43 = .ok (.iload_n 0, 1) := by decide +kernel
theorem dX8_next_44 : decode cX8_next 44 = .ok (.bipush 8, 2) := by decide +kernel
theorem dX8_next_46 : decode cX8_next 46 = .ok (.irem, 1) := by decide +kernel
theorem dX8_next_47 : decode cX8_next 47 = .ok (.bipush 7, 2) := by decide +kernel
theorem dX8_next_49 : decode cX8_next 49 = .ok (.if_icmp .ne 7, 3) := by decide +kernel
theorem dX8_next_52 : decode cX8_next 52 = .ok (.iconst (-1), 1) := by decide +kernel
theorem dX8_next_53 : decode cX8_next 53 = .ok (.goto 6, 3) := by decide +kernel
theorem dX8_next_56 : decode cX8_next 56 = .ok (.iload_n 0, 1) := by decide +kernel
theorem dX8_next_57 : decode cX8_next 57 = .ok (.iconst 1, 1) := by decide +kernel
theorem dX8_next_58 : decode cX8_next 58 = .ok (.iadd, 1) := by decide +kernel
theorem dX8_next_59 : decode cX8_next 59 = .ok (.ireturn, 1) := by decide +kernel
theorem dX8_next_60 : decode cX8_next 60 = .ok (.iload_n 0, 1) := by decide +kernel
theorem dX8_next_61 : decode cX8_next 61 = .ok (.bipush 55, 2) := by decide +kernel
theorem dX8_next_63 : decode cX8_next 63 = .ok (.if_icmp .le 7, 3) := by decide +kernel
theorem dX8_next_66 : decode cX8_next 66 = .ok (.iconst (-1), 1) := by decide +kernel
theorem dX8_next_67 : decode cX8_next 67 = .ok (.goto 7, 3) := by decide +kernel
theorem dX8_next_70 : decode cX8_next 70 = .ok (.iload_n 0, 1) := by decide +kernel
theorem dX8_next_71 : decode cX8_next 71 = .ok (.bipush 8, 2) := by decide +kernel
theorem dX8_next_73 : decode cX8_next 73 = .ok (.iadd, 1) := by decide +kernel
theorem dX8_next_74 : decode cX8_next 74 = .ok (.ireturn, 1) := by decide +kernel
theorem dX8_next_75 : decode cX8_next 75 = .ok (.iload_n 0, 1) := by decide +kernel
theorem dX8_next_76 : decode cX8_next 76 = .ok (.bipush 8, 2) := by decide +kernel
theorem dX8_next_78 : decode cX8_next 78 = .ok (.irem, 1) := by decide +kernel
theorem dX8_next_79 : decode cX8_next 79 = .ok (.ifCond .ne 7, 3) := by decide +kernel
theorem dX8_next_82 : decode cX8_next 82 = .ok (.iconst (-1), 1) := by decide +kernel
theorem dX8_next_83 : decode cX8_next 83 = .ok (.goto 6, 3) := by decide +kernel
theorem dX8_next_86 : decode cX8_next 86 = .ok (.iload_n 0, 1) := by decide +kernel
theorem dX8_next_87 : decode cX8_next 87 = .ok (.iconst 1, 1) := by decide +kernel
theorem dX8_next_88 : decode cX8_next 88 = .ok (.isub, 1) := by decide +kernel
theorem dX8_next_89 : decode cX8_next 89 = .ok (.ireturn, 1) := by decide +kernel
theorem dX8_clear_0 : decode cX8_clear 0 = .ok (.iload_n 1, 1) := by decide +kernel
theorem dX8_clear_1 : decode cX8_clear 1 = .ok (.invokestatic 125, 3) := by decide +kernel
theorem dX8_clear_4 : decode cX8_clear 4 = .ok (.ifCond .eq 15, 3) := by decide +kernel
theorem dX8_clear_7 : decode cX8_clear 7 = .ok (.iload_n 2, 1) := by decide +kernel
theorem dX8_clear_8 : decode cX8_clear 8 = .ok (.i2l, 1) := by decide +kernel
theorem dX8_clear_9 : decode cX8_clear 9 = .ok (.lconst 0, 1) := by decide +kernel
theorem dX8_clear_10 : decode cX8_clear 10 = .ok (.ldc2_w 89, 3) := by decide +kernel
theorem dX8_clear_13 : decode cX8_clear 13 = .ok (.invokestatic 80, 3) := by decide +kernel
theorem dX8_clear_16 : decode cX8_clear 16 = .ok (.ifCond .ne 6, 3) := by decide +kernel
theorem dX8_clear_19 : decode cX8_clear 19 = .ok (.bipush (-2), 2) := by decide +kernel
theorem dX8_clear_21 : decode cX8_clear 21 = .ok (.ireturn, 1) := by decide +kernel
theorem dX8_clear_22 : decode cX8_clear 22 = .ok (.aload_n 0, 1) := by decide +kernel
theorem dX8_clear_23 : decode cX8_clear 23 = .ok (.invokevirtual 122, 3) := by decide +kernel
theorem dX8_clear_26 : decode cX8_clear 26 = .ok (.pop, 1) := by decide +kernel
theorem dX8_clear_27 : decode cX8_clear 27 = .ok (.iload_n 1, 1) := by decide +kernel
theorem dX8_clear_28 : decode cX8_clear 28 = .ok (.iload_n 2, 1) := by decide +kernel
theorem dX8_clear_29 : decode cX8_clear 29 = .ok (.invokestatic 141, 3) := by decide +kernel
theorem dX8_clear_32 : decode cX8_clear 32 = .ok (.istore_n 3, 1) := by decide +kernel
theorem dX8_clear_33 : decode cX8_clear 33 = .ok (.aload_n 0, 1) := by decide +kernel
theorem dX8_clear_34 : decode cX8_clear 34 = .ok (.getfield 25, 3) := by decide +kernel
theorem dX8_clear_37 : decode cX8_clear 37 = .ok (.iload_n 1, 1) := by decide +kernel
theorem dX8_clear_38 : decode cX8_clear 38 = .ok (.iaload, 1) := by decide +kernel
theorem dX8_clear_39 : decode cX8_clear 39 = .ok (.iconst 1, 1) := by decide +kernel
theorem dX8_clear_40 : decode cX8_clear 40 = .ok (.if_icmp .eq 18, 3) := by decide +kernel
theorem dX8_clear_43 : decode cX8_clear 43 = .ok (.iload_n 3, 1) := by decide +kernel
theorem dX8_clear_44 : decode cX8_clear 44 = .ok (.iconst (-1), 1) := by decide +kernel
theorem dX8_clear_45 : decode cX8_clear 45 = .ok (.if_icmp .eq 13, 3) := by decide +kernel
theorem dX8_clear_48 : decode cX8_clear 48 = .ok (.aload_n 0, 1) := by decide +kernel
theorem dX8_clear_49 : decode cX8_clear 49 = .ok (.getfield 25, 3) := by decide +kernel
theorem dX8_clear_52 : decode cX8_clear 52 = .ok (.iload_n 3, 1) := by decide +kernel
theorem dX8_clear_53 : decode cX8_clear 53 = .ok (.iaload, 1) := by decide +kernel
theorem dX8_clear_54 : decode cX8_clear 54 = .ok (.iconst 1, 1) := by decide +kernel
theorem dX8_clear_55 : decode cX8_clear 55 = .ok (.if_icmp .ne 6, 3) := by decide +kernel
theorem dX8_clear_58 : decode cX8_clear 58 = .ok (.bipush (-3), 2) := by decide +kernel
theorem dX8_clear_60 : decode cX8_clear 60 = .ok (.ireturn, 1) := by decide +kernel
theorem dX8_clear_61 : decode cX8_clear 61 = .ok (.aload_n 0, 1) := by decide +kernel
theorem dX8_clear_62 : decode cX8_clear 62 = .ok (.getfield 28, 3) := by decide +kernel
theorem dX8_clear_65 : decode cX8_clear 65 = .ok (.iload_n 1, 1) := by decide +kernel
theorem dX8_clear_66 : decode cX8_clear 66 = .ok (.iaload, 1) := by decide +kernel
theorem dX8_clear_67 : decode cX8_clear 67 = .ok (.aload_n 0, 1) := by decide +kernel
theorem dX8_clear_68 : decode cX8_clear 68 = .ok (.getfield 31, 3) := by decide +kernel
theorem dX8_clear_71 : decode cX8_clear 71 = .ok (.iload_n 1, 1) := by decide +kernel
theorem dX8_clear_72 : decode cX8_clear 72 = .ok (.iaload, 1) := by decide +kernel
theorem dX8_clear_73 : decode cX8_clear 73 = .ok (.iadd, 1) := by decide +kernel
theorem dX8_clear_74 : decode cX8_clear 74 = .ok (.istore 4, 2) := by decide +kernel
theorem dX8_clear_76 : decode cX8_clear 76 = .ok (.aload_n 0, 1) := by decide +kernel
theorem dX8_clear_77 : decode cX8_clear 77 = .ok (.getfield 28, 3) := by decide +kernel
theorem dX8_clear_80 : decode cX8_clear 80 = .ok (.iload_n 1, 1) := by decide +kernel
theorem dX8_clear_81 : decode cX8_clear 81 = .ok (.iconst 0, 1) := by decide +kernel
theorem dX8_clear_82 : decode cX8_clear 82 = .ok (.iastore, 1) := by decide +kernel
theorem dX8_clear_83 : decode cX8_clear 83 = .ok (.aload_n 0, 1) := by decide +kernel
theorem dX8_clear_84 : decode cX8_clear 84 = .ok (.getfield 31, 3) := by decide +kernel
theorem dX8_clear_87 : decode cX8_clear 87 = .ok (.iload_n 1, 1) := by decide +kernel
theorem dX8_clear_88 : decode cX8_clear 88 = .ok (.iconst 0, 1) := by decide +kernel
theorem dX8_clear_89 : decode cX8_clear 89 = .ok (.iastore, 1) := by decide +kernel
theorem dX8_clear_90 : decode cX8_clear 90 = .ok (.aload_n 0, 1) := by decide +kernel
theorem dX8_clear_91 : decode cX8_clear 91 = .ok (.getfield 28, 3) := by decide +kernel
theorem dX8_clear_94 : decode cX8_clear 94 = .ok (.iload_n 3, 1) := by decide +kernel
theorem dX8_clear_95 : decode cX8_clear 95 = .ok (.aload_n 0, 1) := by decide +kernel
theorem dX8_clear_96 : decode cX8_clear 96 = .ok (.getfield 28, 3) := by decide +kernel
theorem dX8_clear_99 : decode cX8_clear 99 = .ok (.iload_n 3, 1) := by decide +kernel
theorem dX8_clear_100 : decode cX8_clear 100 = .ok (.iaload, 1) := by decide +kernel
theorem dX8_clear_101 : decode cX8_clear 101 = .ok (.iload 4, 2) := by decide +kernel
theorem dX8_clear_103 : decode cX8_clear 103 = .ok (.iadd, 1) := by decide +kernel
theorem dX8_clear_104 : decode cX8_clear 104 = .ok (.bipush 30, 2) := by decide +kernel
theorem dX8_clear_106 : decode cX8_clear 106 = .ok (.invokestatic 135, 3) := by decide +kernel
theorem dX8_clear_109 : decode cX8_clear 109 = .ok (.iastore, 1) := by decide +kernel
theorem dX8_clear_110 : decode cX8_clear 110 = .ok (.iload 4, 2) := by decide +kernel
theorem dX8_clear_112 : decode cX8_clear 112 = .ok (.ireturn, 1) := by decide +kernel
theorem dX8_read_0 : decode cX8_read 0 = .ok (.iload_n 1, 1) := by decide +kernel
theorem dX8_read_1 : decode cX8_read 1 = .ok (.invokestatic 91, 3) := by decide +kernel
theorem dX8_read_4 : decode cX8_read 4 = .ok (.ifCond .ne 6, 3) := by decide +kernel
theorem dX8_read_7 : decode cX8_read 7 = .ok (.bipush (-2), 2) := by decide +kernel
theorem dX8_read_9 : decode cX8_read 9 = .ok (.ireturn, 1) := by decide +kernel
theorem dX8_read_10 : decode cX8_read 10 = .ok (.aload_n 0, 1) := by decide +kernel
theorem dX8_read_11 : decode cX8_read 11 = .ok (.getfield 7, 3) := by decide +kernel
theorem dX8_read_14 : decode cX8_read 14 = .ok (.iload_n 1, 1) := by decide +kernel
theorem dX8_read_15 : decode cX8_read 15 = .ok (.iaload, 1) := by decide +kernel
theorem dX8_read_16 : decode cX8_read 16 = .ok (.ifCond .ge 9, 3) := by decide +kernel
theorem dX8_read_19 : decode cX8_read 19 = .ok (.aload_n 0, 1) := by decide +kernel
theorem dX8_read_20 : decode cX8_read 20 = .ok (.iconst 1, 1) := by decide +kernel
theorem dX8_read_21 : decode cX8_read 21 = .ok (.invokevirtual 97, 3) := by decide +kernel
theorem dX8_read_24 : decode cX8_read 24 = .ok (.ireturn, 1) := by decide +kernel
theorem dX8_read_25 : decode cX8_read 25 = .ok (.iconst 0, 1) := by decide +kernel
theorem dX8_read_26 : decode cX8_read 26 = .ok (.istore_n 2, 1) := by decide +kernel
theorem dX8_read_27 : decode cX8_read 27 = .ok (.iload_n 2, 1) := by decide +kernel
theorem dX8_read_28 : decode cX8_read 28 = .ok (.aload_n 0, 1) := by decide +kernel
theorem dX8_read_29 : decode cX8_read 29 = .ok (.getfield 13, 3) := by decide +kernel
theorem dX8_read_32 : decode cX8_read 32 = .ok (.iload_n 1, 1) := by decide +kernel
theorem dX8_read_33 : decode cX8_read 33 = .ok (.iaload, 1) := by decide +kernel
theorem dX8_read_34 : decode cX8_read 34 = .ok (.if_icmp .ge 48, 3) := by decide +kernel
theorem dX8_read_37 : decode cX8_read 37 = .ok (.aload_n 0, 1) := by decide +kernel
theorem dX8_read_38 : decode cX8_read 38 = .ok (.getfield 16, 3) := by decide +kernel
theorem dX8_read_41 : decode cX8_read 41 = .ok (.bipush 64, 2) := by decide +kernel
theorem dX8_read_43 : decode cX8_read 43 = .ok (.iload_n 1, 1) := by decide +kernel
theorem dX8_read_44 : decode cX8_read 44 = .ok (.imul, 1) := by decide +kernel
theorem dX8_read_45 : decode cX8_read 45 = .ok (.iload_n 2, 1) := by decide +kernel
theorem dX8_read_46 : decode cX8_read 46 = .ok (.iadd, 1) := by decide +kernel
theorem dX8_read_47 : decode cX8_read 47 = .ok (.iaload, 1) := by decide +kernel
theorem dX8_read_48 : decode cX8_read 48 = .ok (.i2l, 1) := by decide +kernel
theorem dX8_read_49 : decode cX8_read 49 = .ok (.lconst 0, 1) := by decide +kernel
theorem dX8_read_50 : decode cX8_read 50 = .ok (.ldc2_w 144, 3) := by decide +kernel
theorem dX8_read_53 : decode cX8_read 53 = .ok (.invokestatic 80, 3) := by decide +kernel
theorem dX8_read_56 : decode cX8_read 56 = .ok (.ifCond .eq 26, 3) := by decide +kernel
theorem dX8_read_59 : decode cX8_read 59 = .ok (.aload_n 0, 1) := by decide +kernel
theorem dX8_read_60 : decode cX8_read 60 = .ok (.getfield 28, 3) := by decide +kernel
theorem dX8_read_63 : decode cX8_read 63 = .ok (.iload_n 2, 1) := by decide +kernel
theorem dX8_read_64 : decode cX8_read 64 = .ok (.aload_n 0, 1) := by decide +kernel
theorem dX8_read_65 : decode cX8_read 65 = .ok (.getfield 16, 3) := by decide +kernel
theorem dX8_read_68 : decode cX8_read 68 = .ok (.bipush 64, 2) := by decide +kernel
theorem dX8_read_70 : decode cX8_read 70 = .ok (.iload_n 1, 1) := by decide +kernel
theorem dX8_read_71 : decode cX8_read 71 = .ok (.imul, 1) := by decide +kernel
theorem dX8_read_72 : decode cX8_read 72 = .ok (.iload_n 2, 1) := by decide +kernel
theorem dX8_read_73 : decode cX8_read 73 = .ok (.iadd, 1) := by decide +kernel
theorem dX8_read_74 : decode cX8_read 74 = .ok (.iaload, 1) := by decide +kernel
theorem dX8_read_75 : decode cX8_read 75 = .ok (.iastore, 1) := by decide +kernel
theorem dX8_read_76 : decode cX8_read 76 = .ok (.iinc 2 1, 3) := by decide +kernel
theorem dX8_read_79 : decode cX8_read 79 = .ok (.goto (-52), 3) := by decide +kernel
theorem dX8_read_82 : decode cX8_read 82 = .ok (.iload_n 2, 1) := by decide +kernel
theorem dX8_read_83 : decode cX8_read 83 = .ok (.ireturn, 1) := by decide +kernel
theorem dX8_walker_0 : decode cX8_walker 0 = .ok (.iload_n 1, 1) := by decide +kernel
theorem dX8_walker_1 : decode cX8_walker 1 = .ok (.invokestatic 125, 3) := by decide +kernel
theorem dX8_walker_4 : decode cX8_walker 4 = .ok (.ifCond .eq 10, 3) := by decide +kernel
theorem dX8_walker_7 : decode cX8_walker 7 = .ok (.iload_n 2, 1) := by decide +kernel
theorem dX8_walker_8 : decode cX8_walker 8 = .ok (.invokestatic 125, 3) := by decide +kernel
theorem dX8_walker_11 : decode cX8_walker 11 = .ok (.ifCond .ne 6, 3) := by decide +kernel
theorem dX8_walker_14 : decode cX8_walker 14 = .ok (.bipush (-2), 2) := by decide +kernel
theorem dX8_walker_16 : decode cX8_walker 16 = .ok (.ireturn, 1) := by decide +kernel
theorem dX8_walker_17 : decode cX8_walker 17 = .ok (.aload_n 0, 1) := by decide +kernel
theorem dX8_walker_18 : decode cX8_walker 18 = .ok (.getfield 146, 3) := by decide +kernel
theorem dX8_walker_21 : decode cX8_walker 21 = .ok (.bipush 8, 2) := by decide +kernel
theorem dX8_walker_23 : decode cX8_walker 23 = .ok (.if_icmp .ne 6, 3) := by decide +kernel
theorem dX8_walker_26 : decode cX8_walker 26 = .ok (.bipush (-4), 2) := by decide +kernel
theorem dX8_walker_28 : decode cX8_walker 28 = .ok (.ireturn, 1) := by decide +kernel
theorem dX8_walker_29 : decode cX8_walker 29 = .ok (.aload_n 0, 1) := by decide +kernel
theorem dX8_walker_30 : decode cX8_walker 30 = .ok (.getfield 40, 3) := by decide +kernel
theorem dX8_walker_33 : decode cX8_walker 33 = .ok (.aload_n 0, 1) := by decide +kernel
theorem dX8_walker_34 : decode cX8_walker 34 = .ok (.getfield 146, 3) := by decide +kernel
theorem dX8_walker_37 : decode cX8_walker 37 = .ok (.iload_n 1, 1) := by decide +kernel
theorem dX8_walker_38 : decode cX8_walker 38 = .ok (.iastore, 1) := by decide +kernel
theorem dX8_walker_39 : decode cX8_walker 39 = .ok (.aload_n 0, 1) := by decide +kernel
theorem dX8_walker_40 : decode cX8_walker 40 = .ok (.getfield 43, 3) := by decide +kernel
theorem dX8_walker_43 : decode cX8_walker 43 = .ok (.aload_n 0, 1) := by decide +kernel
theorem dX8_walker_44 : decode cX8_walker 44 = .ok (.getfield 146, 3) := by decide +kernel
theorem dX8_walker_47 : decode cX8_walker 47 = .ok (.iload_n 2, 1) := by decide +kernel
theorem dX8_walker_48 : decode cX8_walker 48 = .ok (.iastore, 1) := by decide +kernel
theorem dX8_walker_49 : decode cX8_walker 49 = .ok (.aload_n 0, 1) := by decide +kernel
theorem dX8_walker_50 : decode cX8_walker 50 = .ok (.dup, 1) := by decide +kernel
theorem dX8_walker_51 : decode cX8_walker 51 = .ok (.getfield 146, 3) := by decide +kernel
theorem dX8_walker_54 : decode cX8_walker 54 = .ok (.iconst 1, 1) := by decide +kernel
theorem dX8_walker_55 : decode cX8_walker 55 = .ok (.iadd, 1) := by decide +kernel
theorem dX8_walker_56 : decode cX8_walker 56 = .ok (.putfield 146, 3) := by decide +kernel
theorem dX8_walker_59 : decode cX8_walker 59 = .ok (.aload_n 0, 1) := by decide +kernel
theorem dX8_walker_60 : decode cX8_walker 60 = .ok (.getfield 146, 3) := by decide +kernel
theorem dX8_walker_63 : decode cX8_walker 63 = .ok (.iconst 1, 1) := by decide +kernel
theorem dX8_walker_64 : decode cX8_walker 64 = .ok (.isub, 1) := by decide +kernel
theorem dX8_walker_65 : decode cX8_walker 65 = .ok (.ireturn, 1) := by decide +kernel
theorem dX8_gone_0 : decode cX8_gone 0 = .ok (.aload_n 0, 1) := by decide +kernel
theorem dX8_gone_1 : decode cX8_gone 1 = .ok (.getfield 146, 3) := by decide +kernel
theorem dX8_gone_4 : decode cX8_gone 4 = .ok (.istore_n 1, 1) := by decide +kernel
theorem dX8_gone_5 : decode cX8_gone 5 = .ok (.aload_n 0, 1) := by decide +kernel
theorem dX8_gone_6 : decode cX8_gone 6 = .ok (.iconst 0, 1) := by decide +kernel
theorem dX8_gone_7 : decode cX8_gone 7 = .ok (.putfield 146, 3) := by decide +kernel
theorem dX8_gone_10 : decode cX8_gone 10 = .ok (.iload_n 1, 1) := by decide +kernel
theorem dX8_gone_11 : decode cX8_gone 11 = .ok (.ireturn, 1) := by decide +kernel
theorem dX8_isWalker_0 : decode cX8_isWalker 0 = .ok (.iload_n 1, 1) := by decide +kernel
theorem dX8_isWalker_1 : decode cX8_isWalker 1 = .ok (.i2l, 1) := by decide +kernel
theorem dX8_isWalker_2 : decode cX8_isWalker 2 = .ok (.lconst 0, 1) := by decide +kernel
theorem dX8_isWalker_3 : decode cX8_isWalker 3 = .ok (.aload_n 0, 1) := by decide +kernel
theorem dX8_isWalker_4 : decode cX8_isWalker 4 = .ok (.getfield 146, 3) := by decide +kernel
theorem dX8_isWalker_7 : decode cX8_isWalker 7 = .ok (.iconst 1, 1) := by decide +kernel
theorem dX8_isWalker_8 : decode cX8_isWalker 8 = .ok (.isub, 1) := by decide +kernel
theorem dX8_isWalker_9 : decode cX8_isWalker 9 = .ok (.i2l, 1) := by decide +kernel
theorem dX8_isWalker_10 : decode cX8_isWalker 10 = .ok (.invokestatic 80, 3) := by decide +kernel
theorem dX8_isWalker_13 : decode cX8_isWalker 13 = .ok (.ireturn, 1) := by decide +kernel
theorem dX8_isHidden_0 : decode cX8_isHidden 0 = .ok (.aload_n 0, 1) := by decide +kernel
theorem dX8_isHidden_1 : decode cX8_isHidden 1 = .ok (.getfield 25, 3) := by decide +kernel
theorem dX8_isHidden_4 : decode cX8_isHidden 4 = .ok (.iload_n 1, 1) := by decide +kernel
theorem dX8_isHidden_5 : decode cX8_isHidden 5 = .ok (.iaload, 1) := by decide +kernel
theorem dX8_isHidden_6 : decode cX8_isHidden 6 = .ok (.iconst 2, 1) := by decide +kernel
theorem dX8_isHidden_7 : decode cX8_isHidden 7 = .ok (.if_icmp .eq 11, 3) := by decide +kernel
theorem dX8_isHidden_10 : decode cX8_isHidden 10 = .ok (.iload_n 1, 1) := by decide +kernel
theorem dX8_isHidden_11 : decode cX8_isHidden 11 = .ok (.aload_n 0, 1) := by decide +kernel
theorem dX8_isHidden_12 : decode cX8_isHidden 12 = .ok (.getfield 59, 3) := by decide +kernel
theorem dX8_isHidden_15 : decode cX8_isHidden 15 = .ok (.if_icmp .ne 7, 3) := by decide +kernel
theorem dX8_isHidden_18 : decode cX8_isHidden 18 = .ok (.iconst 1, 1) := by decide +kernel
theorem dX8_isHidden_19 : decode cX8_isHidden 19 = .ok (.goto 4, 3) := by decide +kernel
theorem dX8_isHidden_22 : decode cX8_isHidden 22 = .ok (.iconst 0, 1) := by decide +kernel
theorem dX8_isHidden_23 : decode cX8_isHidden 23 = .ok (.ireturn, 1) := by decide +kernel
theorem dX8_tries_0 : decode cX8_tries 0 = .ok (.aload_n 0, 1) := by decide +kernel
theorem dX8_tries_1 : decode cX8_tries 1 = .ok (.invokevirtual 122, 3) := by decide +kernel
theorem dX8_tries_4 : decode cX8_tries 4 = .ok (.pop, 1) := by decide +kernel
theorem dX8_tries_5 : decode cX8_tries 5 = .ok (.aload_n 0, 1) := by decide +kernel
theorem dX8_tries_6 : decode cX8_tries 6 = .ok (.iconst (-1), 1) := by decide +kernel
theorem dX8_tries_7 : decode cX8_tries 7 = .ok (.putfield 59, 3) := by decide +kernel
theorem dX8_tries_10 : decode cX8_tries 10 = .ok (.aload_n 0, 1) := by decide +kernel
theorem dX8_tries_11 : decode cX8_tries 11 = .ok (.invokevirtual 149, 3) := by decide +kernel
theorem dX8_tries_14 : decode cX8_tries 14 = .ok (.return_, 1) := by decide +kernel
theorem dX8_begins_0 : decode cX8_begins 0 = .ok (.iconst 0, 1) := by decide +kernel
theorem dX8_begins_1 : decode cX8_begins 1 = .ok (.istore_n 1, 1) := by decide +kernel
theorem dX8_begins_2 : decode cX8_begins 2 = .ok (.iload_n 1, 1) := by decide +kernel
theorem dX8_begins_3 : decode cX8_begins 3 = .ok (.bipush 64, 2) := by decide +kernel
theorem dX8_begins_5 : decode cX8_begins 5 = .ok (.if_icmp .ge 40, 3) := by decide +kernel
theorem dX8_begins_8 : decode cX8_begins 8 = .ok (.aload_n 0, 1) := by decide +kernel
theorem dX8_begins_9 : decode cX8_begins 9 = .ok (.getfield 46, 3) := by decide +kernel
theorem dX8_begins_12 : decode cX8_begins 12 = .ok (.iload_n 1, 1) := by decide +kernel
theorem dX8_begins_13 : decode cX8_begins 13 = .ok (.aload_n 0, 1) := by decide +kernel
theorem dX8_begins_14 : decode cX8_begins 14 = .ok (.getfield 28, 3) := by decide +kernel
theorem dX8_begins_17 : decode cX8_begins 17 = .ok (.iload_n 1, 1) := by decide +kernel
theorem dX8_begins_18 : decode cX8_begins 18 = .ok (.iaload, 1) := by decide +kernel
theorem dX8_begins_19 : decode cX8_begins 19 = .ok (.iastore, 1) := by decide +kernel
theorem dX8_begins_20 : decode cX8_begins 20 = .ok (.aload_n 0, 1) := by decide +kernel
theorem dX8_begins_21 : decode cX8_begins 21 = .ok (.getfield 49, 3) := by decide +kernel
theorem dX8_begins_24 : decode cX8_begins 24 = .ok (.iload_n 1, 1) := by decide +kernel
theorem dX8_begins_25 : decode cX8_begins 25 = .ok (.aload_n 0, 1) := by decide +kernel
theorem dX8_begins_26 : decode cX8_begins 26 = .ok (.getfield 31, 3) := by decide +kernel
theorem dX8_begins_29 : decode cX8_begins 29 = .ok (.iload_n 1, 1) := by decide +kernel
theorem dX8_begins_30 : decode cX8_begins 30 = .ok (.iaload, 1) := by decide +kernel
theorem dX8_begins_31 : decode cX8_begins 31 = .ok (.iastore, 1) := by decide +kernel
theorem dX8_begins_32 : decode cX8_begins 32 = .ok (.aload_n 0, 1) := by decide +kernel
theorem dX8_begins_33 : decode cX8_begins 33 = .ok (.getfield 52, 3) := by decide +kernel
theorem dX8_begins_36 : decode cX8_begins 36 = .ok (.iload_n 1, 1) := by decide +kernel
theorem dX8_begins_37 : decode cX8_begins 37 = .ok (.iconst 0, 1) := by decide +kernel
theorem dX8_begins_38 : decode cX8_begins 38 = .ok (.iastore, 1) := by decide +kernel
theorem dX8_begins_39 : decode cX8_begins 39 = .ok (.iinc 1 1, 3) := by decide +kernel
theorem dX8_begins_42 : decode cX8_begins 42 = .ok (.goto (-40), 3) := by decide +kernel
theorem dX8_begins_45 : decode cX8_begins 45 = .ok (.aload_n 0, 1) := by decide +kernel
theorem dX8_begins_46 : decode cX8_begins 46 = .ok (.iconst 0, 1) := by decide +kernel
theorem dX8_begins_47 : decode cX8_begins 47 = .ok (.putfield 152, 3) := by decide +kernel
theorem dX8_begins_50 : decode cX8_begins 50 = .ok (.aload_n 0, 1) := by decide +kernel
theorem dX8_begins_51 : decode cX8_begins 51 = .ok (.iconst 0, 1) := by decide +kernel
theorem dX8_begins_52 : decode cX8_begins 52 = .ok (.putfield 155, 3) := by decide +kernel
theorem dX8_begins_55 : decode cX8_begins 55 = .ok (.aload_n 0, 1) := by decide +kernel
theorem dX8_begins_56 : decode cX8_begins 56 = .ok (.iconst 0, 1) := by decide +kernel
theorem dX8_begins_57 : decode cX8_begins 57 = .ok (.putfield 158, 3) := by decide +kernel
theorem dX8_begins_60 : decode cX8_begins 60 = .ok (.aload_n 0, 1) := by decide +kernel
theorem dX8_begins_61 : decode cX8_begins 61 = .ok (.iconst 0, 1) := by decide +kernel
theorem dX8_begins_62 : decode cX8_begins 62 = .ok (.putfield 161, 3) := by decide +kernel
theorem dX8_begins_65 : decode cX8_begins 65 = .ok (.return_, 1) := by decide +kernel
theorem dX8_knows_0 : decode cX8_knows 0 = .ok (.iconst 0, 1) := by decide +kernel
theorem dX8_knows_1 : decode cX8_knows 1 = .ok (.istore_n 2, 1) := by decide +kernel
theorem dX8_knows_2 : decode cX8_knows 2 = .ok (.iload_n 2, 1) := by decide +kernel
theorem dX8_knows_3 : decode cX8_knows 3 = .ok (.bipush 64, 2) := by decide +kernel
theorem dX8_knows_5 : decode cX8_knows 5 = .ok (.if_icmp .ge 32, 3) := by decide +kernel
theorem dX8_knows_8 : decode cX8_knows 8 = .ok (.aload_n 0, 1) := by decide +kernel
theorem dX8_knows_9 : decode cX8_knows 9 = .ok (.getfield 55, 3) := by decide +kernel
theorem dX8_knows_12 : decode cX8_knows 12 = .ok (.iload_n 2, 1) := by decide +kernel
theorem dX8_knows_13 : decode cX8_knows 13 = .ok (.iload_n 1, 1) := by decide +kernel
theorem dX8_knows_14 : decode cX8_knows 14 = .ok (.ifCond .eq 15, 3) := by decide +kernel
theorem dX8_knows_17 : decode cX8_knows 17 = .ok (.aload_n 0, 1) := by decide +kernel
theorem dX8_knows_18 : decode cX8_knows 18 = .ok (.iload_n 2, 1) := by decide +kernel
theorem dX8_knows_19 : decode cX8_knows 19 = .ok (.invokevirtual 164, 3) := by decide +kernel
theorem dX8_knows_22 : decode cX8_knows 22 = .ok (.ifCond .eq 7, 3) := by decide +kernel
theorem dX8_knows_25 : decode cX8_knows 25 = .ok (.iconst 1, 1) := by decide +kernel
theorem dX8_knows_26 : decode cX8_knows 26 = .ok (.goto 4, 3) := by decide +kernel
theorem dX8_knows_29 : decode cX8_knows 29 = .ok (.iconst 0, 1) := by decide +kernel
theorem dX8_knows_30 : decode cX8_knows 30 = .ok (.bastore, 1) := by decide +kernel
theorem dX8_knows_31 : decode cX8_knows 31 = .ok (.iinc 2 1, 3) := by decide +kernel
theorem dX8_knows_34 : decode cX8_knows 34 = .ok (.goto (-32), 3) := by decide +kernel
theorem dX8_knows_37 : decode cX8_knows 37 = .ok (.return_, 1) := by decide +kernel
theorem dX8_mayPass_0 : decode cX8_mayPass 0 = .ok (.aload_n 0, 1) := by decide +kernel
theorem dX8_mayPass_1 : decode cX8_mayPass 1 = .ok (.getfield 25, 3) := by decide +kernel
theorem dX8_mayPass_4 : decode cX8_mayPass 4 = .ok (.iload_n 1, 1) := by decide +kernel
theorem dX8_mayPass_5 : decode cX8_mayPass 5 = .ok (.iaload, 1) := by decide +kernel
theorem dX8_mayPass_6 : decode cX8_mayPass 6 = .ok (.iconst 1, 1) := by decide +kernel
theorem dX8_mayPass_7 : decode cX8_mayPass 7 = .ok (.if_icmp .eq 16, 3) := by decide +kernel
theorem dX8_mayPass_10 : decode cX8_mayPass 10 = .ok (.aload_n 0, 1) := by decide +kernel
theorem dX8_mayPass_11 : decode cX8_mayPass 11 = .ok (.getfield 55, 3) := by decide +kernel
theorem dX8_mayPass_14 : decode cX8_mayPass 14 = .ok (.iload_n 1, 1) := by decide +kernel
theorem dX8_mayPass_15 : decode cX8_mayPass 15 = .ok (.baload, 1) := by decide +kernel
theorem dX8_mayPass_16 : decode cX8_mayPass 16 = .ok (.ifCond .ne 7, 3) := by decide +kernel
theorem dX8_mayPass_19 : decode cX8_mayPass 19 = .ok (.iconst 1, 1) := by decide +kernel
theorem dX8_mayPass_20 : decode cX8_mayPass 20 = .ok (.goto 4, 3) := by decide +kernel
theorem dX8_mayPass_23 : decode cX8_mayPass 23 = .ok (.iconst 0, 1) := by decide +kernel
theorem dX8_mayPass_24 : decode cX8_mayPass 24 = .ok (.ireturn, 1) := by decide +kernel
theorem dX8_wades_0 : decode cX8_wades 0 = .ok (.iload_n 2, 1) := by decide +kernel
theorem dX8_wades_1 : decode cX8_wades 1 = .ok (.ifCond .eq 7, 3) := by decide +kernel
theorem dX8_wades_4 : decode cX8_wades 4 = .ok (.iconst 1, 1) := by decide +kernel
theorem dX8_wades_5 : decode cX8_wades 5 = .ok (.goto 11, 3) := by decide +kernel
theorem dX8_wades_8 : decode cX8_wades 8 = .ok (.iconst 1, 1) := by decide +kernel
theorem dX8_wades_9 : decode cX8_wades 9 = .ok (.aload_n 0, 1) := by decide +kernel
theorem dX8_wades_10 : decode cX8_wades 10 = .ok (.getfield 46, 3) := by decide +kernel
theorem dX8_wades_13 : decode cX8_wades 13 = .ok (.iload_n 1, 1) := by decide +kernel
theorem dX8_wades_14 : decode cX8_wades 14 = .ok (.iaload, 1) := by decide +kernel
theorem dX8_wades_15 : decode cX8_wades 15 = .ok (.iadd, 1) := by decide +kernel
theorem dX8_wades_16 : decode cX8_wades 16 = .ok (.ireturn, 1) := by decide +kernel
theorem dX8_findCosts_0 : decode cX8_findCosts 0 = .ok (.iconst 0, 1) := by decide +kernel
theorem dX8_findCosts_1 : decode cX8_findCosts 1 = .ok (.istore_n 3, 1) := by decide +kernel
theorem dX8_findCosts_2 : decode cX8_findCosts 2 = .ok (.iload_n 3, 1) := by decide +kernel
theorem dX8_findCosts_3 : decode cX8_findCosts 3 = .ok (.bipush 64, 2) := by decide +kernel
theorem dX8_findCosts_5 : decode cX8_findCosts 5 = .ok (.if_icmp .ge 34, 3) := by decide +kernel
theorem dX8_findCosts_8 : decode cX8_findCosts 8 = .ok (.aload_n 0, 1) := by decide +kernel
theorem dX8_findCosts_9 : decode cX8_findCosts 9 = .ok (.getfield 63, 3) := by decide +kernel
theorem dX8_findCosts_12 : decode cX8_findCosts 12 = .ok (.iload_n 3, 1) := by decide +kernel
theorem dX8_findCosts_13 : decode cX8_findCosts 13 = .ok (.iload_n 3, 1) := by decide +kernel
theorem dX8_findCosts_14 : decode cX8_findCosts 14 = .ok (.iload_n 1, 1) := by decide +kernel
theorem dX8_findCosts_15 : decode cX8_findCosts 15 = .ok (.if_icmp .ne 15, 3) := by decide +kernel
theorem dX8_findCosts_18 : decode cX8_findCosts 18 = .ok (.aload_n 0, 1) := by decide +kernel
theorem dX8_findCosts_19 : decode cX8_findCosts 19 = .ok (.iload_n 3, 1) := by decide +kernel
theorem dX8_findCosts_20 : decode cX8_findCosts 20 = .ok (.invokevirtual 167, 3) := by decide +kernel
theorem dX8_findCosts_23 : decode cX8_findCosts 23 = .ok (.ifCond .eq 7, 3) := by decide +kernel
theorem dX8_findCosts_26 : decode cX8_findCosts 26 = .ok (.iconst 0, 1) := by decide +kernel
theorem dX8_findCosts_27 : decode cX8_findCosts 27 = .ok (.goto 5, 3) := by decide +kernel
theorem dX8_findCosts_30 : decode cX8_findCosts 30 = .ok (.ldc 170, 2) := by decide +kernel
theorem dX8_findCosts_32 : decode cX8_findCosts 32 = .ok (.iastore, 1) := by decide +kernel
theorem dX8_findCosts_33 : decode cX8_findCosts 33 = .ok (.iinc 3 1, 3) := by decide +kernel
theorem dX8_findCosts_36 : decode cX8_findCosts 36 = .ok (.goto (-34), 3) := by decide +kernel
theorem dX8_findCosts_39 : decode cX8_findCosts 39 = .ok (.iconst 1, 1) := by decide +kernel
theorem dX8_findCosts_40 : decode cX8_findCosts 40 = .ok (.istore_n 3, 1) := by decide +kernel
theorem dX8_findCosts_41 : decode cX8_findCosts 41 = .ok (.iload_n 3, 1) := by decide +kernel
theorem dX8_findCosts_42 : decode cX8_findCosts 42 = .ok (.ifCond .eq 124, 3) := by decide +kernel
theorem dX8_findCosts_45 : decode cX8_findCosts 45 = .ok (.iconst 0, 1) := by decide +kernel
theorem dX8_findCosts_46 : decode cX8_findCosts 46 = .ok (.istore_n 3, 1) := by decide +kernel
theorem dX8_findCosts_47 : decode cX8_findCosts 47 = .ok (.iconst 0, 1) := by decide +kernel
theorem dX8_findCosts_48 : decode cX8_findCosts 48 = .ok (.istore 4, 2) := by decide +kernel
theorem dX8_findCosts_50 : decode cX8_findCosts 50 = .ok (.iload 4, 2) := by decide +kernel
theorem dX8_findCosts_52 : decode cX8_findCosts 52 = .ok (.bipush 64, 2) := by decide +kernel
theorem dX8_findCosts_54 : decode cX8_findCosts 54 = .ok (.if_icmp .ge 109, 3) := by decide +kernel
theorem dX8_findCosts_57 : decode cX8_findCosts 57 = .ok (.iconst 0, 1) := by decide +kernel
theorem dX8_findCosts_58 : decode cX8_findCosts 58 = .ok (.istore 5, 2) := by decide +kernel
theorem dX8_findCosts_60 : decode cX8_findCosts 60 = .ok (.iload 5, 2) := by decide +kernel
theorem dX8_findCosts_62 : decode cX8_findCosts 62 = .ok (.iconst 4, 1) := by decide +kernel
theorem dX8_findCosts_63 : decode cX8_findCosts 63 = .ok (.if_icmp .ge 94, 3) := by decide +kernel
theorem dX8_findCosts_66 : decode cX8_findCosts 66 = .ok (.aload_n 0, 1) := by decide +kernel
theorem dX8_findCosts_67 : decode cX8_findCosts 67 = .ok (.iload 4, 2) := by decide +kernel
theorem dX8_findCosts_69 : decode cX8_findCosts 69 = .ok (.invokevirtual 167, 3) := by decide +kernel
theorem dX8_findCosts_72 : decode cX8_findCosts 72 = .ok (.ifCond .eq 85, 3) := by decide +kernel
theorem dX8_findCosts_75 : decode cX8_findCosts 75 = .ok (.iload 4, 2) := by decide +kernel
theorem dX8_findCosts_77 : decode cX8_findCosts 77 = .ok (.iload 5, 2) := by decide +kernel
theorem dX8_findCosts_79 : decode cX8_findCosts 79 = .ok (.invokestatic 141, 3) := by decide +kernel
theorem dX8_findCosts_82 : decode cX8_findCosts 82 = .ok (.istore 6, 2) := by decide +kernel
theorem dX8_findCosts_84 : decode cX8_findCosts 84 = .ok (.iload 6, 2) := by decide +kernel
theorem dX8_findCosts_86 : decode cX8_findCosts 86 = .ok (.iconst (-1), 1) := by decide +kernel
theorem dX8_findCosts_87 : decode cX8_findCosts 87 = .ok (.if_icmp .eq 64, 3) := by decide +kernel
theorem dX8_findCosts_90 : decode cX8_findCosts 90 = .ok (.aload_n 0, 1) := by decide +kernel
theorem dX8_findCosts_91 : decode cX8_findCosts 91 = .ok (.getfield 63, 3) := by decide +kernel
theorem dX8_findCosts_94 : decode cX8_findCosts 94 = .ok (.iload 6, 2) := by decide +kernel
theorem dX8_findCosts_96 : decode cX8_findCosts 96 = .ok (.iaload, 1) := by decide +kernel
theorem dX8_findCosts_97 : decode cX8_findCosts 97 = .ok (.ldc 170, 2) := by decide +kernel
theorem dX8_findCosts_99 : decode cX8_findCosts 99 = .ok (.if_icmp .ge 52, 3) := by decide +kernel
theorem dX8_findCosts_102 : decode cX8_findCosts 102 = .ok (.aload_n 0, 1) := by decide +kernel
theorem dX8_findCosts_103 : decode cX8_findCosts 103 = .ok (.getfield 63, 3) := by decide +kernel
theorem dX8_findCosts_106 : decode cX8_findCosts 106 = .ok (.iload 6, 2) := by decide +kernel
theorem dX8_findCosts_108 : decode cX8_findCosts 108 = .ok (.iaload, 1) := by decide +kernel
theorem dX8_findCosts_109 : decode cX8_findCosts 109 = .ok (.aload_n 0, 1) := by decide +kernel
theorem dX8_findCosts_110 : decode cX8_findCosts 110 = .ok (.iload 6, 2) := by decide +kernel
theorem dX8_findCosts_112 : decode cX8_findCosts 112 = .ok (.iload_n 2, 1) := by decide +kernel
theorem dX8_findCosts_113 : decode cX8_findCosts 113 = .ok (.invokevirtual 171, 3) := by decide +kernel
theorem dX8_findCosts_116 : decode cX8_findCosts 116 = .ok (.iadd, 1) := by decide +kernel
theorem dX8_findCosts_117 : decode cX8_findCosts 117 = .ok (.aload_n 0, 1) := by decide +kernel
theorem dX8_findCosts_118 : decode cX8_findCosts 118 = .ok (.getfield 63, 3) := by decide +kernel
theorem dX8_findCosts_121 : decode cX8_findCosts 121 = .ok (.iload 4, 2) := by decide +kernel
theorem dX8_findCosts_123 : decode cX8_findCosts 123 = .ok (.iaload, 1) := by decide +kernel
theorem dX8_findCosts_124 : decode cX8_findCosts 124 = .ok (.if_icmp .ge 27, 3) := by decide +kernel
theorem dX8_findCosts_127 : decode cX8_findCosts 127 = .ok (.aload_n 0, 1) := by decide +kernel
theorem dX8_findCosts_128 : decode cX8_findCosts 128 = .ok (.getfield 63, 3) := by decide +kernel
theorem dX8_findCosts_131 : decode cX8_findCosts 131 = .ok (.iload 4, 2) := by decide +kernel
theorem dX8_findCosts_133 : decode cX8_findCosts 133 = .ok (.aload_n 0, 1) := by decide +kernel
theorem dX8_findCosts_134 : decode cX8_findCosts 134 = .ok (.getfield 63, 3) := by decide +kernel
theorem dX8_findCosts_137 : decode cX8_findCosts 137 = .ok (.iload 6, 2) := by decide +kernel
theorem dX8_findCosts_139 : decode cX8_findCosts 139 = .ok (.iaload, 1) := by decide +kernel
theorem dX8_findCosts_140 : decode cX8_findCosts 140 = .ok (.aload_n 0, 1) := by decide +kernel
theorem dX8_findCosts_141 : decode cX8_findCosts 141 = .ok (.iload 6, 2) := by decide +kernel
theorem dX8_findCosts_143 : decode cX8_findCosts 143 = .ok (.iload_n 2, 1) := by decide +kernel
theorem dX8_findCosts_144 : decode cX8_findCosts 144 = .ok (.invokevirtual 171, 3) := by decide +kernel
theorem dX8_findCosts_147 : decode cX8_findCosts 147 = .ok (.iadd, 1) := by decide +kernel
theorem dX8_findCosts_148 : decode cX8_findCosts 148 = .ok (.iastore, 1) := by decide +kernel
theorem dX8_findCosts_149 : decode cX8_findCosts 149 = .ok (.iconst 1, 1) := by decide +kernel
theorem dX8_findCosts_150 : decode cX8_findCosts 150 = .ok (.istore_n 3, 1) := by decide +kernel
theorem dX8_findCosts_151 : decode cX8_findCosts 151 = .ok (.iinc 5 1, 3) := by decide +kernel
theorem dX8_findCosts_154 : decode cX8_findCosts 154 = .ok (.goto (-94), 3) := by decide +kernel
theorem dX8_findCosts_157 : decode cX8_findCosts 157 = .ok (.iinc 4 1, 3) := by decide +kernel
theorem dX8_findCosts_160 : decode cX8_findCosts 160 = .ok (.goto (-110), 3) := by decide +kernel
theorem dX8_findCosts_163 : decode cX8_findCosts 163 = .ok (.goto (-122), 3) := by decide +kernel
theorem dX8_findCosts_166 : decode cX8_findCosts 166 = .ok (.return_, 1) := by decide +kernel
theorem dX8_goesTo_0 : decode cX8_goesTo 0 = .ok (.iconst 0, 1) := by decide +kernel
theorem dX8_goesTo_1 : decode cX8_goesTo 1 = .ok (.istore_n 2, 1) := by decide +kernel
theorem dX8_goesTo_2 : decode cX8_goesTo 2 = .ok (.iload_n 2, 1) := by decide +kernel
theorem dX8_goesTo_3 : decode cX8_goesTo 3 = .ok (.iconst 4, 1) := by decide +kernel
theorem dX8_goesTo_4 : decode cX8_goesTo 4 = .ok (.if_icmp .ge 55, 3) := by decide +kernel
theorem dX8_goesTo_7 : decode cX8_goesTo 7 = .ok (.iload_n 1, 1) := by decide +kernel
theorem dX8_goesTo_8 : decode cX8_goesTo 8 = .ok (.iload_n 2, 1) := by decide +kernel
theorem dX8_goesTo_9 : decode cX8_goesTo 9 = .ok (.invokestatic 141, 3) := by decide +kernel
theorem dX8_goesTo_12 : decode cX8_goesTo 12 = .ok (.istore_n 3, 1) := by decide +kernel
theorem dX8_goesTo_13 : decode cX8_goesTo 13 = .ok (.iload_n 3, 1) := by decide +kernel
theorem dX8_goesTo_14 : decode cX8_goesTo 14 = .ok (.iconst (-1), 1) := by decide +kernel
theorem dX8_goesTo_15 : decode cX8_goesTo 15 = .ok (.if_icmp .eq 38, 3) := by decide +kernel
theorem dX8_goesTo_18 : decode cX8_goesTo 18 = .ok (.aload_n 0, 1) := by decide +kernel
theorem dX8_goesTo_19 : decode cX8_goesTo 19 = .ok (.getfield 63, 3) := by decide +kernel
theorem dX8_goesTo_22 : decode cX8_goesTo 22 = .ok (.iload_n 3, 1) := by decide +kernel
theorem dX8_goesTo_23 : decode cX8_goesTo 23 = .ok (.iaload, 1) := by decide +kernel
theorem dX8_goesTo_24 : decode cX8_goesTo 24 = .ok (.ldc 170, 2) := by decide +kernel
theorem dX8_goesTo_26 : decode cX8_goesTo 26 = .ok (.if_icmp .ge 27, 3) := by decide +kernel
theorem dX8_goesTo_29 : decode cX8_goesTo 29 = .ok (.aload_n 0, 1) := by decide +kernel
theorem dX8_goesTo_30 : decode cX8_goesTo 30 = .ok (.getfield 63, 3) := by decide +kernel
theorem dX8_goesTo_33 : decode cX8_goesTo 33 = .ok (.iload_n 3, 1) := by decide +kernel
theorem dX8_goesTo_34 : decode cX8_goesTo 34 = .ok (.iaload, 1) := by decide +kernel
theorem dX8_goesTo_35 : decode cX8_goesTo 35 = .ok (.aload_n 0, 1) := by decide +kernel
theorem dX8_goesTo_36 : decode cX8_goesTo 36 = .ok (.iload_n 3, 1) := by decide +kernel
theorem dX8_goesTo_37 : decode cX8_goesTo 37 = .ok (.iconst 0, 1) := by decide +kernel
theorem dX8_goesTo_38 : decode cX8_goesTo 38 = .ok (.invokevirtual 171, 3) := by decide +kernel
theorem dX8_goesTo_41 : decode cX8_goesTo 41 = .ok (.iadd, 1) := by decide +kernel
theorem dX8_goesTo_42 : decode cX8_goesTo 42 = .ok (.aload_n 0, 1) := by decide +kernel
theorem dX8_goesTo_43 : decode cX8_goesTo 43 = .ok (.getfield 63, 3) := by decide +kernel
theorem dX8_goesTo_46 : decode cX8_goesTo 46 = .ok (.iload_n 1, 1) := by decide +kernel
theorem dX8_goesTo_47 : decode cX8_goesTo 47 = .ok (.iaload, 1) := by decide +kernel
theorem dX8_goesTo_48 : decode cX8_goesTo 48 = .ok (.if_icmp .ne 5, 3) := by decide +kernel
theorem dX8_goesTo_51 : decode cX8_goesTo 51 = .ok (.iload_n 3, 1) := by decide +kernel
theorem dX8_goesTo_52 : decode cX8_goesTo 52 = .ok (.ireturn, 1) := by decide +kernel
theorem dX8_goesTo_53 : decode cX8_goesTo 53 = .ok (.iinc 2 1, 3) := by decide +kernel
theorem dX8_goesTo_56 : decode cX8_goesTo 56 = .ok (.goto (-54), 3) := by decide +kernel
theorem dX8_goesTo_59 : decode cX8_goesTo 59 = .ok (.iconst (-1), 1) := by decide +kernel
theorem dX8_goesTo_60 : decode cX8_goesTo 60 = .ok (.ireturn, 1) := by decide +kernel
theorem dX8_mayBegin_0 : decode cX8_mayBegin 0 = .ok (.aload_n 0, 1) := by decide +kernel
theorem dX8_mayBegin_1 : decode cX8_mayBegin 1 = .ok (.getfield 25, 3) := by decide +kernel
theorem dX8_mayBegin_4 : decode cX8_mayBegin 4 = .ok (.iload_n 1, 1) := by decide +kernel
theorem dX8_mayBegin_5 : decode cX8_mayBegin 5 = .ok (.iaload, 1) := by decide +kernel
theorem dX8_mayBegin_6 : decode cX8_mayBegin 6 = .ok (.iconst 1, 1) := by decide +kernel
theorem dX8_mayBegin_7 : decode cX8_mayBegin 7 = .ok (.if_icmp .eq 15, 3) := by decide +kernel
theorem dX8_mayBegin_10 : decode cX8_mayBegin 10 = .ok (.aload_n 0, 1) := by decide +kernel
theorem dX8_mayBegin_11 : decode cX8_mayBegin 11 = .ok (.iload_n 1, 1) := by decide +kernel
theorem dX8_mayBegin_12 : decode cX8_mayBegin 12 = .ok (.invokevirtual 164, 3) := by decide +kernel
theorem dX8_mayBegin_15 : decode cX8_mayBegin 15 = .ok (.ifCond .ne 7, 3) := by decide +kernel
theorem dX8_mayBegin_18 : decode cX8_mayBegin 18 = .ok (.iconst 1, 1) := by decide +kernel
theorem dX8_mayBegin_19 : decode cX8_mayBegin 19 = .ok (.goto 4, 3) := by decide +kernel
theorem dX8_mayBegin_22 : decode cX8_mayBegin 22 = .ok (.iconst 0, 1) := by decide +kernel
theorem dX8_mayBegin_23 : decode cX8_mayBegin 23 = .ok (.ireturn, 1) := by decide +kernel
theorem dX8_plans_0 : decode cX8_plans 0 = .ok (.aload_n 0, 1) := by decide +kernel
theorem dX8_plans_1 : decode cX8_plans 1 = .ok (.iload_n 2, 1) := by decide +kernel
theorem dX8_plans_2 : decode cX8_plans 2 = .ok (.iconst 0, 1) := by decide +kernel
theorem dX8_plans_3 : decode cX8_plans 3 = .ok (.invokevirtual 175, 3) := by decide +kernel
theorem dX8_plans_6 : decode cX8_plans 6 = .ok (.aload_n 0, 1) := by decide +kernel
theorem dX8_plans_7 : decode cX8_plans 7 = .ok (.iconst 0, 1) := by decide +kernel
theorem dX8_plans_8 : decode cX8_plans 8 = .ok (.putfield 179, 3) := by decide +kernel
theorem dX8_plans_11 : decode cX8_plans 11 = .ok (.aload_n 0, 1) := by decide +kernel
theorem dX8_plans_12 : decode cX8_plans 12 = .ok (.iload_n 1, 1) := by decide +kernel
theorem dX8_plans_13 : decode cX8_plans 13 = .ok (.invokevirtual 182, 3) := by decide +kernel
theorem dX8_plans_16 : decode cX8_plans 16 = .ok (.ifCond .eq 14, 3) := by decide +kernel
theorem dX8_plans_19 : decode cX8_plans 19 = .ok (.aload_n 0, 1) := by decide +kernel
theorem dX8_plans_20 : decode cX8_plans 20 = .ok (.getfield 63, 3) := by decide +kernel
theorem dX8_plans_23 : decode cX8_plans 23 = .ok (.iload_n 1, 1) := by decide +kernel
theorem dX8_plans_24 : decode cX8_plans 24 = .ok (.iaload, 1) := by decide +kernel
theorem dX8_plans_25 : decode cX8_plans 25 = .ok (.ldc 170, 2) := by decide +kernel
theorem dX8_plans_27 : decode cX8_plans 27 = .ok (.if_icmp .lt 5, 3) := by decide +kernel
theorem dX8_plans_30 : decode cX8_plans 30 = .ok (.iconst 0, 1) := by decide +kernel
theorem dX8_plans_31 : decode cX8_plans 31 = .ok (.ireturn, 1) := by decide +kernel
theorem dX8_plans_32 : decode cX8_plans 32 = .ok (.iload_n 1, 1) := by decide +kernel
theorem dX8_plans_33 : decode cX8_plans 33 = .ok (.istore_n 3, 1) := by decide +kernel
theorem dX8_plans_34 : decode cX8_plans 34 = .ok (.iload_n 3, 1) := by decide +kernel
theorem dX8_plans_35 : decode cX8_plans 35 = .ok (.iload_n 2, 1) := by decide +kernel
theorem dX8_plans_36 : decode cX8_plans 36 = .ok (.if_icmp .eq 32, 3) := by decide +kernel
theorem dX8_plans_39 : decode cX8_plans 39 = .ok (.aload_n 0, 1) := by decide +kernel
theorem dX8_plans_40 : decode cX8_plans 40 = .ok (.iload_n 3, 1) := by decide +kernel
theorem dX8_plans_41 : decode cX8_plans 41 = .ok (.invokevirtual 185, 3) := by decide +kernel
theorem dX8_plans_44 : decode cX8_plans 44 = .ok (.istore_n 3, 1) := by decide +kernel
theorem dX8_plans_45 : decode cX8_plans 45 = .ok (.aload_n 0, 1) := by decide +kernel
theorem dX8_plans_46 : decode cX8_plans 46 = .ok (.getfield 66, 3) := by decide +kernel
theorem dX8_plans_49 : decode cX8_plans 49 = .ok (.aload_n 0, 1) := by decide +kernel
theorem dX8_plans_50 : decode cX8_plans 50 = .ok (.getfield 179, 3) := by decide +kernel
theorem dX8_plans_53 : decode cX8_plans 53 = .ok (.iload_n 3, 1) := by decide +kernel
theorem dX8_plans_54 : decode cX8_plans 54 = .ok (.iastore, 1) := by decide +kernel
theorem dX8_plans_55 : decode cX8_plans 55 = .ok (.aload_n 0, 1) := by decide +kernel
theorem dX8_plans_56 : decode cX8_plans 56 = .ok (.dup, 1) := by decide +kernel
theorem dX8_plans_57 : decode cX8_plans 57 = .ok (.getfield 179, 3) := by decide +kernel
theorem dX8_plans_60 : decode cX8_plans 60 = .ok (.iconst 1, 1) := by decide +kernel
theorem dX8_plans_61 : decode cX8_plans 61 = .ok (.iadd, 1) := by decide +kernel
theorem dX8_plans_62 : decode cX8_plans 62 = .ok (.putfield 179, 3) := by decide +kernel
theorem dX8_plans_65 : decode cX8_plans 65 = .ok (.goto (-31), 3) := by decide +kernel
theorem dX8_plans_68 : decode cX8_plans 68 = .ok (.iconst 1, 1) := by decide +kernel
theorem dX8_plans_69 : decode cX8_plans 69 = .ok (.ireturn, 1) := by decide +kernel
theorem dX8_planOf_0 : decode cX8_planOf 0 = .ok (.aload_n 0, 1) := by decide +kernel
theorem dX8_planOf_1 : decode cX8_planOf 1 = .ok (.invokevirtual 188, 3) := by decide +kernel
theorem dX8_planOf_4 : decode cX8_planOf 4 = .ok (.aload_n 0, 1) := by decide +kernel
theorem dX8_planOf_5 : decode cX8_planOf 5 = .ok (.iconst 0, 1) := by decide +kernel
theorem dX8_planOf_6 : decode cX8_planOf 6 = .ok (.invokevirtual 191, 3) := by decide +kernel
theorem dX8_planOf_9 : decode cX8_planOf 9 = .ok (.aload_n 0, 1) := by decide +kernel
theorem dX8_planOf_10 : decode cX8_planOf 10 = .ok (.iload_n 1, 1) := by decide +kernel
theorem dX8_planOf_11 : decode cX8_planOf 11 = .ok (.iload_n 2, 1) := by decide +kernel
theorem dX8_planOf_12 : decode cX8_planOf 12 = .ok (.invokevirtual 195, 3) := by decide +kernel
theorem dX8_planOf_15 : decode cX8_planOf 15 = .ok (.ifCond .ne 5, 3) := by decide +kernel
theorem dX8_planOf_18 : decode cX8_planOf 18 = .ok (.iconst (-1), 1) := by decide +kernel
theorem dX8_planOf_19 : decode cX8_planOf 19 = .ok (.ireturn, 1) := by decide +kernel
theorem dX8_planOf_20 : decode cX8_planOf 20 = .ok (.iload_n 3, 1) := by decide +kernel
theorem dX8_planOf_21 : decode cX8_planOf 21 = .ok (.iconst (-1), 1) := by decide +kernel
theorem dX8_planOf_22 : decode cX8_planOf 22 = .ok (.if_icmp .ne 12, 3) := by decide +kernel
theorem dX8_planOf_25 : decode cX8_planOf 25 = .ok (.aload_n 0, 1) := by decide +kernel
theorem dX8_planOf_26 : decode cX8_planOf 26 = .ok (.getfield 63, 3) := by decide +kernel
theorem dX8_planOf_29 : decode cX8_planOf 29 = .ok (.iload_n 1, 1) := by decide +kernel
theorem dX8_planOf_30 : decode cX8_planOf 30 = .ok (.iaload, 1) := by decide +kernel
theorem dX8_planOf_31 : decode cX8_planOf 31 = .ok (.goto 21, 3) := by decide +kernel
theorem dX8_planOf_34 : decode cX8_planOf 34 = .ok (.iload_n 3, 1) := by decide +kernel
theorem dX8_planOf_35 : decode cX8_planOf 35 = .ok (.aload_n 0, 1) := by decide +kernel
theorem dX8_planOf_36 : decode cX8_planOf 36 = .ok (.getfield 179, 3) := by decide +kernel
theorem dX8_planOf_39 : decode cX8_planOf 39 = .ok (.if_icmp .ge 12, 3) := by decide +kernel
theorem dX8_planOf_42 : decode cX8_planOf 42 = .ok (.aload_n 0, 1) := by decide +kernel
theorem dX8_planOf_43 : decode cX8_planOf 43 = .ok (.getfield 66, 3) := by decide +kernel
theorem dX8_planOf_46 : decode cX8_planOf 46 = .ok (.iload_n 3, 1) := by decide +kernel
theorem dX8_planOf_47 : decode cX8_planOf 47 = .ok (.iaload, 1) := by decide +kernel
theorem dX8_planOf_48 : decode cX8_planOf 48 = .ok (.goto 4, 3) := by decide +kernel
theorem dX8_planOf_51 : decode cX8_planOf 51 = .ok (.iconst (-1), 1) := by decide +kernel
theorem dX8_planOf_52 : decode cX8_planOf 52 = .ok (.ireturn, 1) := by decide +kernel
theorem dX8_plan_0 : decode cX8_plan 0 = .ok (.iload_n 1, 1) := by decide +kernel
theorem dX8_plan_1 : decode cX8_plan 1 = .ok (.invokestatic 125, 3) := by decide +kernel
theorem dX8_plan_4 : decode cX8_plan 4 = .ok (.ifCond .eq 25, 3) := by decide +kernel
theorem dX8_plan_7 : decode cX8_plan 7 = .ok (.iload_n 2, 1) := by decide +kernel
theorem dX8_plan_8 : decode cX8_plan 8 = .ok (.invokestatic 125, 3) := by decide +kernel
theorem dX8_plan_11 : decode cX8_plan 11 = .ok (.ifCond .eq 18, 3) := by decide +kernel
theorem dX8_plan_14 : decode cX8_plan 14 = .ok (.iload_n 3, 1) := by decide +kernel
theorem dX8_plan_15 : decode cX8_plan 15 = .ok (.iconst (-1), 1) := by decide +kernel
theorem dX8_plan_16 : decode cX8_plan 16 = .ok (.if_icmp .lt 13, 3) := by decide +kernel
theorem dX8_plan_19 : decode cX8_plan 19 = .ok (.aload_n 0, 1) := by decide +kernel
theorem dX8_plan_20 : decode cX8_plan 20 = .ok (.iload_n 1, 1) := by decide +kernel
theorem dX8_plan_21 : decode cX8_plan 21 = .ok (.iload_n 2, 1) := by decide +kernel
theorem dX8_plan_22 : decode cX8_plan 22 = .ok (.iload_n 3, 1) := by decide +kernel
theorem dX8_plan_23 : decode cX8_plan 23 = .ok (.invokevirtual 199, 3) := by decide +kernel
theorem dX8_plan_26 : decode cX8_plan 26 = .ok (.goto 5, 3) := by decide +kernel
theorem dX8_plan_29 : decode cX8_plan 29 = .ok (.bipush (-2), 2) := by decide +kernel
theorem dX8_plan_31 : decode cX8_plan 31 = .ok (.ireturn, 1) := by decide +kernel
theorem dX8_treads_0 : decode cX8_treads 0 = .ok (.aload_n 0, 1) := by decide +kernel
theorem dX8_treads_1 : decode cX8_treads 1 = .ok (.dup, 1) := by decide +kernel
theorem dX8_treads_2 : decode cX8_treads 2 = .ok (.getfield 152, 3) := by decide +kernel
theorem dX8_treads_5 : decode cX8_treads 5 = .ok (.iconst 1, 1) := by decide +kernel
theorem dX8_treads_6 : decode cX8_treads 6 = .ok (.aload_n 0, 1) := by decide +kernel
theorem dX8_treads_7 : decode cX8_treads 7 = .ok (.getfield 46, 3) := by decide +kernel
theorem dX8_treads_10 : decode cX8_treads 10 = .ok (.iload_n 1, 1) := by decide +kernel
theorem dX8_treads_11 : decode cX8_treads 11 = .ok (.iaload, 1) := by decide +kernel
theorem dX8_treads_12 : decode cX8_treads 12 = .ok (.iadd, 1) := by decide +kernel
theorem dX8_treads_13 : decode cX8_treads 13 = .ok (.iadd, 1) := by decide +kernel
theorem dX8_treads_14 : decode cX8_treads 14 = .ok (.putfield 152, 3) := by decide +kernel
theorem dX8_treads_17 : decode cX8_treads 17 = .ok (.aload_n 0, 1) := by decide +kernel
theorem dX8_treads_18 : decode cX8_treads 18 = .ok (.dup, 1) := by decide +kernel
theorem dX8_treads_19 : decode cX8_treads 19 = .ok (.getfield 155, 3) := by decide +kernel
theorem dX8_treads_22 : decode cX8_treads 22 = .ok (.iconst 1, 1) := by decide +kernel
theorem dX8_treads_23 : decode cX8_treads 23 = .ok (.iadd, 1) := by decide +kernel
theorem dX8_treads_24 : decode cX8_treads 24 = .ok (.putfield 155, 3) := by decide +kernel
theorem dX8_treads_27 : decode cX8_treads 27 = .ok (.aload_n 0, 1) := by decide +kernel
end
section
theorem dX8_treads_28 : decode cX8_treads 28 = .ok (.getfield 52, 3) := by decide +kernel
theorem dX8_treads_31 : decode cX8_treads 31 = .ok (.iload_n 1, 1) := by decide +kernel
theorem dX8_treads_32 : decode cX8_treads 32 = .ok (.dup2, 1) := by decide +kernel
theorem dX8_treads_33 : decode cX8_treads 33 = .ok (.iaload, 1) := by decide +kernel
theorem dX8_treads_34 : decode cX8_treads 34 = .ok (.iconst 1, 1) := by decide +kernel
theorem dX8_treads_35 : decode cX8_treads 35 = .ok (.iadd, 1) := by decide +kernel
theorem dX8_treads_36 : decode cX8_treads 36 = .ok (.iastore, 1) := by decide +kernel
theorem dX8_treads_37 : decode cX8_treads 37 = .ok (.aload_n 0, 1) := by decide +kernel
theorem dX8_treads_38 : decode cX8_treads 38 = .ok (.getfield 46, 3) := by decide +kernel
theorem dX8_treads_41 : decode cX8_treads 41 = .ok (.iload_n 1, 1) := by decide +kernel
theorem dX8_treads_42 : decode cX8_treads 42 = .ok (.iaload, 1) := by decide +kernel
theorem dX8_treads_43 : decode cX8_treads 43 = .ok (.ifCond .le 32, 3) := by decide +kernel
theorem dX8_treads_46 : decode cX8_treads 46 = .ok (.aload_n 0, 1) := by decide +kernel
theorem dX8_treads_47 : decode cX8_treads 47 = .ok (.getfield 46, 3) := by decide +kernel
theorem dX8_treads_50 : decode cX8_treads 50 = .ok (.iload_n 1, 1) := by decide +kernel
theorem dX8_treads_51 : decode cX8_treads 51 = .ok (.dup2, 1) := by decide +kernel
theorem dX8_treads_52 : decode cX8_treads 52 = .ok (.iaload, 1) := by decide +kernel
theorem dX8_treads_53 : decode cX8_treads 53 = .ok (.iconst 1, 1) := by decide +kernel
theorem dX8_treads_54 : decode cX8_treads 54 = .ok (.isub, 1) := by decide +kernel
theorem dX8_treads_55 : decode cX8_treads 55 = .ok (.iastore, 1) := by decide +kernel
theorem dX8_treads_56 : decode cX8_treads 56 = .ok (.aload_n 0, 1) := by decide +kernel
theorem dX8_treads_57 : decode cX8_treads 57 = .ok (.getfield 49, 3) := by decide +kernel
theorem dX8_treads_60 : decode cX8_treads 60 = .ok (.iload_n 1, 1) := by decide +kernel
theorem dX8_treads_61 : decode cX8_treads 61 = .ok (.aload_n 0, 1) := by decide +kernel
theorem dX8_treads_62 : decode cX8_treads 62 = .ok (.getfield 49, 3) := by decide +kernel
theorem dX8_treads_65 : decode cX8_treads 65 = .ok (.iload_n 1, 1) := by decide +kernel
theorem dX8_treads_66 : decode cX8_treads 66 = .ok (.iaload, 1) := by decide +kernel
theorem dX8_treads_67 : decode cX8_treads 67 = .ok (.iconst 1, 1) := by decide +kernel
theorem dX8_treads_68 : decode cX8_treads 68 = .ok (.iadd, 1) := by decide +kernel
theorem dX8_treads_69 : decode cX8_treads 69 = .ok (.bipush 30, 2) := by decide +kernel
theorem dX8_treads_71 : decode cX8_treads 71 = .ok (.invokestatic 135, 3) := by decide +kernel
theorem dX8_treads_74 : decode cX8_treads 74 = .ok (.iastore, 1) := by decide +kernel
theorem dX8_treads_75 : decode cX8_treads 75 = .ok (.return_, 1) := by decide +kernel
theorem dX8_walks_0 : decode cX8_walks 0 = .ok (.aload_n 0, 1) := by decide +kernel
theorem dX8_walks_1 : decode cX8_walks 1 = .ok (.iconst 0, 1) := by decide +kernel
theorem dX8_walks_2 : decode cX8_walks 2 = .ok (.invokevirtual 191, 3) := by decide +kernel
theorem dX8_walks_5 : decode cX8_walks 5 = .ok (.aload_n 0, 1) := by decide +kernel
theorem dX8_walks_6 : decode cX8_walks 6 = .ok (.getfield 40, 3) := by decide +kernel
theorem dX8_walks_9 : decode cX8_walks 9 = .ok (.iload_n 1, 1) := by decide +kernel
theorem dX8_walks_10 : decode cX8_walks 10 = .ok (.iaload, 1) := by decide +kernel
theorem dX8_walks_11 : decode cX8_walks 11 = .ok (.istore_n 2, 1) := by decide +kernel
theorem dX8_walks_12 : decode cX8_walks 12 = .ok (.aload_n 0, 1) := by decide +kernel
theorem dX8_walks_13 : decode cX8_walks 13 = .ok (.getfield 155, 3) := by decide +kernel
theorem dX8_walks_16 : decode cX8_walks 16 = .ok (.istore_n 3, 1) := by decide +kernel
theorem dX8_walks_17 : decode cX8_walks 17 = .ok (.aload_n 0, 1) := by decide +kernel
theorem dX8_walks_18 : decode cX8_walks 18 = .ok (.iload_n 2, 1) := by decide +kernel
theorem dX8_walks_19 : decode cX8_walks 19 = .ok (.aload_n 0, 1) := by decide +kernel
theorem dX8_walks_20 : decode cX8_walks 20 = .ok (.getfield 43, 3) := by decide +kernel
theorem dX8_walks_23 : decode cX8_walks 23 = .ok (.iload_n 1, 1) := by decide +kernel
theorem dX8_walks_24 : decode cX8_walks 24 = .ok (.iaload, 1) := by decide +kernel
theorem dX8_walks_25 : decode cX8_walks 25 = .ok (.invokevirtual 195, 3) := by decide +kernel
theorem dX8_walks_28 : decode cX8_walks 28 = .ok (.istore 4, 2) := by decide +kernel
theorem dX8_walks_30 : decode cX8_walks 30 = .ok (.iconst 0, 1) := by decide +kernel
theorem dX8_walks_31 : decode cX8_walks 31 = .ok (.istore 5, 2) := by decide +kernel
theorem dX8_walks_33 : decode cX8_walks 33 = .ok (.iload 4, 2) := by decide +kernel
theorem dX8_walks_35 : decode cX8_walks 35 = .ok (.ifCond .eq 73, 3) := by decide +kernel
theorem dX8_walks_38 : decode cX8_walks 38 = .ok (.iload_n 2, 1) := by decide +kernel
theorem dX8_walks_39 : decode cX8_walks 39 = .ok (.aload_n 0, 1) := by decide +kernel
theorem dX8_walks_40 : decode cX8_walks 40 = .ok (.getfield 43, 3) := by decide +kernel
theorem dX8_walks_43 : decode cX8_walks 43 = .ok (.iload_n 1, 1) := by decide +kernel
theorem dX8_walks_44 : decode cX8_walks 44 = .ok (.iaload, 1) := by decide +kernel
theorem dX8_walks_45 : decode cX8_walks 45 = .ok (.if_icmp .eq 63, 3) := by decide +kernel
theorem dX8_walks_48 : decode cX8_walks 48 = .ok (.aload_n 0, 1) := by decide +kernel
theorem dX8_walks_49 : decode cX8_walks 49 = .ok (.getfield 66, 3) := by decide +kernel
theorem dX8_walks_52 : decode cX8_walks 52 = .ok (.iload 5, 2) := by decide +kernel
theorem dX8_walks_54 : decode cX8_walks 54 = .ok (.iaload, 1) := by decide +kernel
theorem dX8_walks_55 : decode cX8_walks 55 = .ok (.istore 6, 2) := by decide +kernel
theorem dX8_walks_57 : decode cX8_walks 57 = .ok (.aload_n 0, 1) := by decide +kernel
theorem dX8_walks_58 : decode cX8_walks 58 = .ok (.iload 6, 2) := by decide +kernel
theorem dX8_walks_60 : decode cX8_walks 60 = .ok (.invokevirtual 164, 3) := by decide +kernel
theorem dX8_walks_63 : decode cX8_walks 63 = .ok (.ifCond .eq 30, 3) := by decide +kernel
theorem dX8_walks_66 : decode cX8_walks 66 = .ok (.aload_n 0, 1) := by decide +kernel
theorem dX8_walks_67 : decode cX8_walks 67 = .ok (.getfield 55, 3) := by decide +kernel
theorem dX8_walks_70 : decode cX8_walks 70 = .ok (.iload 6, 2) := by decide +kernel
theorem dX8_walks_72 : decode cX8_walks 72 = .ok (.iconst 1, 1) := by decide +kernel
theorem dX8_walks_73 : decode cX8_walks 73 = .ok (.bastore, 1) := by decide +kernel
theorem dX8_walks_74 : decode cX8_walks 74 = .ok (.aload_n 0, 1) := by decide +kernel
theorem dX8_walks_75 : decode cX8_walks 75 = .ok (.iload_n 2, 1) := by decide +kernel
theorem dX8_walks_76 : decode cX8_walks 76 = .ok (.aload_n 0, 1) := by decide +kernel
theorem dX8_walks_77 : decode cX8_walks 77 = .ok (.getfield 43, 3) := by decide +kernel
theorem dX8_walks_80 : decode cX8_walks 80 = .ok (.iload_n 1, 1) := by decide +kernel
theorem dX8_walks_81 : decode cX8_walks 81 = .ok (.iaload, 1) := by decide +kernel
theorem dX8_walks_82 : decode cX8_walks 82 = .ok (.invokevirtual 195, 3) := by decide +kernel
theorem dX8_walks_85 : decode cX8_walks 85 = .ok (.istore 4, 2) := by decide +kernel
theorem dX8_walks_87 : decode cX8_walks 87 = .ok (.iconst 0, 1) := by decide +kernel
theorem dX8_walks_88 : decode cX8_walks 88 = .ok (.istore 5, 2) := by decide +kernel
theorem dX8_walks_90 : decode cX8_walks 90 = .ok (.goto 15, 3) := by decide +kernel
theorem dX8_walks_93 : decode cX8_walks 93 = .ok (.aload_n 0, 1) := by decide +kernel
theorem dX8_walks_94 : decode cX8_walks 94 = .ok (.iload 6, 2) := by decide +kernel
theorem dX8_walks_96 : decode cX8_walks 96 = .ok (.invokevirtual 202, 3) := by decide +kernel
theorem dX8_walks_99 : decode cX8_walks 99 = .ok (.iload 6, 2) := by decide +kernel
theorem dX8_walks_101 : decode cX8_walks 101 = .ok (.istore_n 2, 1) := by decide +kernel
theorem dX8_walks_102 : decode cX8_walks 102 = .ok (.iinc 5 1, 3) := by decide +kernel
theorem dX8_walks_105 : decode cX8_walks 105 = .ok (.goto (-72), 3) := by decide +kernel
theorem dX8_walks_108 : decode cX8_walks 108 = .ok (.aload_n 0, 1) := by decide +kernel
theorem dX8_walks_109 : decode cX8_walks 109 = .ok (.dup, 1) := by decide +kernel
theorem dX8_walks_110 : decode cX8_walks 110 = .ok (.getfield 158, 3) := by decide +kernel
theorem dX8_walks_113 : decode cX8_walks 113 = .ok (.iload 4, 2) := by decide +kernel
theorem dX8_walks_115 : decode cX8_walks 115 = .ok (.ifCond .eq 7, 3) := by decide +kernel
theorem dX8_walks_118 : decode cX8_walks 118 = .ok (.iconst 0, 1) := by decide +kernel
theorem dX8_walks_119 : decode cX8_walks 119 = .ok (.goto 4, 3) := by decide +kernel
theorem dX8_walks_122 : decode cX8_walks 122 = .ok (.iconst 1, 1) := by decide +kernel
theorem dX8_walks_123 : decode cX8_walks 123 = .ok (.iadd, 1) := by decide +kernel
theorem dX8_walks_124 : decode cX8_walks 124 = .ok (.putfield 158, 3) := by decide +kernel
theorem dX8_walks_127 : decode cX8_walks 127 = .ok (.iload 4, 2) := by decide +kernel
theorem dX8_walks_129 : decode cX8_walks 129 = .ok (.ifCond .eq 24, 3) := by decide +kernel
theorem dX8_walks_132 : decode cX8_walks 132 = .ok (.aload_n 0, 1) := by decide +kernel
theorem dX8_walks_133 : decode cX8_walks 133 = .ok (.dup, 1) := by decide +kernel
theorem dX8_walks_134 : decode cX8_walks 134 = .ok (.getfield 161, 3) := by decide +kernel
theorem dX8_walks_137 : decode cX8_walks 137 = .ok (.aload_n 0, 1) := by decide +kernel
theorem dX8_walks_138 : decode cX8_walks 138 = .ok (.getfield 155, 3) := by decide +kernel
theorem dX8_walks_141 : decode cX8_walks 141 = .ok (.iload_n 3, 1) := by decide +kernel
theorem dX8_walks_142 : decode cX8_walks 142 = .ok (.isub, 1) := by decide +kernel
theorem dX8_walks_143 : decode cX8_walks 143 = .ok (.aload_n 0, 1) := by decide +kernel
theorem dX8_walks_144 : decode cX8_walks 144 = .ok (.iload_n 1, 1) := by decide +kernel
theorem dX8_walks_145 : decode cX8_walks 145 = .ok (.invokevirtual 206, 3) := by decide +kernel
theorem dX8_walks_148 : decode cX8_walks 148 = .ok (.isub, 1) := by decide +kernel
theorem dX8_walks_149 : decode cX8_walks 149 = .ok (.iadd, 1) := by decide +kernel
theorem dX8_walks_150 : decode cX8_walks 150 = .ok (.putfield 161, 3) := by decide +kernel
theorem dX8_walks_153 : decode cX8_walks 153 = .ok (.return_, 1) := by decide +kernel
theorem dX8_straightOf_0 : decode cX8_straightOf 0 = .ok (.aload_n 0, 1) := by decide +kernel
theorem dX8_straightOf_1 : decode cX8_straightOf 1 = .ok (.iconst 1, 1) := by decide +kernel
theorem dX8_straightOf_2 : decode cX8_straightOf 2 = .ok (.invokevirtual 191, 3) := by decide +kernel
theorem dX8_straightOf_5 : decode cX8_straightOf 5 = .ok (.aload_n 0, 1) := by decide +kernel
theorem dX8_straightOf_6 : decode cX8_straightOf 6 = .ok (.aload_n 0, 1) := by decide +kernel
theorem dX8_straightOf_7 : decode cX8_straightOf 7 = .ok (.getfield 43, 3) := by decide +kernel
theorem dX8_straightOf_10 : decode cX8_straightOf 10 = .ok (.iload_n 1, 1) := by decide +kernel
theorem dX8_straightOf_11 : decode cX8_straightOf 11 = .ok (.iaload, 1) := by decide +kernel
theorem dX8_straightOf_12 : decode cX8_straightOf 12 = .ok (.iconst 1, 1) := by decide +kernel
theorem dX8_straightOf_13 : decode cX8_straightOf 13 = .ok (.invokevirtual 175, 3) := by decide +kernel
theorem dX8_straightOf_16 : decode cX8_straightOf 16 = .ok (.aload_n 0, 1) := by decide +kernel
theorem dX8_straightOf_17 : decode cX8_straightOf 17 = .ok (.aload_n 0, 1) := by decide +kernel
theorem dX8_straightOf_18 : decode cX8_straightOf 18 = .ok (.getfield 40, 3) := by decide +kernel
theorem dX8_straightOf_21 : decode cX8_straightOf 21 = .ok (.iload_n 1, 1) := by decide +kernel
theorem dX8_straightOf_22 : decode cX8_straightOf 22 = .ok (.iaload, 1) := by decide +kernel
theorem dX8_straightOf_23 : decode cX8_straightOf 23 = .ok (.invokevirtual 182, 3) := by decide +kernel
theorem dX8_straightOf_26 : decode cX8_straightOf 26 = .ok (.ifCond .eq 33, 3) := by decide +kernel
theorem dX8_straightOf_29 : decode cX8_straightOf 29 = .ok (.aload_n 0, 1) := by decide +kernel
theorem dX8_straightOf_30 : decode cX8_straightOf 30 = .ok (.getfield 63, 3) := by decide +kernel
theorem dX8_straightOf_33 : decode cX8_straightOf 33 = .ok (.aload_n 0, 1) := by decide +kernel
theorem dX8_straightOf_34 : decode cX8_straightOf 34 = .ok (.getfield 40, 3) := by decide +kernel
theorem dX8_straightOf_37 : decode cX8_straightOf 37 = .ok (.iload_n 1, 1) := by decide +kernel
theorem dX8_straightOf_38 : decode cX8_straightOf 38 = .ok (.iaload, 1) := by decide +kernel
theorem dX8_straightOf_39 : decode cX8_straightOf 39 = .ok (.iaload, 1) := by decide +kernel
theorem dX8_straightOf_40 : decode cX8_straightOf 40 = .ok (.ldc 170, 2) := by decide +kernel
theorem dX8_straightOf_42 : decode cX8_straightOf 42 = .ok (.if_icmp .ge 17, 3) := by decide +kernel
theorem dX8_straightOf_45 : decode cX8_straightOf 45 = .ok (.aload_n 0, 1) := by decide +kernel
theorem dX8_straightOf_46 : decode cX8_straightOf 46 = .ok (.getfield 63, 3) := by decide +kernel
theorem dX8_straightOf_49 : decode cX8_straightOf 49 = .ok (.aload_n 0, 1) := by decide +kernel
theorem dX8_straightOf_50 : decode cX8_straightOf 50 = .ok (.getfield 40, 3) := by decide +kernel
theorem dX8_straightOf_53 : decode cX8_straightOf 53 = .ok (.iload_n 1, 1) := by decide +kernel
theorem dX8_straightOf_54 : decode cX8_straightOf 54 = .ok (.iaload, 1) := by decide +kernel
theorem dX8_straightOf_55 : decode cX8_straightOf 55 = .ok (.iaload, 1) := by decide +kernel
theorem dX8_straightOf_56 : decode cX8_straightOf 56 = .ok (.goto 4, 3) := by decide +kernel
theorem dX8_straightOf_59 : decode cX8_straightOf 59 = .ok (.iconst (-1), 1) := by decide +kernel
theorem dX8_straightOf_60 : decode cX8_straightOf 60 = .ok (.ireturn, 1) := by decide +kernel
theorem dX8_becomes_0 : decode cX8_becomes 0 = .ok (.iconst 0, 1) := by decide +kernel
theorem dX8_becomes_1 : decode cX8_becomes 1 = .ok (.istore_n 1, 1) := by decide +kernel
theorem dX8_becomes_2 : decode cX8_becomes 2 = .ok (.iload_n 1, 1) := by decide +kernel
theorem dX8_becomes_3 : decode cX8_becomes 3 = .ok (.bipush 64, 2) := by decide +kernel
theorem dX8_becomes_5 : decode cX8_becomes 5 = .ok (.if_icmp .ge 48, 3) := by decide +kernel
theorem dX8_becomes_8 : decode cX8_becomes 8 = .ok (.aload_n 0, 1) := by decide +kernel
theorem dX8_becomes_9 : decode cX8_becomes 9 = .ok (.getfield 28, 3) := by decide +kernel
theorem dX8_becomes_12 : decode cX8_becomes 12 = .ok (.iload_n 1, 1) := by decide +kernel
theorem dX8_becomes_13 : decode cX8_becomes 13 = .ok (.aload_n 0, 1) := by decide +kernel
theorem dX8_becomes_14 : decode cX8_becomes 14 = .ok (.getfield 46, 3) := by decide +kernel
theorem dX8_becomes_17 : decode cX8_becomes 17 = .ok (.iload_n 1, 1) := by decide +kernel
theorem dX8_becomes_18 : decode cX8_becomes 18 = .ok (.iaload, 1) := by decide +kernel
theorem dX8_becomes_19 : decode cX8_becomes 19 = .ok (.iastore, 1) := by decide +kernel
theorem dX8_becomes_20 : decode cX8_becomes 20 = .ok (.aload_n 0, 1) := by decide +kernel
theorem dX8_becomes_21 : decode cX8_becomes 21 = .ok (.getfield 31, 3) := by decide +kernel
theorem dX8_becomes_24 : decode cX8_becomes 24 = .ok (.iload_n 1, 1) := by decide +kernel
theorem dX8_becomes_25 : decode cX8_becomes 25 = .ok (.aload_n 0, 1) := by decide +kernel
theorem dX8_becomes_26 : decode cX8_becomes 26 = .ok (.getfield 49, 3) := by decide +kernel
theorem dX8_becomes_29 : decode cX8_becomes 29 = .ok (.iload_n 1, 1) := by decide +kernel
theorem dX8_becomes_30 : decode cX8_becomes 30 = .ok (.iaload, 1) := by decide +kernel
theorem dX8_becomes_31 : decode cX8_becomes 31 = .ok (.iastore, 1) := by decide +kernel
theorem dX8_becomes_32 : decode cX8_becomes 32 = .ok (.aload_n 0, 1) := by decide +kernel
theorem dX8_becomes_33 : decode cX8_becomes 33 = .ok (.getfield 37, 3) := by decide +kernel
theorem dX8_becomes_36 : decode cX8_becomes 36 = .ok (.iload_n 1, 1) := by decide +kernel
theorem dX8_becomes_37 : decode cX8_becomes 37 = .ok (.dup2, 1) := by decide +kernel
theorem dX8_becomes_38 : decode cX8_becomes 38 = .ok (.iaload, 1) := by decide +kernel
theorem dX8_becomes_39 : decode cX8_becomes 39 = .ok (.aload_n 0, 1) := by decide +kernel
theorem dX8_becomes_40 : decode cX8_becomes 40 = .ok (.getfield 52, 3) := by decide +kernel
theorem dX8_becomes_43 : decode cX8_becomes 43 = .ok (.iload_n 1, 1) := by decide +kernel
theorem dX8_becomes_44 : decode cX8_becomes 44 = .ok (.iaload, 1) := by decide +kernel
theorem dX8_becomes_45 : decode cX8_becomes 45 = .ok (.iadd, 1) := by decide +kernel
theorem dX8_becomes_46 : decode cX8_becomes 46 = .ok (.iastore, 1) := by decide +kernel
theorem dX8_becomes_47 : decode cX8_becomes 47 = .ok (.iinc 1 1, 3) := by decide +kernel
theorem dX8_becomes_50 : decode cX8_becomes 50 = .ok (.goto (-48), 3) := by decide +kernel
theorem dX8_becomes_53 : decode cX8_becomes 53 = .ok (.aload_n 0, 1) := by decide +kernel
theorem dX8_becomes_54 : decode cX8_becomes 54 = .ok (.getfield 152, 3) := by decide +kernel
theorem dX8_becomes_57 : decode cX8_becomes 57 = .ok (.ireturn, 1) := by decide +kernel
theorem dX8_walk_0 : decode cX8_walk 0 = .ok (.aload_n 0, 1) := by decide +kernel
theorem dX8_walk_1 : decode cX8_walk 1 = .ok (.iload_n 1, 1) := by decide +kernel
theorem dX8_walk_2 : decode cX8_walk 2 = .ok (.invokevirtual 209, 3) := by decide +kernel
theorem dX8_walk_5 : decode cX8_walk 5 = .ok (.ifCond .ne 6, 3) := by decide +kernel
theorem dX8_walk_8 : decode cX8_walk 8 = .ok (.bipush (-2), 2) := by decide +kernel
theorem dX8_walk_10 : decode cX8_walk 10 = .ok (.ireturn, 1) := by decide +kernel
theorem dX8_walk_11 : decode cX8_walk 11 = .ok (.aload_n 0, 1) := by decide +kernel
theorem dX8_walk_12 : decode cX8_walk 12 = .ok (.invokevirtual 188, 3) := by decide +kernel
theorem dX8_walk_15 : decode cX8_walk 15 = .ok (.aload_n 0, 1) := by decide +kernel
theorem dX8_walk_16 : decode cX8_walk 16 = .ok (.iload_n 1, 1) := by decide +kernel
theorem dX8_walk_17 : decode cX8_walk 17 = .ok (.invokevirtual 212, 3) := by decide +kernel
theorem dX8_walk_20 : decode cX8_walk 20 = .ok (.aload_n 0, 1) := by decide +kernel
theorem dX8_walk_21 : decode cX8_walk 21 = .ok (.invokevirtual 215, 3) := by decide +kernel
theorem dX8_walk_24 : decode cX8_walk 24 = .ok (.ireturn, 1) := by decide +kernel
theorem dX8_mornings_0 : decode cX8_mornings 0 = .ok (.iconst 0, 1) := by decide +kernel
theorem dX8_mornings_1 : decode cX8_mornings 1 = .ok (.istore_n 1, 1) := by decide +kernel
theorem dX8_mornings_2 : decode cX8_mornings 2 = .ok (.iload_n 1, 1) := by decide +kernel
theorem dX8_mornings_3 : decode cX8_mornings 3 = .ok (.aload_n 0, 1) := by decide +kernel
theorem dX8_mornings_4 : decode cX8_mornings 4 = .ok (.getfield 146, 3) := by decide +kernel
theorem dX8_mornings_7 : decode cX8_mornings 7 = .ok (.if_icmp .ge 14, 3) := by decide +kernel
theorem dX8_mornings_10 : decode cX8_mornings 10 = .ok (.aload_n 0, 1) := by decide +kernel
theorem dX8_mornings_11 : decode cX8_mornings 11 = .ok (.iload_n 1, 1) := by decide +kernel
theorem dX8_mornings_12 : decode cX8_mornings 12 = .ok (.invokevirtual 212, 3) := by decide +kernel
theorem dX8_mornings_15 : decode cX8_mornings 15 = .ok (.iinc 1 1, 3) := by decide +kernel
theorem dX8_mornings_18 : decode cX8_mornings 18 = .ok (.goto (-16), 3) := by decide +kernel
theorem dX8_mornings_21 : decode cX8_mornings 21 = .ok (.return_, 1) := by decide +kernel
theorem dX8_morning_0 : decode cX8_morning 0 = .ok (.aload_n 0, 1) := by decide +kernel
theorem dX8_morning_1 : decode cX8_morning 1 = .ok (.invokevirtual 188, 3) := by decide +kernel
theorem dX8_morning_4 : decode cX8_morning 4 = .ok (.aload_n 0, 1) := by decide +kernel
theorem dX8_morning_5 : decode cX8_morning 5 = .ok (.invokevirtual 218, 3) := by decide +kernel
theorem dX8_morning_8 : decode cX8_morning 8 = .ok (.aload_n 0, 1) := by decide +kernel
theorem dX8_morning_9 : decode cX8_morning 9 = .ok (.invokevirtual 215, 3) := by decide +kernel
theorem dX8_morning_12 : decode cX8_morning 12 = .ok (.ireturn, 1) := by decide +kernel
theorem dX8_allOf_0 : decode cX8_allOf 0 = .ok (.aload_n 0, 1) := by decide +kernel
theorem dX8_allOf_1 : decode cX8_allOf 1 = .ok (.invokevirtual 188, 3) := by decide +kernel
theorem dX8_allOf_4 : decode cX8_allOf 4 = .ok (.aload_n 0, 1) := by decide +kernel
theorem dX8_allOf_5 : decode cX8_allOf 5 = .ok (.invokevirtual 218, 3) := by decide +kernel
theorem dX8_allOf_8 : decode cX8_allOf 8 = .ok (.iconst 0, 1) := by decide +kernel
theorem dX8_allOf_9 : decode cX8_allOf 9 = .ok (.istore_n 2, 1) := by decide +kernel
theorem dX8_allOf_10 : decode cX8_allOf 10 = .ok (.iconst 0, 1) := by decide +kernel
theorem dX8_allOf_11 : decode cX8_allOf 11 = .ok (.istore_n 3, 1) := by decide +kernel
theorem dX8_allOf_12 : decode cX8_allOf 12 = .ok (.iload_n 3, 1) := by decide +kernel
theorem dX8_allOf_13 : decode cX8_allOf 13 = .ok (.bipush 64, 2) := by decide +kernel
theorem dX8_allOf_15 : decode cX8_allOf 15 = .ok (.if_icmp .ge 26, 3) := by decide +kernel
theorem dX8_allOf_18 : decode cX8_allOf 18 = .ok (.iload_n 2, 1) := by decide +kernel
theorem dX8_allOf_19 : decode cX8_allOf 19 = .ok (.aload_n 0, 1) := by decide +kernel
theorem dX8_allOf_20 : decode cX8_allOf 20 = .ok (.getfield 52, 3) := by decide +kernel
theorem dX8_allOf_23 : decode cX8_allOf 23 = .ok (.iload_n 3, 1) := by decide +kernel
theorem dX8_allOf_24 : decode cX8_allOf 24 = .ok (.iaload, 1) := by decide +kernel
theorem dX8_allOf_25 : decode cX8_allOf 25 = .ok (.ifCond .le 7, 3) := by decide +kernel
theorem dX8_allOf_28 : decode cX8_allOf 28 = .ok (.iconst 1, 1) := by decide +kernel
theorem dX8_allOf_29 : decode cX8_allOf 29 = .ok (.goto 4, 3) := by decide +kernel
theorem dX8_allOf_32 : decode cX8_allOf 32 = .ok (.iconst 0, 1) := by decide +kernel
theorem dX8_allOf_33 : decode cX8_allOf 33 = .ok (.iadd, 1) := by decide +kernel
theorem dX8_allOf_34 : decode cX8_allOf 34 = .ok (.istore_n 2, 1) := by decide +kernel
theorem dX8_allOf_35 : decode cX8_allOf 35 = .ok (.iinc 3 1, 3) := by decide +kernel
theorem dX8_allOf_38 : decode cX8_allOf 38 = .ok (.goto (-26), 3) := by decide +kernel
theorem dX8_allOf_41 : decode cX8_allOf 41 = .ok (.iload_n 1, 1) := by decide +kernel
theorem dX8_allOf_42 : decode cX8_allOf 42 = .ok (.ifCond .ne 10, 3) := by decide +kernel
theorem dX8_allOf_45 : decode cX8_allOf 45 = .ok (.aload_n 0, 1) := by decide +kernel
theorem dX8_allOf_46 : decode cX8_allOf 46 = .ok (.getfield 152, 3) := by decide +kernel
theorem dX8_allOf_49 : decode cX8_allOf 49 = .ok (.goto 28, 3) := by decide +kernel
theorem dX8_allOf_52 : decode cX8_allOf 52 = .ok (.iload_n 1, 1) := by decide +kernel
theorem dX8_allOf_53 : decode cX8_allOf 53 = .ok (.iconst 1, 1) := by decide +kernel
theorem dX8_allOf_54 : decode cX8_allOf 54 = .ok (.if_icmp .ne 10, 3) := by decide +kernel
theorem dX8_allOf_57 : decode cX8_allOf 57 = .ok (.aload_n 0, 1) := by decide +kernel
theorem dX8_allOf_58 : decode cX8_allOf 58 = .ok (.getfield 155, 3) := by decide +kernel
theorem dX8_allOf_61 : decode cX8_allOf 61 = .ok (.goto 16, 3) := by decide +kernel
theorem dX8_allOf_64 : decode cX8_allOf 64 = .ok (.iload_n 1, 1) := by decide +kernel
theorem dX8_allOf_65 : decode cX8_allOf 65 = .ok (.iconst 2, 1) := by decide +kernel
theorem dX8_allOf_66 : decode cX8_allOf 66 = .ok (.if_icmp .ne 7, 3) := by decide +kernel
theorem dX8_allOf_69 : decode cX8_allOf 69 = .ok (.iload_n 2, 1) := by decide +kernel
theorem dX8_allOf_70 : decode cX8_allOf 70 = .ok (.goto 7, 3) := by decide +kernel
theorem dX8_allOf_73 : decode cX8_allOf 73 = .ok (.aload_n 0, 1) := by decide +kernel
theorem dX8_allOf_74 : decode cX8_allOf 74 = .ok (.getfield 158, 3) := by decide +kernel
theorem dX8_allOf_77 : decode cX8_allOf 77 = .ok (.ireturn, 1) := by decide +kernel
theorem dX8_all_0 : decode cX8_all 0 = .ok (.iload_n 1, 1) := by decide +kernel
theorem dX8_all_1 : decode cX8_all 1 = .ok (.i2l, 1) := by decide +kernel
theorem dX8_all_2 : decode cX8_all 2 = .ok (.lconst 0, 1) := by decide +kernel
theorem dX8_all_3 : decode cX8_all 3 = .ok (.ldc2_w 89, 3) := by decide +kernel
theorem dX8_all_6 : decode cX8_all 6 = .ok (.invokestatic 80, 3) := by decide +kernel
theorem dX8_all_9 : decode cX8_all 9 = .ok (.ifCond .eq 11, 3) := by decide +kernel
theorem dX8_all_12 : decode cX8_all 12 = .ok (.aload_n 0, 1) := by decide +kernel
theorem dX8_all_13 : decode cX8_all 13 = .ok (.iload_n 1, 1) := by decide +kernel
theorem dX8_all_14 : decode cX8_all 14 = .ok (.invokevirtual 221, 3) := by decide +kernel
theorem dX8_all_17 : decode cX8_all 17 = .ok (.goto 5, 3) := by decide +kernel
theorem dX8_all_20 : decode cX8_all 20 = .ok (.bipush (-2), 2) := by decide +kernel
theorem dX8_all_22 : decode cX8_all 22 = .ok (.ireturn, 1) := by decide +kernel
theorem dX8_straight_0 : decode cX8_straight 0 = .ok (.aload_n 0, 1) := by decide +kernel
theorem dX8_straight_1 : decode cX8_straight 1 = .ok (.iload_n 1, 1) := by decide +kernel
theorem dX8_straight_2 : decode cX8_straight 2 = .ok (.invokevirtual 209, 3) := by decide +kernel
theorem dX8_straight_5 : decode cX8_straight 5 = .ok (.ifCond .ne 6, 3) := by decide +kernel
theorem dX8_straight_8 : decode cX8_straight 8 = .ok (.bipush (-2), 2) := by decide +kernel
theorem dX8_straight_10 : decode cX8_straight 10 = .ok (.ireturn, 1) := by decide +kernel
theorem dX8_straight_11 : decode cX8_straight 11 = .ok (.aload_n 0, 1) := by decide +kernel
theorem dX8_straight_12 : decode cX8_straight 12 = .ok (.invokevirtual 188, 3) := by decide +kernel
theorem dX8_straight_15 : decode cX8_straight 15 = .ok (.aload_n 0, 1) := by decide +kernel
theorem dX8_straight_16 : decode cX8_straight 16 = .ok (.iload_n 1, 1) := by decide +kernel
theorem dX8_straight_17 : decode cX8_straight 17 = .ok (.invokevirtual 206, 3) := by decide +kernel
theorem dX8_straight_20 : decode cX8_straight 20 = .ok (.ireturn, 1) := by decide +kernel
theorem dX8_longerNow_0 : decode cX8_longerNow 0 = .ok (.aload_n 0, 1) := by decide +kernel
theorem dX8_longerNow_1 : decode cX8_longerNow 1 = .ok (.invokevirtual 188, 3) := by decide +kernel
theorem dX8_longerNow_4 : decode cX8_longerNow 4 = .ok (.aload_n 0, 1) := by decide +kernel
theorem dX8_longerNow_5 : decode cX8_longerNow 5 = .ok (.invokevirtual 218, 3) := by decide +kernel
theorem dX8_longerNow_8 : decode cX8_longerNow 8 = .ok (.aload_n 0, 1) := by decide +kernel
theorem dX8_longerNow_9 : decode cX8_longerNow 9 = .ok (.getfield 161, 3) := by decide +kernel
theorem dX8_longerNow_12 : decode cX8_longerNow 12 = .ok (.ireturn, 1) := by decide +kernel
theorem dX8_longer_0 : decode cX8_longer 0 = .ok (.aload_n 0, 1) := by decide +kernel
theorem dX8_longer_1 : decode cX8_longer 1 = .ok (.invokevirtual 224, 3) := by decide +kernel
theorem dX8_longer_4 : decode cX8_longer 4 = .ok (.ireturn, 1) := by decide +kernel
theorem dX8_codes_0 : decode cX8_codes 0 = .ok (.iconst 1, 1) := by decide +kernel
theorem dX8_codes_1 : decode cX8_codes 1 = .ok (.istore_n 1, 1) := by decide +kernel
theorem dX8_codes_2 : decode cX8_codes 2 = .ok (.iconst 0, 1) := by decide +kernel
theorem dX8_codes_3 : decode cX8_codes 3 = .ok (.istore_n 2, 1) := by decide +kernel
theorem dX8_codes_4 : decode cX8_codes 4 = .ok (.iload_n 2, 1) := by decide +kernel
theorem dX8_codes_5 : decode cX8_codes 5 = .ok (.aload_n 0, 1) := by decide +kernel
theorem dX8_codes_6 : decode cX8_codes 6 = .ok (.getfield 146, 3) := by decide +kernel
theorem dX8_codes_9 : decode cX8_codes 9 = .ok (.if_icmp .ge 16, 3) := by decide +kernel
theorem dX8_codes_12 : decode cX8_codes 12 = .ok (.iload_n 1, 1) := by decide +kernel
theorem dX8_codes_13 : decode cX8_codes 13 = .ok (.aload_n 0, 1) := by decide +kernel
theorem dX8_codes_14 : decode cX8_codes 14 = .ok (.getfield 146, 3) := by decide +kernel
theorem dX8_codes_17 : decode cX8_codes 17 = .ok (.imul, 1) := by decide +kernel
theorem dX8_codes_18 : decode cX8_codes 18 = .ok (.istore_n 1, 1) := by decide +kernel
theorem dX8_codes_19 : decode cX8_codes 19 = .ok (.iinc 2 1, 3) := by decide +kernel
theorem dX8_codes_22 : decode cX8_codes 22 = .ok (.goto (-18), 3) := by decide +kernel
theorem dX8_codes_25 : decode cX8_codes 25 = .ok (.iload_n 1, 1) := by decide +kernel
theorem dX8_codes_26 : decode cX8_codes 26 = .ok (.ireturn, 1) := by decide +kernel
theorem dX8_isOrder_0 : decode cX8_isOrder 0 = .ok (.iconst 0, 1) := by decide +kernel
theorem dX8_isOrder_1 : decode cX8_isOrder 1 = .ok (.istore_n 2, 1) := by decide +kernel
theorem dX8_isOrder_2 : decode cX8_isOrder 2 = .ok (.iload_n 1, 1) := by decide +kernel
theorem dX8_isOrder_3 : decode cX8_isOrder 3 = .ok (.istore_n 3, 1) := by decide +kernel
theorem dX8_isOrder_4 : decode cX8_isOrder 4 = .ok (.aload_n 0, 1) := by decide +kernel
theorem dX8_isOrder_5 : decode cX8_isOrder 5 = .ok (.getfield 146, 3) := by decide +kernel
theorem dX8_isOrder_8 : decode cX8_isOrder 8 = .ok (.iconst 1, 1) := by decide +kernel
theorem dX8_isOrder_9 : decode cX8_isOrder 9 = .ok (.isub, 1) := by decide +kernel
theorem dX8_isOrder_10 : decode cX8_isOrder 10 = .ok (.istore 4, 2) := by decide +kernel
theorem dX8_isOrder_12 : decode cX8_isOrder 12 = .ok (.iload 4, 2) := by decide +kernel
theorem dX8_isOrder_14 : decode cX8_isOrder 14 = .ok (.ifCond .lt 41, 3) := by decide +kernel
theorem dX8_isOrder_17 : decode cX8_isOrder 17 = .ok (.aload_n 0, 1) := by decide +kernel
theorem dX8_isOrder_18 : decode cX8_isOrder 18 = .ok (.getfield 69, 3) := by decide +kernel
theorem dX8_isOrder_21 : decode cX8_isOrder 21 = .ok (.iload 4, 2) := by decide +kernel
theorem dX8_isOrder_23 : decode cX8_isOrder 23 = .ok (.iload_n 3, 1) := by decide +kernel
theorem dX8_isOrder_24 : decode cX8_isOrder 24 = .ok (.aload_n 0, 1) := by decide +kernel
theorem dX8_isOrder_25 : decode cX8_isOrder 25 = .ok (.getfield 146, 3) := by decide +kernel
theorem dX8_isOrder_28 : decode cX8_isOrder 28 = .ok (.irem, 1) := by decide +kernel
theorem dX8_isOrder_29 : decode cX8_isOrder 29 = .ok (.iastore, 1) := by decide +kernel
theorem dX8_isOrder_30 : decode cX8_isOrder 30 = .ok (.iload_n 3, 1) := by decide +kernel
theorem dX8_isOrder_31 : decode cX8_isOrder 31 = .ok (.aload_n 0, 1) := by decide +kernel
theorem dX8_isOrder_32 : decode cX8_isOrder 32 = .ok (.getfield 146, 3) := by decide +kernel
theorem dX8_isOrder_35 : decode cX8_isOrder 35 = .ok (.idiv, 1) := by decide +kernel
theorem dX8_isOrder_36 : decode cX8_isOrder 36 = .ok (.istore_n 3, 1) := by decide +kernel
theorem dX8_isOrder_37 : decode cX8_isOrder 37 = .ok (.iload_n 2, 1) := by decide +kernel
theorem dX8_isOrder_38 : decode cX8_isOrder 38 = .ok (.iconst 1, 1) := by decide +kernel
theorem dX8_isOrder_39 : decode cX8_isOrder 39 = .ok (.aload_n 0, 1) := by decide +kernel
theorem dX8_isOrder_40 : decode cX8_isOrder 40 = .ok (.getfield 69, 3) := by decide +kernel
theorem dX8_isOrder_43 : decode cX8_isOrder 43 = .ok (.iload 4, 2) := by decide +kernel
theorem dX8_isOrder_45 : decode cX8_isOrder 45 = .ok (.iaload, 1) := by decide +kernel
theorem dX8_isOrder_46 : decode cX8_isOrder 46 = .ok (.ishl, 1) := by decide +kernel
theorem dX8_isOrder_47 : decode cX8_isOrder 47 = .ok (.ior, 1) := by decide +kernel
theorem dX8_isOrder_48 : decode cX8_isOrder 48 = .ok (.istore_n 2, 1) := by decide +kernel
theorem dX8_isOrder_49 : decode cX8_isOrder 49 = .ok (.iinc 4 (-1), 3) := by decide +kernel
theorem dX8_isOrder_52 : decode cX8_isOrder 52 = .ok (.goto (-40), 3) := by decide +kernel
theorem dX8_isOrder_55 : decode cX8_isOrder 55 = .ok (.iload_n 2, 1) := by decide +kernel
theorem dX8_isOrder_56 : decode cX8_isOrder 56 = .ok (.iconst 1, 1) := by decide +kernel
theorem dX8_isOrder_57 : decode cX8_isOrder 57 = .ok (.aload_n 0, 1) := by decide +kernel
theorem dX8_isOrder_58 : decode cX8_isOrder 58 = .ok (.getfield 146, 3) := by decide +kernel
theorem dX8_isOrder_61 : decode cX8_isOrder 61 = .ok (.ishl, 1) := by decide +kernel
theorem dX8_isOrder_62 : decode cX8_isOrder 62 = .ok (.iconst 1, 1) := by decide +kernel
theorem dX8_isOrder_63 : decode cX8_isOrder 63 = .ok (.isub, 1) := by decide +kernel
theorem dX8_isOrder_64 : decode cX8_isOrder 64 = .ok (.if_icmp .ne 7, 3) := by decide +kernel
theorem dX8_isOrder_67 : decode cX8_isOrder 67 = .ok (.iconst 1, 1) := by decide +kernel
theorem dX8_isOrder_68 : decode cX8_isOrder 68 = .ok (.goto 4, 3) := by decide +kernel
theorem dX8_isOrder_71 : decode cX8_isOrder 71 = .ok (.iconst 0, 1) := by decide +kernel
theorem dX8_isOrder_72 : decode cX8_isOrder 72 = .ok (.ireturn, 1) := by decide +kernel
theorem dX8_triesRow_0 : decode cX8_triesRow 0 = .ok (.aload_n 0, 1) := by decide +kernel
theorem dX8_triesRow_1 : decode cX8_triesRow 1 = .ok (.invokevirtual 149, 3) := by decide +kernel
theorem dX8_triesRow_4 : decode cX8_triesRow 4 = .ok (.iconst 0, 1) := by decide +kernel
theorem dX8_triesRow_5 : decode cX8_triesRow 5 = .ok (.istore_n 1, 1) := by decide +kernel
theorem dX8_triesRow_6 : decode cX8_triesRow 6 = .ok (.iload_n 1, 1) := by decide +kernel
theorem dX8_triesRow_7 : decode cX8_triesRow 7 = .ok (.aload_n 0, 1) := by decide +kernel
theorem dX8_triesRow_8 : decode cX8_triesRow 8 = .ok (.getfield 146, 3) := by decide +kernel
theorem dX8_triesRow_11 : decode cX8_triesRow 11 = .ok (.if_icmp .ge 19, 3) := by decide +kernel
theorem dX8_triesRow_14 : decode cX8_triesRow 14 = .ok (.aload_n 0, 1) := by decide +kernel
theorem dX8_triesRow_15 : decode cX8_triesRow 15 = .ok (.aload_n 0, 1) := by decide +kernel
theorem dX8_triesRow_16 : decode cX8_triesRow 16 = .ok (.getfield 69, 3) := by decide +kernel
theorem dX8_triesRow_19 : decode cX8_triesRow 19 = .ok (.iload_n 1, 1) := by decide +kernel
theorem dX8_triesRow_20 : decode cX8_triesRow 20 = .ok (.iaload, 1) := by decide +kernel
theorem dX8_triesRow_21 : decode cX8_triesRow 21 = .ok (.invokevirtual 212, 3) := by decide +kernel
theorem dX8_triesRow_24 : decode cX8_triesRow 24 = .ok (.iinc 1 1, 3) := by decide +kernel
theorem dX8_triesRow_27 : decode cX8_triesRow 27 = .ok (.goto (-21), 3) := by decide +kernel
theorem dX8_triesRow_30 : decode cX8_triesRow 30 = .ok (.return_, 1) := by decide +kernel
theorem dX8_keepsRow_0 : decode cX8_keepsRow 0 = .ok (.iconst 0, 1) := by decide +kernel
theorem dX8_keepsRow_1 : decode cX8_keepsRow 1 = .ok (.istore_n 1, 1) := by decide +kernel
theorem dX8_keepsRow_2 : decode cX8_keepsRow 2 = .ok (.iload_n 1, 1) := by decide +kernel
theorem dX8_keepsRow_3 : decode cX8_keepsRow 3 = .ok (.aload_n 0, 1) := by decide +kernel
theorem dX8_keepsRow_4 : decode cX8_keepsRow 4 = .ok (.getfield 146, 3) := by decide +kernel
theorem dX8_keepsRow_7 : decode cX8_keepsRow 7 = .ok (.if_icmp .ge 21, 3) := by decide +kernel
theorem dX8_keepsRow_10 : decode cX8_keepsRow 10 = .ok (.aload_n 0, 1) := by decide +kernel
theorem dX8_keepsRow_11 : decode cX8_keepsRow 11 = .ok (.getfield 72, 3) := by decide +kernel
theorem dX8_keepsRow_14 : decode cX8_keepsRow 14 = .ok (.iload_n 1, 1) := by decide +kernel
theorem dX8_keepsRow_15 : decode cX8_keepsRow 15 = .ok (.aload_n 0, 1) := by decide +kernel
theorem dX8_keepsRow_16 : decode cX8_keepsRow 16 = .ok (.getfield 69, 3) := by decide +kernel
theorem dX8_keepsRow_19 : decode cX8_keepsRow 19 = .ok (.iload_n 1, 1) := by decide +kernel
theorem dX8_keepsRow_20 : decode cX8_keepsRow 20 = .ok (.iaload, 1) := by decide +kernel
theorem dX8_keepsRow_21 : decode cX8_keepsRow 21 = .ok (.iastore, 1) := by decide +kernel
theorem dX8_keepsRow_22 : decode cX8_keepsRow 22 = .ok (.iinc 1 1, 3) := by decide +kernel
theorem dX8_keepsRow_25 : decode cX8_keepsRow 25 = .ok (.goto (-23), 3) := by decide +kernel
theorem dX8_keepsRow_28 : decode cX8_keepsRow 28 = .ok (.return_, 1) := by decide +kernel
theorem dX8_findOrders_0 : decode cX8_findOrders 0 = .ok (.aload_n 0, 1) := by decide +kernel
theorem dX8_findOrders_1 : decode cX8_findOrders 1 = .ok (.invokevirtual 188, 3) := by decide +kernel
theorem dX8_findOrders_4 : decode cX8_findOrders 4 = .ok (.aload_n 0, 1) := by decide +kernel
theorem dX8_findOrders_5 : decode cX8_findOrders 5 = .ok (.iconst (-1), 1) := by decide +kernel
theorem dX8_findOrders_6 : decode cX8_findOrders 6 = .ok (.putfield 227, 3) := by decide +kernel
theorem dX8_findOrders_9 : decode cX8_findOrders 9 = .ok (.aload_n 0, 1) := by decide +kernel
theorem dX8_findOrders_10 : decode cX8_findOrders 10 = .ok (.iconst (-1), 1) := by decide +kernel
theorem dX8_findOrders_11 : decode cX8_findOrders 11 = .ok (.putfield 230, 3) := by decide +kernel
theorem dX8_findOrders_14 : decode cX8_findOrders 14 = .ok (.iconst 0, 1) := by decide +kernel
theorem dX8_findOrders_15 : decode cX8_findOrders 15 = .ok (.istore_n 1, 1) := by decide +kernel
theorem dX8_findOrders_16 : decode cX8_findOrders 16 = .ok (.iload_n 1, 1) := by decide +kernel
theorem dX8_findOrders_17 : decode cX8_findOrders 17 = .ok (.aload_n 0, 1) := by decide +kernel
theorem dX8_findOrders_18 : decode cX8_findOrders 18 = .ok (.invokevirtual 233, 3) := by decide +kernel
theorem dX8_findOrders_21 : decode cX8_findOrders 21 = .ok (.if_icmp .ge 78, 3) := by decide +kernel
theorem dX8_findOrders_24 : decode cX8_findOrders 24 = .ok (.aload_n 0, 1) := by decide +kernel
theorem dX8_findOrders_25 : decode cX8_findOrders 25 = .ok (.iload_n 1, 1) := by decide +kernel
theorem dX8_findOrders_26 : decode cX8_findOrders 26 = .ok (.invokevirtual 236, 3) := by decide +kernel
theorem dX8_findOrders_29 : decode cX8_findOrders 29 = .ok (.ifCond .eq 64, 3) := by decide +kernel
theorem dX8_findOrders_32 : decode cX8_findOrders 32 = .ok (.aload_n 0, 1) := by decide +kernel
theorem dX8_findOrders_33 : decode cX8_findOrders 33 = .ok (.invokevirtual 239, 3) := by decide +kernel
theorem dX8_findOrders_36 : decode cX8_findOrders 36 = .ok (.aload_n 0, 1) := by decide +kernel
theorem dX8_findOrders_37 : decode cX8_findOrders 37 = .ok (.getfield 227, 3) := by decide +kernel
theorem dX8_findOrders_40 : decode cX8_findOrders 40 = .ok (.iconst (-1), 1) := by decide +kernel
theorem dX8_findOrders_41 : decode cX8_findOrders 41 = .ok (.if_icmp .eq 14, 3) := by decide +kernel
theorem dX8_findOrders_44 : decode cX8_findOrders 44 = .ok (.aload_n 0, 1) := by decide +kernel
theorem dX8_findOrders_45 : decode cX8_findOrders 45 = .ok (.getfield 152, 3) := by decide +kernel
theorem dX8_findOrders_48 : decode cX8_findOrders 48 = .ok (.aload_n 0, 1) := by decide +kernel
theorem dX8_findOrders_49 : decode cX8_findOrders 49 = .ok (.getfield 227, 3) := by decide +kernel
theorem dX8_findOrders_52 : decode cX8_findOrders 52 = .ok (.if_icmp .ge 15, 3) := by decide +kernel
theorem dX8_findOrders_55 : decode cX8_findOrders 55 = .ok (.aload_n 0, 1) := by decide +kernel
theorem dX8_findOrders_56 : decode cX8_findOrders 56 = .ok (.aload_n 0, 1) := by decide +kernel
theorem dX8_findOrders_57 : decode cX8_findOrders 57 = .ok (.getfield 152, 3) := by decide +kernel
theorem dX8_findOrders_60 : decode cX8_findOrders 60 = .ok (.putfield 227, 3) := by decide +kernel
theorem dX8_findOrders_63 : decode cX8_findOrders 63 = .ok (.aload_n 0, 1) := by decide +kernel
theorem dX8_findOrders_64 : decode cX8_findOrders 64 = .ok (.invokevirtual 242, 3) := by decide +kernel
theorem dX8_findOrders_67 : decode cX8_findOrders 67 = .ok (.aload_n 0, 1) := by decide +kernel
theorem dX8_findOrders_68 : decode cX8_findOrders 68 = .ok (.aload_n 0, 1) := by decide +kernel
theorem dX8_findOrders_69 : decode cX8_findOrders 69 = .ok (.getfield 152, 3) := by decide +kernel
theorem dX8_findOrders_72 : decode cX8_findOrders 72 = .ok (.aload_n 0, 1) := by decide +kernel
theorem dX8_findOrders_73 : decode cX8_findOrders 73 = .ok (.getfield 230, 3) := by decide +kernel
theorem dX8_findOrders_76 : decode cX8_findOrders 76 = .ok (.if_icmp .le 10, 3) := by decide +kernel
theorem dX8_findOrders_79 : decode cX8_findOrders 79 = .ok (.aload_n 0, 1) := by decide +kernel
theorem dX8_findOrders_80 : decode cX8_findOrders 80 = .ok (.getfield 152, 3) := by decide +kernel
theorem dX8_findOrders_83 : decode cX8_findOrders 83 = .ok (.goto 7, 3) := by decide +kernel
theorem dX8_findOrders_86 : decode cX8_findOrders 86 = .ok (.aload_n 0, 1) := by decide +kernel
theorem dX8_findOrders_87 : decode cX8_findOrders 87 = .ok (.getfield 230, 3) := by decide +kernel
theorem dX8_findOrders_90 : decode cX8_findOrders 90 = .ok (.putfield 230, 3) := by decide +kernel
theorem dX8_findOrders_93 : decode cX8_findOrders 93 = .ok (.iinc 1 1, 3) := by decide +kernel
theorem dX8_findOrders_96 : decode cX8_findOrders 96 = .ok (.goto (-80), 3) := by decide +kernel
theorem dX8_findOrders_99 : decode cX8_findOrders 99 = .ok (.return_, 1) := by decide +kernel
theorem dX8_orders_0 : decode cX8_orders 0 = .ok (.iload_n 1, 1) := by decide +kernel
theorem dX8_orders_1 : decode cX8_orders 1 = .ok (.invokestatic 245, 3) := by decide +kernel
theorem dX8_orders_4 : decode cX8_orders 4 = .ok (.ifCond .ne 6, 3) := by decide +kernel
theorem dX8_orders_7 : decode cX8_orders 7 = .ok (.bipush (-2), 2) := by decide +kernel
theorem dX8_orders_9 : decode cX8_orders 9 = .ok (.ireturn, 1) := by decide +kernel
theorem dX8_orders_10 : decode cX8_orders 10 = .ok (.aload_n 0, 1) := by decide +kernel
theorem dX8_orders_11 : decode cX8_orders 11 = .ok (.getfield 146, 3) := by decide +kernel
theorem dX8_orders_14 : decode cX8_orders 14 = .ok (.iconst 5, 1) := by decide +kernel
theorem dX8_orders_15 : decode cX8_orders 15 = .ok (.if_icmp .le 6, 3) := by decide +kernel
theorem dX8_orders_18 : decode cX8_orders 18 = .ok (.bipush (-4), 2) := by decide +kernel
theorem dX8_orders_20 : decode cX8_orders 20 = .ok (.ireturn, 1) := by decide +kernel
theorem dX8_orders_21 : decode cX8_orders 21 = .ok (.aload_n 0, 1) := by decide +kernel
theorem dX8_orders_22 : decode cX8_orders 22 = .ok (.invokevirtual 248, 3) := by decide +kernel
theorem dX8_orders_25 : decode cX8_orders 25 = .ok (.iload_n 1, 1) := by decide +kernel
theorem dX8_orders_26 : decode cX8_orders 26 = .ok (.ifCond .ne 10, 3) := by decide +kernel
theorem dX8_orders_29 : decode cX8_orders 29 = .ok (.aload_n 0, 1) := by decide +kernel
theorem dX8_orders_30 : decode cX8_orders 30 = .ok (.getfield 227, 3) := by decide +kernel
theorem dX8_orders_33 : decode cX8_orders 33 = .ok (.goto 7, 3) := by decide +kernel
theorem dX8_orders_36 : decode cX8_orders 36 = .ok (.aload_n 0, 1) := by decide +kernel
theorem dX8_orders_37 : decode cX8_orders 37 = .ok (.getfield 230, 3) := by decide +kernel
theorem dX8_orders_40 : decode cX8_orders 40 = .ok (.ireturn, 1) := by decide +kernel
theorem dX8_order_0 : decode cX8_order 0 = .ok (.iload_n 1, 1) := by decide +kernel
theorem dX8_order_1 : decode cX8_order 1 = .ok (.ifCond .ge 6, 3) := by decide +kernel
theorem dX8_order_4 : decode cX8_order 4 = .ok (.bipush (-2), 2) := by decide +kernel
theorem dX8_order_6 : decode cX8_order 6 = .ok (.ireturn, 1) := by decide +kernel
theorem dX8_order_7 : decode cX8_order 7 = .ok (.aload_n 0, 1) := by decide +kernel
theorem dX8_order_8 : decode cX8_order 8 = .ok (.getfield 146, 3) := by decide +kernel
theorem dX8_order_11 : decode cX8_order 11 = .ok (.iconst 5, 1) := by decide +kernel
theorem dX8_order_12 : decode cX8_order 12 = .ok (.if_icmp .le 6, 3) := by decide +kernel
theorem dX8_order_15 : decode cX8_order 15 = .ok (.bipush (-4), 2) := by decide +kernel
theorem dX8_order_17 : decode cX8_order 17 = .ok (.ireturn, 1) := by decide +kernel
theorem dX8_order_18 : decode cX8_order 18 = .ok (.iload_n 1, 1) := by decide +kernel
theorem dX8_order_19 : decode cX8_order 19 = .ok (.aload_n 0, 1) := by decide +kernel
theorem dX8_order_20 : decode cX8_order 20 = .ok (.getfield 146, 3) := by decide +kernel
theorem dX8_order_23 : decode cX8_order 23 = .ok (.if_icmp .lt 6, 3) := by decide +kernel
theorem dX8_order_26 : decode cX8_order 26 = .ok (.bipush (-2), 2) := by decide +kernel
theorem dX8_order_28 : decode cX8_order 28 = .ok (.ireturn, 1) := by decide +kernel
theorem dX8_order_29 : decode cX8_order 29 = .ok (.aload_n 0, 1) := by decide +kernel
theorem dX8_order_30 : decode cX8_order 30 = .ok (.invokevirtual 248, 3) := by decide +kernel
theorem dX8_order_33 : decode cX8_order 33 = .ok (.aload_n 0, 1) := by decide +kernel
theorem dX8_order_34 : decode cX8_order 34 = .ok (.getfield 72, 3) := by decide +kernel
theorem dX8_order_37 : decode cX8_order 37 = .ok (.iload_n 1, 1) := by decide +kernel
theorem dX8_order_38 : decode cX8_order 38 = .ok (.iaload, 1) := by decide +kernel
theorem dX8_order_39 : decode cX8_order 39 = .ok (.ireturn, 1) := by decide +kernel
theorem dX8_firstOf_0 : decode cX8_firstOf 0 = .ok (.aload_n 0, 1) := by decide +kernel
theorem dX8_firstOf_1 : decode cX8_firstOf 1 = .ok (.getfield 146, 3) := by decide +kernel
theorem dX8_firstOf_4 : decode cX8_firstOf 4 = .ok (.ifCond .ne 6, 3) := by decide +kernel
theorem dX8_firstOf_7 : decode cX8_firstOf 7 = .ok (.bipush (-3), 2) := by decide +kernel
theorem dX8_firstOf_9 : decode cX8_firstOf 9 = .ok (.ireturn, 1) := by decide +kernel
theorem dX8_firstOf_10 : decode cX8_firstOf 10 = .ok (.aload_n 0, 1) := by decide +kernel
theorem dX8_firstOf_11 : decode cX8_firstOf 11 = .ok (.invokevirtual 188, 3) := by decide +kernel
theorem dX8_firstOf_14 : decode cX8_firstOf 14 = .ok (.iconst (-1), 1) := by decide +kernel
theorem dX8_firstOf_15 : decode cX8_firstOf 15 = .ok (.istore_n 2, 1) := by decide +kernel
theorem dX8_firstOf_16 : decode cX8_firstOf 16 = .ok (.iconst 0, 1) := by decide +kernel
theorem dX8_firstOf_17 : decode cX8_firstOf 17 = .ok (.istore_n 3, 1) := by decide +kernel
theorem dX8_firstOf_18 : decode cX8_firstOf 18 = .ok (.iconst 0, 1) := by decide +kernel
theorem dX8_firstOf_19 : decode cX8_firstOf 19 = .ok (.istore 4, 2) := by decide +kernel
theorem dX8_firstOf_21 : decode cX8_firstOf 21 = .ok (.iload 4, 2) := by decide +kernel
theorem dX8_firstOf_23 : decode cX8_firstOf 23 = .ok (.aload_n 0, 1) := by decide +kernel
theorem dX8_firstOf_24 : decode cX8_firstOf 24 = .ok (.getfield 146, 3) := by decide +kernel
theorem dX8_firstOf_27 : decode cX8_firstOf 27 = .ok (.if_icmp .ge 71, 3) := by decide +kernel
theorem dX8_firstOf_30 : decode cX8_firstOf 30 = .ok (.aload_n 0, 1) := by decide +kernel
theorem dX8_firstOf_31 : decode cX8_firstOf 31 = .ok (.invokevirtual 149, 3) := by decide +kernel
theorem dX8_firstOf_34 : decode cX8_firstOf 34 = .ok (.aload_n 0, 1) := by decide +kernel
theorem dX8_firstOf_35 : decode cX8_firstOf 35 = .ok (.iload 4, 2) := by decide +kernel
theorem dX8_firstOf_37 : decode cX8_firstOf 37 = .ok (.invokevirtual 212, 3) := by decide +kernel
theorem dX8_firstOf_40 : decode cX8_firstOf 40 = .ok (.iconst 0, 1) := by decide +kernel
theorem dX8_firstOf_41 : decode cX8_firstOf 41 = .ok (.istore 5, 2) := by decide +kernel
theorem dX8_firstOf_43 : decode cX8_firstOf 43 = .ok (.iload 5, 2) := by decide +kernel
theorem dX8_firstOf_45 : decode cX8_firstOf 45 = .ok (.aload_n 0, 1) := by decide +kernel
theorem dX8_firstOf_46 : decode cX8_firstOf 46 = .ok (.getfield 146, 3) := by decide +kernel
theorem dX8_firstOf_49 : decode cX8_firstOf 49 = .ok (.if_icmp .ge 22, 3) := by decide +kernel
theorem dX8_firstOf_52 : decode cX8_firstOf 52 = .ok (.iload 5, 2) := by decide +kernel
theorem dX8_firstOf_54 : decode cX8_firstOf 54 = .ok (.iload 4, 2) := by decide +kernel
theorem dX8_firstOf_56 : decode cX8_firstOf 56 = .ok (.if_icmp .eq 9, 3) := by decide +kernel
theorem dX8_firstOf_59 : decode cX8_firstOf 59 = .ok (.aload_n 0, 1) := by decide +kernel
theorem dX8_firstOf_60 : decode cX8_firstOf 60 = .ok (.iload 5, 2) := by decide +kernel
theorem dX8_firstOf_62 : decode cX8_firstOf 62 = .ok (.invokevirtual 212, 3) := by decide +kernel
theorem dX8_firstOf_65 : decode cX8_firstOf 65 = .ok (.iinc 5 1, 3) := by decide +kernel
theorem dX8_firstOf_68 : decode cX8_firstOf 68 = .ok (.goto (-25), 3) := by decide +kernel
theorem dX8_firstOf_71 : decode cX8_firstOf 71 = .ok (.iload_n 2, 1) := by decide +kernel
theorem dX8_firstOf_72 : decode cX8_firstOf 72 = .ok (.iconst (-1), 1) := by decide +kernel
theorem dX8_firstOf_73 : decode cX8_firstOf 73 = .ok (.if_icmp .eq 11, 3) := by decide +kernel
theorem dX8_firstOf_76 : decode cX8_firstOf 76 = .ok (.aload_n 0, 1) := by decide +kernel
theorem dX8_firstOf_77 : decode cX8_firstOf 77 = .ok (.getfield 152, 3) := by decide +kernel
theorem dX8_firstOf_80 : decode cX8_firstOf 80 = .ok (.iload_n 3, 1) := by decide +kernel
theorem dX8_firstOf_81 : decode cX8_firstOf 81 = .ok (.if_icmp .ge 11, 3) := by decide +kernel
theorem dX8_firstOf_84 : decode cX8_firstOf 84 = .ok (.iload 4, 2) := by decide +kernel
theorem dX8_firstOf_86 : decode cX8_firstOf 86 = .ok (.istore_n 2, 1) := by decide +kernel
theorem dX8_firstOf_87 : decode cX8_firstOf 87 = .ok (.aload_n 0, 1) := by decide +kernel
theorem dX8_firstOf_88 : decode cX8_firstOf 88 = .ok (.getfield 152, 3) := by decide +kernel
theorem dX8_firstOf_91 : decode cX8_firstOf 91 = .ok (.istore_n 3, 1) := by decide +kernel
theorem dX8_firstOf_92 : decode cX8_firstOf 92 = .ok (.iinc 4 1, 3) := by decide +kernel
theorem dX8_firstOf_95 : decode cX8_firstOf 95 = .ok (.goto (-74), 3) := by decide +kernel
theorem dX8_firstOf_98 : decode cX8_firstOf 98 = .ok (.iload_n 1, 1) := by decide +kernel
theorem dX8_firstOf_99 : decode cX8_firstOf 99 = .ok (.ifCond .ne 7, 3) := by decide +kernel
theorem dX8_firstOf_102 : decode cX8_firstOf 102 = .ok (.iload_n 2, 1) := by decide +kernel
theorem dX8_firstOf_103 : decode cX8_firstOf 103 = .ok (.goto 4, 3) := by decide +kernel
theorem dX8_firstOf_106 : decode cX8_firstOf 106 = .ok (.iload_n 3, 1) := by decide +kernel
theorem dX8_firstOf_107 : decode cX8_firstOf 107 = .ok (.ireturn, 1) := by decide +kernel
theorem dX8_first_0 : decode cX8_first 0 = .ok (.iload_n 1, 1) := by decide +kernel
theorem dX8_first_1 : decode cX8_first 1 = .ok (.invokestatic 245, 3) := by decide +kernel
theorem dX8_first_4 : decode cX8_first 4 = .ok (.ifCond .eq 11, 3) := by decide +kernel
theorem dX8_first_7 : decode cX8_first 7 = .ok (.aload_n 0, 1) := by decide +kernel
theorem dX8_first_8 : decode cX8_first 8 = .ok (.iload_n 1, 1) := by decide +kernel
theorem dX8_first_9 : decode cX8_first 9 = .ok (.invokevirtual 251, 3) := by decide +kernel
theorem dX8_first_12 : decode cX8_first 12 = .ok (.goto 5, 3) := by decide +kernel
theorem dX8_first_15 : decode cX8_first 15 = .ok (.bipush (-2), 2) := by decide +kernel
theorem dX8_first_17 : decode cX8_first 17 = .ok (.ireturn, 1) := by decide +kernel
theorem dX8_findYard_0 : decode cX8_findYard 0 = .ok (.aload_n 0, 1) := by decide +kernel
theorem dX8_findYard_1 : decode cX8_findYard 1 = .ok (.invokevirtual 188, 3) := by decide +kernel
theorem dX8_findYard_4 : decode cX8_findYard 4 = .ok (.aload_n 0, 1) := by decide +kernel
theorem dX8_findYard_5 : decode cX8_findYard 5 = .ok (.invokevirtual 218, 3) := by decide +kernel
theorem dX8_findYard_8 : decode cX8_findYard 8 = .ok (.aload_n 0, 1) := by decide +kernel
theorem dX8_findYard_9 : decode cX8_findYard 9 = .ok (.getfield 152, 3) := by decide +kernel
theorem dX8_findYard_12 : decode cX8_findYard 12 = .ok (.istore_n 1, 1) := by decide +kernel
theorem dX8_findYard_13 : decode cX8_findYard 13 = .ok (.aload_n 0, 1) := by decide +kernel
theorem dX8_findYard_14 : decode cX8_findYard 14 = .ok (.iconst (-1), 1) := by decide +kernel
theorem dX8_findYard_15 : decode cX8_findYard 15 = .ok (.putfield 254, 3) := by decide +kernel
theorem dX8_findYard_18 : decode cX8_findYard 18 = .ok (.aload_n 0, 1) := by decide +kernel
theorem dX8_findYard_19 : decode cX8_findYard 19 = .ok (.iconst 0, 1) := by decide +kernel
theorem dX8_findYard_20 : decode cX8_findYard 20 = .ok (.putfield 257, 3) := by decide +kernel
theorem dX8_findYard_23 : decode cX8_findYard 23 = .ok (.iconst 0, 1) := by decide +kernel
theorem dX8_findYard_24 : decode cX8_findYard 24 = .ok (.istore_n 2, 1) := by decide +kernel
theorem dX8_findYard_25 : decode cX8_findYard 25 = .ok (.iload_n 2, 1) := by decide +kernel
theorem dX8_findYard_26 : decode cX8_findYard 26 = .ok (.bipush 64, 2) := by decide +kernel
theorem dX8_findYard_28 : decode cX8_findYard 28 = .ok (.if_icmp .ge 71, 3) := by decide +kernel
theorem dX8_findYard_31 : decode cX8_findYard 31 = .ok (.aload_n 0, 1) := by decide +kernel
theorem dX8_findYard_32 : decode cX8_findYard 32 = .ok (.getfield 25, 3) := by decide +kernel
theorem dX8_findYard_35 : decode cX8_findYard 35 = .ok (.iload_n 2, 1) := by decide +kernel
theorem dX8_findYard_36 : decode cX8_findYard 36 = .ok (.iaload, 1) := by decide +kernel
theorem dX8_findYard_37 : decode cX8_findYard 37 = .ok (.iconst 1, 1) := by decide +kernel
theorem dX8_findYard_38 : decode cX8_findYard 38 = .ok (.if_icmp .eq 55, 3) := by decide +kernel
theorem dX8_findYard_41 : decode cX8_findYard 41 = .ok (.aload_n 0, 1) := by decide +kernel
theorem dX8_findYard_42 : decode cX8_findYard 42 = .ok (.getfield 28, 3) := by decide +kernel
theorem dX8_findYard_45 : decode cX8_findYard 45 = .ok (.iload_n 2, 1) := by decide +kernel
theorem dX8_findYard_46 : decode cX8_findYard 46 = .ok (.iaload, 1) := by decide +kernel
theorem dX8_findYard_47 : decode cX8_findYard 47 = .ok (.ifCond .le 46, 3) := by decide +kernel
theorem dX8_findYard_50 : decode cX8_findYard 50 = .ok (.aload_n 0, 1) := by decide +kernel
theorem dX8_findYard_51 : decode cX8_findYard 51 = .ok (.invokevirtual 149, 3) := by decide +kernel
theorem dX8_findYard_54 : decode cX8_findYard 54 = .ok (.aload_n 0, 1) := by decide +kernel
theorem dX8_findYard_55 : decode cX8_findYard 55 = .ok (.getfield 46, 3) := by decide +kernel
theorem dX8_findYard_58 : decode cX8_findYard 58 = .ok (.iload_n 2, 1) := by decide +kernel
theorem dX8_findYard_59 : decode cX8_findYard 59 = .ok (.iconst 0, 1) := by decide +kernel
theorem dX8_findYard_60 : decode cX8_findYard 60 = .ok (.iastore, 1) := by decide +kernel
theorem dX8_findYard_61 : decode cX8_findYard 61 = .ok (.aload_n 0, 1) := by decide +kernel
theorem dX8_findYard_62 : decode cX8_findYard 62 = .ok (.invokevirtual 218, 3) := by decide +kernel
theorem dX8_findYard_65 : decode cX8_findYard 65 = .ok (.iload_n 1, 1) := by decide +kernel
theorem dX8_findYard_66 : decode cX8_findYard 66 = .ok (.aload_n 0, 1) := by decide +kernel
theorem dX8_findYard_67 : decode cX8_findYard 67 = .ok (.getfield 152, 3) := by decide +kernel
theorem dX8_findYard_70 : decode cX8_findYard 70 = .ok (.isub, 1) := by decide +kernel
theorem dX8_findYard_71 : decode cX8_findYard 71 = .ok (.aload_n 0, 1) := by decide +kernel
theorem dX8_findYard_72 : decode cX8_findYard 72 = .ok (.getfield 257, 3) := by decide +kernel
theorem dX8_findYard_75 : decode cX8_findYard 75 = .ok (.if_icmp .le 18, 3) := by decide +kernel
theorem dX8_findYard_78 : decode cX8_findYard 78 = .ok (.aload_n 0, 1) := by decide +kernel
theorem dX8_findYard_79 : decode cX8_findYard 79 = .ok (.iload_n 2, 1) := by decide +kernel
theorem dX8_findYard_80 : decode cX8_findYard 80 = .ok (.putfield 254, 3) := by decide +kernel
theorem dX8_findYard_83 : decode cX8_findYard 83 = .ok (.aload_n 0, 1) := by decide +kernel
theorem dX8_findYard_84 : decode cX8_findYard 84 = .ok (.iload_n 1, 1) := by decide +kernel
theorem dX8_findYard_85 : decode cX8_findYard 85 = .ok (.aload_n 0, 1) := by decide +kernel
theorem dX8_findYard_86 : decode cX8_findYard 86 = .ok (.getfield 152, 3) := by decide +kernel
theorem dX8_findYard_89 : decode cX8_findYard 89 = .ok (.isub, 1) := by decide +kernel
theorem dX8_findYard_90 : decode cX8_findYard 90 = .ok (.putfield 257, 3) := by decide +kernel
theorem dX8_findYard_93 : decode cX8_findYard 93 = .ok (.iinc 2 1, 3) := by decide +kernel
theorem dX8_findYard_96 : decode cX8_findYard 96 = .ok (.goto (-71), 3) := by decide +kernel
theorem dX8_findYard_99 : decode cX8_findYard 99 = .ok (.return_, 1) := by decide +kernel
theorem dX8_yard_0 : decode cX8_yard 0 = .ok (.iload_n 1, 1) := by decide +kernel
theorem dX8_yard_1 : decode cX8_yard 1 = .ok (.invokestatic 245, 3) := by decide +kernel
theorem dX8_yard_4 : decode cX8_yard 4 = .ok (.ifCond .ne 6, 3) := by decide +kernel
theorem dX8_yard_7 : decode cX8_yard 7 = .ok (.bipush (-2), 2) := by decide +kernel
theorem dX8_yard_9 : decode cX8_yard 9 = .ok (.ireturn, 1) := by decide +kernel
theorem dX8_yard_10 : decode cX8_yard 10 = .ok (.aload_n 0, 1) := by decide +kernel
theorem dX8_yard_11 : decode cX8_yard 11 = .ok (.invokevirtual 260, 3) := by decide +kernel
theorem dX8_yard_14 : decode cX8_yard 14 = .ok (.iload_n 1, 1) := by decide +kernel
theorem dX8_yard_15 : decode cX8_yard 15 = .ok (.ifCond .ne 10, 3) := by decide +kernel
theorem dX8_yard_18 : decode cX8_yard 18 = .ok (.aload_n 0, 1) := by decide +kernel
theorem dX8_yard_19 : decode cX8_yard 19 = .ok (.getfield 254, 3) := by decide +kernel
theorem dX8_yard_22 : decode cX8_yard 22 = .ok (.goto 7, 3) := by decide +kernel
theorem dX8_yard_25 : decode cX8_yard 25 = .ok (.aload_n 0, 1) := by decide +kernel
theorem dX8_yard_26 : decode cX8_yard 26 = .ok (.getfield 257, 3) := by decide +kernel
theorem dX8_yard_29 : decode cX8_yard 29 = .ok (.ireturn, 1) := by decide +kernel
theorem dX8_grits_0 : decode cX8_grits 0 = .ok (.aload_n 0, 1) := by decide +kernel
theorem dX8_grits_1 : decode cX8_grits 1 = .ok (.invokevirtual 188, 3) := by decide +kernel
theorem dX8_grits_4 : decode cX8_grits 4 = .ok (.aload_n 0, 1) := by decide +kernel
theorem dX8_grits_5 : decode cX8_grits 5 = .ok (.invokevirtual 218, 3) := by decide +kernel
theorem dX8_grits_8 : decode cX8_grits 8 = .ok (.iconst 0, 1) := by decide +kernel
theorem dX8_grits_9 : decode cX8_grits 9 = .ok (.istore_n 3, 1) := by decide +kernel
theorem dX8_grits_10 : decode cX8_grits 10 = .ok (.iload_n 3, 1) := by decide +kernel
theorem dX8_grits_11 : decode cX8_grits 11 = .ok (.bipush 64, 2) := by decide +kernel
theorem dX8_grits_13 : decode cX8_grits 13 = .ok (.if_icmp .ge 16, 3) := by decide +kernel
theorem dX8_grits_16 : decode cX8_grits 16 = .ok (.aload_n 0, 1) := by decide +kernel
theorem dX8_grits_17 : decode cX8_grits 17 = .ok (.getfield 75, 3) := by decide +kernel
theorem dX8_grits_20 : decode cX8_grits 20 = .ok (.iload_n 3, 1) := by decide +kernel
theorem dX8_grits_21 : decode cX8_grits 21 = .ok (.iconst 0, 1) := by decide +kernel
theorem dX8_grits_22 : decode cX8_grits 22 = .ok (.bastore, 1) := by decide +kernel
theorem dX8_grits_23 : decode cX8_grits 23 = .ok (.iinc 3 1, 3) := by decide +kernel
theorem dX8_grits_26 : decode cX8_grits 26 = .ok (.goto (-16), 3) := by decide +kernel
theorem dX8_grits_29 : decode cX8_grits 29 = .ok (.iconst (-1), 1) := by decide +kernel
theorem dX8_grits_30 : decode cX8_grits 30 = .ok (.istore_n 3, 1) := by decide +kernel
theorem dX8_grits_31 : decode cX8_grits 31 = .ok (.iconst 0, 1) := by decide +kernel
theorem dX8_grits_32 : decode cX8_grits 32 = .ok (.istore 4, 2) := by decide +kernel
theorem dX8_grits_34 : decode cX8_grits 34 = .ok (.iload 4, 2) := by decide +kernel
theorem dX8_grits_36 : decode cX8_grits 36 = .ok (.iload_n 1, 1) := by decide +kernel
theorem dX8_grits_37 : decode cX8_grits 37 = .ok (.if_icmp .ge 136, 3) := by decide +kernel
theorem dX8_grits_40 : decode cX8_grits 40 = .ok (.iconst (-1), 1) := by decide +kernel
theorem dX8_grits_41 : decode cX8_grits 41 = .ok (.istore 5, 2) := by decide +kernel
theorem dX8_grits_43 : decode cX8_grits 43 = .ok (.iconst 0, 1) := by decide +kernel
theorem dX8_grits_44 : decode cX8_grits 44 = .ok (.istore 6, 2) := by decide +kernel
theorem dX8_grits_46 : decode cX8_grits 46 = .ok (.iconst 0, 1) := by decide +kernel
theorem dX8_grits_47 : decode cX8_grits 47 = .ok (.istore 7, 2) := by decide +kernel
theorem dX8_grits_49 : decode cX8_grits 49 = .ok (.iload 7, 2) := by decide +kernel
theorem dX8_grits_51 : decode cX8_grits 51 = .ok (.bipush 64, 2) := by decide +kernel
theorem dX8_grits_53 : decode cX8_grits 53 = .ok (.if_icmp .ge 87, 3) := by decide +kernel
theorem dX8_grits_56 : decode cX8_grits 56 = .ok (.aload_n 0, 1) := by decide +kernel
theorem dX8_grits_57 : decode cX8_grits 57 = .ok (.getfield 75, 3) := by decide +kernel
theorem dX8_grits_60 : decode cX8_grits 60 = .ok (.iload 7, 2) := by decide +kernel
theorem dX8_grits_62 : decode cX8_grits 62 = .ok (.baload, 1) := by decide +kernel
theorem dX8_grits_63 : decode cX8_grits 63 = .ok (.ifCond .ne 27, 3) := by decide +kernel
theorem dX8_grits_66 : decode cX8_grits 66 = .ok (.aload_n 0, 1) := by decide +kernel
theorem dX8_grits_67 : decode cX8_grits 67 = .ok (.getfield 34, 3) := by decide +kernel
theorem dX8_grits_70 : decode cX8_grits 70 = .ok (.iload 7, 2) := by decide +kernel
theorem dX8_grits_72 : decode cX8_grits 72 = .ok (.iaload, 1) := by decide +kernel
theorem dX8_grits_73 : decode cX8_grits 73 = .ok (.aload_n 0, 1) := by decide +kernel
theorem dX8_grits_74 : decode cX8_grits 74 = .ok (.getfield 52, 3) := by decide +kernel
theorem dX8_grits_77 : decode cX8_grits 77 = .ok (.iload 7, 2) := by decide +kernel
theorem dX8_grits_79 : decode cX8_grits 79 = .ok (.iaload, 1) := by decide +kernel
theorem dX8_grits_80 : decode cX8_grits 80 = .ok (.imul, 1) := by decide +kernel
theorem dX8_grits_81 : decode cX8_grits 81 = .ok (.iload 6, 2) := by decide +kernel
theorem dX8_grits_83 : decode cX8_grits 83 = .ok (.if_icmp .le 7, 3) := by decide +kernel
theorem dX8_grits_86 : decode cX8_grits 86 = .ok (.iconst 1, 1) := by decide +kernel
theorem dX8_grits_87 : decode cX8_grits 87 = .ok (.goto 4, 3) := by decide +kernel
theorem dX8_grits_90 : decode cX8_grits 90 = .ok (.iconst 0, 1) := by decide +kernel
theorem dX8_grits_91 : decode cX8_grits 91 = .ok (.istore 8, 2) := by decide +kernel
theorem dX8_grits_93 : decode cX8_grits 93 = .ok (.iload 8, 2) := by decide +kernel
theorem dX8_grits_95 : decode cX8_grits 95 = .ok (.ifCond .eq 8, 3) := by decide +kernel
theorem dX8_grits_98 : decode cX8_grits 98 = .ok (.iload 7, 2) := by decide +kernel
theorem dX8_grits_100 : decode cX8_grits 100 = .ok (.goto 5, 3) := by decide +kernel
theorem dX8_grits_103 : decode cX8_grits 103 = .ok (.iload 5, 2) := by decide +kernel
theorem dX8_grits_105 : decode cX8_grits 105 = .ok (.istore 5, 2) := by decide +kernel
theorem dX8_grits_107 : decode cX8_grits 107 = .ok (.iload 8, 2) := by decide +kernel
theorem dX8_grits_109 : decode cX8_grits 109 = .ok (.ifCond .eq 21, 3) := by decide +kernel
theorem dX8_grits_112 : decode cX8_grits 112 = .ok (.aload_n 0, 1) := by decide +kernel
theorem dX8_grits_113 : decode cX8_grits 113 = .ok (.getfield 34, 3) := by decide +kernel
theorem dX8_grits_116 : decode cX8_grits 116 = .ok (.iload 7, 2) := by decide +kernel
theorem dX8_grits_118 : decode cX8_grits 118 = .ok (.iaload, 1) := by decide +kernel
theorem dX8_grits_119 : decode cX8_grits 119 = .ok (.aload_n 0, 1) := by decide +kernel
theorem dX8_grits_120 : decode cX8_grits 120 = .ok (.getfield 52, 3) := by decide +kernel
theorem dX8_grits_123 : decode cX8_grits 123 = .ok (.iload 7, 2) := by decide +kernel
theorem dX8_grits_125 : decode cX8_grits 125 = .ok (.iaload, 1) := by decide +kernel
theorem dX8_grits_126 : decode cX8_grits 126 = .ok (.imul, 1) := by decide +kernel
theorem dX8_grits_127 : decode cX8_grits 127 = .ok (.goto 5, 3) := by decide +kernel
theorem dX8_grits_130 : decode cX8_grits 130 = .ok (.iload 6, 2) := by decide +kernel
theorem dX8_grits_132 : decode cX8_grits 132 = .ok (.istore 6, 2) := by decide +kernel
theorem dX8_grits_134 : decode cX8_grits 134 = .ok (.iinc 7 1, 3) := by decide +kernel
theorem dX8_grits_137 : decode cX8_grits 137 = .ok (.goto (-88), 3) := by decide +kernel
theorem dX8_grits_140 : decode cX8_grits 140 = .ok (.iload 5, 2) := by decide +kernel
theorem dX8_grits_142 : decode cX8_grits 142 = .ok (.iconst (-1), 1) := by decide +kernel
theorem dX8_grits_143 : decode cX8_grits 143 = .ok (.if_icmp .eq 11, 3) := by decide +kernel
theorem dX8_grits_146 : decode cX8_grits 146 = .ok (.aload_n 0, 1) := by decide +kernel
theorem dX8_grits_147 : decode cX8_grits 147 = .ok (.getfield 75, 3) := by decide +kernel
theorem dX8_grits_150 : decode cX8_grits 150 = .ok (.iload 5, 2) := by decide +kernel
theorem dX8_grits_152 : decode cX8_grits 152 = .ok (.iconst 1, 1) := by decide +kernel
theorem dX8_grits_153 : decode cX8_grits 153 = .ok (.bastore, 1) := by decide +kernel
theorem dX8_grits_154 : decode cX8_grits 154 = .ok (.iload 4, 2) := by decide +kernel
theorem dX8_grits_156 : decode cX8_grits 156 = .ok (.iload_n 2, 1) := by decide +kernel
theorem dX8_grits_157 : decode cX8_grits 157 = .ok (.if_icmp .ne 8, 3) := by decide +kernel
theorem dX8_grits_160 : decode cX8_grits 160 = .ok (.iload 5, 2) := by decide +kernel
theorem dX8_grits_162 : decode cX8_grits 162 = .ok (.goto 4, 3) := by decide +kernel
theorem dX8_grits_165 : decode cX8_grits 165 = .ok (.iload_n 3, 1) := by decide +kernel
theorem dX8_grits_166 : decode cX8_grits 166 = .ok (.istore_n 3, 1) := by decide +kernel
theorem dX8_grits_167 : decode cX8_grits 167 = .ok (.iinc 4 1, 3) := by decide +kernel
theorem dX8_grits_170 : decode cX8_grits 170 = .ok (.goto (-136), 3) := by decide +kernel
theorem dX8_grits_173 : decode cX8_grits 173 = .ok (.iload_n 3, 1) := by decide +kernel
theorem dX8_grits_174 : decode cX8_grits 174 = .ok (.ireturn, 1) := by decide +kernel
theorem dX8_part_0 : decode cX8_part 0 = .ok (.lload_n 0, 1) := by decide +kernel
theorem dX8_part_1 : decode cX8_part 1 = .ok (.lstore 5, 2) := by decide +kernel
theorem dX8_part_3 : decode cX8_part 3 = .ok (.lload_n 2, 1) := by decide +kernel
theorem dX8_part_4 : decode cX8_part 4 = .ok (.lstore 7, 2) := by decide +kernel
theorem dX8_part_6 : decode cX8_part 6 = .ok (.lload 7, 2) := by decide +kernel
theorem dX8_part_8 : decode cX8_part 8 = .ok (.lconst 0, 1) := by decide +kernel
theorem dX8_part_9 : decode cX8_part 9 = .ok (.lcmp, 1) := by decide +kernel
theorem dX8_part_10 : decode cX8_part 10 = .ok (.ifCond .eq 21, 3) := by decide +kernel
theorem dX8_part_13 : decode cX8_part 13 = .ok (.lload 5, 2) := by decide +kernel
theorem dX8_part_15 : decode cX8_part 15 = .ok (.lload 7, 2) := by decide +kernel
theorem dX8_part_17 : decode cX8_part 17 = .ok (.lrem, 1) := by decide +kernel
theorem dX8_part_18 : decode cX8_part 18 = .ok (.lstore 9, 2) := by decide +kernel
theorem dX8_part_20 : decode cX8_part 20 = .ok (.lload 7, 2) := by decide +kernel
theorem dX8_part_22 : decode cX8_part 22 = .ok (.lstore 5, 2) := by decide +kernel
theorem dX8_part_24 : decode cX8_part 24 = .ok (.lload 9, 2) := by decide +kernel
theorem dX8_part_26 : decode cX8_part 26 = .ok (.lstore 7, 2) := by decide +kernel
theorem dX8_part_28 : decode cX8_part 28 = .ok (.goto (-22), 3) := by decide +kernel
theorem dX8_part_31 : decode cX8_part 31 = .ok (.iload 4, 2) := by decide +kernel
theorem dX8_part_33 : decode cX8_part 33 = .ok (.ifCond .ne 7, 3) := by decide +kernel
theorem dX8_part_36 : decode cX8_part 36 = .ok (.lload_n 0, 1) := by decide +kernel
theorem dX8_part_37 : decode cX8_part 37 = .ok (.goto 4, 3) := by decide +kernel
theorem dX8_part_40 : decode cX8_part 40 = .ok (.lload_n 2, 1) := by decide +kernel
theorem dX8_part_41 : decode cX8_part 41 = .ok (.lload 5, 2) := by decide +kernel
theorem dX8_part_43 : decode cX8_part 43 = .ok (.ldiv, 1) := by decide +kernel
theorem dX8_part_44 : decode cX8_part 44 = .ok (.lreturn, 1) := by decide +kernel
theorem dX8_leftOf_0 : decode cX8_leftOf 0 = .ok (.aload_n 0, 1) := by decide +kernel
theorem dX8_leftOf_1 : decode cX8_leftOf 1 = .ok (.iload_n 1, 1) := by decide +kernel
theorem dX8_leftOf_2 : decode cX8_leftOf 2 = .ok (.iconst (-1), 1) := by decide +kernel
theorem dX8_leftOf_3 : decode cX8_leftOf 3 = .ok (.invokevirtual 263, 3) := by decide +kernel
theorem dX8_leftOf_6 : decode cX8_leftOf 6 = .ok (.pop, 1) := by decide +kernel
theorem dX8_leftOf_7 : decode cX8_leftOf 7 = .ok (.lconst 0, 1) := by decide +kernel
theorem dX8_leftOf_8 : decode cX8_leftOf 8 = .ok (.lstore_n 3, 1) := by decide +kernel
theorem dX8_leftOf_9 : decode cX8_leftOf 9 = .ok (.iconst 0, 1) := by decide +kernel
theorem dX8_leftOf_10 : decode cX8_leftOf 10 = .ok (.istore 5, 2) := by decide +kernel
theorem dX8_leftOf_12 : decode cX8_leftOf 12 = .ok (.iload 5, 2) := by decide +kernel
theorem dX8_leftOf_14 : decode cX8_leftOf 14 = .ok (.bipush 64, 2) := by decide +kernel
theorem dX8_leftOf_16 : decode cX8_leftOf 16 = .ok (.if_icmp .ge 43, 3) := by decide +kernel
theorem dX8_leftOf_19 : decode cX8_leftOf 19 = .ok (.lload_n 3, 1) := by decide +kernel
theorem dX8_leftOf_20 : decode cX8_leftOf 20 = .ok (.aload_n 0, 1) := by decide +kernel
theorem dX8_leftOf_21 : decode cX8_leftOf 21 = .ok (.getfield 75, 3) := by decide +kernel
theorem dX8_leftOf_24 : decode cX8_leftOf 24 = .ok (.iload 5, 2) := by decide +kernel
theorem dX8_leftOf_26 : decode cX8_leftOf 26 = .ok (.baload, 1) := by decide +kernel
theorem dX8_leftOf_27 : decode cX8_leftOf 27 = .ok (.ifCond .eq 7, 3) := by decide +kernel
theorem dX8_leftOf_30 : decode cX8_leftOf 30 = .ok (.lconst 0, 1) := by decide +kernel
theorem dX8_leftOf_31 : decode cX8_leftOf 31 = .ok (.goto 20, 3) := by decide +kernel
theorem dX8_leftOf_34 : decode cX8_leftOf 34 = .ok (.aload_n 0, 1) := by decide +kernel
theorem dX8_leftOf_35 : decode cX8_leftOf 35 = .ok (.getfield 34, 3) := by decide +kernel
theorem dX8_leftOf_38 : decode cX8_leftOf 38 = .ok (.iload 5, 2) := by decide +kernel
theorem dX8_leftOf_40 : decode cX8_leftOf 40 = .ok (.iaload, 1) := by decide +kernel
theorem dX8_leftOf_41 : decode cX8_leftOf 41 = .ok (.i2l, 1) := by decide +kernel
theorem dX8_leftOf_42 : decode cX8_leftOf 42 = .ok (.aload_n 0, 1) := by decide +kernel
theorem dX8_leftOf_43 : decode cX8_leftOf 43 = .ok (.getfield 52, 3) := by decide +kernel
theorem dX8_leftOf_46 : decode cX8_leftOf 46 = .ok (.iload 5, 2) := by decide +kernel
theorem dX8_leftOf_48 : decode cX8_leftOf 48 = .ok (.iaload, 1) := by decide +kernel
theorem dX8_leftOf_49 : decode cX8_leftOf 49 = .ok (.i2l, 1) := by decide +kernel
theorem dX8_leftOf_50 : decode cX8_leftOf 50 = .ok (.lmul, 1) := by decide +kernel
theorem dX8_leftOf_51 : decode cX8_leftOf 51 = .ok (.ladd, 1) := by decide +kernel
theorem dX8_leftOf_52 : decode cX8_leftOf 52 = .ok (.lstore_n 3, 1) := by decide +kernel
theorem dX8_leftOf_53 : decode cX8_leftOf 53 = .ok (.iinc 5 1, 3) := by decide +kernel
theorem dX8_leftOf_56 : decode cX8_leftOf 56 = .ok (.goto (-44), 3) := by decide +kernel
theorem dX8_leftOf_59 : decode cX8_leftOf 59 = .ok (.lload_n 3, 1) := by decide +kernel
theorem dX8_leftOf_60 : decode cX8_leftOf 60 = .ok (.ldc2_w 144, 3) := by decide +kernel
theorem dX8_leftOf_63 : decode cX8_leftOf 63 = .ok (.iload_n 2, 1) := by decide +kernel
theorem dX8_leftOf_64 : decode cX8_leftOf 64 = .ok (.invokestatic 266, 3) := by decide +kernel
theorem dX8_leftOf_67 : decode cX8_leftOf 67 = .ok (.lreturn, 1) := by decide +kernel
theorem dX8_falls_0 : decode cX8_falls 0 = .ok (.iload_n 1, 1) := by decide +kernel
theorem dX8_falls_1 : decode cX8_falls 1 = .ok (.invokestatic 245, 3) := by decide +kernel
theorem dX8_falls_4 : decode cX8_falls 4 = .ok (.ifCond .eq 12, 3) := by decide +kernel
theorem dX8_falls_7 : decode cX8_falls 7 = .ok (.aload_n 0, 1) := by decide +kernel
theorem dX8_falls_8 : decode cX8_falls 8 = .ok (.iconst 0, 1) := by decide +kernel
theorem dX8_falls_9 : decode cX8_falls 9 = .ok (.iload_n 1, 1) := by decide +kernel
theorem dX8_falls_10 : decode cX8_falls 10 = .ok (.invokevirtual 270, 3) := by decide +kernel
theorem dX8_falls_13 : decode cX8_falls 13 = .ok (.goto 8, 3) := by decide +kernel
theorem dX8_falls_16 : decode cX8_falls 16 = .ok (.bipush (-2), 2) := by decide +kernel
theorem dX8_falls_18 : decode cX8_falls 18 = .ok (.invokestatic 274, 3) := by decide +kernel
theorem dX8_falls_21 : decode cX8_falls 21 = .ok (.lreturn, 1) := by decide +kernel
theorem dX8_isGrit_0 : decode cX8_isGrit 0 = .ok (.iload_n 0, 1) := by decide +kernel
theorem dX8_isGrit_1 : decode cX8_isGrit 1 = .ok (.i2l, 1) := by decide +kernel
theorem dX8_isGrit_2 : decode cX8_isGrit 2 = .ok (.lconst 0, 1) := by decide +kernel
theorem dX8_isGrit_3 : decode cX8_isGrit 3 = .ok (.ldc2_w 278, 3) := by decide +kernel
theorem dX8_isGrit_6 : decode cX8_isGrit 6 = .ok (.invokestatic 80, 3) := by decide +kernel
theorem dX8_isGrit_9 : decode cX8_isGrit 9 = .ok (.ireturn, 1) := by decide +kernel
theorem dX8_grit_0 : decode cX8_grit 0 = .ok (.iload_n 1, 1) := by decide +kernel
theorem dX8_grit_1 : decode cX8_grit 1 = .ok (.invokestatic 280, 3) := by decide +kernel
theorem dX8_grit_4 : decode cX8_grit 4 = .ok (.ifCond .eq 16, 3) := by decide +kernel
theorem dX8_grit_7 : decode cX8_grit 7 = .ok (.iload_n 2, 1) := by decide +kernel
theorem dX8_grit_8 : decode cX8_grit 8 = .ok (.ifCond .lt 12, 3) := by decide +kernel
theorem dX8_grit_11 : decode cX8_grit 11 = .ok (.aload_n 0, 1) := by decide +kernel
theorem dX8_grit_12 : decode cX8_grit 12 = .ok (.iload_n 1, 1) := by decide +kernel
theorem dX8_grit_13 : decode cX8_grit 13 = .ok (.iload_n 2, 1) := by decide +kernel
theorem dX8_grit_14 : decode cX8_grit 14 = .ok (.invokevirtual 263, 3) := by decide +kernel
theorem dX8_grit_17 : decode cX8_grit 17 = .ok (.goto 5, 3) := by decide +kernel
theorem dX8_grit_20 : decode cX8_grit 20 = .ok (.bipush (-2), 2) := by decide +kernel
theorem dX8_grit_22 : decode cX8_grit 22 = .ok (.ireturn, 1) := by decide +kernel
theorem dX8_left_0 : decode cX8_left 0 = .ok (.iload_n 1, 1) := by decide +kernel
theorem dX8_left_1 : decode cX8_left 1 = .ok (.invokestatic 280, 3) := by decide +kernel
theorem dX8_left_4 : decode cX8_left 4 = .ok (.ifCond .eq 19, 3) := by decide +kernel
theorem dX8_left_7 : decode cX8_left 7 = .ok (.iload_n 2, 1) := by decide +kernel
theorem dX8_left_8 : decode cX8_left 8 = .ok (.invokestatic 245, 3) := by decide +kernel
theorem dX8_left_11 : decode cX8_left 11 = .ok (.ifCond .eq 12, 3) := by decide +kernel
theorem dX8_left_14 : decode cX8_left 14 = .ok (.aload_n 0, 1) := by decide +kernel
theorem dX8_left_15 : decode cX8_left 15 = .ok (.iload_n 1, 1) := by decide +kernel
theorem dX8_left_16 : decode cX8_left 16 = .ok (.iload_n 2, 1) := by decide +kernel
theorem dX8_left_17 : decode cX8_left 17 = .ok (.invokevirtual 270, 3) := by decide +kernel
theorem dX8_left_20 : decode cX8_left 20 = .ok (.goto 8, 3) := by decide +kernel
theorem dX8_left_23 : decode cX8_left 23 = .ok (.bipush (-2), 2) := by decide +kernel
theorem dX8_left_25 : decode cX8_left 25 = .ok (.invokestatic 274, 3) := by decide +kernel
theorem dX8_left_28 : decode cX8_left 28 = .ok (.lreturn, 1) := by decide +kernel
theorem dX8_isPicture_0 : decode cX8_isPicture 0 = .ok (.iconst 1, 1) := by decide +kernel
theorem dX8_isPicture_1 : decode cX8_isPicture 1 = .ok (.istore_n 2, 1) := by decide +kernel
theorem dX8_isPicture_2 : decode cX8_isPicture 2 = .ok (.iconst 0, 1) := by decide +kernel
theorem dX8_isPicture_3 : decode cX8_isPicture 3 = .ok (.istore_n 3, 1) := by decide +kernel
theorem dX8_isPicture_4 : decode cX8_isPicture 4 = .ok (.iload_n 3, 1) := by decide +kernel
theorem dX8_isPicture_5 : decode cX8_isPicture 5 = .ok (.aload_n 0, 1) := by decide +kernel
theorem dX8_isPicture_6 : decode cX8_isPicture 6 = .ok (.getfield 13, 3) := by decide +kernel
theorem dX8_isPicture_9 : decode cX8_isPicture 9 = .ok (.iload_n 1, 1) := by decide +kernel
theorem dX8_isPicture_10 : decode cX8_isPicture 10 = .ok (.iaload, 1) := by decide +kernel
theorem dX8_isPicture_11 : decode cX8_isPicture 11 = .ok (.if_icmp .ge 39, 3) := by decide +kernel
theorem dX8_isPicture_14 : decode cX8_isPicture 14 = .ok (.iload_n 2, 1) := by decide +kernel
theorem dX8_isPicture_15 : decode cX8_isPicture 15 = .ok (.ifCond .eq 27, 3) := by decide +kernel
theorem dX8_isPicture_18 : decode cX8_isPicture 18 = .ok (.aload_n 0, 1) := by decide +kernel
theorem dX8_isPicture_19 : decode cX8_isPicture 19 = .ok (.getfield 16, 3) := by decide +kernel
theorem dX8_isPicture_22 : decode cX8_isPicture 22 = .ok (.bipush 64, 2) := by decide +kernel
theorem dX8_isPicture_24 : decode cX8_isPicture 24 = .ok (.iload_n 1, 1) := by decide +kernel
theorem dX8_isPicture_25 : decode cX8_isPicture 25 = .ok (.imul, 1) := by decide +kernel
theorem dX8_isPicture_26 : decode cX8_isPicture 26 = .ok (.iload_n 3, 1) := by decide +kernel
theorem dX8_isPicture_27 : decode cX8_isPicture 27 = .ok (.iadd, 1) := by decide +kernel
theorem dX8_isPicture_28 : decode cX8_isPicture 28 = .ok (.iaload, 1) := by decide +kernel
theorem dX8_isPicture_29 : decode cX8_isPicture 29 = .ok (.aload_n 0, 1) := by decide +kernel
theorem dX8_isPicture_30 : decode cX8_isPicture 30 = .ok (.getfield 52, 3) := by decide +kernel
theorem dX8_isPicture_33 : decode cX8_isPicture 33 = .ok (.iload_n 3, 1) := by decide +kernel
theorem dX8_isPicture_34 : decode cX8_isPicture 34 = .ok (.iaload, 1) := by decide +kernel
theorem dX8_isPicture_35 : decode cX8_isPicture 35 = .ok (.if_icmp .ne 7, 3) := by decide +kernel
theorem dX8_isPicture_38 : decode cX8_isPicture 38 = .ok (.iconst 1, 1) := by decide +kernel
theorem dX8_isPicture_39 : decode cX8_isPicture 39 = .ok (.goto 4, 3) := by decide +kernel
theorem dX8_isPicture_42 : decode cX8_isPicture 42 = .ok (.iconst 0, 1) := by decide +kernel
theorem dX8_isPicture_43 : decode cX8_isPicture 43 = .ok (.istore_n 2, 1) := by decide +kernel
theorem dX8_isPicture_44 : decode cX8_isPicture 44 = .ok (.iinc 3 1, 3) := by decide +kernel
theorem dX8_isPicture_47 : decode cX8_isPicture 47 = .ok (.goto (-43), 3) := by decide +kernel
theorem dX8_isPicture_50 : decode cX8_isPicture 50 = .ok (.iload_n 2, 1) := by decide +kernel
theorem dX8_isPicture_51 : decode cX8_isPicture 51 = .ok (.ireturn, 1) := by decide +kernel
theorem dX8_findTower_0 : decode cX8_findTower 0 = .ok (.aload_n 0, 1) := by decide +kernel
theorem dX8_findTower_1 : decode cX8_findTower 1 = .ok (.invokevirtual 188, 3) := by decide +kernel
theorem dX8_findTower_4 : decode cX8_findTower 4 = .ok (.aload_n 0, 1) := by decide +kernel
theorem dX8_findTower_5 : decode cX8_findTower 5 = .ok (.iconst 0, 1) := by decide +kernel
theorem dX8_findTower_6 : decode cX8_findTower 6 = .ok (.putfield 283, 3) := by decide +kernel
theorem dX8_findTower_9 : decode cX8_findTower 9 = .ok (.aload_n 0, 1) := by decide +kernel
theorem dX8_findTower_10 : decode cX8_findTower 10 = .ok (.iconst 0, 1) := by decide +kernel
theorem dX8_findTower_11 : decode cX8_findTower 11 = .ok (.putfield 286, 3) := by decide +kernel
theorem dX8_findTower_14 : decode cX8_findTower 14 = .ok (.iconst 0, 1) := by decide +kernel
theorem dX8_findTower_15 : decode cX8_findTower 15 = .ok (.istore_n 2, 1) := by decide +kernel
theorem dX8_findTower_16 : decode cX8_findTower 16 = .ok (.iload_n 2, 1) := by decide +kernel
theorem dX8_findTower_17 : decode cX8_findTower 17 = .ok (.aload_n 0, 1) := by decide +kernel
theorem dX8_findTower_18 : decode cX8_findTower 18 = .ok (.invokevirtual 233, 3) := by decide +kernel
theorem dX8_findTower_21 : decode cX8_findTower 21 = .ok (.if_icmp .ge 78, 3) := by decide +kernel
theorem dX8_findTower_24 : decode cX8_findTower 24 = .ok (.aload_n 0, 1) := by decide +kernel
theorem dX8_findTower_25 : decode cX8_findTower 25 = .ok (.iload_n 2, 1) := by decide +kernel
theorem dX8_findTower_26 : decode cX8_findTower 26 = .ok (.invokevirtual 236, 3) := by decide +kernel
theorem dX8_findTower_29 : decode cX8_findTower 29 = .ok (.ifCond .eq 64, 3) := by decide +kernel
theorem dX8_findTower_32 : decode cX8_findTower 32 = .ok (.aload_n 0, 1) := by decide +kernel
theorem dX8_findTower_33 : decode cX8_findTower 33 = .ok (.invokevirtual 239, 3) := by decide +kernel
theorem dX8_findTower_36 : decode cX8_findTower 36 = .ok (.aload_n 0, 1) := by decide +kernel
theorem dX8_findTower_37 : decode cX8_findTower 37 = .ok (.iload_n 1, 1) := by decide +kernel
theorem dX8_findTower_38 : decode cX8_findTower 38 = .ok (.invokevirtual 289, 3) := by decide +kernel
theorem dX8_findTower_41 : decode cX8_findTower 41 = .ok (.ifCond .eq 52, 3) := by decide +kernel
theorem dX8_findTower_44 : decode cX8_findTower 44 = .ok (.aload_n 0, 1) := by decide +kernel
theorem dX8_findTower_45 : decode cX8_findTower 45 = .ok (.getfield 283, 3) := by decide +kernel
theorem dX8_findTower_48 : decode cX8_findTower 48 = .ok (.ifCond .ne 7, 3) := by decide +kernel
theorem dX8_findTower_51 : decode cX8_findTower 51 = .ok (.aload_n 0, 1) := by decide +kernel
theorem dX8_findTower_52 : decode cX8_findTower 52 = .ok (.invokevirtual 242, 3) := by decide +kernel
theorem dX8_findTower_55 : decode cX8_findTower 55 = .ok (.aload_n 0, 1) := by decide +kernel
theorem dX8_findTower_56 : decode cX8_findTower 56 = .ok (.dup, 1) := by decide +kernel
theorem dX8_findTower_57 : decode cX8_findTower 57 = .ok (.getfield 283, 3) := by decide +kernel
theorem dX8_findTower_60 : decode cX8_findTower 60 = .ok (.iconst 1, 1) := by decide +kernel
theorem dX8_findTower_61 : decode cX8_findTower 61 = .ok (.iadd, 1) := by decide +kernel
theorem dX8_findTower_62 : decode cX8_findTower 62 = .ok (.putfield 283, 3) := by decide +kernel
theorem dX8_findTower_65 : decode cX8_findTower 65 = .ok (.aload_n 0, 1) := by decide +kernel
theorem dX8_findTower_66 : decode cX8_findTower 66 = .ok (.dup, 1) := by decide +kernel
theorem dX8_findTower_67 : decode cX8_findTower 67 = .ok (.getfield 286, 3) := by decide +kernel
theorem dX8_findTower_70 : decode cX8_findTower 70 = .ok (.aload_n 0, 1) := by decide +kernel
theorem dX8_findTower_71 : decode cX8_findTower 71 = .ok (.getfield 146, 3) := by decide +kernel
theorem dX8_findTower_74 : decode cX8_findTower 74 = .ok (.ifCond .le 14, 3) := by decide +kernel
theorem dX8_findTower_77 : decode cX8_findTower 77 = .ok (.iconst 1, 1) := by decide +kernel
theorem dX8_findTower_78 : decode cX8_findTower 78 = .ok (.aload_n 0, 1) := by decide +kernel
theorem dX8_findTower_79 : decode cX8_findTower 79 = .ok (.getfield 69, 3) := by decide +kernel
theorem dX8_findTower_82 : decode cX8_findTower 82 = .ok (.iconst 0, 1) := by decide +kernel
theorem dX8_findTower_83 : decode cX8_findTower 83 = .ok (.iaload, 1) := by decide +kernel
theorem dX8_findTower_84 : decode cX8_findTower 84 = .ok (.ishl, 1) := by decide +kernel
theorem dX8_findTower_85 : decode cX8_findTower 85 = .ok (.goto 4, 3) := by decide +kernel
theorem dX8_findTower_88 : decode cX8_findTower 88 = .ok (.iconst 0, 1) := by decide +kernel
theorem dX8_findTower_89 : decode cX8_findTower 89 = .ok (.ior, 1) := by decide +kernel
theorem dX8_findTower_90 : decode cX8_findTower 90 = .ok (.putfield 286, 3) := by decide +kernel
theorem dX8_findTower_93 : decode cX8_findTower 93 = .ok (.iinc 2 1, 3) := by decide +kernel
theorem dX8_findTower_96 : decode cX8_findTower 96 = .ok (.goto (-80), 3) := by decide +kernel
theorem dX8_findTower_99 : decode cX8_findTower 99 = .ok (.return_, 1) := by decide +kernel
theorem dX8_tower_0 : decode cX8_tower 0 = .ok (.iload_n 1, 1) := by decide +kernel
theorem dX8_tower_1 : decode cX8_tower 1 = .ok (.invokestatic 91, 3) := by decide +kernel
theorem dX8_tower_4 : decode cX8_tower 4 = .ok (.ifCond .eq 10, 3) := by decide +kernel
theorem dX8_tower_7 : decode cX8_tower 7 = .ok (.iload_n 2, 1) := by decide +kernel
theorem dX8_tower_8 : decode cX8_tower 8 = .ok (.invokestatic 245, 3) := by decide +kernel
theorem dX8_tower_11 : decode cX8_tower 11 = .ok (.ifCond .ne 6, 3) := by decide +kernel
theorem dX8_tower_14 : decode cX8_tower 14 = .ok (.bipush (-2), 2) := by decide +kernel
theorem dX8_tower_16 : decode cX8_tower 16 = .ok (.ireturn, 1) := by decide +kernel
theorem dX8_tower_17 : decode cX8_tower 17 = .ok (.aload_n 0, 1) := by decide +kernel
theorem dX8_tower_18 : decode cX8_tower 18 = .ok (.getfield 7, 3) := by decide +kernel
theorem dX8_tower_21 : decode cX8_tower 21 = .ok (.iload_n 1, 1) := by decide +kernel
theorem dX8_tower_22 : decode cX8_tower 22 = .ok (.iaload, 1) := by decide +kernel
theorem dX8_tower_23 : decode cX8_tower 23 = .ok (.ifCond .ge 9, 3) := by decide +kernel
theorem dX8_tower_26 : decode cX8_tower 26 = .ok (.aload_n 0, 1) := by decide +kernel
theorem dX8_tower_27 : decode cX8_tower 27 = .ok (.iconst 1, 1) := by decide +kernel
theorem dX8_tower_28 : decode cX8_tower 28 = .ok (.invokevirtual 97, 3) := by decide +kernel
theorem dX8_tower_31 : decode cX8_tower 31 = .ok (.ireturn, 1) := by decide +kernel
theorem dX8_tower_32 : decode cX8_tower 32 = .ok (.aload_n 0, 1) := by decide +kernel
theorem dX8_tower_33 : decode cX8_tower 33 = .ok (.getfield 146, 3) := by decide +kernel
theorem dX8_tower_36 : decode cX8_tower 36 = .ok (.iconst 5, 1) := by decide +kernel
theorem dX8_tower_37 : decode cX8_tower 37 = .ok (.if_icmp .le 6, 3) := by decide +kernel
theorem dX8_tower_40 : decode cX8_tower 40 = .ok (.bipush (-4), 2) := by decide +kernel
theorem dX8_tower_42 : decode cX8_tower 42 = .ok (.ireturn, 1) := by decide +kernel
theorem dX8_tower_43 : decode cX8_tower 43 = .ok (.aload_n 0, 1) := by decide +kernel
theorem dX8_tower_44 : decode cX8_tower 44 = .ok (.iload_n 1, 1) := by decide +kernel
theorem dX8_tower_45 : decode cX8_tower 45 = .ok (.invokevirtual 292, 3) := by decide +kernel
theorem dX8_tower_48 : decode cX8_tower 48 = .ok (.iload_n 2, 1) := by decide +kernel
theorem dX8_tower_49 : decode cX8_tower 49 = .ok (.ifCond .ne 10, 3) := by decide +kernel
theorem dX8_tower_52 : decode cX8_tower 52 = .ok (.aload_n 0, 1) := by decide +kernel
theorem dX8_tower_53 : decode cX8_tower 53 = .ok (.getfield 283, 3) := by decide +kernel
theorem dX8_tower_56 : decode cX8_tower 56 = .ok (.goto 7, 3) := by decide +kernel
theorem dX8_tower_59 : decode cX8_tower 59 = .ok (.aload_n 0, 1) := by decide +kernel
theorem dX8_tower_60 : decode cX8_tower 60 = .ok (.getfield 286, 3) := by decide +kernel
theorem dX8_tower_63 : decode cX8_tower 63 = .ok (.ireturn, 1) := by decide +kernel
theorem dX8_towerOrder_0 : decode cX8_towerOrder 0 = .ok (.iload_n 1, 1) := by decide +kernel
theorem dX8_towerOrder_1 : decode cX8_towerOrder 1 = .ok (.invokestatic 91, 3) := by decide +kernel
theorem dX8_towerOrder_4 : decode cX8_towerOrder 4 = .ok (.ifCond .eq 11, 3) := by decide +kernel
theorem dX8_towerOrder_7 : decode cX8_towerOrder 7 = .ok (.aload_n 0, 1) := by decide +kernel
theorem dX8_towerOrder_8 : decode cX8_towerOrder 8 = .ok (.iload_n 2, 1) := by decide +kernel
theorem dX8_towerOrder_9 : decode cX8_towerOrder 9 = .ok (.invokevirtual 209, 3) := by decide +kernel
theorem dX8_towerOrder_12 : decode cX8_towerOrder 12 = .ok (.ifCond .ne 6, 3) := by decide +kernel
theorem dX8_towerOrder_15 : decode cX8_towerOrder 15 = .ok (.bipush (-2), 2) := by decide +kernel
theorem dX8_towerOrder_17 : decode cX8_towerOrder 17 = .ok (.ireturn, 1) := by decide +kernel
theorem dX8_towerOrder_18 : decode cX8_towerOrder 18 = .ok (.aload_n 0, 1) := by decide +kernel
theorem dX8_towerOrder_19 : decode cX8_towerOrder 19 = .ok (.getfield 7, 3) := by decide +kernel
theorem dX8_towerOrder_22 : decode cX8_towerOrder 22 = .ok (.iload_n 1, 1) := by decide +kernel
theorem dX8_towerOrder_23 : decode cX8_towerOrder 23 = .ok (.iaload, 1) := by decide +kernel
theorem dX8_towerOrder_24 : decode cX8_towerOrder 24 = .ok (.ifCond .ge 9, 3) := by decide +kernel
theorem dX8_towerOrder_27 : decode cX8_towerOrder 27 = .ok (.aload_n 0, 1) := by decide +kernel
theorem dX8_towerOrder_28 : decode cX8_towerOrder 28 = .ok (.iconst 1, 1) := by decide +kernel
theorem dX8_towerOrder_29 : decode cX8_towerOrder 29 = .ok (.invokevirtual 97, 3) := by decide +kernel
theorem dX8_towerOrder_32 : decode cX8_towerOrder 32 = .ok (.ireturn, 1) := by decide +kernel
theorem dX8_towerOrder_33 : decode cX8_towerOrder 33 = .ok (.aload_n 0, 1) := by decide +kernel
theorem dX8_towerOrder_34 : decode cX8_towerOrder 34 = .ok (.getfield 146, 3) := by decide +kernel
theorem dX8_towerOrder_37 : decode cX8_towerOrder 37 = .ok (.iconst 5, 1) := by decide +kernel
theorem dX8_towerOrder_38 : decode cX8_towerOrder 38 = .ok (.if_icmp .le 6, 3) := by decide +kernel
theorem dX8_towerOrder_41 : decode cX8_towerOrder 41 = .ok (.bipush (-4), 2) := by decide +kernel
theorem dX8_towerOrder_43 : decode cX8_towerOrder 43 = .ok (.ireturn, 1) := by decide +kernel
theorem dX8_towerOrder_44 : decode cX8_towerOrder 44 = .ok (.aload_n 0, 1) := by decide +kernel
theorem dX8_towerOrder_45 : decode cX8_towerOrder 45 = .ok (.iload_n 1, 1) := by decide +kernel
theorem dX8_towerOrder_46 : decode cX8_towerOrder 46 = .ok (.invokevirtual 292, 3) := by decide +kernel
theorem dX8_towerOrder_49 : decode cX8_towerOrder 49 = .ok (.aload_n 0, 1) := by decide +kernel
theorem dX8_towerOrder_50 : decode cX8_towerOrder 50 = .ok (.getfield 283, 3) := by decide +kernel
theorem dX8_towerOrder_53 : decode cX8_towerOrder 53 = .ok (.ifCond .ne 7, 3) := by decide +kernel
theorem dX8_towerOrder_56 : decode cX8_towerOrder 56 = .ok (.iconst (-1), 1) := by decide +kernel
theorem dX8_towerOrder_57 : decode cX8_towerOrder 57 = .ok (.goto 9, 3) := by decide +kernel
theorem dX8_towerOrder_60 : decode cX8_towerOrder 60 = .ok (.aload_n 0, 1) := by decide +kernel
theorem dX8_towerOrder_61 : decode cX8_towerOrder 61 = .ok (.getfield 72, 3) := by decide +kernel
theorem dX8_towerOrder_64 : decode cX8_towerOrder 64 = .ok (.iload_n 2, 1) := by decide +kernel
theorem dX8_towerOrder_65 : decode cX8_towerOrder 65 = .ok (.iaload, 1) := by decide +kernel
theorem dX8_towerOrder_66 : decode cX8_towerOrder 66 = .ok (.ireturn, 1) := by decide +kernel
theorem dX8_hints_0 : decode cX8_hints 0 = .ok (.iload_n 1, 1) := by decide +kernel
theorem dX8_hints_1 : decode cX8_hints 1 = .ok (.invokestatic 91, 3) := by decide +kernel
theorem dX8_hints_4 : decode cX8_hints 4 = .ok (.ifCond .eq 18, 3) := by decide +kernel
theorem dX8_hints_7 : decode cX8_hints 7 = .ok (.aload_n 0, 1) := by decide +kernel
theorem dX8_hints_8 : decode cX8_hints 8 = .ok (.iload_n 2, 1) := by decide +kernel
theorem dX8_hints_9 : decode cX8_hints 9 = .ok (.invokevirtual 209, 3) := by decide +kernel
theorem dX8_hints_12 : decode cX8_hints 12 = .ok (.ifCond .eq 10, 3) := by decide +kernel
theorem dX8_hints_15 : decode cX8_hints 15 = .ok (.iload_n 3, 1) := by decide +kernel
theorem dX8_hints_16 : decode cX8_hints 16 = .ok (.invokestatic 245, 3) := by decide +kernel
theorem dX8_hints_19 : decode cX8_hints 19 = .ok (.ifCond .ne 6, 3) := by decide +kernel
theorem dX8_hints_22 : decode cX8_hints 22 = .ok (.bipush (-2), 2) := by decide +kernel
theorem dX8_hints_24 : decode cX8_hints 24 = .ok (.ireturn, 1) := by decide +kernel
theorem dX8_hints_25 : decode cX8_hints 25 = .ok (.aload_n 0, 1) := by decide +kernel
theorem dX8_hints_26 : decode cX8_hints 26 = .ok (.getfield 7, 3) := by decide +kernel
theorem dX8_hints_29 : decode cX8_hints 29 = .ok (.iload_n 1, 1) := by decide +kernel
theorem dX8_hints_30 : decode cX8_hints 30 = .ok (.iaload, 1) := by decide +kernel
theorem dX8_hints_31 : decode cX8_hints 31 = .ok (.ifCond .ge 9, 3) := by decide +kernel
theorem dX8_hints_34 : decode cX8_hints 34 = .ok (.aload_n 0, 1) := by decide +kernel
theorem dX8_hints_35 : decode cX8_hints 35 = .ok (.iconst 1, 1) := by decide +kernel
theorem dX8_hints_36 : decode cX8_hints 36 = .ok (.invokevirtual 97, 3) := by decide +kernel
theorem dX8_hints_39 : decode cX8_hints 39 = .ok (.ireturn, 1) := by decide +kernel
theorem dX8_hints_40 : decode cX8_hints 40 = .ok (.aload_n 0, 1) := by decide +kernel
theorem dX8_hints_41 : decode cX8_hints 41 = .ok (.invokevirtual 188, 3) := by decide +kernel
theorem dX8_hints_44 : decode cX8_hints 44 = .ok (.iconst 0, 1) := by decide +kernel
theorem dX8_hints_45 : decode cX8_hints 45 = .ok (.istore 4, 2) := by decide +kernel
theorem dX8_hints_47 : decode cX8_hints 47 = .ok (.iconst (-1), 1) := by decide +kernel
theorem dX8_hints_48 : decode cX8_hints 48 = .ok (.istore 5, 2) := by decide +kernel
theorem dX8_hints_50 : decode cX8_hints 50 = .ok (.iconst 0, 1) := by decide +kernel
theorem dX8_hints_51 : decode cX8_hints 51 = .ok (.istore 6, 2) := by decide +kernel
theorem dX8_hints_53 : decode cX8_hints 53 = .ok (.iload 6, 2) := by decide +kernel
theorem dX8_hints_55 : decode cX8_hints 55 = .ok (.bipush 64, 2) := by decide +kernel
theorem dX8_hints_57 : decode cX8_hints 57 = .ok (.if_icmp .ge 76, 3) := by decide +kernel
theorem dX8_hints_60 : decode cX8_hints 60 = .ok (.aload_n 0, 1) := by decide +kernel
theorem dX8_hints_61 : decode cX8_hints 61 = .ok (.getfield 25, 3) := by decide +kernel
theorem dX8_hints_64 : decode cX8_hints 64 = .ok (.iload 6, 2) := by decide +kernel
theorem dX8_hints_66 : decode cX8_hints 66 = .ok (.iaload, 1) := by decide +kernel
theorem dX8_hints_67 : decode cX8_hints 67 = .ok (.ifCond .ne 60, 3) := by decide +kernel
theorem dX8_hints_70 : decode cX8_hints 70 = .ok (.aload_n 0, 1) := by decide +kernel
theorem dX8_hints_71 : decode cX8_hints 71 = .ok (.iload 6, 2) := by decide +kernel
theorem dX8_hints_73 : decode cX8_hints 73 = .ok (.putfield 59, 3) := by decide +kernel
theorem dX8_hints_76 : decode cX8_hints 76 = .ok (.aload_n 0, 1) := by decide +kernel
theorem dX8_hints_77 : decode cX8_hints 77 = .ok (.invokevirtual 149, 3) := by decide +kernel
theorem dX8_hints_80 : decode cX8_hints 80 = .ok (.aload_n 0, 1) := by decide +kernel
theorem dX8_hints_81 : decode cX8_hints 81 = .ok (.iload_n 2, 1) := by decide +kernel
theorem dX8_hints_82 : decode cX8_hints 82 = .ok (.invokevirtual 212, 3) := by decide +kernel
theorem dX8_hints_85 : decode cX8_hints 85 = .ok (.aload_n 0, 1) := by decide +kernel
theorem dX8_hints_86 : decode cX8_hints 86 = .ok (.iload_n 1, 1) := by decide +kernel
theorem dX8_hints_87 : decode cX8_hints 87 = .ok (.invokevirtual 289, 3) := by decide +kernel
theorem dX8_hints_90 : decode cX8_hints 90 = .ok (.istore 7, 2) := by decide +kernel
theorem dX8_hints_92 : decode cX8_hints 92 = .ok (.iload 7, 2) := by decide +kernel
theorem dX8_hints_94 : decode cX8_hints 94 = .ok (.ifCond .eq 14, 3) := by decide +kernel
theorem dX8_hints_97 : decode cX8_hints 97 = .ok (.iload 5, 2) := by decide +kernel
theorem dX8_hints_99 : decode cX8_hints 99 = .ok (.iconst (-1), 1) := by decide +kernel
theorem dX8_hints_100 : decode cX8_hints 100 = .ok (.if_icmp .ne 8, 3) := by decide +kernel
theorem dX8_hints_103 : decode cX8_hints 103 = .ok (.iload 6, 2) := by decide +kernel
theorem dX8_hints_105 : decode cX8_hints 105 = .ok (.goto 5, 3) := by decide +kernel
theorem dX8_hints_108 : decode cX8_hints 108 = .ok (.iload 5, 2) := by decide +kernel
theorem dX8_hints_110 : decode cX8_hints 110 = .ok (.istore 5, 2) := by decide +kernel
theorem dX8_hints_112 : decode cX8_hints 112 = .ok (.iload 4, 2) := by decide +kernel
theorem dX8_hints_114 : decode cX8_hints 114 = .ok (.iload 7, 2) := by decide +kernel
theorem dX8_hints_116 : decode cX8_hints 116 = .ok (.ifCond .eq 7, 3) := by decide +kernel
theorem dX8_hints_119 : decode cX8_hints 119 = .ok (.iconst 1, 1) := by decide +kernel
theorem dX8_hints_120 : decode cX8_hints 120 = .ok (.goto 4, 3) := by decide +kernel
theorem dX8_hints_123 : decode cX8_hints 123 = .ok (.iconst 0, 1) := by decide +kernel
theorem dX8_hints_124 : decode cX8_hints 124 = .ok (.iadd, 1) := by decide +kernel
theorem dX8_hints_125 : decode cX8_hints 125 = .ok (.istore 4, 2) := by decide +kernel
theorem dX8_hints_127 : decode cX8_hints 127 = .ok (.iinc 6 1, 3) := by decide +kernel
theorem dX8_hints_130 : decode cX8_hints 130 = .ok (.goto (-77), 3) := by decide +kernel
theorem dX8_hints_133 : decode cX8_hints 133 = .ok (.iload_n 3, 1) := by decide +kernel
theorem dX8_hints_134 : decode cX8_hints 134 = .ok (.ifCond .ne 8, 3) := by decide +kernel
theorem dX8_hints_137 : decode cX8_hints 137 = .ok (.iload 4, 2) := by decide +kernel
theorem dX8_hints_139 : decode cX8_hints 139 = .ok (.goto 5, 3) := by decide +kernel
theorem dX8_hints_142 : decode cX8_hints 142 = .ok (.iload 5, 2) := by decide +kernel
theorem dX8_hints_144 : decode cX8_hints 144 = .ok (.ireturn, 1) := by decide +kernel
theorem dX8_write_0 : decode cX8_write 0 = .ok (.iload_n 1, 1) := by decide +kernel
theorem dX8_write_1 : decode cX8_write 1 = .ok (.invokestatic 91, 3) := by decide +kernel
theorem dX8_write_4 : decode cX8_write 4 = .ok (.ifCond .ne 6, 3) := by decide +kernel
theorem dX8_write_7 : decode cX8_write 7 = .ok (.bipush (-2), 2) := by decide +kernel
theorem dX8_write_9 : decode cX8_write 9 = .ok (.ireturn, 1) := by decide +kernel
theorem dX8_write_10 : decode cX8_write 10 = .ok (.aload_n 0, 1) := by decide +kernel
theorem dX8_write_11 : decode cX8_write 11 = .ok (.getfield 7, 3) := by decide +kernel
theorem dX8_write_14 : decode cX8_write 14 = .ok (.iload_n 1, 1) := by decide +kernel
theorem dX8_write_15 : decode cX8_write 15 = .ok (.iaload, 1) := by decide +kernel
theorem dX8_write_16 : decode cX8_write 16 = .ok (.ifCond .ge 9, 3) := by decide +kernel
theorem dX8_write_19 : decode cX8_write 19 = .ok (.aload_n 0, 1) := by decide +kernel
theorem dX8_write_20 : decode cX8_write 20 = .ok (.iconst 1, 1) := by decide +kernel
theorem dX8_write_21 : decode cX8_write 21 = .ok (.invokevirtual 97, 3) := by decide +kernel
theorem dX8_write_24 : decode cX8_write 24 = .ok (.ireturn, 1) := by decide +kernel
theorem dX8_write_25 : decode cX8_write 25 = .ok (.aload_n 0, 1) := by decide +kernel
theorem dX8_write_26 : decode cX8_write 26 = .ok (.invokevirtual 188, 3) := by decide +kernel
theorem dX8_write_29 : decode cX8_write 29 = .ok (.aload_n 0, 1) := by decide +kernel
theorem dX8_write_30 : decode cX8_write 30 = .ok (.invokevirtual 218, 3) := by decide +kernel
theorem dX8_write_33 : decode cX8_write 33 = .ok (.iconst 0, 1) := by decide +kernel
theorem dX8_write_34 : decode cX8_write 34 = .ok (.istore_n 2, 1) := by decide +kernel
theorem dX8_write_35 : decode cX8_write 35 = .ok (.iload_n 2, 1) := by decide +kernel
theorem dX8_write_36 : decode cX8_write 36 = .ok (.aload_n 0, 1) := by decide +kernel
theorem dX8_write_37 : decode cX8_write 37 = .ok (.getfield 13, 3) := by decide +kernel
theorem dX8_write_40 : decode cX8_write 40 = .ok (.iload_n 1, 1) := by decide +kernel
theorem dX8_write_41 : decode cX8_write 41 = .ok (.iaload, 1) := by decide +kernel
theorem dX8_write_42 : decode cX8_write 42 = .ok (.if_icmp .ge 35, 3) := by decide +kernel
theorem dX8_write_45 : decode cX8_write 45 = .ok (.aload_n 0, 1) := by decide +kernel
theorem dX8_write_46 : decode cX8_write 46 = .ok (.getfield 16, 3) := by decide +kernel
theorem dX8_write_49 : decode cX8_write 49 = .ok (.bipush 64, 2) := by decide +kernel
theorem dX8_write_51 : decode cX8_write 51 = .ok (.iload_n 1, 1) := by decide +kernel
theorem dX8_write_52 : decode cX8_write 52 = .ok (.imul, 1) := by decide +kernel
theorem dX8_write_53 : decode cX8_write 53 = .ok (.iload_n 2, 1) := by decide +kernel
theorem dX8_write_54 : decode cX8_write 54 = .ok (.iadd, 1) := by decide +kernel
theorem dX8_write_55 : decode cX8_write 55 = .ok (.aload_n 0, 1) := by decide +kernel
theorem dX8_write_56 : decode cX8_write 56 = .ok (.getfield 7, 3) := by decide +kernel
theorem dX8_write_59 : decode cX8_write 59 = .ok (.iload_n 1, 1) := by decide +kernel
theorem dX8_write_60 : decode cX8_write 60 = .ok (.iaload, 1) := by decide +kernel
theorem dX8_write_61 : decode cX8_write 61 = .ok (.aload_n 0, 1) := by decide +kernel
theorem dX8_write_62 : decode cX8_write 62 = .ok (.getfield 52, 3) := by decide +kernel
theorem dX8_write_65 : decode cX8_write 65 = .ok (.iload_n 2, 1) := by decide +kernel
theorem dX8_write_66 : decode cX8_write 66 = .ok (.iaload, 1) := by decide +kernel
theorem dX8_write_67 : decode cX8_write 67 = .ok (.invokestatic 105, 3) := by decide +kernel
theorem dX8_write_70 : decode cX8_write 70 = .ok (.iastore, 1) := by decide +kernel
theorem dX8_write_71 : decode cX8_write 71 = .ok (.iinc 2 1, 3) := by decide +kernel
theorem dX8_write_74 : decode cX8_write 74 = .ok (.goto (-39), 3) := by decide +kernel
theorem dX8_write_77 : decode cX8_write 77 = .ok (.aload_n 0, 1) := by decide +kernel
theorem dX8_write_78 : decode cX8_write 78 = .ok (.getfield 13, 3) := by decide +kernel
theorem dX8_write_81 : decode cX8_write 81 = .ok (.iload_n 1, 1) := by decide +kernel
theorem dX8_write_82 : decode cX8_write 82 = .ok (.iaload, 1) := by decide +kernel
theorem dX8_write_83 : decode cX8_write 83 = .ok (.ireturn, 1) := by decide +kernel
theorem dX8_count_0 : decode cX8_count 0 = .ok (.iconst 0, 1) := by decide +kernel
theorem dX8_count_1 : decode cX8_count 1 = .ok (.istore_n 2, 1) := by decide +kernel
theorem dX8_count_2 : decode cX8_count 2 = .ok (.aload_n 0, 1) := by decide +kernel
theorem dX8_count_3 : decode cX8_count 3 = .ok (.invokevirtual 122, 3) := by decide +kernel
theorem dX8_count_6 : decode cX8_count 6 = .ok (.pop, 1) := by decide +kernel
theorem dX8_count_7 : decode cX8_count 7 = .ok (.iload_n 1, 1) := by decide +kernel
theorem dX8_count_8 : decode cX8_count 8 = .ok (.tableswitch 168 0 8 #[52, 57, 57, 91, 91, 91, 91, 158, 163], 52) := by decide +kernel
theorem dX8_count_60 : decode cX8_count 60 = .ok (.aload_n 0, 1) := by decide +kernel
theorem dX8_count_61 : decode cX8_count 61 = .ok (.getfield 112, 3) := by decide +kernel
theorem dX8_count_64 : decode cX8_count 64 = .ok (.ireturn, 1) := by decide +kernel
theorem dX8_count_65 : decode cX8_count 65 = .ok (.iconst 0, 1) := by decide +kernel
theorem dX8_count_66 : decode cX8_count 66 = .ok (.istore_n 3, 1) := by decide +kernel
theorem dX8_count_67 : decode cX8_count 67 = .ok (.iload_n 3, 1) := by decide +kernel
theorem dX8_count_68 : decode cX8_count 68 = .ok (.bipush 64, 2) := by decide +kernel
theorem dX8_count_70 : decode cX8_count 70 = .ok (.if_icmp .ge 27, 3) := by decide +kernel
theorem dX8_count_73 : decode cX8_count 73 = .ok (.iload_n 2, 1) := by decide +kernel
theorem dX8_count_74 : decode cX8_count 74 = .ok (.aload_n 0, 1) := by decide +kernel
theorem dX8_count_75 : decode cX8_count 75 = .ok (.getfield 25, 3) := by decide +kernel
theorem dX8_count_78 : decode cX8_count 78 = .ok (.iload_n 3, 1) := by decide +kernel
theorem dX8_count_79 : decode cX8_count 79 = .ok (.iaload, 1) := by decide +kernel
theorem dX8_count_80 : decode cX8_count 80 = .ok (.iload_n 1, 1) := by decide +kernel
theorem dX8_count_81 : decode cX8_count 81 = .ok (.if_icmp .ne 7, 3) := by decide +kernel
theorem dX8_count_84 : decode cX8_count 84 = .ok (.iconst 1, 1) := by decide +kernel
theorem dX8_count_85 : decode cX8_count 85 = .ok (.goto 4, 3) := by decide +kernel
theorem dX8_count_88 : decode cX8_count 88 = .ok (.iconst 0, 1) := by decide +kernel
theorem dX8_count_89 : decode cX8_count 89 = .ok (.iadd, 1) := by decide +kernel
theorem dX8_count_90 : decode cX8_count 90 = .ok (.istore_n 2, 1) := by decide +kernel
theorem dX8_count_91 : decode cX8_count 91 = .ok (.iinc 3 1, 3) := by decide +kernel
theorem dX8_count_94 : decode cX8_count 94 = .ok (.goto (-27), 3) := by decide +kernel
theorem dX8_count_97 : decode cX8_count 97 = .ok (.iload_n 2, 1) := by decide +kernel
theorem dX8_count_98 : decode cX8_count 98 = .ok (.ireturn, 1) := by decide +kernel
theorem dX8_count_99 : decode cX8_count 99 = .ok (.iconst 0, 1) := by decide +kernel
theorem dX8_count_100 : decode cX8_count 100 = .ok (.istore_n 3, 1) := by decide +kernel
theorem dX8_count_101 : decode cX8_count 101 = .ok (.iload_n 3, 1) := by decide +kernel
theorem dX8_count_102 : decode cX8_count 102 = .ok (.bipush 64, 2) := by decide +kernel
theorem dX8_count_104 : decode cX8_count 104 = .ok (.if_icmp .ge 60, 3) := by decide +kernel
theorem dX8_count_107 : decode cX8_count 107 = .ok (.iload_n 2, 1) := by decide +kernel
theorem dX8_count_108 : decode cX8_count 108 = .ok (.iload_n 1, 1) := by decide +kernel
theorem dX8_count_109 : decode cX8_count 109 = .ok (.iconst 3, 1) := by decide +kernel
theorem dX8_count_110 : decode cX8_count 110 = .ok (.if_icmp .ne 12, 3) := by decide +kernel
theorem dX8_count_113 : decode cX8_count 113 = .ok (.aload_n 0, 1) := by decide +kernel
theorem dX8_count_114 : decode cX8_count 114 = .ok (.getfield 28, 3) := by decide +kernel
theorem dX8_count_117 : decode cX8_count 117 = .ok (.iload_n 3, 1) := by decide +kernel
theorem dX8_count_118 : decode cX8_count 118 = .ok (.iaload, 1) := by decide +kernel
theorem dX8_count_119 : decode cX8_count 119 = .ok (.goto 37, 3) := by decide +kernel
theorem dX8_count_122 : decode cX8_count 122 = .ok (.iload_n 1, 1) := by decide +kernel
theorem dX8_count_123 : decode cX8_count 123 = .ok (.iconst 4, 1) := by decide +kernel
theorem dX8_count_124 : decode cX8_count 124 = .ok (.if_icmp .ne 12, 3) := by decide +kernel
theorem dX8_count_127 : decode cX8_count 127 = .ok (.aload_n 0, 1) := by decide +kernel
theorem dX8_count_128 : decode cX8_count 128 = .ok (.getfield 31, 3) := by decide +kernel
theorem dX8_count_131 : decode cX8_count 131 = .ok (.iload_n 3, 1) := by decide +kernel
theorem dX8_count_132 : decode cX8_count 132 = .ok (.iaload, 1) := by decide +kernel
theorem dX8_count_133 : decode cX8_count 133 = .ok (.goto 23, 3) := by decide +kernel
theorem dX8_count_136 : decode cX8_count 136 = .ok (.iload_n 1, 1) := by decide +kernel
theorem dX8_count_137 : decode cX8_count 137 = .ok (.iconst 5, 1) := by decide +kernel
theorem dX8_count_138 : decode cX8_count 138 = .ok (.if_icmp .ne 12, 3) := by decide +kernel
theorem dX8_count_141 : decode cX8_count 141 = .ok (.aload_n 0, 1) := by decide +kernel
theorem dX8_count_142 : decode cX8_count 142 = .ok (.getfield 34, 3) := by decide +kernel
theorem dX8_count_145 : decode cX8_count 145 = .ok (.iload_n 3, 1) := by decide +kernel
theorem dX8_count_146 : decode cX8_count 146 = .ok (.iaload, 1) := by decide +kernel
theorem dX8_count_147 : decode cX8_count 147 = .ok (.goto 9, 3) := by decide +kernel
theorem dX8_count_150 : decode cX8_count 150 = .ok (.aload_n 0, 1) := by decide +kernel
theorem dX8_count_151 : decode cX8_count 151 = .ok (.getfield 37, 3) := by decide +kernel
theorem dX8_count_154 : decode cX8_count 154 = .ok (.iload_n 3, 1) := by decide +kernel
theorem dX8_count_155 : decode cX8_count 155 = .ok (.iaload, 1) := by decide +kernel
theorem dX8_count_156 : decode cX8_count 156 = .ok (.iadd, 1) := by decide +kernel
theorem dX8_count_157 : decode cX8_count 157 = .ok (.istore_n 2, 1) := by decide +kernel
theorem dX8_count_158 : decode cX8_count 158 = .ok (.iinc 3 1, 3) := by decide +kernel
theorem dX8_count_161 : decode cX8_count 161 = .ok (.goto (-60), 3) := by decide +kernel
theorem dX8_count_164 : decode cX8_count 164 = .ok (.iload_n 2, 1) := by decide +kernel
theorem dX8_count_165 : decode cX8_count 165 = .ok (.ireturn, 1) := by decide +kernel
theorem dX8_count_166 : decode cX8_count 166 = .ok (.aload_n 0, 1) := by decide +kernel
theorem dX8_count_167 : decode cX8_count 167 = .ok (.getfield 146, 3) := by decide +kernel
theorem dX8_count_170 : decode cX8_count 170 = .ok (.ireturn, 1) := by decide +kernel
theorem dX8_count_171 : decode cX8_count 171 = .ok (.aload_n 0, 1) := by decide +kernel
theorem dX8_count_172 : decode cX8_count 172 = .ok (.getfield 86, 3) := by decide +kernel
theorem dX8_count_175 : decode cX8_count 175 = .ok (.ireturn, 1) := by decide +kernel
theorem dX8_count_176 : decode cX8_count 176 = .ok (.bipush (-2), 2) := by decide +kernel
theorem dX8_count_178 : decode cX8_count 178 = .ok (.ireturn, 1) := by decide +kernel
theorem dX8_digest_0 : decode cX8_digest 0 = .ok (.ldc2_w 295, 3) := by decide +kernel
theorem dX8_digest_3 : decode cX8_digest 3 = .ok (.lstore_n 1, 1) := by decide +kernel
theorem dX8_digest_4 : decode cX8_digest 4 = .ok (.iconst 0, 1) := by decide +kernel
theorem dX8_digest_5 : decode cX8_digest 5 = .ok (.istore_n 3, 1) := by decide +kernel
theorem dX8_digest_6 : decode cX8_digest 6 = .ok (.iload_n 3, 1) := by decide +kernel
theorem dX8_digest_7 : decode cX8_digest 7 = .ok (.bipush 8, 2) := by decide +kernel
theorem dX8_digest_9 : decode cX8_digest 9 = .ok (.if_icmp .ge 22, 3) := by decide +kernel
theorem dX8_digest_12 : decode cX8_digest 12 = .ok (.ldc2_w 297, 3) := by decide +kernel
theorem dX8_digest_15 : decode cX8_digest 15 = .ok (.lload_n 1, 1) := by decide +kernel
theorem dX8_digest_16 : decode cX8_digest 16 = .ok (.lmul, 1) := by decide +kernel
theorem dX8_digest_17 : decode cX8_digest 17 = .ok (.aload_n 0, 1) := by decide +kernel
theorem dX8_digest_18 : decode cX8_digest 18 = .ok (.iload_n 3, 1) := by decide +kernel
theorem dX8_digest_19 : decode cX8_digest 19 = .ok (.invokevirtual 299, 3) := by decide +kernel
theorem dX8_digest_22 : decode cX8_digest 22 = .ok (.i2l, 1) := by decide +kernel
theorem dX8_digest_23 : decode cX8_digest 23 = .ok (.ladd, 1) := by decide +kernel
theorem dX8_digest_24 : decode cX8_digest 24 = .ok (.lstore_n 1, 1) := by decide +kernel
theorem dX8_digest_25 : decode cX8_digest 25 = .ok (.iinc 3 1, 3) := by decide +kernel
theorem dX8_digest_28 : decode cX8_digest 28 = .ok (.goto (-22), 3) := by decide +kernel
theorem dX8_digest_31 : decode cX8_digest 31 = .ok (.ldc2_w 297, 3) := by decide +kernel
theorem dX8_digest_34 : decode cX8_digest 34 = .ok (.lload_n 1, 1) := by decide +kernel
theorem dX8_digest_35 : decode cX8_digest 35 = .ok (.lmul, 1) := by decide +kernel
theorem dX8_digest_36 : decode cX8_digest 36 = .ok (.aload_n 0, 1) := by decide +kernel
theorem dX8_digest_37 : decode cX8_digest 37 = .ok (.invokevirtual 122, 3) := by decide +kernel
theorem dX8_digest_40 : decode cX8_digest 40 = .ok (.i2l, 1) := by decide +kernel
theorem dX8_digest_41 : decode cX8_digest 41 = .ok (.ladd, 1) := by decide +kernel
theorem dX8_digest_42 : decode cX8_digest 42 = .ok (.lstore_n 1, 1) := by decide +kernel
theorem dX8_digest_43 : decode cX8_digest 43 = .ok (.iconst 0, 1) := by decide +kernel
theorem dX8_digest_44 : decode cX8_digest 44 = .ok (.istore_n 3, 1) := by decide +kernel
theorem dX8_digest_45 : decode cX8_digest 45 = .ok (.iload_n 3, 1) := by decide +kernel
theorem dX8_digest_46 : decode cX8_digest 46 = .ok (.bipush 64, 2) := by decide +kernel
theorem dX8_digest_48 : decode cX8_digest 48 = .ok (.if_icmp .ge 39, 3) := by decide +kernel
theorem dX8_digest_51 : decode cX8_digest 51 = .ok (.iconst 0, 1) := by decide +kernel
theorem dX8_digest_52 : decode cX8_digest 52 = .ok (.istore 4, 2) := by decide +kernel
theorem dX8_digest_54 : decode cX8_digest 54 = .ok (.iload 4, 2) := by decide +kernel
theorem dX8_digest_56 : decode cX8_digest 56 = .ok (.iconst 5, 1) := by decide +kernel
theorem dX8_digest_57 : decode cX8_digest 57 = .ok (.if_icmp .ge 24, 3) := by decide +kernel
theorem dX8_digest_60 : decode cX8_digest 60 = .ok (.ldc2_w 297, 3) := by decide +kernel
theorem dX8_digest_63 : decode cX8_digest 63 = .ok (.lload_n 1, 1) := by decide +kernel
theorem dX8_digest_64 : decode cX8_digest 64 = .ok (.lmul, 1) := by decide +kernel
theorem dX8_digest_65 : decode cX8_digest 65 = .ok (.aload_n 0, 1) := by decide +kernel
theorem dX8_digest_66 : decode cX8_digest 66 = .ok (.iload_n 3, 1) := by decide +kernel
theorem dX8_digest_67 : decode cX8_digest 67 = .ok (.iload 4, 2) := by decide +kernel
theorem dX8_digest_69 : decode cX8_digest 69 = .ok (.invokevirtual 130, 3) := by decide +kernel
theorem dX8_digest_72 : decode cX8_digest 72 = .ok (.i2l, 1) := by decide +kernel
theorem dX8_digest_73 : decode cX8_digest 73 = .ok (.ladd, 1) := by decide +kernel
theorem dX8_digest_74 : decode cX8_digest 74 = .ok (.lstore_n 1, 1) := by decide +kernel
theorem dX8_digest_75 : decode cX8_digest 75 = .ok (.iinc 4 1, 3) := by decide +kernel
theorem dX8_digest_78 : decode cX8_digest 78 = .ok (.goto (-24), 3) := by decide +kernel
theorem dX8_digest_81 : decode cX8_digest 81 = .ok (.iinc 3 1, 3) := by decide +kernel
theorem dX8_digest_84 : decode cX8_digest 84 = .ok (.goto (-39), 3) := by decide +kernel
theorem dX8_digest_87 : decode cX8_digest 87 = .ok (.iconst 0, 1) := by decide +kernel
theorem dX8_digest_88 : decode cX8_digest 88 = .ok (.istore_n 3, 1) := by decide +kernel
theorem dX8_digest_89 : decode cX8_digest 89 = .ok (.iload_n 3, 1) := by decide +kernel
theorem dX8_digest_90 : decode cX8_digest 90 = .ok (.aload_n 0, 1) := by decide +kernel
theorem dX8_digest_91 : decode cX8_digest 91 = .ok (.getfield 146, 3) := by decide +kernel
theorem dX8_digest_94 : decode cX8_digest 94 = .ok (.if_icmp .ge 51, 3) := by decide +kernel
theorem dX8_digest_97 : decode cX8_digest 97 = .ok (.aload_n 0, 1) := by decide +kernel
theorem dX8_digest_98 : decode cX8_digest 98 = .ok (.invokevirtual 188, 3) := by decide +kernel
theorem dX8_digest_101 : decode cX8_digest 101 = .ok (.ldc2_w 297, 3) := by decide +kernel
theorem dX8_digest_104 : decode cX8_digest 104 = .ok (.lload_n 1, 1) := by decide +kernel
theorem dX8_digest_105 : decode cX8_digest 105 = .ok (.lmul, 1) := by decide +kernel
theorem dX8_digest_106 : decode cX8_digest 106 = .ok (.aload_n 0, 1) := by decide +kernel
theorem dX8_digest_107 : decode cX8_digest 107 = .ok (.iload_n 3, 1) := by decide +kernel
theorem dX8_digest_108 : decode cX8_digest 108 = .ok (.invokevirtual 206, 3) := by decide +kernel
theorem dX8_digest_111 : decode cX8_digest 111 = .ok (.i2l, 1) := by decide +kernel
theorem dX8_digest_112 : decode cX8_digest 112 = .ok (.ladd, 1) := by decide +kernel
theorem dX8_digest_113 : decode cX8_digest 113 = .ok (.lstore_n 1, 1) := by decide +kernel
theorem dX8_digest_114 : decode cX8_digest 114 = .ok (.ldc2_w 297, 3) := by decide +kernel
theorem dX8_digest_117 : decode cX8_digest 117 = .ok (.lload_n 1, 1) := by decide +kernel
theorem dX8_digest_118 : decode cX8_digest 118 = .ok (.lmul, 1) := by decide +kernel
theorem dX8_digest_119 : decode cX8_digest 119 = .ok (.aload_n 0, 1) := by decide +kernel
theorem dX8_digest_120 : decode cX8_digest 120 = .ok (.aload_n 0, 1) := by decide +kernel
theorem dX8_digest_121 : decode cX8_digest 121 = .ok (.getfield 40, 3) := by decide +kernel
theorem dX8_digest_124 : decode cX8_digest 124 = .ok (.iload_n 3, 1) := by decide +kernel
theorem dX8_digest_125 : decode cX8_digest 125 = .ok (.iaload, 1) := by decide +kernel
theorem dX8_digest_126 : decode cX8_digest 126 = .ok (.aload_n 0, 1) := by decide +kernel
theorem dX8_digest_127 : decode cX8_digest 127 = .ok (.getfield 43, 3) := by decide +kernel
theorem dX8_digest_130 : decode cX8_digest 130 = .ok (.iload_n 3, 1) := by decide +kernel
theorem dX8_digest_131 : decode cX8_digest 131 = .ok (.iaload, 1) := by decide +kernel
theorem dX8_digest_132 : decode cX8_digest 132 = .ok (.iconst (-1), 1) := by decide +kernel
theorem dX8_digest_133 : decode cX8_digest 133 = .ok (.invokevirtual 199, 3) := by decide +kernel
theorem dX8_digest_136 : decode cX8_digest 136 = .ok (.i2l, 1) := by decide +kernel
theorem dX8_digest_137 : decode cX8_digest 137 = .ok (.ladd, 1) := by decide +kernel
theorem dX8_digest_138 : decode cX8_digest 138 = .ok (.lstore_n 1, 1) := by decide +kernel
theorem dX8_digest_139 : decode cX8_digest 139 = .ok (.iinc 3 1, 3) := by decide +kernel
theorem dX8_digest_142 : decode cX8_digest 142 = .ok (.goto (-53), 3) := by decide +kernel
theorem dX8_digest_145 : decode cX8_digest 145 = .ok (.iconst 0, 1) := by decide +kernel
theorem dX8_digest_146 : decode cX8_digest 146 = .ok (.istore_n 3, 1) := by decide +kernel
theorem dX8_digest_147 : decode cX8_digest 147 = .ok (.iload_n 3, 1) := by decide +kernel
theorem dX8_digest_148 : decode cX8_digest 148 = .ok (.iconst 4, 1) := by decide +kernel
theorem dX8_digest_149 : decode cX8_digest 149 = .ok (.if_icmp .ge 22, 3) := by decide +kernel
theorem dX8_digest_152 : decode cX8_digest 152 = .ok (.ldc2_w 297, 3) := by decide +kernel
theorem dX8_digest_155 : decode cX8_digest 155 = .ok (.lload_n 1, 1) := by decide +kernel
theorem dX8_digest_156 : decode cX8_digest 156 = .ok (.lmul, 1) := by decide +kernel
theorem dX8_digest_157 : decode cX8_digest 157 = .ok (.aload_n 0, 1) := by decide +kernel
theorem dX8_digest_158 : decode cX8_digest 158 = .ok (.iload_n 3, 1) := by decide +kernel
theorem dX8_digest_159 : decode cX8_digest 159 = .ok (.invokevirtual 221, 3) := by decide +kernel
theorem dX8_digest_162 : decode cX8_digest 162 = .ok (.i2l, 1) := by decide +kernel
theorem dX8_digest_163 : decode cX8_digest 163 = .ok (.ladd, 1) := by decide +kernel
theorem dX8_digest_164 : decode cX8_digest 164 = .ok (.lstore_n 1, 1) := by decide +kernel
theorem dX8_digest_165 : decode cX8_digest 165 = .ok (.iinc 3 1, 3) := by decide +kernel
theorem dX8_digest_168 : decode cX8_digest 168 = .ok (.goto (-21), 3) := by decide +kernel
theorem dX8_digest_171 : decode cX8_digest 171 = .ok (.ldc2_w 297, 3) := by decide +kernel
theorem dX8_digest_174 : decode cX8_digest 174 = .ok (.lload_n 1, 1) := by decide +kernel
theorem dX8_digest_175 : decode cX8_digest 175 = .ok (.lmul, 1) := by decide +kernel
theorem dX8_digest_176 : decode cX8_digest 176 = .ok (.aload_n 0, 1) := by decide +kernel
theorem dX8_digest_177 : decode cX8_digest 177 = .ok (.invokevirtual 224, 3) := by decide +kernel
theorem dX8_digest_180 : decode cX8_digest 180 = .ok (.i2l, 1) := by decide +kernel
theorem dX8_digest_181 : decode cX8_digest 181 = .ok (.ladd, 1) := by decide +kernel
theorem dX8_digest_182 : decode cX8_digest 182 = .ok (.lstore_n 1, 1) := by decide +kernel
theorem dX8_digest_183 : decode cX8_digest 183 = .ok (.ldc2_w 297, 3) := by decide +kernel
theorem dX8_digest_186 : decode cX8_digest 186 = .ok (.lload_n 1, 1) := by decide +kernel
theorem dX8_digest_187 : decode cX8_digest 187 = .ok (.lmul, 1) := by decide +kernel
theorem dX8_digest_188 : decode cX8_digest 188 = .ok (.aload_n 0, 1) := by decide +kernel
theorem dX8_digest_189 : decode cX8_digest 189 = .ok (.iconst 0, 1) := by decide +kernel
theorem dX8_digest_190 : decode cX8_digest 190 = .ok (.invokevirtual 251, 3) := by decide +kernel
theorem dX8_digest_193 : decode cX8_digest 193 = .ok (.i2l, 1) := by decide +kernel
theorem dX8_digest_194 : decode cX8_digest 194 = .ok (.ladd, 1) := by decide +kernel
theorem dX8_digest_195 : decode cX8_digest 195 = .ok (.lstore_n 1, 1) := by decide +kernel
theorem dX8_digest_196 : decode cX8_digest 196 = .ok (.ldc2_w 297, 3) := by decide +kernel
theorem dX8_digest_199 : decode cX8_digest 199 = .ok (.lload_n 1, 1) := by decide +kernel
theorem dX8_digest_200 : decode cX8_digest 200 = .ok (.lmul, 1) := by decide +kernel
theorem dX8_digest_201 : decode cX8_digest 201 = .ok (.aload_n 0, 1) := by decide +kernel
theorem dX8_digest_202 : decode cX8_digest 202 = .ok (.iconst 1, 1) := by decide +kernel
theorem dX8_digest_203 : decode cX8_digest 203 = .ok (.invokevirtual 251, 3) := by decide +kernel
theorem dX8_digest_206 : decode cX8_digest 206 = .ok (.i2l, 1) := by decide +kernel
theorem dX8_digest_207 : decode cX8_digest 207 = .ok (.ladd, 1) := by decide +kernel
theorem dX8_digest_208 : decode cX8_digest 208 = .ok (.lstore_n 1, 1) := by decide +kernel
theorem dX8_digest_209 : decode cX8_digest 209 = .ok (.aload_n 0, 1) := by decide +kernel
theorem dX8_digest_210 : decode cX8_digest 210 = .ok (.invokevirtual 260, 3) := by decide +kernel
theorem dX8_digest_213 : decode cX8_digest 213 = .ok (.ldc2_w 297, 3) := by decide +kernel
theorem dX8_digest_216 : decode cX8_digest 216 = .ok (.lload_n 1, 1) := by decide +kernel
theorem dX8_digest_217 : decode cX8_digest 217 = .ok (.lmul, 1) := by decide +kernel
theorem dX8_digest_218 : decode cX8_digest 218 = .ok (.aload_n 0, 1) := by decide +kernel
theorem dX8_digest_219 : decode cX8_digest 219 = .ok (.getfield 254, 3) := by decide +kernel
theorem dX8_digest_222 : decode cX8_digest 222 = .ok (.i2l, 1) := by decide +kernel
theorem dX8_digest_223 : decode cX8_digest 223 = .ok (.ladd, 1) := by decide +kernel
theorem dX8_digest_224 : decode cX8_digest 224 = .ok (.lstore_n 1, 1) := by decide +kernel
theorem dX8_digest_225 : decode cX8_digest 225 = .ok (.ldc2_w 297, 3) := by decide +kernel
theorem dX8_digest_228 : decode cX8_digest 228 = .ok (.lload_n 1, 1) := by decide +kernel
theorem dX8_digest_229 : decode cX8_digest 229 = .ok (.lmul, 1) := by decide +kernel
theorem dX8_digest_230 : decode cX8_digest 230 = .ok (.aload_n 0, 1) := by decide +kernel
theorem dX8_digest_231 : decode cX8_digest 231 = .ok (.getfield 257, 3) := by decide +kernel
theorem dX8_digest_234 : decode cX8_digest 234 = .ok (.i2l, 1) := by decide +kernel
theorem dX8_digest_235 : decode cX8_digest 235 = .ok (.ladd, 1) := by decide +kernel
theorem dX8_digest_236 : decode cX8_digest 236 = .ok (.lstore_n 1, 1) := by decide +kernel
theorem dX8_digest_237 : decode cX8_digest 237 = .ok (.iconst 0, 1) := by decide +kernel
theorem dX8_digest_238 : decode cX8_digest 238 = .ok (.istore_n 3, 1) := by decide +kernel
theorem dX8_digest_239 : decode cX8_digest 239 = .ok (.iload_n 3, 1) := by decide +kernel
theorem dX8_digest_240 : decode cX8_digest 240 = .ok (.iconst 2, 1) := by decide +kernel
theorem dX8_digest_241 : decode cX8_digest 241 = .ok (.if_icmp .ge 22, 3) := by decide +kernel
theorem dX8_digest_244 : decode cX8_digest 244 = .ok (.ldc2_w 297, 3) := by decide +kernel
theorem dX8_digest_247 : decode cX8_digest 247 = .ok (.lload_n 1, 1) := by decide +kernel
theorem dX8_digest_248 : decode cX8_digest 248 = .ok (.lmul, 1) := by decide +kernel
theorem dX8_digest_249 : decode cX8_digest 249 = .ok (.aload_n 0, 1) := by decide +kernel
theorem dX8_digest_250 : decode cX8_digest 250 = .ok (.iconst 0, 1) := by decide +kernel
theorem dX8_digest_251 : decode cX8_digest 251 = .ok (.iload_n 3, 1) := by decide +kernel
theorem dX8_digest_252 : decode cX8_digest 252 = .ok (.invokevirtual 270, 3) := by decide +kernel
theorem dX8_digest_255 : decode cX8_digest 255 = .ok (.ladd, 1) := by decide +kernel
theorem dX8_digest_256 : decode cX8_digest 256 = .ok (.lstore_n 1, 1) := by decide +kernel
theorem dX8_digest_257 : decode cX8_digest 257 = .ok (.iinc 3 1, 3) := by decide +kernel
theorem dX8_digest_260 : decode cX8_digest 260 = .ok (.goto (-21), 3) := by decide +kernel
theorem dX8_digest_263 : decode cX8_digest 263 = .ok (.iconst 0, 1) := by decide +kernel
theorem dX8_digest_264 : decode cX8_digest 264 = .ok (.istore_n 3, 1) := by decide +kernel
theorem dX8_digest_265 : decode cX8_digest 265 = .ok (.iload_n 3, 1) := by decide +kernel
theorem dX8_digest_266 : decode cX8_digest 266 = .ok (.iconst 2, 1) := by decide +kernel
theorem dX8_digest_267 : decode cX8_digest 267 = .ok (.if_icmp .ge 22, 3) := by decide +kernel
theorem dX8_digest_270 : decode cX8_digest 270 = .ok (.ldc2_w 297, 3) := by decide +kernel
theorem dX8_digest_273 : decode cX8_digest 273 = .ok (.lload_n 1, 1) := by decide +kernel
theorem dX8_digest_274 : decode cX8_digest 274 = .ok (.lmul, 1) := by decide +kernel
theorem dX8_digest_275 : decode cX8_digest 275 = .ok (.aload_n 0, 1) := by decide +kernel
theorem dX8_digest_276 : decode cX8_digest 276 = .ok (.iconst 2, 1) := by decide +kernel
theorem dX8_digest_277 : decode cX8_digest 277 = .ok (.iload_n 3, 1) := by decide +kernel
theorem dX8_digest_278 : decode cX8_digest 278 = .ok (.invokevirtual 270, 3) := by decide +kernel
theorem dX8_digest_281 : decode cX8_digest 281 = .ok (.ladd, 1) := by decide +kernel
theorem dX8_digest_282 : decode cX8_digest 282 = .ok (.lstore_n 1, 1) := by decide +kernel
theorem dX8_digest_283 : decode cX8_digest 283 = .ok (.iinc 3 1, 3) := by decide +kernel
theorem dX8_digest_286 : decode cX8_digest 286 = .ok (.goto (-21), 3) := by decide +kernel
theorem dX8_digest_289 : decode cX8_digest 289 = .ok (.lload_n 1, 1) := by decide +kernel
theorem dX8_digest_290 : decode cX8_digest 290 = .ok (.lreturn, 1) := by decide +kernel
end
section
theorem dL_law_0 : decode cL_law 0 = .ok (.new 7, 3) := by decide +kernel
theorem dL_law_3 : decode cL_law 3 = .ok (.dup, 1) := by decide +kernel
theorem dL_law_4 : decode cL_law 4 = .ok (.invokespecial 9, 3) := by decide +kernel
theorem dL_law_7 : decode cL_law 7 = .ok (.astore_n 1, 1) := by decide +kernel
theorem dL_law_8 : decode cL_law 8 = .ok (.new 10, 3) := by decide +kernel
theorem dL_law_11 : decode cL_law 11 = .ok (.dup, 1) := by decide +kernel
theorem dL_law_12 : decode cL_law 12 = .ok (.invokespecial 12, 3) := by decide +kernel
theorem dL_law_15 : decode cL_law 15 = .ok (.astore_n 2, 1) := by decide +kernel
theorem dL_law_16 : decode cL_law 16 = .ok (.iconst 0, 1) := by decide +kernel
theorem dL_law_17 : decode cL_law 17 = .ok (.istore_n 3, 1) := by decide +kernel
theorem dL_law_18 : decode cL_law 18 = .ok (.iload_n 3, 1) := by decide +kernel
theorem dL_law_19 : decode cL_law 19 = .ok (.aload_n 0, 1) := by decide +kernel
theorem dL_law_20 : decode cL_law 20 = .ok (.arraylength, 1) := by decide +kernel
theorem dL_law_21 : decode cL_law 21 = .ok (.bipush 6, 2) := by decide +kernel
theorem dL_law_23 : decode cL_law 23 = .ok (.isub, 1) := by decide +kernel
theorem dL_law_24 : decode cL_law 24 = .ok (.if_icmp .gt 1128, 3) := by decide +kernel
theorem dL_law_27 : decode cL_law 27 = .ok (.aload_n 0, 1) := by decide +kernel
theorem dL_law_28 : decode cL_law 28 = .ok (.iload_n 3, 1) := by decide +kernel
theorem dL_law_29 : decode cL_law 29 = .ok (.iaload, 1) := by decide +kernel
theorem dL_law_30 : decode cL_law 30 = .ok (.bipush 63, 2) := by decide +kernel
theorem dL_law_32 : decode cL_law 32 = .ok (.iand, 1) := by decide +kernel
theorem dL_law_33 : decode cL_law 33 = .ok (.tableswitch 1113 0 34 #[155, 178, 191, 204, 237, 260, 283, 296, 329, 352, 385, 398, 441, 464, 477, 500, 523, 536, 559, 582, 605, 628, 652, 685, 719, 752, 785, 828, 871, 894, 947, 990, 1053, 1076, 1099], 155) := by decide +kernel
theorem dL_law_188 : decode cL_law 188 = .ok (.aload_n 1, 1) := by decide +kernel
theorem dL_law_189 : decode cL_law 189 = .ok (.aload_n 0, 1) := by decide +kernel
theorem dL_law_190 : decode cL_law 190 = .ok (.iload_n 3, 1) := by decide +kernel
theorem dL_law_191 : decode cL_law 191 = .ok (.iconst 1, 1) := by decide +kernel
theorem dL_law_192 : decode cL_law 192 = .ok (.iadd, 1) := by decide +kernel
theorem dL_law_193 : decode cL_law 193 = .ok (.iaload, 1) := by decide +kernel
theorem dL_law_194 : decode cL_law 194 = .ok (.invokevirtual 13, 3) := by decide +kernel
theorem dL_law_197 : decode cL_law 197 = .ok (.aload_n 2, 1) := by decide +kernel
theorem dL_law_198 : decode cL_law 198 = .ok (.aload_n 0, 1) := by decide +kernel
theorem dL_law_199 : decode cL_law 199 = .ok (.iload_n 3, 1) := by decide +kernel
theorem dL_law_200 : decode cL_law 200 = .ok (.iconst 1, 1) := by decide +kernel
theorem dL_law_201 : decode cL_law 201 = .ok (.iadd, 1) := by decide +kernel
theorem dL_law_202 : decode cL_law 202 = .ok (.iaload, 1) := by decide +kernel
theorem dL_law_203 : decode cL_law 203 = .ok (.invokevirtual 17, 3) := by decide +kernel
theorem dL_law_206 : decode cL_law 206 = .ok (.if_icmp .eq 940, 3) := by decide +kernel
theorem dL_law_209 : decode cL_law 209 = .ok (.iconst 0, 1) := by decide +kernel
theorem dL_law_210 : decode cL_law 210 = .ok (.ireturn, 1) := by decide +kernel
theorem dL_law_211 : decode cL_law 211 = .ok (.aload_n 1, 1) := by decide +kernel
theorem dL_law_212 : decode cL_law 212 = .ok (.invokevirtual 18, 3) := by decide +kernel
theorem dL_law_215 : decode cL_law 215 = .ok (.aload_n 2, 1) := by decide +kernel
theorem dL_law_216 : decode cL_law 216 = .ok (.invokevirtual 22, 3) := by decide +kernel
theorem dL_law_219 : decode cL_law 219 = .ok (.if_icmp .eq 927, 3) := by decide +kernel
theorem dL_law_222 : decode cL_law 222 = .ok (.iconst 0, 1) := by decide +kernel
theorem dL_law_223 : decode cL_law 223 = .ok (.ireturn, 1) := by decide +kernel
theorem dL_law_224 : decode cL_law 224 = .ok (.aload_n 1, 1) := by decide +kernel
theorem dL_law_225 : decode cL_law 225 = .ok (.invokevirtual 23, 3) := by decide +kernel
theorem dL_law_228 : decode cL_law 228 = .ok (.aload_n 2, 1) := by decide +kernel
theorem dL_law_229 : decode cL_law 229 = .ok (.invokevirtual 26, 3) := by decide +kernel
theorem dL_law_232 : decode cL_law 232 = .ok (.if_icmp .eq 914, 3) := by decide +kernel
theorem dL_law_235 : decode cL_law 235 = .ok (.iconst 0, 1) := by decide +kernel
theorem dL_law_236 : decode cL_law 236 = .ok (.ireturn, 1) := by decide +kernel
theorem dL_law_237 : decode cL_law 237 = .ok (.aload_n 1, 1) := by decide +kernel
theorem dL_law_238 : decode cL_law 238 = .ok (.aload_n 0, 1) := by decide +kernel
theorem dL_law_239 : decode cL_law 239 = .ok (.iload_n 3, 1) := by decide +kernel
theorem dL_law_240 : decode cL_law 240 = .ok (.iconst 1, 1) := by decide +kernel
theorem dL_law_241 : decode cL_law 241 = .ok (.iadd, 1) := by decide +kernel
theorem dL_law_242 : decode cL_law 242 = .ok (.iaload, 1) := by decide +kernel
theorem dL_law_243 : decode cL_law 243 = .ok (.aload_n 0, 1) := by decide +kernel
theorem dL_law_244 : decode cL_law 244 = .ok (.iload_n 3, 1) := by decide +kernel
theorem dL_law_245 : decode cL_law 245 = .ok (.iconst 2, 1) := by decide +kernel
theorem dL_law_246 : decode cL_law 246 = .ok (.iadd, 1) := by decide +kernel
theorem dL_law_247 : decode cL_law 247 = .ok (.iaload, 1) := by decide +kernel
theorem dL_law_248 : decode cL_law 248 = .ok (.invokevirtual 27, 3) := by decide +kernel
theorem dL_law_251 : decode cL_law 251 = .ok (.aload_n 2, 1) := by decide +kernel
theorem dL_law_252 : decode cL_law 252 = .ok (.aload_n 0, 1) := by decide +kernel
theorem dL_law_253 : decode cL_law 253 = .ok (.iload_n 3, 1) := by decide +kernel
theorem dL_law_254 : decode cL_law 254 = .ok (.iconst 1, 1) := by decide +kernel
theorem dL_law_255 : decode cL_law 255 = .ok (.iadd, 1) := by decide +kernel
theorem dL_law_256 : decode cL_law 256 = .ok (.iaload, 1) := by decide +kernel
theorem dL_law_257 : decode cL_law 257 = .ok (.aload_n 0, 1) := by decide +kernel
theorem dL_law_258 : decode cL_law 258 = .ok (.iload_n 3, 1) := by decide +kernel
theorem dL_law_259 : decode cL_law 259 = .ok (.iconst 2, 1) := by decide +kernel
theorem dL_law_260 : decode cL_law 260 = .ok (.iadd, 1) := by decide +kernel
theorem dL_law_261 : decode cL_law 261 = .ok (.iaload, 1) := by decide +kernel
theorem dL_law_262 : decode cL_law 262 = .ok (.invokevirtual 31, 3) := by decide +kernel
theorem dL_law_265 : decode cL_law 265 = .ok (.if_icmp .eq 881, 3) := by decide +kernel
theorem dL_law_268 : decode cL_law 268 = .ok (.iconst 0, 1) := by decide +kernel
theorem dL_law_269 : decode cL_law 269 = .ok (.ireturn, 1) := by decide +kernel
theorem dL_law_270 : decode cL_law 270 = .ok (.aload_n 1, 1) := by decide +kernel
theorem dL_law_271 : decode cL_law 271 = .ok (.aload_n 0, 1) := by decide +kernel
theorem dL_law_272 : decode cL_law 272 = .ok (.iload_n 3, 1) := by decide +kernel
theorem dL_law_273 : decode cL_law 273 = .ok (.iconst 1, 1) := by decide +kernel
theorem dL_law_274 : decode cL_law 274 = .ok (.iadd, 1) := by decide +kernel
theorem dL_law_275 : decode cL_law 275 = .ok (.iaload, 1) := by decide +kernel
theorem dL_law_276 : decode cL_law 276 = .ok (.invokevirtual 32, 3) := by decide +kernel
theorem dL_law_279 : decode cL_law 279 = .ok (.aload_n 2, 1) := by decide +kernel
theorem dL_law_280 : decode cL_law 280 = .ok (.aload_n 0, 1) := by decide +kernel
theorem dL_law_281 : decode cL_law 281 = .ok (.iload_n 3, 1) := by decide +kernel
theorem dL_law_282 : decode cL_law 282 = .ok (.iconst 1, 1) := by decide +kernel
theorem dL_law_283 : decode cL_law 283 = .ok (.iadd, 1) := by decide +kernel
theorem dL_law_284 : decode cL_law 284 = .ok (.iaload, 1) := by decide +kernel
theorem dL_law_285 : decode cL_law 285 = .ok (.invokevirtual 35, 3) := by decide +kernel
theorem dL_law_288 : decode cL_law 288 = .ok (.if_icmp .eq 858, 3) := by decide +kernel
theorem dL_law_291 : decode cL_law 291 = .ok (.iconst 0, 1) := by decide +kernel
theorem dL_law_292 : decode cL_law 292 = .ok (.ireturn, 1) := by decide +kernel
theorem dL_law_293 : decode cL_law 293 = .ok (.aload_n 1, 1) := by decide +kernel
theorem dL_law_294 : decode cL_law 294 = .ok (.aload_n 0, 1) := by decide +kernel
theorem dL_law_295 : decode cL_law 295 = .ok (.iload_n 3, 1) := by decide +kernel
theorem dL_law_296 : decode cL_law 296 = .ok (.iconst 1, 1) := by decide +kernel
theorem dL_law_297 : decode cL_law 297 = .ok (.iadd, 1) := by decide +kernel
theorem dL_law_298 : decode cL_law 298 = .ok (.iaload, 1) := by decide +kernel
theorem dL_law_299 : decode cL_law 299 = .ok (.invokevirtual 36, 3) := by decide +kernel
theorem dL_law_302 : decode cL_law 302 = .ok (.aload_n 2, 1) := by decide +kernel
theorem dL_law_303 : decode cL_law 303 = .ok (.aload_n 0, 1) := by decide +kernel
theorem dL_law_304 : decode cL_law 304 = .ok (.iload_n 3, 1) := by decide +kernel
theorem dL_law_305 : decode cL_law 305 = .ok (.iconst 1, 1) := by decide +kernel
theorem dL_law_306 : decode cL_law 306 = .ok (.iadd, 1) := by decide +kernel
theorem dL_law_307 : decode cL_law 307 = .ok (.iaload, 1) := by decide +kernel
theorem dL_law_308 : decode cL_law 308 = .ok (.invokevirtual 39, 3) := by decide +kernel
theorem dL_law_311 : decode cL_law 311 = .ok (.if_icmp .eq 835, 3) := by decide +kernel
theorem dL_law_314 : decode cL_law 314 = .ok (.iconst 0, 1) := by decide +kernel
theorem dL_law_315 : decode cL_law 315 = .ok (.ireturn, 1) := by decide +kernel
theorem dL_law_316 : decode cL_law 316 = .ok (.aload_n 1, 1) := by decide +kernel
theorem dL_law_317 : decode cL_law 317 = .ok (.invokevirtual 40, 3) := by decide +kernel
theorem dL_law_320 : decode cL_law 320 = .ok (.aload_n 2, 1) := by decide +kernel
theorem dL_law_321 : decode cL_law 321 = .ok (.invokevirtual 43, 3) := by decide +kernel
theorem dL_law_324 : decode cL_law 324 = .ok (.if_icmp .eq 822, 3) := by decide +kernel
theorem dL_law_327 : decode cL_law 327 = .ok (.iconst 0, 1) := by decide +kernel
theorem dL_law_328 : decode cL_law 328 = .ok (.ireturn, 1) := by decide +kernel
theorem dL_law_329 : decode cL_law 329 = .ok (.aload_n 1, 1) := by decide +kernel
theorem dL_law_330 : decode cL_law 330 = .ok (.aload_n 0, 1) := by decide +kernel
theorem dL_law_331 : decode cL_law 331 = .ok (.iload_n 3, 1) := by decide +kernel
theorem dL_law_332 : decode cL_law 332 = .ok (.iconst 1, 1) := by decide +kernel
theorem dL_law_333 : decode cL_law 333 = .ok (.iadd, 1) := by decide +kernel
theorem dL_law_334 : decode cL_law 334 = .ok (.iaload, 1) := by decide +kernel
theorem dL_law_335 : decode cL_law 335 = .ok (.aload_n 0, 1) := by decide +kernel
theorem dL_law_336 : decode cL_law 336 = .ok (.iload_n 3, 1) := by decide +kernel
theorem dL_law_337 : decode cL_law 337 = .ok (.iconst 2, 1) := by decide +kernel
theorem dL_law_338 : decode cL_law 338 = .ok (.iadd, 1) := by decide +kernel
theorem dL_law_339 : decode cL_law 339 = .ok (.iaload, 1) := by decide +kernel
theorem dL_law_340 : decode cL_law 340 = .ok (.invokevirtual 44, 3) := by decide +kernel
theorem dL_law_343 : decode cL_law 343 = .ok (.aload_n 2, 1) := by decide +kernel
theorem dL_law_344 : decode cL_law 344 = .ok (.aload_n 0, 1) := by decide +kernel
theorem dL_law_345 : decode cL_law 345 = .ok (.iload_n 3, 1) := by decide +kernel
theorem dL_law_346 : decode cL_law 346 = .ok (.iconst 1, 1) := by decide +kernel
theorem dL_law_347 : decode cL_law 347 = .ok (.iadd, 1) := by decide +kernel
theorem dL_law_348 : decode cL_law 348 = .ok (.iaload, 1) := by decide +kernel
theorem dL_law_349 : decode cL_law 349 = .ok (.aload_n 0, 1) := by decide +kernel
theorem dL_law_350 : decode cL_law 350 = .ok (.iload_n 3, 1) := by decide +kernel
theorem dL_law_351 : decode cL_law 351 = .ok (.iconst 2, 1) := by decide +kernel
theorem dL_law_352 : decode cL_law 352 = .ok (.iadd, 1) := by decide +kernel
theorem dL_law_353 : decode cL_law 353 = .ok (.iaload, 1) := by decide +kernel
theorem dL_law_354 : decode cL_law 354 = .ok (.invokevirtual 47, 3) := by decide +kernel
theorem dL_law_357 : decode cL_law 357 = .ok (.if_icmp .eq 789, 3) := by decide +kernel
theorem dL_law_360 : decode cL_law 360 = .ok (.iconst 0, 1) := by decide +kernel
theorem dL_law_361 : decode cL_law 361 = .ok (.ireturn, 1) := by decide +kernel
theorem dL_law_362 : decode cL_law 362 = .ok (.aload_n 1, 1) := by decide +kernel
theorem dL_law_363 : decode cL_law 363 = .ok (.aload_n 0, 1) := by decide +kernel
theorem dL_law_364 : decode cL_law 364 = .ok (.iload_n 3, 1) := by decide +kernel
theorem dL_law_365 : decode cL_law 365 = .ok (.iconst 1, 1) := by decide +kernel
theorem dL_law_366 : decode cL_law 366 = .ok (.iadd, 1) := by decide +kernel
theorem dL_law_367 : decode cL_law 367 = .ok (.iaload, 1) := by decide +kernel
theorem dL_law_368 : decode cL_law 368 = .ok (.invokevirtual 48, 3) := by decide +kernel
theorem dL_law_371 : decode cL_law 371 = .ok (.aload_n 2, 1) := by decide +kernel
theorem dL_law_372 : decode cL_law 372 = .ok (.aload_n 0, 1) := by decide +kernel
theorem dL_law_373 : decode cL_law 373 = .ok (.iload_n 3, 1) := by decide +kernel
theorem dL_law_374 : decode cL_law 374 = .ok (.iconst 1, 1) := by decide +kernel
theorem dL_law_375 : decode cL_law 375 = .ok (.iadd, 1) := by decide +kernel
theorem dL_law_376 : decode cL_law 376 = .ok (.iaload, 1) := by decide +kernel
theorem dL_law_377 : decode cL_law 377 = .ok (.invokevirtual 51, 3) := by decide +kernel
theorem dL_law_380 : decode cL_law 380 = .ok (.if_icmp .eq 766, 3) := by decide +kernel
theorem dL_law_383 : decode cL_law 383 = .ok (.iconst 0, 1) := by decide +kernel
theorem dL_law_384 : decode cL_law 384 = .ok (.ireturn, 1) := by decide +kernel
theorem dL_law_385 : decode cL_law 385 = .ok (.aload_n 1, 1) := by decide +kernel
theorem dL_law_386 : decode cL_law 386 = .ok (.aload_n 0, 1) := by decide +kernel
theorem dL_law_387 : decode cL_law 387 = .ok (.iload_n 3, 1) := by decide +kernel
theorem dL_law_388 : decode cL_law 388 = .ok (.iconst 1, 1) := by decide +kernel
theorem dL_law_389 : decode cL_law 389 = .ok (.iadd, 1) := by decide +kernel
theorem dL_law_390 : decode cL_law 390 = .ok (.iaload, 1) := by decide +kernel
theorem dL_law_391 : decode cL_law 391 = .ok (.aload_n 0, 1) := by decide +kernel
theorem dL_law_392 : decode cL_law 392 = .ok (.iload_n 3, 1) := by decide +kernel
theorem dL_law_393 : decode cL_law 393 = .ok (.iconst 2, 1) := by decide +kernel
theorem dL_law_394 : decode cL_law 394 = .ok (.iadd, 1) := by decide +kernel
theorem dL_law_395 : decode cL_law 395 = .ok (.iaload, 1) := by decide +kernel
theorem dL_law_396 : decode cL_law 396 = .ok (.invokevirtual 52, 3) := by decide +kernel
theorem dL_law_399 : decode cL_law 399 = .ok (.aload_n 2, 1) := by decide +kernel
theorem dL_law_400 : decode cL_law 400 = .ok (.aload_n 0, 1) := by decide +kernel
theorem dL_law_401 : decode cL_law 401 = .ok (.iload_n 3, 1) := by decide +kernel
theorem dL_law_402 : decode cL_law 402 = .ok (.iconst 1, 1) := by decide +kernel
theorem dL_law_403 : decode cL_law 403 = .ok (.iadd, 1) := by decide +kernel
theorem dL_law_404 : decode cL_law 404 = .ok (.iaload, 1) := by decide +kernel
theorem dL_law_405 : decode cL_law 405 = .ok (.aload_n 0, 1) := by decide +kernel
theorem dL_law_406 : decode cL_law 406 = .ok (.iload_n 3, 1) := by decide +kernel
theorem dL_law_407 : decode cL_law 407 = .ok (.iconst 2, 1) := by decide +kernel
theorem dL_law_408 : decode cL_law 408 = .ok (.iadd, 1) := by decide +kernel
theorem dL_law_409 : decode cL_law 409 = .ok (.iaload, 1) := by decide +kernel
theorem dL_law_410 : decode cL_law 410 = .ok (.invokevirtual 55, 3) := by decide +kernel
theorem dL_law_413 : decode cL_law 413 = .ok (.if_icmp .eq 733, 3) := by decide +kernel
theorem dL_law_416 : decode cL_law 416 = .ok (.iconst 0, 1) := by decide +kernel
theorem dL_law_417 : decode cL_law 417 = .ok (.ireturn, 1) := by decide +kernel
theorem dL_law_418 : decode cL_law 418 = .ok (.aload_n 1, 1) := by decide +kernel
theorem dL_law_419 : decode cL_law 419 = .ok (.invokevirtual 56, 3) := by decide +kernel
theorem dL_law_422 : decode cL_law 422 = .ok (.aload_n 2, 1) := by decide +kernel
theorem dL_law_423 : decode cL_law 423 = .ok (.invokevirtual 59, 3) := by decide +kernel
theorem dL_law_426 : decode cL_law 426 = .ok (.if_icmp .eq 720, 3) := by decide +kernel
theorem dL_law_429 : decode cL_law 429 = .ok (.iconst 0, 1) := by decide +kernel
theorem dL_law_430 : decode cL_law 430 = .ok (.ireturn, 1) := by decide +kernel
theorem dL_law_431 : decode cL_law 431 = .ok (.aload_n 1, 1) := by decide +kernel
theorem dL_law_432 : decode cL_law 432 = .ok (.aload_n 0, 1) := by decide +kernel
theorem dL_law_433 : decode cL_law 433 = .ok (.iload_n 3, 1) := by decide +kernel
theorem dL_law_434 : decode cL_law 434 = .ok (.iconst 1, 1) := by decide +kernel
theorem dL_law_435 : decode cL_law 435 = .ok (.iadd, 1) := by decide +kernel
theorem dL_law_436 : decode cL_law 436 = .ok (.iaload, 1) := by decide +kernel
theorem dL_law_437 : decode cL_law 437 = .ok (.aload_n 0, 1) := by decide +kernel
theorem dL_law_438 : decode cL_law 438 = .ok (.iload_n 3, 1) := by decide +kernel
theorem dL_law_439 : decode cL_law 439 = .ok (.iconst 2, 1) := by decide +kernel
theorem dL_law_440 : decode cL_law 440 = .ok (.iadd, 1) := by decide +kernel
theorem dL_law_441 : decode cL_law 441 = .ok (.iaload, 1) := by decide +kernel
theorem dL_law_442 : decode cL_law 442 = .ok (.aload_n 0, 1) := by decide +kernel
theorem dL_law_443 : decode cL_law 443 = .ok (.iload_n 3, 1) := by decide +kernel
theorem dL_law_444 : decode cL_law 444 = .ok (.iconst 3, 1) := by decide +kernel
theorem dL_law_445 : decode cL_law 445 = .ok (.iadd, 1) := by decide +kernel
theorem dL_law_446 : decode cL_law 446 = .ok (.iaload, 1) := by decide +kernel
theorem dL_law_447 : decode cL_law 447 = .ok (.invokevirtual 60, 3) := by decide +kernel
theorem dL_law_450 : decode cL_law 450 = .ok (.aload_n 2, 1) := by decide +kernel
theorem dL_law_451 : decode cL_law 451 = .ok (.aload_n 0, 1) := by decide +kernel
theorem dL_law_452 : decode cL_law 452 = .ok (.iload_n 3, 1) := by decide +kernel
theorem dL_law_453 : decode cL_law 453 = .ok (.iconst 1, 1) := by decide +kernel
theorem dL_law_454 : decode cL_law 454 = .ok (.iadd, 1) := by decide +kernel
theorem dL_law_455 : decode cL_law 455 = .ok (.iaload, 1) := by decide +kernel
theorem dL_law_456 : decode cL_law 456 = .ok (.aload_n 0, 1) := by decide +kernel
theorem dL_law_457 : decode cL_law 457 = .ok (.iload_n 3, 1) := by decide +kernel
theorem dL_law_458 : decode cL_law 458 = .ok (.iconst 2, 1) := by decide +kernel
theorem dL_law_459 : decode cL_law 459 = .ok (.iadd, 1) := by decide +kernel
theorem dL_law_460 : decode cL_law 460 = .ok (.iaload, 1) := by decide +kernel
theorem dL_law_461 : decode cL_law 461 = .ok (.aload_n 0, 1) := by decide +kernel
theorem dL_law_462 : decode cL_law 462 = .ok (.iload_n 3, 1) := by decide +kernel
theorem dL_law_463 : decode cL_law 463 = .ok (.iconst 3, 1) := by decide +kernel
theorem dL_law_464 : decode cL_law 464 = .ok (.iadd, 1) := by decide +kernel
theorem dL_law_465 : decode cL_law 465 = .ok (.iaload, 1) := by decide +kernel
theorem dL_law_466 : decode cL_law 466 = .ok (.invokevirtual 64, 3) := by decide +kernel
theorem dL_law_469 : decode cL_law 469 = .ok (.if_icmp .eq 677, 3) := by decide +kernel
theorem dL_law_472 : decode cL_law 472 = .ok (.iconst 0, 1) := by decide +kernel
theorem dL_law_473 : decode cL_law 473 = .ok (.ireturn, 1) := by decide +kernel
theorem dL_law_474 : decode cL_law 474 = .ok (.aload_n 1, 1) := by decide +kernel
theorem dL_law_475 : decode cL_law 475 = .ok (.aload_n 0, 1) := by decide +kernel
theorem dL_law_476 : decode cL_law 476 = .ok (.iload_n 3, 1) := by decide +kernel
theorem dL_law_477 : decode cL_law 477 = .ok (.iconst 1, 1) := by decide +kernel
theorem dL_law_478 : decode cL_law 478 = .ok (.iadd, 1) := by decide +kernel
theorem dL_law_479 : decode cL_law 479 = .ok (.iaload, 1) := by decide +kernel
theorem dL_law_480 : decode cL_law 480 = .ok (.invokevirtual 65, 3) := by decide +kernel
theorem dL_law_483 : decode cL_law 483 = .ok (.aload_n 2, 1) := by decide +kernel
theorem dL_law_484 : decode cL_law 484 = .ok (.aload_n 0, 1) := by decide +kernel
theorem dL_law_485 : decode cL_law 485 = .ok (.iload_n 3, 1) := by decide +kernel
theorem dL_law_486 : decode cL_law 486 = .ok (.iconst 1, 1) := by decide +kernel
theorem dL_law_487 : decode cL_law 487 = .ok (.iadd, 1) := by decide +kernel
theorem dL_law_488 : decode cL_law 488 = .ok (.iaload, 1) := by decide +kernel
theorem dL_law_489 : decode cL_law 489 = .ok (.invokevirtual 68, 3) := by decide +kernel
theorem dL_law_492 : decode cL_law 492 = .ok (.if_icmp .eq 654, 3) := by decide +kernel
theorem dL_law_495 : decode cL_law 495 = .ok (.iconst 0, 1) := by decide +kernel
theorem dL_law_496 : decode cL_law 496 = .ok (.ireturn, 1) := by decide +kernel
theorem dL_law_497 : decode cL_law 497 = .ok (.aload_n 1, 1) := by decide +kernel
theorem dL_law_498 : decode cL_law 498 = .ok (.invokevirtual 69, 3) := by decide +kernel
theorem dL_law_501 : decode cL_law 501 = .ok (.aload_n 2, 1) := by decide +kernel
theorem dL_law_502 : decode cL_law 502 = .ok (.invokevirtual 72, 3) := by decide +kernel
theorem dL_law_505 : decode cL_law 505 = .ok (.if_icmp .eq 641, 3) := by decide +kernel
theorem dL_law_508 : decode cL_law 508 = .ok (.iconst 0, 1) := by decide +kernel
theorem dL_law_509 : decode cL_law 509 = .ok (.ireturn, 1) := by decide +kernel
theorem dL_law_510 : decode cL_law 510 = .ok (.aload_n 1, 1) := by decide +kernel
theorem dL_law_511 : decode cL_law 511 = .ok (.aload_n 0, 1) := by decide +kernel
theorem dL_law_512 : decode cL_law 512 = .ok (.iload_n 3, 1) := by decide +kernel
theorem dL_law_513 : decode cL_law 513 = .ok (.iconst 1, 1) := by decide +kernel
theorem dL_law_514 : decode cL_law 514 = .ok (.iadd, 1) := by decide +kernel
theorem dL_law_515 : decode cL_law 515 = .ok (.iaload, 1) := by decide +kernel
theorem dL_law_516 : decode cL_law 516 = .ok (.invokevirtual 73, 3) := by decide +kernel
theorem dL_law_519 : decode cL_law 519 = .ok (.aload_n 2, 1) := by decide +kernel
theorem dL_law_520 : decode cL_law 520 = .ok (.aload_n 0, 1) := by decide +kernel
theorem dL_law_521 : decode cL_law 521 = .ok (.iload_n 3, 1) := by decide +kernel
theorem dL_law_522 : decode cL_law 522 = .ok (.iconst 1, 1) := by decide +kernel
theorem dL_law_523 : decode cL_law 523 = .ok (.iadd, 1) := by decide +kernel
theorem dL_law_524 : decode cL_law 524 = .ok (.iaload, 1) := by decide +kernel
theorem dL_law_525 : decode cL_law 525 = .ok (.invokevirtual 76, 3) := by decide +kernel
theorem dL_law_528 : decode cL_law 528 = .ok (.if_icmp .eq 618, 3) := by decide +kernel
theorem dL_law_531 : decode cL_law 531 = .ok (.iconst 0, 1) := by decide +kernel
theorem dL_law_532 : decode cL_law 532 = .ok (.ireturn, 1) := by decide +kernel
theorem dL_law_533 : decode cL_law 533 = .ok (.aload_n 1, 1) := by decide +kernel
theorem dL_law_534 : decode cL_law 534 = .ok (.aload_n 0, 1) := by decide +kernel
theorem dL_law_535 : decode cL_law 535 = .ok (.iload_n 3, 1) := by decide +kernel
theorem dL_law_536 : decode cL_law 536 = .ok (.iconst 1, 1) := by decide +kernel
theorem dL_law_537 : decode cL_law 537 = .ok (.iadd, 1) := by decide +kernel
theorem dL_law_538 : decode cL_law 538 = .ok (.iaload, 1) := by decide +kernel
theorem dL_law_539 : decode cL_law 539 = .ok (.invokevirtual 77, 3) := by decide +kernel
theorem dL_law_542 : decode cL_law 542 = .ok (.aload_n 2, 1) := by decide +kernel
theorem dL_law_543 : decode cL_law 543 = .ok (.aload_n 0, 1) := by decide +kernel
theorem dL_law_544 : decode cL_law 544 = .ok (.iload_n 3, 1) := by decide +kernel
theorem dL_law_545 : decode cL_law 545 = .ok (.iconst 1, 1) := by decide +kernel
theorem dL_law_546 : decode cL_law 546 = .ok (.iadd, 1) := by decide +kernel
theorem dL_law_547 : decode cL_law 547 = .ok (.iaload, 1) := by decide +kernel
theorem dL_law_548 : decode cL_law 548 = .ok (.invokevirtual 80, 3) := by decide +kernel
theorem dL_law_551 : decode cL_law 551 = .ok (.if_icmp .eq 595, 3) := by decide +kernel
theorem dL_law_554 : decode cL_law 554 = .ok (.iconst 0, 1) := by decide +kernel
theorem dL_law_555 : decode cL_law 555 = .ok (.ireturn, 1) := by decide +kernel
theorem dL_law_556 : decode cL_law 556 = .ok (.aload_n 1, 1) := by decide +kernel
theorem dL_law_557 : decode cL_law 557 = .ok (.invokevirtual 81, 3) := by decide +kernel
theorem dL_law_560 : decode cL_law 560 = .ok (.aload_n 2, 1) := by decide +kernel
theorem dL_law_561 : decode cL_law 561 = .ok (.invokevirtual 84, 3) := by decide +kernel
theorem dL_law_564 : decode cL_law 564 = .ok (.if_icmp .eq 582, 3) := by decide +kernel
theorem dL_law_567 : decode cL_law 567 = .ok (.iconst 0, 1) := by decide +kernel
theorem dL_law_568 : decode cL_law 568 = .ok (.ireturn, 1) := by decide +kernel
theorem dL_law_569 : decode cL_law 569 = .ok (.aload_n 1, 1) := by decide +kernel
theorem dL_law_570 : decode cL_law 570 = .ok (.aload_n 0, 1) := by decide +kernel
theorem dL_law_571 : decode cL_law 571 = .ok (.iload_n 3, 1) := by decide +kernel
theorem dL_law_572 : decode cL_law 572 = .ok (.iconst 1, 1) := by decide +kernel
theorem dL_law_573 : decode cL_law 573 = .ok (.iadd, 1) := by decide +kernel
theorem dL_law_574 : decode cL_law 574 = .ok (.iaload, 1) := by decide +kernel
theorem dL_law_575 : decode cL_law 575 = .ok (.invokevirtual 85, 3) := by decide +kernel
theorem dL_law_578 : decode cL_law 578 = .ok (.aload_n 2, 1) := by decide +kernel
theorem dL_law_579 : decode cL_law 579 = .ok (.aload_n 0, 1) := by decide +kernel
theorem dL_law_580 : decode cL_law 580 = .ok (.iload_n 3, 1) := by decide +kernel
theorem dL_law_581 : decode cL_law 581 = .ok (.iconst 1, 1) := by decide +kernel
theorem dL_law_582 : decode cL_law 582 = .ok (.iadd, 1) := by decide +kernel
theorem dL_law_583 : decode cL_law 583 = .ok (.iaload, 1) := by decide +kernel
theorem dL_law_584 : decode cL_law 584 = .ok (.invokevirtual 88, 3) := by decide +kernel
theorem dL_law_587 : decode cL_law 587 = .ok (.if_icmp .eq 559, 3) := by decide +kernel
theorem dL_law_590 : decode cL_law 590 = .ok (.iconst 0, 1) := by decide +kernel
theorem dL_law_591 : decode cL_law 591 = .ok (.ireturn, 1) := by decide +kernel
theorem dL_law_592 : decode cL_law 592 = .ok (.aload_n 1, 1) := by decide +kernel
theorem dL_law_593 : decode cL_law 593 = .ok (.aload_n 0, 1) := by decide +kernel
theorem dL_law_594 : decode cL_law 594 = .ok (.iload_n 3, 1) := by decide +kernel
theorem dL_law_595 : decode cL_law 595 = .ok (.iconst 1, 1) := by decide +kernel
theorem dL_law_596 : decode cL_law 596 = .ok (.iadd, 1) := by decide +kernel
theorem dL_law_597 : decode cL_law 597 = .ok (.iaload, 1) := by decide +kernel
theorem dL_law_598 : decode cL_law 598 = .ok (.invokevirtual 89, 3) := by decide +kernel
theorem dL_law_601 : decode cL_law 601 = .ok (.aload_n 2, 1) := by decide +kernel
theorem dL_law_602 : decode cL_law 602 = .ok (.aload_n 0, 1) := by decide +kernel
theorem dL_law_603 : decode cL_law 603 = .ok (.iload_n 3, 1) := by decide +kernel
theorem dL_law_604 : decode cL_law 604 = .ok (.iconst 1, 1) := by decide +kernel
theorem dL_law_605 : decode cL_law 605 = .ok (.iadd, 1) := by decide +kernel
theorem dL_law_606 : decode cL_law 606 = .ok (.iaload, 1) := by decide +kernel
theorem dL_law_607 : decode cL_law 607 = .ok (.invokevirtual 92, 3) := by decide +kernel
theorem dL_law_610 : decode cL_law 610 = .ok (.if_icmp .eq 536, 3) := by decide +kernel
theorem dL_law_613 : decode cL_law 613 = .ok (.iconst 0, 1) := by decide +kernel
theorem dL_law_614 : decode cL_law 614 = .ok (.ireturn, 1) := by decide +kernel
theorem dL_law_615 : decode cL_law 615 = .ok (.aload_n 1, 1) := by decide +kernel
theorem dL_law_616 : decode cL_law 616 = .ok (.aload_n 0, 1) := by decide +kernel
theorem dL_law_617 : decode cL_law 617 = .ok (.iload_n 3, 1) := by decide +kernel
theorem dL_law_618 : decode cL_law 618 = .ok (.iconst 1, 1) := by decide +kernel
theorem dL_law_619 : decode cL_law 619 = .ok (.iadd, 1) := by decide +kernel
theorem dL_law_620 : decode cL_law 620 = .ok (.iaload, 1) := by decide +kernel
theorem dL_law_621 : decode cL_law 621 = .ok (.invokevirtual 93, 3) := by decide +kernel
theorem dL_law_624 : decode cL_law 624 = .ok (.aload_n 2, 1) := by decide +kernel
theorem dL_law_625 : decode cL_law 625 = .ok (.aload_n 0, 1) := by decide +kernel
theorem dL_law_626 : decode cL_law 626 = .ok (.iload_n 3, 1) := by decide +kernel
theorem dL_law_627 : decode cL_law 627 = .ok (.iconst 1, 1) := by decide +kernel
theorem dL_law_628 : decode cL_law 628 = .ok (.iadd, 1) := by decide +kernel
theorem dL_law_629 : decode cL_law 629 = .ok (.iaload, 1) := by decide +kernel
theorem dL_law_630 : decode cL_law 630 = .ok (.invokevirtual 96, 3) := by decide +kernel
theorem dL_law_633 : decode cL_law 633 = .ok (.if_icmp .eq 513, 3) := by decide +kernel
theorem dL_law_636 : decode cL_law 636 = .ok (.iconst 0, 1) := by decide +kernel
theorem dL_law_637 : decode cL_law 637 = .ok (.ireturn, 1) := by decide +kernel
theorem dL_law_638 : decode cL_law 638 = .ok (.aload_n 1, 1) := by decide +kernel
theorem dL_law_639 : decode cL_law 639 = .ok (.aload_n 0, 1) := by decide +kernel
theorem dL_law_640 : decode cL_law 640 = .ok (.iload_n 3, 1) := by decide +kernel
theorem dL_law_641 : decode cL_law 641 = .ok (.iconst 1, 1) := by decide +kernel
theorem dL_law_642 : decode cL_law 642 = .ok (.iadd, 1) := by decide +kernel
theorem dL_law_643 : decode cL_law 643 = .ok (.iaload, 1) := by decide +kernel
theorem dL_law_644 : decode cL_law 644 = .ok (.invokevirtual 97, 3) := by decide +kernel
theorem dL_law_647 : decode cL_law 647 = .ok (.aload_n 2, 1) := by decide +kernel
theorem dL_law_648 : decode cL_law 648 = .ok (.aload_n 0, 1) := by decide +kernel
theorem dL_law_649 : decode cL_law 649 = .ok (.iload_n 3, 1) := by decide +kernel
theorem dL_law_650 : decode cL_law 650 = .ok (.iconst 1, 1) := by decide +kernel
theorem dL_law_651 : decode cL_law 651 = .ok (.iadd, 1) := by decide +kernel
theorem dL_law_652 : decode cL_law 652 = .ok (.iaload, 1) := by decide +kernel
theorem dL_law_653 : decode cL_law 653 = .ok (.invokevirtual 100, 3) := by decide +kernel
theorem dL_law_656 : decode cL_law 656 = .ok (.if_icmp .eq 490, 3) := by decide +kernel
theorem dL_law_659 : decode cL_law 659 = .ok (.iconst 0, 1) := by decide +kernel
theorem dL_law_660 : decode cL_law 660 = .ok (.ireturn, 1) := by decide +kernel
theorem dL_law_661 : decode cL_law 661 = .ok (.aload_n 1, 1) := by decide +kernel
theorem dL_law_662 : decode cL_law 662 = .ok (.aload_n 0, 1) := by decide +kernel
theorem dL_law_663 : decode cL_law 663 = .ok (.iload_n 3, 1) := by decide +kernel
theorem dL_law_664 : decode cL_law 664 = .ok (.iconst 1, 1) := by decide +kernel
theorem dL_law_665 : decode cL_law 665 = .ok (.iadd, 1) := by decide +kernel
theorem dL_law_666 : decode cL_law 666 = .ok (.iaload, 1) := by decide +kernel
theorem dL_law_667 : decode cL_law 667 = .ok (.invokevirtual 101, 3) := by decide +kernel
theorem dL_law_670 : decode cL_law 670 = .ok (.aload_n 2, 1) := by decide +kernel
theorem dL_law_671 : decode cL_law 671 = .ok (.aload_n 0, 1) := by decide +kernel
theorem dL_law_672 : decode cL_law 672 = .ok (.iload_n 3, 1) := by decide +kernel
theorem dL_law_673 : decode cL_law 673 = .ok (.iconst 1, 1) := by decide +kernel
theorem dL_law_674 : decode cL_law 674 = .ok (.iadd, 1) := by decide +kernel
theorem dL_law_675 : decode cL_law 675 = .ok (.iaload, 1) := by decide +kernel
theorem dL_law_676 : decode cL_law 676 = .ok (.invokevirtual 105, 3) := by decide +kernel
theorem dL_law_679 : decode cL_law 679 = .ok (.lcmp, 1) := by decide +kernel
theorem dL_law_680 : decode cL_law 680 = .ok (.ifCond .eq 466, 3) := by decide +kernel
theorem dL_law_683 : decode cL_law 683 = .ok (.iconst 0, 1) := by decide +kernel
theorem dL_law_684 : decode cL_law 684 = .ok (.ireturn, 1) := by decide +kernel
theorem dL_law_685 : decode cL_law 685 = .ok (.aload_n 1, 1) := by decide +kernel
theorem dL_law_686 : decode cL_law 686 = .ok (.aload_n 0, 1) := by decide +kernel
theorem dL_law_687 : decode cL_law 687 = .ok (.iload_n 3, 1) := by decide +kernel
theorem dL_law_688 : decode cL_law 688 = .ok (.iconst 1, 1) := by decide +kernel
theorem dL_law_689 : decode cL_law 689 = .ok (.iadd, 1) := by decide +kernel
theorem dL_law_690 : decode cL_law 690 = .ok (.iaload, 1) := by decide +kernel
theorem dL_law_691 : decode cL_law 691 = .ok (.aload_n 0, 1) := by decide +kernel
theorem dL_law_692 : decode cL_law 692 = .ok (.iload_n 3, 1) := by decide +kernel
theorem dL_law_693 : decode cL_law 693 = .ok (.iconst 2, 1) := by decide +kernel
theorem dL_law_694 : decode cL_law 694 = .ok (.iadd, 1) := by decide +kernel
theorem dL_law_695 : decode cL_law 695 = .ok (.iaload, 1) := by decide +kernel
theorem dL_law_696 : decode cL_law 696 = .ok (.invokevirtual 106, 3) := by decide +kernel
theorem dL_law_699 : decode cL_law 699 = .ok (.aload_n 2, 1) := by decide +kernel
theorem dL_law_700 : decode cL_law 700 = .ok (.aload_n 0, 1) := by decide +kernel
theorem dL_law_701 : decode cL_law 701 = .ok (.iload_n 3, 1) := by decide +kernel
theorem dL_law_702 : decode cL_law 702 = .ok (.iconst 1, 1) := by decide +kernel
theorem dL_law_703 : decode cL_law 703 = .ok (.iadd, 1) := by decide +kernel
theorem dL_law_704 : decode cL_law 704 = .ok (.iaload, 1) := by decide +kernel
theorem dL_law_705 : decode cL_law 705 = .ok (.aload_n 0, 1) := by decide +kernel
theorem dL_law_706 : decode cL_law 706 = .ok (.iload_n 3, 1) := by decide +kernel
theorem dL_law_707 : decode cL_law 707 = .ok (.iconst 2, 1) := by decide +kernel
theorem dL_law_708 : decode cL_law 708 = .ok (.iadd, 1) := by decide +kernel
theorem dL_law_709 : decode cL_law 709 = .ok (.iaload, 1) := by decide +kernel
theorem dL_law_710 : decode cL_law 710 = .ok (.invokevirtual 109, 3) := by decide +kernel
theorem dL_law_713 : decode cL_law 713 = .ok (.if_icmp .eq 433, 3) := by decide +kernel
theorem dL_law_716 : decode cL_law 716 = .ok (.iconst 0, 1) := by decide +kernel
theorem dL_law_717 : decode cL_law 717 = .ok (.ireturn, 1) := by decide +kernel
theorem dL_law_718 : decode cL_law 718 = .ok (.aload_n 1, 1) := by decide +kernel
theorem dL_law_719 : decode cL_law 719 = .ok (.aload_n 0, 1) := by decide +kernel
theorem dL_law_720 : decode cL_law 720 = .ok (.iload_n 3, 1) := by decide +kernel
theorem dL_law_721 : decode cL_law 721 = .ok (.iconst 1, 1) := by decide +kernel
theorem dL_law_722 : decode cL_law 722 = .ok (.iadd, 1) := by decide +kernel
theorem dL_law_723 : decode cL_law 723 = .ok (.iaload, 1) := by decide +kernel
theorem dL_law_724 : decode cL_law 724 = .ok (.aload_n 0, 1) := by decide +kernel
theorem dL_law_725 : decode cL_law 725 = .ok (.iload_n 3, 1) := by decide +kernel
theorem dL_law_726 : decode cL_law 726 = .ok (.iconst 2, 1) := by decide +kernel
theorem dL_law_727 : decode cL_law 727 = .ok (.iadd, 1) := by decide +kernel
theorem dL_law_728 : decode cL_law 728 = .ok (.iaload, 1) := by decide +kernel
theorem dL_law_729 : decode cL_law 729 = .ok (.invokevirtual 110, 3) := by decide +kernel
theorem dL_law_732 : decode cL_law 732 = .ok (.aload_n 2, 1) := by decide +kernel
theorem dL_law_733 : decode cL_law 733 = .ok (.aload_n 0, 1) := by decide +kernel
theorem dL_law_734 : decode cL_law 734 = .ok (.iload_n 3, 1) := by decide +kernel
theorem dL_law_735 : decode cL_law 735 = .ok (.iconst 1, 1) := by decide +kernel
theorem dL_law_736 : decode cL_law 736 = .ok (.iadd, 1) := by decide +kernel
theorem dL_law_737 : decode cL_law 737 = .ok (.iaload, 1) := by decide +kernel
theorem dL_law_738 : decode cL_law 738 = .ok (.aload_n 0, 1) := by decide +kernel
theorem dL_law_739 : decode cL_law 739 = .ok (.iload_n 3, 1) := by decide +kernel
theorem dL_law_740 : decode cL_law 740 = .ok (.iconst 2, 1) := by decide +kernel
theorem dL_law_741 : decode cL_law 741 = .ok (.iadd, 1) := by decide +kernel
theorem dL_law_742 : decode cL_law 742 = .ok (.iaload, 1) := by decide +kernel
theorem dL_law_743 : decode cL_law 743 = .ok (.invokevirtual 114, 3) := by decide +kernel
theorem dL_law_746 : decode cL_law 746 = .ok (.lcmp, 1) := by decide +kernel
theorem dL_law_747 : decode cL_law 747 = .ok (.ifCond .eq 399, 3) := by decide +kernel
theorem dL_law_750 : decode cL_law 750 = .ok (.iconst 0, 1) := by decide +kernel
theorem dL_law_751 : decode cL_law 751 = .ok (.ireturn, 1) := by decide +kernel
theorem dL_law_752 : decode cL_law 752 = .ok (.aload_n 1, 1) := by decide +kernel
theorem dL_law_753 : decode cL_law 753 = .ok (.aload_n 0, 1) := by decide +kernel
theorem dL_law_754 : decode cL_law 754 = .ok (.iload_n 3, 1) := by decide +kernel
theorem dL_law_755 : decode cL_law 755 = .ok (.iconst 1, 1) := by decide +kernel
theorem dL_law_756 : decode cL_law 756 = .ok (.iadd, 1) := by decide +kernel
theorem dL_law_757 : decode cL_law 757 = .ok (.iaload, 1) := by decide +kernel
theorem dL_law_758 : decode cL_law 758 = .ok (.aload_n 0, 1) := by decide +kernel
theorem dL_law_759 : decode cL_law 759 = .ok (.iload_n 3, 1) := by decide +kernel
theorem dL_law_760 : decode cL_law 760 = .ok (.iconst 2, 1) := by decide +kernel
theorem dL_law_761 : decode cL_law 761 = .ok (.iadd, 1) := by decide +kernel
theorem dL_law_762 : decode cL_law 762 = .ok (.iaload, 1) := by decide +kernel
theorem dL_law_763 : decode cL_law 763 = .ok (.invokevirtual 115, 3) := by decide +kernel
theorem dL_law_766 : decode cL_law 766 = .ok (.aload_n 2, 1) := by decide +kernel
theorem dL_law_767 : decode cL_law 767 = .ok (.aload_n 0, 1) := by decide +kernel
theorem dL_law_768 : decode cL_law 768 = .ok (.iload_n 3, 1) := by decide +kernel
theorem dL_law_769 : decode cL_law 769 = .ok (.iconst 1, 1) := by decide +kernel
theorem dL_law_770 : decode cL_law 770 = .ok (.iadd, 1) := by decide +kernel
theorem dL_law_771 : decode cL_law 771 = .ok (.iaload, 1) := by decide +kernel
theorem dL_law_772 : decode cL_law 772 = .ok (.aload_n 0, 1) := by decide +kernel
theorem dL_law_773 : decode cL_law 773 = .ok (.iload_n 3, 1) := by decide +kernel
theorem dL_law_774 : decode cL_law 774 = .ok (.iconst 2, 1) := by decide +kernel
theorem dL_law_775 : decode cL_law 775 = .ok (.iadd, 1) := by decide +kernel
theorem dL_law_776 : decode cL_law 776 = .ok (.iaload, 1) := by decide +kernel
theorem dL_law_777 : decode cL_law 777 = .ok (.invokevirtual 118, 3) := by decide +kernel
theorem dL_law_780 : decode cL_law 780 = .ok (.if_icmp .eq 366, 3) := by decide +kernel
theorem dL_law_783 : decode cL_law 783 = .ok (.iconst 0, 1) := by decide +kernel
theorem dL_law_784 : decode cL_law 784 = .ok (.ireturn, 1) := by decide +kernel
theorem dL_law_785 : decode cL_law 785 = .ok (.aload_n 1, 1) := by decide +kernel
theorem dL_law_786 : decode cL_law 786 = .ok (.aload_n 0, 1) := by decide +kernel
theorem dL_law_787 : decode cL_law 787 = .ok (.iload_n 3, 1) := by decide +kernel
theorem dL_law_788 : decode cL_law 788 = .ok (.iconst 1, 1) := by decide +kernel
theorem dL_law_789 : decode cL_law 789 = .ok (.iadd, 1) := by decide +kernel
theorem dL_law_790 : decode cL_law 790 = .ok (.iaload, 1) := by decide +kernel
theorem dL_law_791 : decode cL_law 791 = .ok (.aload_n 0, 1) := by decide +kernel
theorem dL_law_792 : decode cL_law 792 = .ok (.iload_n 3, 1) := by decide +kernel
theorem dL_law_793 : decode cL_law 793 = .ok (.iconst 2, 1) := by decide +kernel
theorem dL_law_794 : decode cL_law 794 = .ok (.iadd, 1) := by decide +kernel
theorem dL_law_795 : decode cL_law 795 = .ok (.iaload, 1) := by decide +kernel
theorem dL_law_796 : decode cL_law 796 = .ok (.invokevirtual 119, 3) := by decide +kernel
theorem dL_law_799 : decode cL_law 799 = .ok (.aload_n 2, 1) := by decide +kernel
theorem dL_law_800 : decode cL_law 800 = .ok (.aload_n 0, 1) := by decide +kernel
theorem dL_law_801 : decode cL_law 801 = .ok (.iload_n 3, 1) := by decide +kernel
theorem dL_law_802 : decode cL_law 802 = .ok (.iconst 1, 1) := by decide +kernel
theorem dL_law_803 : decode cL_law 803 = .ok (.iadd, 1) := by decide +kernel
theorem dL_law_804 : decode cL_law 804 = .ok (.iaload, 1) := by decide +kernel
theorem dL_law_805 : decode cL_law 805 = .ok (.aload_n 0, 1) := by decide +kernel
theorem dL_law_806 : decode cL_law 806 = .ok (.iload_n 3, 1) := by decide +kernel
theorem dL_law_807 : decode cL_law 807 = .ok (.iconst 2, 1) := by decide +kernel
theorem dL_law_808 : decode cL_law 808 = .ok (.iadd, 1) := by decide +kernel
theorem dL_law_809 : decode cL_law 809 = .ok (.iaload, 1) := by decide +kernel
theorem dL_law_810 : decode cL_law 810 = .ok (.invokevirtual 122, 3) := by decide +kernel
theorem dL_law_813 : decode cL_law 813 = .ok (.if_icmp .eq 333, 3) := by decide +kernel
theorem dL_law_816 : decode cL_law 816 = .ok (.iconst 0, 1) := by decide +kernel
theorem dL_law_817 : decode cL_law 817 = .ok (.ireturn, 1) := by decide +kernel
theorem dL_law_818 : decode cL_law 818 = .ok (.aload_n 1, 1) := by decide +kernel
theorem dL_law_819 : decode cL_law 819 = .ok (.aload_n 0, 1) := by decide +kernel
theorem dL_law_820 : decode cL_law 820 = .ok (.iload_n 3, 1) := by decide +kernel
theorem dL_law_821 : decode cL_law 821 = .ok (.iconst 1, 1) := by decide +kernel
theorem dL_law_822 : decode cL_law 822 = .ok (.iadd, 1) := by decide +kernel
theorem dL_law_823 : decode cL_law 823 = .ok (.iaload, 1) := by decide +kernel
theorem dL_law_824 : decode cL_law 824 = .ok (.aload_n 0, 1) := by decide +kernel
theorem dL_law_825 : decode cL_law 825 = .ok (.iload_n 3, 1) := by decide +kernel
theorem dL_law_826 : decode cL_law 826 = .ok (.iconst 2, 1) := by decide +kernel
theorem dL_law_827 : decode cL_law 827 = .ok (.iadd, 1) := by decide +kernel
theorem dL_law_828 : decode cL_law 828 = .ok (.iaload, 1) := by decide +kernel
theorem dL_law_829 : decode cL_law 829 = .ok (.aload_n 0, 1) := by decide +kernel
theorem dL_law_830 : decode cL_law 830 = .ok (.iload_n 3, 1) := by decide +kernel
theorem dL_law_831 : decode cL_law 831 = .ok (.iconst 3, 1) := by decide +kernel
theorem dL_law_832 : decode cL_law 832 = .ok (.iadd, 1) := by decide +kernel
theorem dL_law_833 : decode cL_law 833 = .ok (.iaload, 1) := by decide +kernel
theorem dL_law_834 : decode cL_law 834 = .ok (.invokevirtual 123, 3) := by decide +kernel
theorem dL_law_837 : decode cL_law 837 = .ok (.aload_n 2, 1) := by decide +kernel
theorem dL_law_838 : decode cL_law 838 = .ok (.aload_n 0, 1) := by decide +kernel
theorem dL_law_839 : decode cL_law 839 = .ok (.iload_n 3, 1) := by decide +kernel
theorem dL_law_840 : decode cL_law 840 = .ok (.iconst 1, 1) := by decide +kernel
theorem dL_law_841 : decode cL_law 841 = .ok (.iadd, 1) := by decide +kernel
theorem dL_law_842 : decode cL_law 842 = .ok (.iaload, 1) := by decide +kernel
theorem dL_law_843 : decode cL_law 843 = .ok (.aload_n 0, 1) := by decide +kernel
theorem dL_law_844 : decode cL_law 844 = .ok (.iload_n 3, 1) := by decide +kernel
theorem dL_law_845 : decode cL_law 845 = .ok (.iconst 2, 1) := by decide +kernel
theorem dL_law_846 : decode cL_law 846 = .ok (.iadd, 1) := by decide +kernel
theorem dL_law_847 : decode cL_law 847 = .ok (.iaload, 1) := by decide +kernel
theorem dL_law_848 : decode cL_law 848 = .ok (.aload_n 0, 1) := by decide +kernel
theorem dL_law_849 : decode cL_law 849 = .ok (.iload_n 3, 1) := by decide +kernel
theorem dL_law_850 : decode cL_law 850 = .ok (.iconst 3, 1) := by decide +kernel
theorem dL_law_851 : decode cL_law 851 = .ok (.iadd, 1) := by decide +kernel
theorem dL_law_852 : decode cL_law 852 = .ok (.iaload, 1) := by decide +kernel
theorem dL_law_853 : decode cL_law 853 = .ok (.invokevirtual 126, 3) := by decide +kernel
theorem dL_law_856 : decode cL_law 856 = .ok (.if_icmp .eq 290, 3) := by decide +kernel
theorem dL_law_859 : decode cL_law 859 = .ok (.iconst 0, 1) := by decide +kernel
theorem dL_law_860 : decode cL_law 860 = .ok (.ireturn, 1) := by decide +kernel
theorem dL_law_861 : decode cL_law 861 = .ok (.aload_n 1, 1) := by decide +kernel
theorem dL_law_862 : decode cL_law 862 = .ok (.aload_n 0, 1) := by decide +kernel
theorem dL_law_863 : decode cL_law 863 = .ok (.iload_n 3, 1) := by decide +kernel
theorem dL_law_864 : decode cL_law 864 = .ok (.iconst 1, 1) := by decide +kernel
theorem dL_law_865 : decode cL_law 865 = .ok (.iadd, 1) := by decide +kernel
theorem dL_law_866 : decode cL_law 866 = .ok (.iaload, 1) := by decide +kernel
theorem dL_law_867 : decode cL_law 867 = .ok (.aload_n 0, 1) := by decide +kernel
theorem dL_law_868 : decode cL_law 868 = .ok (.iload_n 3, 1) := by decide +kernel
theorem dL_law_869 : decode cL_law 869 = .ok (.iconst 2, 1) := by decide +kernel
theorem dL_law_870 : decode cL_law 870 = .ok (.iadd, 1) := by decide +kernel
theorem dL_law_871 : decode cL_law 871 = .ok (.iaload, 1) := by decide +kernel
theorem dL_law_872 : decode cL_law 872 = .ok (.aload_n 0, 1) := by decide +kernel
theorem dL_law_873 : decode cL_law 873 = .ok (.iload_n 3, 1) := by decide +kernel
theorem dL_law_874 : decode cL_law 874 = .ok (.iconst 3, 1) := by decide +kernel
theorem dL_law_875 : decode cL_law 875 = .ok (.iadd, 1) := by decide +kernel
theorem dL_law_876 : decode cL_law 876 = .ok (.iaload, 1) := by decide +kernel
theorem dL_law_877 : decode cL_law 877 = .ok (.invokevirtual 127, 3) := by decide +kernel
theorem dL_law_880 : decode cL_law 880 = .ok (.aload_n 2, 1) := by decide +kernel
theorem dL_law_881 : decode cL_law 881 = .ok (.aload_n 0, 1) := by decide +kernel
theorem dL_law_882 : decode cL_law 882 = .ok (.iload_n 3, 1) := by decide +kernel
theorem dL_law_883 : decode cL_law 883 = .ok (.iconst 1, 1) := by decide +kernel
theorem dL_law_884 : decode cL_law 884 = .ok (.iadd, 1) := by decide +kernel
theorem dL_law_885 : decode cL_law 885 = .ok (.iaload, 1) := by decide +kernel
theorem dL_law_886 : decode cL_law 886 = .ok (.aload_n 0, 1) := by decide +kernel
theorem dL_law_887 : decode cL_law 887 = .ok (.iload_n 3, 1) := by decide +kernel
theorem dL_law_888 : decode cL_law 888 = .ok (.iconst 2, 1) := by decide +kernel
theorem dL_law_889 : decode cL_law 889 = .ok (.iadd, 1) := by decide +kernel
theorem dL_law_890 : decode cL_law 890 = .ok (.iaload, 1) := by decide +kernel
theorem dL_law_891 : decode cL_law 891 = .ok (.aload_n 0, 1) := by decide +kernel
theorem dL_law_892 : decode cL_law 892 = .ok (.iload_n 3, 1) := by decide +kernel
theorem dL_law_893 : decode cL_law 893 = .ok (.iconst 3, 1) := by decide +kernel
theorem dL_law_894 : decode cL_law 894 = .ok (.iadd, 1) := by decide +kernel
theorem dL_law_895 : decode cL_law 895 = .ok (.iaload, 1) := by decide +kernel
theorem dL_law_896 : decode cL_law 896 = .ok (.invokevirtual 130, 3) := by decide +kernel
theorem dL_law_899 : decode cL_law 899 = .ok (.if_icmp .eq 247, 3) := by decide +kernel
theorem dL_law_902 : decode cL_law 902 = .ok (.iconst 0, 1) := by decide +kernel
theorem dL_law_903 : decode cL_law 903 = .ok (.ireturn, 1) := by decide +kernel
theorem dL_law_904 : decode cL_law 904 = .ok (.aload_n 1, 1) := by decide +kernel
theorem dL_law_905 : decode cL_law 905 = .ok (.aload_n 0, 1) := by decide +kernel
theorem dL_law_906 : decode cL_law 906 = .ok (.iload_n 3, 1) := by decide +kernel
theorem dL_law_907 : decode cL_law 907 = .ok (.iconst 1, 1) := by decide +kernel
theorem dL_law_908 : decode cL_law 908 = .ok (.iadd, 1) := by decide +kernel
theorem dL_law_909 : decode cL_law 909 = .ok (.iaload, 1) := by decide +kernel
theorem dL_law_910 : decode cL_law 910 = .ok (.invokevirtual 131, 3) := by decide +kernel
theorem dL_law_913 : decode cL_law 913 = .ok (.aload_n 2, 1) := by decide +kernel
theorem dL_law_914 : decode cL_law 914 = .ok (.aload_n 0, 1) := by decide +kernel
theorem dL_law_915 : decode cL_law 915 = .ok (.iload_n 3, 1) := by decide +kernel
theorem dL_law_916 : decode cL_law 916 = .ok (.iconst 1, 1) := by decide +kernel
theorem dL_law_917 : decode cL_law 917 = .ok (.iadd, 1) := by decide +kernel
theorem dL_law_918 : decode cL_law 918 = .ok (.iaload, 1) := by decide +kernel
theorem dL_law_919 : decode cL_law 919 = .ok (.invokevirtual 134, 3) := by decide +kernel
theorem dL_law_922 : decode cL_law 922 = .ok (.if_icmp .eq 224, 3) := by decide +kernel
theorem dL_law_925 : decode cL_law 925 = .ok (.iconst 0, 1) := by decide +kernel
theorem dL_law_926 : decode cL_law 926 = .ok (.ireturn, 1) := by decide +kernel
theorem dL_law_927 : decode cL_law 927 = .ok (.aload_n 1, 1) := by decide +kernel
theorem dL_law_928 : decode cL_law 928 = .ok (.aload_n 0, 1) := by decide +kernel
theorem dL_law_929 : decode cL_law 929 = .ok (.iload_n 3, 1) := by decide +kernel
theorem dL_law_930 : decode cL_law 930 = .ok (.iconst 1, 1) := by decide +kernel
theorem dL_law_931 : decode cL_law 931 = .ok (.iadd, 1) := by decide +kernel
theorem dL_law_932 : decode cL_law 932 = .ok (.iaload, 1) := by decide +kernel
theorem dL_law_933 : decode cL_law 933 = .ok (.aload_n 0, 1) := by decide +kernel
theorem dL_law_934 : decode cL_law 934 = .ok (.iload_n 3, 1) := by decide +kernel
theorem dL_law_935 : decode cL_law 935 = .ok (.iconst 2, 1) := by decide +kernel
theorem dL_law_936 : decode cL_law 936 = .ok (.iadd, 1) := by decide +kernel
theorem dL_law_937 : decode cL_law 937 = .ok (.iaload, 1) := by decide +kernel
theorem dL_law_938 : decode cL_law 938 = .ok (.aload_n 0, 1) := by decide +kernel
theorem dL_law_939 : decode cL_law 939 = .ok (.iload_n 3, 1) := by decide +kernel
theorem dL_law_940 : decode cL_law 940 = .ok (.iconst 3, 1) := by decide +kernel
theorem dL_law_941 : decode cL_law 941 = .ok (.iadd, 1) := by decide +kernel
theorem dL_law_942 : decode cL_law 942 = .ok (.iaload, 1) := by decide +kernel
theorem dL_law_943 : decode cL_law 943 = .ok (.aload_n 0, 1) := by decide +kernel
theorem dL_law_944 : decode cL_law 944 = .ok (.iload_n 3, 1) := by decide +kernel
theorem dL_law_945 : decode cL_law 945 = .ok (.iconst 4, 1) := by decide +kernel
theorem dL_law_946 : decode cL_law 946 = .ok (.iadd, 1) := by decide +kernel
theorem dL_law_947 : decode cL_law 947 = .ok (.iaload, 1) := by decide +kernel
theorem dL_law_948 : decode cL_law 948 = .ok (.invokevirtual 135, 3) := by decide +kernel
theorem dL_law_951 : decode cL_law 951 = .ok (.aload_n 2, 1) := by decide +kernel
theorem dL_law_952 : decode cL_law 952 = .ok (.aload_n 0, 1) := by decide +kernel
theorem dL_law_953 : decode cL_law 953 = .ok (.iload_n 3, 1) := by decide +kernel
theorem dL_law_954 : decode cL_law 954 = .ok (.iconst 1, 1) := by decide +kernel
theorem dL_law_955 : decode cL_law 955 = .ok (.iadd, 1) := by decide +kernel
theorem dL_law_956 : decode cL_law 956 = .ok (.iaload, 1) := by decide +kernel
theorem dL_law_957 : decode cL_law 957 = .ok (.aload_n 0, 1) := by decide +kernel
theorem dL_law_958 : decode cL_law 958 = .ok (.iload_n 3, 1) := by decide +kernel
theorem dL_law_959 : decode cL_law 959 = .ok (.iconst 2, 1) := by decide +kernel
theorem dL_law_960 : decode cL_law 960 = .ok (.iadd, 1) := by decide +kernel
theorem dL_law_961 : decode cL_law 961 = .ok (.iaload, 1) := by decide +kernel
theorem dL_law_962 : decode cL_law 962 = .ok (.aload_n 0, 1) := by decide +kernel
theorem dL_law_963 : decode cL_law 963 = .ok (.iload_n 3, 1) := by decide +kernel
theorem dL_law_964 : decode cL_law 964 = .ok (.iconst 3, 1) := by decide +kernel
theorem dL_law_965 : decode cL_law 965 = .ok (.iadd, 1) := by decide +kernel
theorem dL_law_966 : decode cL_law 966 = .ok (.iaload, 1) := by decide +kernel
theorem dL_law_967 : decode cL_law 967 = .ok (.aload_n 0, 1) := by decide +kernel
theorem dL_law_968 : decode cL_law 968 = .ok (.iload_n 3, 1) := by decide +kernel
theorem dL_law_969 : decode cL_law 969 = .ok (.iconst 4, 1) := by decide +kernel
theorem dL_law_970 : decode cL_law 970 = .ok (.iadd, 1) := by decide +kernel
theorem dL_law_971 : decode cL_law 971 = .ok (.iaload, 1) := by decide +kernel
theorem dL_law_972 : decode cL_law 972 = .ok (.invokevirtual 139, 3) := by decide +kernel
theorem dL_law_975 : decode cL_law 975 = .ok (.if_icmp .eq 171, 3) := by decide +kernel
theorem dL_law_978 : decode cL_law 978 = .ok (.iconst 0, 1) := by decide +kernel
theorem dL_law_979 : decode cL_law 979 = .ok (.ireturn, 1) := by decide +kernel
theorem dL_law_980 : decode cL_law 980 = .ok (.aload_n 1, 1) := by decide +kernel
theorem dL_law_981 : decode cL_law 981 = .ok (.aload_n 0, 1) := by decide +kernel
theorem dL_law_982 : decode cL_law 982 = .ok (.iload_n 3, 1) := by decide +kernel
theorem dL_law_983 : decode cL_law 983 = .ok (.iconst 1, 1) := by decide +kernel
theorem dL_law_984 : decode cL_law 984 = .ok (.iadd, 1) := by decide +kernel
theorem dL_law_985 : decode cL_law 985 = .ok (.iaload, 1) := by decide +kernel
theorem dL_law_986 : decode cL_law 986 = .ok (.aload_n 0, 1) := by decide +kernel
theorem dL_law_987 : decode cL_law 987 = .ok (.iload_n 3, 1) := by decide +kernel
theorem dL_law_988 : decode cL_law 988 = .ok (.iconst 2, 1) := by decide +kernel
theorem dL_law_989 : decode cL_law 989 = .ok (.iadd, 1) := by decide +kernel
theorem dL_law_990 : decode cL_law 990 = .ok (.iaload, 1) := by decide +kernel
theorem dL_law_991 : decode cL_law 991 = .ok (.aload_n 0, 1) := by decide +kernel
theorem dL_law_992 : decode cL_law 992 = .ok (.iload_n 3, 1) := by decide +kernel
theorem dL_law_993 : decode cL_law 993 = .ok (.iconst 3, 1) := by decide +kernel
theorem dL_law_994 : decode cL_law 994 = .ok (.iadd, 1) := by decide +kernel
theorem dL_law_995 : decode cL_law 995 = .ok (.iaload, 1) := by decide +kernel
theorem dL_law_996 : decode cL_law 996 = .ok (.invokevirtual 140, 3) := by decide +kernel
theorem dL_law_999 : decode cL_law 999 = .ok (.aload_n 2, 1) := by decide +kernel
theorem dL_law_1000 : decode cL_law 1000 = .ok (.aload_n 0, 1) := by decide +kernel
theorem dL_law_1001 : decode cL_law 1001 = .ok (.iload_n 3, 1) := by decide +kernel
theorem dL_law_1002 : decode cL_law 1002 = .ok (.iconst 1, 1) := by decide +kernel
theorem dL_law_1003 : decode cL_law 1003 = .ok (.iadd, 1) := by decide +kernel
theorem dL_law_1004 : decode cL_law 1004 = .ok (.iaload, 1) := by decide +kernel
theorem dL_law_1005 : decode cL_law 1005 = .ok (.aload_n 0, 1) := by decide +kernel
theorem dL_law_1006 : decode cL_law 1006 = .ok (.iload_n 3, 1) := by decide +kernel
theorem dL_law_1007 : decode cL_law 1007 = .ok (.iconst 2, 1) := by decide +kernel
theorem dL_law_1008 : decode cL_law 1008 = .ok (.iadd, 1) := by decide +kernel
theorem dL_law_1009 : decode cL_law 1009 = .ok (.iaload, 1) := by decide +kernel
theorem dL_law_1010 : decode cL_law 1010 = .ok (.aload_n 0, 1) := by decide +kernel
theorem dL_law_1011 : decode cL_law 1011 = .ok (.iload_n 3, 1) := by decide +kernel
theorem dL_law_1012 : decode cL_law 1012 = .ok (.iconst 3, 1) := by decide +kernel
theorem dL_law_1013 : decode cL_law 1013 = .ok (.iadd, 1) := by decide +kernel
theorem dL_law_1014 : decode cL_law 1014 = .ok (.iaload, 1) := by decide +kernel
theorem dL_law_1015 : decode cL_law 1015 = .ok (.invokevirtual 143, 3) := by decide +kernel
theorem dL_law_1018 : decode cL_law 1018 = .ok (.if_icmp .eq 128, 3) := by decide +kernel
theorem dL_law_1021 : decode cL_law 1021 = .ok (.iconst 0, 1) := by decide +kernel
theorem dL_law_1022 : decode cL_law 1022 = .ok (.ireturn, 1) := by decide +kernel
theorem dL_law_1023 : decode cL_law 1023 = .ok (.aload_n 1, 1) := by decide +kernel
theorem dL_law_1024 : decode cL_law 1024 = .ok (.aload_n 0, 1) := by decide +kernel
theorem dL_law_1025 : decode cL_law 1025 = .ok (.iload_n 3, 1) := by decide +kernel
theorem dL_law_1026 : decode cL_law 1026 = .ok (.iconst 1, 1) := by decide +kernel
theorem dL_law_1027 : decode cL_law 1027 = .ok (.iadd, 1) := by decide +kernel
theorem dL_law_1028 : decode cL_law 1028 = .ok (.iaload, 1) := by decide +kernel
theorem dL_law_1029 : decode cL_law 1029 = .ok (.aload_n 0, 1) := by decide +kernel
theorem dL_law_1030 : decode cL_law 1030 = .ok (.iload_n 3, 1) := by decide +kernel
theorem dL_law_1031 : decode cL_law 1031 = .ok (.iconst 2, 1) := by decide +kernel
theorem dL_law_1032 : decode cL_law 1032 = .ok (.iadd, 1) := by decide +kernel
theorem dL_law_1033 : decode cL_law 1033 = .ok (.iaload, 1) := by decide +kernel
theorem dL_law_1034 : decode cL_law 1034 = .ok (.aload_n 0, 1) := by decide +kernel
theorem dL_law_1035 : decode cL_law 1035 = .ok (.iload_n 3, 1) := by decide +kernel
theorem dL_law_1036 : decode cL_law 1036 = .ok (.iconst 3, 1) := by decide +kernel
theorem dL_law_1037 : decode cL_law 1037 = .ok (.iadd, 1) := by decide +kernel
theorem dL_law_1038 : decode cL_law 1038 = .ok (.iaload, 1) := by decide +kernel
theorem dL_law_1039 : decode cL_law 1039 = .ok (.aload_n 0, 1) := by decide +kernel
theorem dL_law_1040 : decode cL_law 1040 = .ok (.iload_n 3, 1) := by decide +kernel
theorem dL_law_1041 : decode cL_law 1041 = .ok (.iconst 4, 1) := by decide +kernel
theorem dL_law_1042 : decode cL_law 1042 = .ok (.iadd, 1) := by decide +kernel
theorem dL_law_1043 : decode cL_law 1043 = .ok (.iaload, 1) := by decide +kernel
theorem dL_law_1044 : decode cL_law 1044 = .ok (.aload_n 0, 1) := by decide +kernel
theorem dL_law_1045 : decode cL_law 1045 = .ok (.iload_n 3, 1) := by decide +kernel
theorem dL_law_1046 : decode cL_law 1046 = .ok (.iconst 5, 1) := by decide +kernel
theorem dL_law_1047 : decode cL_law 1047 = .ok (.iadd, 1) := by decide +kernel
theorem dL_law_1048 : decode cL_law 1048 = .ok (.iaload, 1) := by decide +kernel
theorem dL_law_1049 : decode cL_law 1049 = .ok (.invokevirtual 144, 3) := by decide +kernel
theorem dL_law_1052 : decode cL_law 1052 = .ok (.aload_n 2, 1) := by decide +kernel
theorem dL_law_1053 : decode cL_law 1053 = .ok (.aload_n 0, 1) := by decide +kernel
theorem dL_law_1054 : decode cL_law 1054 = .ok (.iload_n 3, 1) := by decide +kernel
theorem dL_law_1055 : decode cL_law 1055 = .ok (.iconst 1, 1) := by decide +kernel
theorem dL_law_1056 : decode cL_law 1056 = .ok (.iadd, 1) := by decide +kernel
theorem dL_law_1057 : decode cL_law 1057 = .ok (.iaload, 1) := by decide +kernel
theorem dL_law_1058 : decode cL_law 1058 = .ok (.aload_n 0, 1) := by decide +kernel
theorem dL_law_1059 : decode cL_law 1059 = .ok (.iload_n 3, 1) := by decide +kernel
theorem dL_law_1060 : decode cL_law 1060 = .ok (.iconst 2, 1) := by decide +kernel
theorem dL_law_1061 : decode cL_law 1061 = .ok (.iadd, 1) := by decide +kernel
theorem dL_law_1062 : decode cL_law 1062 = .ok (.iaload, 1) := by decide +kernel
theorem dL_law_1063 : decode cL_law 1063 = .ok (.aload_n 0, 1) := by decide +kernel
theorem dL_law_1064 : decode cL_law 1064 = .ok (.iload_n 3, 1) := by decide +kernel
theorem dL_law_1065 : decode cL_law 1065 = .ok (.iconst 3, 1) := by decide +kernel
theorem dL_law_1066 : decode cL_law 1066 = .ok (.iadd, 1) := by decide +kernel
theorem dL_law_1067 : decode cL_law 1067 = .ok (.iaload, 1) := by decide +kernel
theorem dL_law_1068 : decode cL_law 1068 = .ok (.aload_n 0, 1) := by decide +kernel
theorem dL_law_1069 : decode cL_law 1069 = .ok (.iload_n 3, 1) := by decide +kernel
theorem dL_law_1070 : decode cL_law 1070 = .ok (.iconst 4, 1) := by decide +kernel
theorem dL_law_1071 : decode cL_law 1071 = .ok (.iadd, 1) := by decide +kernel
theorem dL_law_1072 : decode cL_law 1072 = .ok (.iaload, 1) := by decide +kernel
theorem dL_law_1073 : decode cL_law 1073 = .ok (.aload_n 0, 1) := by decide +kernel
theorem dL_law_1074 : decode cL_law 1074 = .ok (.iload_n 3, 1) := by decide +kernel
theorem dL_law_1075 : decode cL_law 1075 = .ok (.iconst 5, 1) := by decide +kernel
theorem dL_law_1076 : decode cL_law 1076 = .ok (.iadd, 1) := by decide +kernel
theorem dL_law_1077 : decode cL_law 1077 = .ok (.iaload, 1) := by decide +kernel
theorem dL_law_1078 : decode cL_law 1078 = .ok (.invokevirtual 148, 3) := by decide +kernel
theorem dL_law_1081 : decode cL_law 1081 = .ok (.if_icmp .eq 65, 3) := by decide +kernel
theorem dL_law_1084 : decode cL_law 1084 = .ok (.iconst 0, 1) := by decide +kernel
theorem dL_law_1085 : decode cL_law 1085 = .ok (.ireturn, 1) := by decide +kernel
theorem dL_law_1086 : decode cL_law 1086 = .ok (.aload_n 1, 1) := by decide +kernel
theorem dL_law_1087 : decode cL_law 1087 = .ok (.aload_n 0, 1) := by decide +kernel
theorem dL_law_1088 : decode cL_law 1088 = .ok (.iload_n 3, 1) := by decide +kernel
theorem dL_law_1089 : decode cL_law 1089 = .ok (.iconst 1, 1) := by decide +kernel
theorem dL_law_1090 : decode cL_law 1090 = .ok (.iadd, 1) := by decide +kernel
theorem dL_law_1091 : decode cL_law 1091 = .ok (.iaload, 1) := by decide +kernel
theorem dL_law_1092 : decode cL_law 1092 = .ok (.invokevirtual 149, 3) := by decide +kernel
theorem dL_law_1095 : decode cL_law 1095 = .ok (.aload_n 2, 1) := by decide +kernel
theorem dL_law_1096 : decode cL_law 1096 = .ok (.aload_n 0, 1) := by decide +kernel
theorem dL_law_1097 : decode cL_law 1097 = .ok (.iload_n 3, 1) := by decide +kernel
theorem dL_law_1098 : decode cL_law 1098 = .ok (.iconst 1, 1) := by decide +kernel
theorem dL_law_1099 : decode cL_law 1099 = .ok (.iadd, 1) := by decide +kernel
theorem dL_law_1100 : decode cL_law 1100 = .ok (.iaload, 1) := by decide +kernel
theorem dL_law_1101 : decode cL_law 1101 = .ok (.invokevirtual 152, 3) := by decide +kernel
theorem dL_law_1104 : decode cL_law 1104 = .ok (.if_icmp .eq 42, 3) := by decide +kernel
theorem dL_law_1107 : decode cL_law 1107 = .ok (.iconst 0, 1) := by decide +kernel
theorem dL_law_1108 : decode cL_law 1108 = .ok (.ireturn, 1) := by decide +kernel
theorem dL_law_1109 : decode cL_law 1109 = .ok (.aload_n 1, 1) := by decide +kernel
theorem dL_law_1110 : decode cL_law 1110 = .ok (.aload_n 0, 1) := by decide +kernel
theorem dL_law_1111 : decode cL_law 1111 = .ok (.iload_n 3, 1) := by decide +kernel
theorem dL_law_1112 : decode cL_law 1112 = .ok (.iconst 1, 1) := by decide +kernel
theorem dL_law_1113 : decode cL_law 1113 = .ok (.iadd, 1) := by decide +kernel
theorem dL_law_1114 : decode cL_law 1114 = .ok (.iaload, 1) := by decide +kernel
theorem dL_law_1115 : decode cL_law 1115 = .ok (.invokevirtual 153, 3) := by decide +kernel
theorem dL_law_1118 : decode cL_law 1118 = .ok (.aload_n 2, 1) := by decide +kernel
theorem dL_law_1119 : decode cL_law 1119 = .ok (.aload_n 0, 1) := by decide +kernel
theorem dL_law_1120 : decode cL_law 1120 = .ok (.iload_n 3, 1) := by decide +kernel
theorem dL_law_1121 : decode cL_law 1121 = .ok (.iconst 1, 1) := by decide +kernel
theorem dL_law_1122 : decode cL_law 1122 = .ok (.iadd, 1) := by decide +kernel
theorem dL_law_1123 : decode cL_law 1123 = .ok (.iaload, 1) := by decide +kernel
theorem dL_law_1124 : decode cL_law 1124 = .ok (.invokevirtual 156, 3) := by decide +kernel
theorem dL_law_1127 : decode cL_law 1127 = .ok (.if_icmp .eq 19, 3) := by decide +kernel
theorem dL_law_1130 : decode cL_law 1130 = .ok (.iconst 0, 1) := by decide +kernel
theorem dL_law_1131 : decode cL_law 1131 = .ok (.ireturn, 1) := by decide +kernel
theorem dL_law_1132 : decode cL_law 1132 = .ok (.aload_n 1, 1) := by decide +kernel
theorem dL_law_1133 : decode cL_law 1133 = .ok (.invokevirtual 157, 3) := by decide +kernel
theorem dL_law_1136 : decode cL_law 1136 = .ok (.aload_n 2, 1) := by decide +kernel
theorem dL_law_1137 : decode cL_law 1137 = .ok (.invokevirtual 161, 3) := by decide +kernel
theorem dL_law_1140 : decode cL_law 1140 = .ok (.lcmp, 1) := by decide +kernel
theorem dL_law_1141 : decode cL_law 1141 = .ok (.ifCond .eq 5, 3) := by decide +kernel
theorem dL_law_1144 : decode cL_law 1144 = .ok (.iconst 0, 1) := by decide +kernel
theorem dL_law_1145 : decode cL_law 1145 = .ok (.ireturn, 1) := by decide +kernel
theorem dL_law_1146 : decode cL_law 1146 = .ok (.iinc 3 6, 3) := by decide +kernel
theorem dL_law_1149 : decode cL_law 1149 = .ok (.goto (-1131), 3) := by decide +kernel
theorem dL_law_1152 : decode cL_law 1152 = .ok (.iconst 1, 1) := by decide +kernel
theorem dL_law_1153 : decode cL_law 1153 = .ok (.ireturn, 1) := by decide +kernel
end
section
/-! the words that every method may lean on; the nest words apart -/
def g_isNest : Cond → Bool
  | .fieldLinkNest .. => true
  | .methodLinkNest .. => true
  | _ => false
def gW : List Cond := lw_tbl.filter goodWord
def gN : List Cond := tables_1.filter g_isNest
theorem gW_of {w : Cond} (h : w ∈ lw_tbl) (g : goodWord w = true) : w ∈ gW := List.mem_filter.mpr ⟨h, g⟩
theorem gW_t {w : Cond} (i : Nat) (h : tables_1[i]? = some w) (g : goodWord w = true) : w ∈ gW := gW_of (List.mem_append_right _ (List.mem_of_getElem? h)) g
theorem gW_p {w : Cond} (i : Nat) (h : (k2_sels lw_privs)[i]? = some w) (g : goodWord w = true) : w ∈ gW := gW_of (List.mem_append_left _ (List.mem_of_getElem? h)) g
theorem gN_t {w : Cond} (i : Nat) (h : tables_1[i]? = some w) (g : g_isNest w = true) : w ∈ gN := List.mem_filter.mpr ⟨List.mem_of_getElem? h, g⟩
theorem gW_good {y : MethodName} {cc : ByteArray} {nL : Nat} {ret : Option FieldType} {ws : List Cond} (hs : ∀ w ∈ gW, w ∈ ws) (h : Cond.code y cc nL ret ∈ gW) : GoodIn ws (Cond.code y cc nL ret :: gW) := by
  intro w hw
  have h1 : w ∈ gW := by
    rcases List.mem_cons.mp hw with e | e
    · rw [e]; exact h
    · exact e
  exact ⟨hs w h1, good_of_word (List.mem_filter.mp h1).2⟩
/-! the cells: what each is (the shapes never change), and what it holds now -/
abbrev gS : Type := (Nat → Nat → Int32) × (Nat → Nat → Int64)
abbrev gX : Type := Nat × va_G × (Nat → ClassId)
abbrev gSh : Type := (Nat × List (Option (Option Nat))) ⊕ (Nat × Nat × Nat × Nat)
def g_fv (X : gX) (S : gS) (i k : Nat) : Option (Option Nat) → Value
  | some (some t) => .ref (X.1 + t)
  | some none => .int (S.1 i k)
  | none => .long (S.2 i k)
def g_fvs (X : gX) (S : gS) (i : Nat) : Nat → List (Option (Option Nat)) → List Value
  | _, [] => []
  | k, d :: ds => g_fv X S i k d :: g_fvs X S i (k + 1) ds
def g_arr (X : gX) (S : gS) (i kd b w : Nat) : (Nat → Int32) ⊕ (Nat → Int64) ⊕ (Nat → UInt32) ⊕ (Nat → UInt64) ⊕ (Nat → Option Nat) :=
  if kd = 1 then .inr (.inl (S.2 i)) else if kd < 3 then .inl (S.1 i) else .inr (.inr (.inr (.inr (fun j => some (X.1 + (b + w * j))))))
def g_cell (X : gX) (S : gS) (i : Nat) : gSh → va_E
  | .inl (ci, ds) => .inr (ci, g_fvs X S i 0 ds)
  | .inr (kd, n, b, w) => .inl (X.2.2 kd, n, g_arr X S i kd b w)
def g_wl (X : gX) (S : gS) : Nat → List gSh → va_W
  | _, [] => []
  | i, c :: cs => (X.1 + i, g_cell X S i c) :: g_wl X S (i + 1) cs
def g_shps : List gSh := [
  .inl (7, [some (some 1), some (some 3), some (some 9), some (some 12), some (some 16), some (some 19), some (some 42), some none, some none, some none, some none, some none]),
  .inl (0, [some (some 2), some none, some none, none, none]),
  .inr (0, 75, 0, 0),
  .inl (1, [some (some 4), some (some 5), some (some 6), some (some 7), some (some 8)]),
  .inr (0, 64, 0, 0),
  .inr (0, 64, 0, 0),
  .inr (0, 64, 0, 0),
  .inr (0, 64, 0, 0),
  .inr (0, 64, 0, 0),
  .inl (6, [some (some 10), some (some 11), some none]),
  .inr (0, 8, 0, 0),
  .inr (0, 8, 0, 0),
  .inl (4, [some (some 13), some (some 14), some (some 15), some none, none]),
  .inr (0, 64, 0, 0),
  .inr (1, 32, 0, 0),
  .inr (0, 64, 0, 0),
  .inl (3, [some (some 1), some (some 12), some (some 17), some (some 18), some none, some none, some none, some none]),
  .inr (0, 64, 0, 0),
  .inr (0, 64, 0, 0),
  .inl (2, [some (some 1), some (some 9), some (some 20), some (some 21), some (some 22), some (some 23), some none, some none, some none, some none]),
  .inr (3, 6, 24, 3),
  .inr (0, 5, 0, 0),
  .inr (0, 5, 0, 0),
  .inr (0, 5, 0, 0),
  .inl (3, [some (some 1), some (some 12), some (some 25), some (some 26), some none, some none, some none, some none]),
  .inr (0, 64, 0, 0),
  .inr (0, 64, 0, 0),
  .inl (3, [some (some 1), some (some 12), some (some 28), some (some 29), some none, some none, some none, some none]),
  .inr (0, 64, 0, 0),
  .inr (0, 64, 0, 0),
  .inl (3, [some (some 1), some (some 12), some (some 31), some (some 32), some none, some none, some none, some none]),
  .inr (0, 64, 0, 0),
  .inr (0, 64, 0, 0),
  .inl (3, [some (some 1), some (some 12), some (some 34), some (some 35), some none, some none, some none, some none]),
  .inr (0, 64, 0, 0),
  .inr (0, 64, 0, 0),
  .inl (3, [some (some 1), some (some 12), some (some 37), some (some 38), some none, some none, some none, some none]),
  .inr (0, 64, 0, 0),
  .inr (0, 64, 0, 0),
  .inl (3, [some (some 1), some (some 12), some (some 40), some (some 41), some none, some none, some none, some none]),
  .inr (0, 64, 0, 0),
  .inr (0, 64, 0, 0),
  .inr (4, 4, 43, 2),
  .inl (5, [some (some 44), some none, some none]),
  .inr (0, 64, 0, 0),
  .inl (5, [some (some 46), some none, some none]),
  .inr (0, 64, 0, 0),
  .inl (5, [some (some 48), some none, some none]),
  .inr (0, 64, 0, 0),
  .inl (5, [some (some 50), some none, some none]),
  .inr (0, 64, 0, 0),
  .inl (8, [some (some 52), some (some 53), some (some 54), some (some 55), some none, some (some 56), some none, some (some 57), some (some 58), some (some 59), some (some 60), some (some 61), some none, some (some 62), some (some 63), some (some 64), some (some 65), some (some 66), some (some 67), some none, some (some 68), some none, some none, some none, some none, some (some 69), some none, some (some 70), some (some 71), some none, some none, some none, some none, some (some 72), some none, some none]),
  .inr (0, 4, 0, 0),
  .inr (0, 4, 0, 0),
  .inr (0, 256, 0, 0),
  .inr (0, 64, 0, 0),
  .inr (0, 75, 0, 0),
  .inr (0, 64, 0, 0),
  .inr (0, 64, 0, 0),
  .inr (0, 64, 0, 0),
  .inr (0, 64, 0, 0),
  .inr (0, 64, 0, 0),
  .inr (0, 8, 0, 0),
  .inr (0, 8, 0, 0),
  .inr (0, 64, 0, 0),
  .inr (0, 64, 0, 0),
  .inr (0, 64, 0, 0),
  .inr (2, 64, 0, 0),
  .inr (0, 64, 0, 0),
  .inr (0, 64, 0, 0),
  .inr (0, 5, 0, 0),
  .inr (0, 5, 0, 0),
  .inr (2, 64, 0, 0)]
def g_ws (X : gX) (S : gS) : va_W := g_wl X S 0 g_shps
theorem g_fvs_get (X : gX) (S : gS) (i : Nat) (ds : List (Option (Option Nat))) : ∀ (k0 k : Nat), (g_fvs X S i k0 ds)[k]? = (ds[k]?).map (g_fv X S i (k0 + k)) := by
  induction ds with
  | nil => intro k0 k; simp [g_fvs]
  | cons d ds ih =>
    intro k0 k
    cases k with
    | zero => simp [g_fvs]
    | succ k =>
      simp only [g_fvs, List.getElem?_cons_succ]
      rw [ih (k0 + 1) k, show k0 + 1 + k = k0 + (k + 1) by omega]
theorem g_fvs_len (X : gX) (S : gS) (i : Nat) (ds : List (Option (Option Nat))) : ∀ k0, (g_fvs X S i k0 ds).length = ds.length := by
  induction ds with
  | nil => intro k0; rfl
  | cons d ds ih => intro k0; simp [g_fvs, ih]
theorem g_wl_get (X : gX) (S : gS) (l : List gSh) : ∀ (i k : Nat), (g_wl X S i l)[k]? = (l[k]?).map (fun c => (X.1 + (i + k), g_cell X S (i + k) c)) := by
  induction l with
  | nil => intro i k; simp [g_wl]
  | cons c cs ih =>
    intro i k
    cases k with
    | zero => simp [g_wl]
    | succ k =>
      simp only [g_wl, List.getElem?_cons_succ]
      rw [ih (i + 1) k, show i + 1 + k = i + (k + 1) by omega]
theorem g_ws_get (X : gX) (S : gS) {k : Nat} {c : gSh} (h : g_shps[k]? = some c) : (g_ws X S)[k]? = some (X.1 + k, g_cell X S k c) := by
  unfold g_ws
  rw [g_wl_get, h, Nat.zero_add]
  rfl
theorem g_ws_get' (X : gX) (S : gS) (k : Nat) : (g_ws X S)[k]? = (g_shps[k]?).map (fun c => (X.1 + k, g_cell X S k c)) := by
  unfold g_ws
  rw [g_wl_get, Nat.zero_add]
theorem g_ws_set (X : gX) (S S' : gS) {k : Nat} {c : gSh} {e : va_E} (h : g_shps[k]? = some c) (hc : g_cell X S' k c = e) (ho : ∀ (j : Nat) (c' : gSh), j ≠ k → g_cell X S' j c' = g_cell X S j c') : (g_ws X S).set k (X.1 + k, e) = g_ws X S' := by
  apply List.ext_getElem?
  intro j
  rw [List.getElem?_set, g_ws_get', g_ws_get']
  by_cases hj : k = j
  · subst hj
    have hlt : k < (g_ws X S).length := by
      have := g_ws_get X S h
      exact (List.getElem?_eq_some_iff.mp this).1
    simp only [if_true, hlt, h, Option.map_some, hc]
  · simp only [hj, if_false]
    cases g_shps[j]? with
    | none => rfl
    | some c' => simp only [Option.map_some, ho j c' (fun q => hj q.symm)]
theorem g_D (X : gX) (S : gS) : va_D (fun q => X.1 ≤ q) (g_ws X S) := by
  refine ⟨fun i j p q hp hq e => ?_, fun k q hk => ?_⟩
  · rw [g_ws_get'] at hp hq
    cases h1 : g_shps[i]? with
    | none => rw [h1] at hp; cases hp
    | some c1 =>
      cases h2 : g_shps[j]? with
      | none => rw [h2] at hq; cases hq
      | some c2 =>
        rw [h1] at hp; rw [h2] at hq
        simp only [Option.map_some, Option.some.injEq] at hp hq
        subst hp; subst hq
        simp only at e
        omega
  · rw [g_ws_get'] at hk
    cases h1 : g_shps[k]? with
    | none => rw [h1] at hk; cases hk
    | some c1 =>
      rw [h1] at hk
      simp only [Option.map_some, Option.some.injEq] at hk
      subst hk
      simp only
      omega
def g_setI (S : gS) (i k : Nat) (v : Int32) : gS := (fun a b => if a = i ∧ b = k then v else S.1 a b, S.2)
def g_setJ (S : gS) (i k : Nat) (v : Int64) : gS := (S.1, fun a b => if a = i ∧ b = k then v else S.2 a b)
def g_cpyI (S : gS) (i j sp dp n : Nat) : gS := (fun a b => if a = j then va_cpy (S.1 i) (S.1 j) sp dp n b else S.1 a b, S.2)
theorem g_fvs_congr (X : gX) (S S' : gS) (i : Nat) (h1 : ∀ k, S'.1 i k = S.1 i k) (h2 : ∀ k, S'.2 i k = S.2 i k) (ds : List (Option (Option Nat))) : ∀ k0, g_fvs X S' i k0 ds = g_fvs X S i k0 ds := by
  induction ds with
  | nil => intro k0; rfl
  | cons d ds ih =>
    intro k0
    simp only [g_fvs, ih]
    congr 1
    rcases d with _ | _ | t <;> simp [g_fv, h1, h2]
theorem g_cell_congr (X : gX) (S S' : gS) (i : Nat) (h1 : ∀ k, S'.1 i k = S.1 i k) (h2 : ∀ k, S'.2 i k = S.2 i k) (c : gSh) : g_cell X S' i c = g_cell X S i c := by
  rcases c with ⟨ci, ds⟩ | ⟨kd, n, b, w⟩
  · simp only [g_cell, g_fvs_congr X S S' i h1 h2]
  · have e1 : S'.1 i = S.1 i := funext h1
    have e2 : S'.2 i = S.2 i := funext h2
    simp only [g_cell, g_arr, e1, e2]
theorem g_fvs_set (X : gX) (S S' : gS) (i : Nat) (v : Value) (k : Nat) (ds : List (Option (Option Nat))) (hk : ∀ d, ds[k]? = some d → g_fv X S' i k d = v) (ho : ∀ j d, j ≠ k → ds[j]? = some d → g_fv X S' i j d = g_fv X S i j d) : (g_fvs X S i 0 ds).set k v = g_fvs X S' i 0 ds := by
  apply List.ext_getElem?
  intro j
  rw [List.getElem?_set, g_fvs_get, g_fvs_get, g_fvs_len]
  by_cases hj : k = j
  · subst hj
    cases hd : ds[k]? with
    | none =>
      have : ¬ k < ds.length := by
        intro h
        rw [List.getElem?_eq_getElem h] at hd
        cases hd
      simp [this]
    | some d =>
      have : k < ds.length := (List.getElem?_eq_some_iff.mp hd).1
      simp [this, hk d hd]
  · simp only [hj, if_false]
    cases hd : ds[j]? with
    | none => rfl
    | some d => simp only [Option.map_some, Nat.zero_add, ho j d (fun q => hj q.symm) hd]
/-! what a place is -/
def g_isI (i ci k : Nat) : Prop := ∃ ds, g_shps[i]? = some (.inl (ci, ds)) ∧ ds[k]? = some (some none)
def g_isJ (i ci k : Nat) : Prop := ∃ ds, g_shps[i]? = some (.inl (ci, ds)) ∧ ds[k]? = some none
def g_isR (i ci k t : Nat) : Prop := ∃ ds, g_shps[i]? = some (.inl (ci, ds)) ∧ ds[k]? = some (some (some t))
def g_isO (i ci : Nat) : Prop := ∃ ds, g_shps[i]? = some (.inl (ci, ds))
def g_isA (i kd n : Nat) : Prop := ∃ b w, g_shps[i]? = some (.inr (kd, n, b, w))
def g_isAR (i kd n b w : Nat) : Prop := g_shps[i]? = some (.inr (kd, n, b, w))
theorem g_isI.o {i ci k : Nat} (h : g_isI i ci k) : g_isO i ci := by obtain ⟨ds, h, -⟩ := h; exact ⟨ds, h⟩
theorem g_isR.o {i ci k t : Nat} (h : g_isR i ci k t) : g_isO i ci := by obtain ⟨ds, h, -⟩ := h; exact ⟨ds, h⟩
/-! the state's other words -/
def g_tys (X : gX) : List (ClassId × FieldType) := [(X.2.2 0, .int), (X.2.2 1, .long), (X.2.2 2, .boolean), (X.2.2 3, .object "SnowPaths$Outing"), (X.2.2 4, .object "SnowPaths$Sheet")]
def g_K (X : gX) (U : State) : Prop := va_K X.2.1 vwCl (g_tys X) U ∧ ∀ w ∈ gN, va_Nw w U
theorem gN_form {w : Cond} (h : w ∈ gN) : (∃ a i b n d h', w = .fieldLinkNest a i b n d h') ∨ ∃ a i x h', w = .methodLinkNest a i x h' := by
  have h2 := (List.mem_filter.mp h).2
  cases w <;> first | (simp [g_isNest] at h2; done) | exact Or.inl ⟨_, _, _, _, _, _, rfl⟩ | exact Or.inr ⟨_, _, _, _, rfl⟩
theorem g_K.warm {X : gX} {s U : State} (hW : s.WarmedH U.vm) (h : g_K X s) : g_K X U := by
  refine ⟨va_K.moved hW.alike h.1, fun w hw => ?_⟩
  rcases gN_form hw with ⟨a, i, b, n, d, h', rfl⟩ | ⟨a, i, x, h', rfl⟩
  · exact va_Nw.warmF hW (h.2 _ hw)
  · exact va_Nw.warmM hW (h.2 _ hw)
theorem g_K.same {X : gX} {u U : State} (h : u.vm = U.vm) (hK : g_K X u) : g_K X U := by
  refine ⟨va_K.moved (by rw [h]; exact Vm.Alike.refl U.vm) hK.1, fun w hw => ?_⟩
  rcases gN_form hw with ⟨a, i, b, n, d, h', rfl⟩ | ⟨a, i, x, h', rfl⟩
  · exact va_Nw.same rfl h (hK.2 _ hw)
  · exact va_Nw.same rfl h (hK.2 _ hw)
abbrev gP (X : gX) (S : gS) (H : Heap) : Prop := va_P X.2.1 vwCl (g_ws X S) H
abbrev gA (X : gX) : Nat → Prop := fun q => X.1 ≤ q
def g_room (h : Nat) : Room := { frames := h, cells := 0, slots := 0, locals := 45 * h }
def g_Q (X : gX) (ro : Option Value) (S' : gS) : Array Value → State → Outcome → State → Prop := fun _ st o t => (o = .returned ro ∧ gP X S' t.heap) ∧ va_F (gA X) st t
def g_Pc (X : gX) (av : List Value) (S : gS) : Array Value → State → Prop := fun a U => a = av.toArray ∧ gP X S U.heap ∧ g_K X U
/-- a method's contract: from the cells S, with the arguments av, it answers ro, and the cells are S' -/
def g_C (X : gX) (y : MethodName) (cc : ByteArray) (nL : Nat) (ret : Option FieldType) (h : Nat) (av : List Value) (S : gS) (ro : Option Value) (S' : gS) : Prop :=
  ∀ l : Launch, Met l y (.code y cc nL ret :: gW) (g_room h) (g_Pc X av S) (g_Q X ro S') 0 0 (gA X)
def g_At (X : gX) (own : String) (cc : ByteArray) (nL : Nat) (p : Program) (s : State) (m : MethodId) (args : Array Value) (c : Code) : Prop :=
  p.tables.exec = Jvm.exec ∧ c.code = cc ∧ c.maxLocals = nL ∧ s.vm.findClass own = some m.cls ∧ (∀ w ∈ gW, w.before args s = true) ∧ g_K X s
/-! links -/
def g_lnk (own : String) (idx ci k : Nat) : Prop := ∃ C T N, vwCl[ci]? = some (C, T, N) ∧ (∀ w ∈ u_ws C T N, w ∈ gW) ∧ k < N ∧ (T k).1 = C ∧
  (Cond.fieldLink own idx C (T k).2.1 (T k).2.2.1 ∈ gW ∨ ∃ host, Cond.fieldLinkNest own idx C (T k).2.1 (T k).2.2.1 host ∈ gN)
def g_lnkP (own : String) (idx ci k : Nat) (ty : FieldType) : Prop := ∃ C T N, vwCl[ci]? = some (C, T, N) ∧ (∀ w ∈ u_ws C T N, w ∈ gW) ∧ k < N ∧ (T k).1 = C ∧
  (Cond.fieldLink own idx C (T k).2.1 (T k).2.2.1 ∈ gW ∨ ∃ host, Cond.fieldLinkNest own idx C (T k).2.1 (T k).2.2.1 host ∈ gN) ∧
  (∃ ty0 : Nat → FieldType, ∀ k, k < N → parseFieldDescriptor (T k).2.2.1 = some (ty0 k)) ∧ (∀ a, a < N → ∀ b, b < N → a ≠ b → (T a).2.1 ≠ (T b).2.1) ∧ (T k).2.2.2 = false ∧ parseFieldDescriptor (T k).2.2.1 = some ty
section WR
variable {p : Program} {l : Launch} {e : Env} {R : Room} {s : State} {m : MethodId} {args : Array Value} {below : List Frame} {meth : Method} {c : Code} {H : Heap} {locs : List Loc} {cells slots : Nat} {Q : State → Prop}
variable {X : gX} {S : gS} {cc : ByteArray} {pc nL : Nat} {ls : Array Slot} {rest : List Value} {own : String} {H0 : Heap}
theorem w_get {i ci k idx : Nat} {v : Value} (A : g_At X own cc nL p s m args c) (hP : gP X S H) (L : g_lnk own idx ci k) {ds : List (Option (Option Nat))} (hs : g_shps[i]? = some (.inl (ci, ds))) (hv : (g_fvs X S i 0 ds)[k]? = some v) (hdg : decode cc pc = .ok (.getfield idx, 3))
    (kk : W p l e R s m args below meth c H locs cells slots Q (F0 m (pc + 3) ls (v :: rest))) : W p l e R s m args below meth c H locs cells slots Q (F0 m pc ls (.ref (X.1 + i) :: rest)) := by
  obtain ⟨hx, hb, hml, hown, hts, hK⟩ := A
  obtain ⟨C, T, N, h1, h2, h3, h4, h5⟩ := L
  subst h4
  have he := g_ws_get X S hs
  rcases h5 with h5 | ⟨host, h5⟩
  · exact va_get hx hb hts h2 hown hK.1 hP i he h1 k h3 (hts _ h5) (fun _ h => h) hv hdg kk
  · exact va_getN hx hb hts h2 hown hK.1 hP i he h1 k h3 (va_Nw.use rfl (hK.2 _ h5)) (fun _ h => h) hv hdg kk
theorem w_put {i ci k idx : Nat} {v : Value} {ty : FieldType} {S' : gS} (A : g_At X own cc nL p s m args c) (hP : gP X S H) (hS : va_S (gA X) H0 H locs) (L : g_lnkP own idx ci k ty) {ds : List (Option (Option Nat))} (hs : g_shps[i]? = some (.inl (ci, ds))) (hk : k < ds.length) (hn : narrow ty v = v) (hfit : fits ty v = true)
    (hset : (g_fvs X S i 0 ds).set k v = g_fvs X S' i 0 ds) (ho : ∀ (j : Nat) (c' : gSh), j ≠ i → g_cell X S' j c' = g_cell X S j c') (hdg : decode cc pc = .ok (.putfield idx, 3))
    (kk : ∀ (H1 : Heap) (locs1 : List Loc), gP X S' H1 → va_S (gA X) H0 H1 locs1 → W p l e R s m args below meth c H1 locs1 cells slots Q (F0 m (pc + 3) ls rest)) : W p l e R s m args below meth c H locs cells slots Q (F0 m pc ls (v :: .ref (X.1 + i) :: rest)) := by
  obtain ⟨hx, hb, hml, hown, hts, hK⟩ := A
  obtain ⟨C, T, N, h1, h2, h3, h4, h5, ⟨ty0, h6⟩, h7, h8, h9⟩ := L
  subst h4
  have he := g_ws_get X S hs
  have hlen : k < (g_fvs X S i 0 ds).length := by rw [g_fvs_len]; exact hk
  have hws : (g_ws X S).set i (X.1 + i, .inr (ci, (g_fvs X S i 0 ds).set k v)) = g_ws X S' := g_ws_set X S S' hs (by rw [hset]; rfl) ho
  rcases h5 with h5 | ⟨host, h5⟩
  · refine va_put hx hb hts h2 ty0 h6 h7 hown hK.1 hP (g_D X S) hS i he h1 k h3 (hts _ h5) (fun _ h => h) h8 h9 hn hfit hlen hdg (fun H1 locs1 hP1 hD1 hS1 => ?_)
    rw [hws] at hP1
    exact kk H1 locs1 hP1 hS1
  · refine va_putN hx hb hts h2 ty0 h6 h7 hown hK.1 hP (g_D X S) hS i he h1 k h3 (va_Nw.use rfl (hK.2 _ h5)) (fun _ h => h) h8 h9 hn hfit hlen hdg (fun H1 locs1 hP1 hD1 hS1 => ?_)
    rw [hws] at hP1
    exact kk H1 locs1 hP1 hS1
theorem w_geti {i ci k idx : Nat} (A : g_At X own cc nL p s m args c) (hP : gP X S H) (L : g_lnk own idx ci k) (hs : g_isI i ci k) (hdg : decode cc pc = .ok (.getfield idx, 3))
    (kk : W p l e R s m args below meth c H locs cells slots Q (F0 m (pc + 3) ls (.int (S.1 i k) :: rest))) : W p l e R s m args below meth c H locs cells slots Q (F0 m pc ls (.ref (X.1 + i) :: rest)) := by
  obtain ⟨ds, h1, h2⟩ := hs
  exact w_get A hP L h1 (by rw [g_fvs_get, h2]; simp [g_fv]) hdg kk
theorem w_getj {i ci k idx : Nat} (A : g_At X own cc nL p s m args c) (hP : gP X S H) (L : g_lnk own idx ci k) (hs : g_isJ i ci k) (hdg : decode cc pc = .ok (.getfield idx, 3))
    (kk : W p l e R s m args below meth c H locs cells slots Q (F0 m (pc + 3) ls (.long (S.2 i k) :: rest))) : W p l e R s m args below meth c H locs cells slots Q (F0 m pc ls (.ref (X.1 + i) :: rest)) := by
  obtain ⟨ds, h1, h2⟩ := hs
  exact w_get A hP L h1 (by rw [g_fvs_get, h2]; simp [g_fv]) hdg kk
theorem w_getr {i ci k idx t : Nat} (A : g_At X own cc nL p s m args c) (hP : gP X S H) (L : g_lnk own idx ci k) (hs : g_isR i ci k t) (hdg : decode cc pc = .ok (.getfield idx, 3))
    (kk : W p l e R s m args below meth c H locs cells slots Q (F0 m (pc + 3) ls (.ref (X.1 + t) :: rest))) : W p l e R s m args below meth c H locs cells slots Q (F0 m pc ls (.ref (X.1 + i) :: rest)) := by
  obtain ⟨ds, h1, h2⟩ := hs
  exact w_get A hP L h1 (by rw [g_fvs_get, h2]; simp [g_fv]) hdg kk
theorem g_cell_setI_ne (X : gX) (S : gS) (i k : Nat) (v : Int32) : ∀ (j : Nat) (c' : gSh), j ≠ i → g_cell X (g_setI S i k v) j c' = g_cell X S j c' := fun j c' h => g_cell_congr X S (g_setI S i k v) j (fun b => by simp [g_setI, h]) (fun b => rfl) c'
theorem g_cell_setJ_ne (X : gX) (S : gS) (i k : Nat) (v : Int64) : ∀ (j : Nat) (c' : gSh), j ≠ i → g_cell X (g_setJ S i k v) j c' = g_cell X S j c' := fun j c' h => g_cell_congr X S (g_setJ S i k v) j (fun b => rfl) (fun b => by simp [g_setJ, h]) c'
theorem w_puti {i ci k idx : Nat} {v : Int32} (A : g_At X own cc nL p s m args c) (hP : gP X S H) (hS : va_S (gA X) H0 H locs) (L : g_lnkP own idx ci k .int) (hs : g_isI i ci k) (hdg : decode cc pc = .ok (.putfield idx, 3))
    (kk : ∀ (H1 : Heap) (locs1 : List Loc), gP X (g_setI S i k v) H1 → va_S (gA X) H0 H1 locs1 → W p l e R s m args below meth c H1 locs1 cells slots Q (F0 m (pc + 3) ls rest)) : W p l e R s m args below meth c H locs cells slots Q (F0 m pc ls (.int v :: .ref (X.1 + i) :: rest)) := by
  obtain ⟨ds, h1, h2⟩ := hs
  refine w_put A hP hS L h1 (List.getElem?_eq_some_iff.mp h2).1 rfl rfl (g_fvs_set X S _ i _ k ds (fun d hd => ?_) (fun j d hj hd => ?_)) (g_cell_setI_ne X S i k v) hdg kk
  · rw [h2] at hd; cases hd; simp [g_fv, g_setI]
  · rcases d with _ | _ | t <;> simp [g_fv, g_setI, hj]
theorem w_putj {i ci k idx : Nat} {v : Int64} (A : g_At X own cc nL p s m args c) (hP : gP X S H) (hS : va_S (gA X) H0 H locs) (L : g_lnkP own idx ci k .long) (hs : g_isJ i ci k) (hdg : decode cc pc = .ok (.putfield idx, 3))
    (kk : ∀ (H1 : Heap) (locs1 : List Loc), gP X (g_setJ S i k v) H1 → va_S (gA X) H0 H1 locs1 → W p l e R s m args below meth c H1 locs1 cells slots Q (F0 m (pc + 3) ls rest)) : W p l e R s m args below meth c H locs cells slots Q (F0 m pc ls (.long v :: .ref (X.1 + i) :: rest)) := by
  obtain ⟨ds, h1, h2⟩ := hs
  refine w_put A hP hS L h1 (List.getElem?_eq_some_iff.mp h2).1 rfl rfl (g_fvs_set X S _ i _ k ds (fun d hd => ?_) (fun j d hj hd => ?_)) (g_cell_setJ_ne X S i k v) hdg kk
  · rw [h2] at hd; cases hd; simp [g_fv, g_setJ]
  · rcases d with _ | _ | t <;> simp [g_fv, g_setJ, hj]
theorem w_iald {i n : Nat} {j : Int32} (A : g_At X own cc nL p s m args c) (hP : gP X S H) (hs : g_isA i 0 n) (hin : vp_in j n) (hdg : decode cc pc = .ok (.iaload, 1))
    (kk : W p l e R s m args below meth c H locs cells slots Q (F0 m (pc + 1) ls (.int (S.1 i j.toNatClampNeg) :: rest))) : W p l e R s m args below meth c H locs cells slots Q (F0 m pc ls (.int j :: .ref (X.1 + i) :: rest)) := by
  obtain ⟨b, w, h1⟩ := hs
  exact va_iald A.1 A.2.1 A.2.2.2.2.2.1 hP i 0 (g_ws_get X S h1) rfl hin hdg kk
theorem w_zald {i n : Nat} {j : Int32} (A : g_At X own cc nL p s m args c) (hP : gP X S H) (hs : g_isA i 2 n) (hin : vp_in j n) (hdg : decode cc pc = .ok (.baload, 1))
    (kk : W p l e R s m args below meth c H locs cells slots Q (F0 m (pc + 1) ls (.int (S.1 i j.toNatClampNeg) :: rest))) : W p l e R s m args below meth c H locs cells slots Q (F0 m pc ls (.int j :: .ref (X.1 + i) :: rest)) := by
  obtain ⟨b, w, h1⟩ := hs
  exact va_zald A.1 A.2.1 A.2.2.2.2.2.1 hP i 2 (g_ws_get X S h1) rfl hin hdg kk
theorem w_lald {i n : Nat} {j : Int32} (A : g_At X own cc nL p s m args c) (hP : gP X S H) (hs : g_isA i 1 n) (hin : vp_in j n) (hdg : decode cc pc = .ok (.laload, 1))
    (kk : W p l e R s m args below meth c H locs cells slots Q (F0 m (pc + 1) ls (.long (S.2 i j.toNatClampNeg) :: rest))) : W p l e R s m args below meth c H locs cells slots Q (F0 m pc ls (.int j :: .ref (X.1 + i) :: rest)) := by
  obtain ⟨b, w, h1⟩ := hs
  exact va_lald A.1 A.2.1 A.2.2.2.2.2.1 hP i 1 (g_ws_get X S h1) rfl hin hdg kk
theorem g_upd_eq (S : gS) (i k : Nat) (v : Int32) : (g_setI S i k v).1 i = upd (S.1 i) k v := by
  funext b
  simp [g_setI, upd]
theorem g_updJ_eq (S : gS) (i k : Nat) (v : Int64) : (g_setJ S i k v).2 i = vp_updL (S.2 i) k v := by
  funext b
  simp [g_setJ, vp_updL]
theorem w_iast {i n : Nat} {j v : Int32} (A : g_At X own cc nL p s m args c) (hP : gP X S H) (hS : va_S (gA X) H0 H locs) (hs : g_isA i 0 n) (hin : vp_in j n) (hdg : decode cc pc = .ok (.iastore, 1))
    (kk : ∀ (H1 : Heap) (locs1 : List Loc), gP X (g_setI S i j.toNatClampNeg v) H1 → va_S (gA X) H0 H1 locs1 → W p l e R s m args below meth c H1 locs1 cells slots Q (F0 m (pc + 1) ls rest)) : W p l e R s m args below meth c H locs cells slots Q (F0 m pc ls (.int v :: .int j :: .ref (X.1 + i) :: rest)) := by
  obtain ⟨b, w, h1⟩ := hs
  refine va_iast A.1 A.2.1 A.2.2.2.2.2.1 hP (g_D X S) hS i 0 (g_ws_get X S h1) rfl hin hdg (fun H1 locs1 hP1 hD1 hS1 => kk H1 locs1 ?_ hS1)
  rw [g_ws_set X S (g_setI S i j.toNatClampNeg v) h1 (by simp [g_cell, g_arr, g_upd_eq]) (g_cell_setI_ne X S i _ v)] at hP1
  exact hP1
theorem w_zast {i n : Nat} {j v : Int32} (A : g_At X own cc nL p s m args c) (hP : gP X S H) (hS : va_S (gA X) H0 H locs) (hs : g_isA i 2 n) (hin : vp_in j n) (hdg : decode cc pc = .ok (.bastore, 1))
    (kk : ∀ (H1 : Heap) (locs1 : List Loc), gP X (g_setI S i j.toNatClampNeg (vp_nar .boolean v)) H1 → va_S (gA X) H0 H1 locs1 → W p l e R s m args below meth c H1 locs1 cells slots Q (F0 m (pc + 1) ls rest)) : W p l e R s m args below meth c H locs cells slots Q (F0 m pc ls (.int v :: .int j :: .ref (X.1 + i) :: rest)) := by
  obtain ⟨b, w, h1⟩ := hs
  refine va_zast A.1 A.2.1 A.2.2.2.2.2.1 hP (g_D X S) hS i 2 (g_ws_get X S h1) rfl hin hdg (fun H1 locs1 hP1 hD1 hS1 => kk H1 locs1 ?_ hS1)
  rw [g_ws_set X S (g_setI S i j.toNatClampNeg (vp_nar .boolean v)) h1 (by simp [g_cell, g_arr, g_upd_eq]) (g_cell_setI_ne X S i _ _)] at hP1
  exact hP1
theorem w_last {i n : Nat} {j : Int32} {v : Int64} (A : g_At X own cc nL p s m args c) (hP : gP X S H) (hS : va_S (gA X) H0 H locs) (hs : g_isA i 1 n) (hin : vp_in j n) (hdg : decode cc pc = .ok (.lastore, 1))
    (kk : ∀ (H1 : Heap) (locs1 : List Loc), gP X (g_setJ S i j.toNatClampNeg v) H1 → va_S (gA X) H0 H1 locs1 → W p l e R s m args below meth c H1 locs1 cells slots Q (F0 m (pc + 1) ls rest)) : W p l e R s m args below meth c H locs cells slots Q (F0 m pc ls (.long v :: .int j :: .ref (X.1 + i) :: rest)) := by
  obtain ⟨b, w, h1⟩ := hs
  refine va_last A.1 A.2.1 A.2.2.2.2.2.1 hP (g_D X S) hS i 1 (g_ws_get X S h1) rfl hin hdg (fun H1 locs1 hP1 hD1 hS1 => kk H1 locs1 ?_ hS1)
  rw [g_ws_set X S (g_setJ S i j.toNatClampNeg v) h1 (by simp [g_cell, g_arr, g_updJ_eq]) (g_cell_setJ_ne X S i _ v)] at hP1
  exact hP1
theorem w_aald3 {i n b w : Nat} {j : Int32} (A : g_At X own cc nL p s m args c) (hP : gP X S H) (hs : g_isAR i 3 n b w) (hin : vp_in j n) (hdg : decode cc pc = .ok (.aaload, 1))
    (kk : W p l e R s m args below meth c H locs cells slots Q (F0 m (pc + 1) ls (.ref (X.1 + (b + w * j.toNatClampNeg)) :: rest))) : W p l e R s m args below meth c H locs cells slots Q (F0 m pc ls (.int j :: .ref (X.1 + i) :: rest)) :=
  va_aldq A.1 A.2.1 A.2.2.2.2.2.1 hP i 3 (g_ws_get X S hs) rfl hin hdg kk
theorem w_aald4 {i n b w : Nat} {j : Int32} (A : g_At X own cc nL p s m args c) (hP : gP X S H) (hs : g_isAR i 4 n b w) (hin : vp_in j n) (hdg : decode cc pc = .ok (.aaload, 1))
    (kk : W p l e R s m args below meth c H locs cells slots Q (F0 m (pc + 1) ls (.ref (X.1 + (b + w * j.toNatClampNeg)) :: rest))) : W p l e R s m args below meth c H locs cells slots Q (F0 m pc ls (.int j :: .ref (X.1 + i) :: rest)) :=
  va_aldq A.1 A.2.1 A.2.2.2.2.2.1 hP i 4 (g_ws_get X S hs) rfl hin hdg kk
theorem w_alen {i kd n : Nat} (A : g_At X own cc nL p s m args c) (hP : gP X S H) (hk : kd < 5) (hs : g_isA i kd n) (hdg : decode cc pc = .ok (.arraylength, 1))
    (kk : W p l e R s m args below meth c H locs cells slots Q (F0 m (pc + 1) ls (.int (Int32.ofNat n) :: rest))) : W p l e R s m args below meth c H locs cells slots Q (F0 m pc ls (.ref (X.1 + i) :: rest)) := by
  obtain ⟨b, w, h1⟩ := hs
  have he := g_ws_get X S h1
  rcases (show kd = 0 ∨ kd = 1 ∨ kd = 2 ∨ kd = 3 ∨ kd = 4 by omega) with rfl | rfl | rfl | rfl | rfl
  · exact va_alen A.1 A.2.1 A.2.2.2.2.2.1 hP i 0 he rfl rfl hdg kk
  · exact va_alen A.1 A.2.1 A.2.2.2.2.2.1 hP i 1 he rfl rfl hdg kk
  · exact va_alen A.1 A.2.1 A.2.2.2.2.2.1 hP i 2 he rfl rfl hdg kk
  · exact va_alen A.1 A.2.1 A.2.2.2.2.2.1 hP i 3 he rfl rfl hdg kk
  · exact va_alen A.1 A.2.1 A.2.2.2.2.2.1 hP i 4 he rfl rfl hdg kk
theorem w_cpy {i1 i2 n1 n2 idx : Nat} {sp dp n : Int32} (A : g_At X own cc nL p s m args c) (hsz : ls.size = nL) (hP : gP X S H) (hS : va_S (gA X) H0 H locs) (hl : Cond.methodLink own idx arraycopyName ∈ gW ∧ Cond.native arraycopyName ∈ gW ∧ Cond.static arraycopyName ∈ gW ∧ Cond.initialized "java/lang/System" ∈ gW) (hs1 : g_isA i1 0 n1) (hs2 : g_isA i2 0 n2)
    (h1 : ¬ sp < 0) (h2 : ¬ dp < 0) (h3 : ¬ n < 0) (h4 : sp.toNatClampNeg + n.toNatClampNeg ≤ n1) (h5 : dp.toNatClampNeg + n.toNatClampNeg ≤ n2) (hframes : 1 ≤ R.frames) (hlocals : (rest.map fun v => v.category).sum + (nativeFrameWords "java/lang/System" "arraycopy" 5 + 11) ≤ R.locals) (hdg : decode cc pc = .ok (.invokestatic idx, 3))
    (kk : ∀ (H1 : Heap) (locs1 : List Loc), gP X (g_cpyI S i1 i2 sp.toNatClampNeg dp.toNatClampNeg n.toNatClampNeg) H1 → va_S (gA X) H0 H1 locs1 → W p l e R s m args below meth c H1 locs1 cells slots Q (F0 m (pc + 3) ls rest)) : W p l e R s m args below meth c H locs cells slots Q (F0 m pc ls (.int n :: .int dp :: .ref (X.1 + i2) :: .int sp :: .ref (X.1 + i1) :: rest)) := by
  obtain ⟨b1, w1, g1⟩ := hs1
  obtain ⟨b2, w2, g2⟩ := hs2
  obtain ⟨hx, hb, hml, hown, hts, hK⟩ := A
  refine va_copyi hx hb (hml.trans hsz.symm) hown (hts _ hl.1) (hts _ hl.2.1) (hts _ hl.2.2.1) (hts _ hl.2.2.2) hK.1 hP (g_D X S) hS i1 i2 0 0 (g_ws_get X S g1) (g_ws_get X S g2) rfl rfl rfl h1 h2 h3 h4 h5 (fun _ _ => rfl) hframes hlocals hdg (fun H1 locs1 hP1 hD1 hS1 => kk H1 locs1 ?_ hS1)
  rw [g_ws_set X S (g_cpyI S i1 i2 sp.toNatClampNeg dp.toNatClampNeg n.toNatClampNeg) g2 (by simp [g_cell, g_arr, g_cpyI]) (fun j c' hj => g_cell_congr X S (g_cpyI S i1 i2 sp.toNatClampNeg dp.toNatClampNeg n.toNatClampNeg) j (fun b => by simp [g_cpyI, hj]) (fun b => rfl) c')] at hP1
  exact hP1
/-- behind a call -/
theorem w_back {a : Array Value} {ro : Option Value} {S' : gS} {st0 : List Value} (hr : va_Run p l e R s m args below meth c H locs cells slots 0 0 (F0 m pc ls st0) rest (g_Q X ro S' a) (gA X)) (hS : va_S (gA X) H0 H locs)
    (kk : ∀ (H1 : Heap) (locs1 : List Loc), gP X S' H1 → va_S (gA X) H0 H1 locs1 → W p l e R s m args below meth c H1 locs1 cells slots Q (F0 m (pc + 3) ls (ro.toList ++ rest))) : W p l e R s m args below meth c H locs cells slots Q (F0 m pc ls st0) := by
  intro T hT X0
  obtain ⟨v, st₀, t, T', L, h0, X', hL, e1, e2, ⟨⟨hv, hp⟩, hz, hk⟩, st⟩ := hr T hT X0
  cases hv
  rw [h0] at hz hk
  obtain ⟨t2, a1, b1⟩ := kk T'.heap (locs ++ L) (by rw [e1]; exact hp)
    ⟨Nat.le_trans hS.1 (by rw [e1]; exact hz), fun q h1 h2 => by rw [e1, hk q (Nat.lt_of_lt_of_le h1 hS.1) h2]; exact hS.2.1 q h1 h2, fun q hq => by
      rcases List.mem_append.mp hq with h | h
      · exact hS.2.2 q h
      · exact hL q h⟩ T' rfl X'
  exact ⟨t2, st t2 a1, b1⟩
theorem g_blind (X : gX) (av : List Value) (S : gS) : FrameBlind (g_Pc X av S) := fun a U g mk q => ⟨q.1, q.2.1, g_K.same (u := U) (U := U.calling g mk a) rfl q.2.2⟩
/-- a method's link at a call -/
def g_ml (own : String) (idx : Nat) (y : MethodName) (cc : ByteArray) (nL : Nat) (ret : Option FieldType) (n : Nat) : Prop :=
  (Cond.methodLink own idx y ∈ gW ∨ ∃ host, Cond.methodLinkNest own idx y host ∈ gN) ∧ Cond.initialized y.cls ∈ gW ∧ Cond.code y cc nL ret ∈ gW ∧
  (y.cls ≠ "java/lang/invoke/MethodHandle" ∧ y.cls ≠ "java/lang/invoke/VarHandle" ∧ (parseMethodDescriptor y.desc).map (fun d => d.parameters.length) = some n)
def g_mlV (own : String) (idx : Nat) (y : MethodName) (cc : ByteArray) (nL : Nat) (ret : Option FieldType) (n ci : Nat) : Prop :=
  g_ml own idx y cc nL ret n ∧ Cond.instanceMethod y ∈ gW ∧ Cond.selects y.cls y y ∈ gW ∧ ∃ T N, vwCl[ci]? = some (y.cls, T, N)
def g_mlS (own : String) (idx : Nat) (y : MethodName) (cc : ByteArray) (nL : Nat) (ret : Option FieldType) (n : Nat) : Prop :=
  g_ml own idx y cc nL ret n ∧ Cond.static y ∈ gW
theorem w_callV {i ci idx n nL2 h2 : Nat} {y : MethodName} {cc2 : ByteArray} {ret2 : Option FieldType} {As : List Value} {ro : Option Value} {S' : gS} {stk : List Value} (A : g_At X own cc nL p s m args c) (hsz : ls.size = nL) (hP : gP X S H) (hS : va_S (gA X) H0 H locs) (L : g_mlV own idx y cc2 nL2 ret2 n ci) (ho : g_isO i ci) (hM : g_C X y cc2 nL2 ret2 h2 (.ref (X.1 + i) :: As) S ro S') (hn : As.length = n)
    (hR : h2 + 1 ≤ R.frames ∧ 8 + (nL2 + 11) + 45 * h2 ≤ R.locals) (hcs : cells ≤ R.cells ∧ slots ≤ R.slots) (hst : stk = As.reverse ++ .ref (X.1 + i) :: rest) (hW : (rest.map fun v => v.category).sum ≤ 8) (hdg : decode cc pc = .ok (.invokevirtual idx, 3))
    (kk : ∀ (H1 : Heap) (locs1 : List Loc), gP X S' H1 → va_S (gA X) H0 H1 locs1 → W p l e R s m args below meth c H1 locs1 cells slots Q (F0 m (pc + 3) ls (ro.toList ++ rest))) : W p l e R s m args below meth c H locs cells slots Q (F0 m pc ls stk) := by
  obtain ⟨⟨hlk, hini, hcd, hd⟩, hinst, hsel, T, N, hcl⟩ := L
  obtain ⟨ds, hsh⟩ := ho
  have A' := A
  obtain ⟨hx, hb, hml, hown, hts, hK⟩ := A
  have hrecv := va_recv hK.1 hP hcl (g_ws_get X S hsh)
  have hG : GoodIn gW (Cond.code y cc2 nL2 ret2 :: gW) := gW_good (fun _ h => h) hcd
  have hpre : PreV s H y.cls (X.1 + i) (g_Pc X (.ref (X.1 + i) :: As) S) As := ⟨g_blind X _ S, hrecv, fun U hU hW => ⟨rfl, by rw [hU]; exact hP, hK.warm hW⟩⟩
  rcases hlk with hlk | ⟨host, hlk⟩
  · exact w_back (va_runV (Ts := gW) (As := As) (rest := rest) (b := X.1 + i) ⟨hx, hb, hml, hown, hts⟩ (hM l) ⟨callB_of n hts hG rfl rfl rfl (hts _ hini) (hts _ hlk) hd hR, hts _ hinst, hts _ hsel⟩ hpre rfl hn hsz hst (lv_room hW) hdg ⟨by omega, by omega⟩) hS kk
  · exact w_back (va_runVN (Ts := gW) (As := As) (rest := rest) (b := X.1 + i) ⟨hx, hb, hml, hown, hts⟩ (hM l) ⟨va_cnB n hts hG rfl rfl rfl (hK.2 _ hlk) (hts _ hini) hd hR, hts _ hinst, hts _ hsel⟩ hpre rfl hn hsz hst (lv_room hW) hdg ⟨by omega, by omega⟩) hS kk
theorem w_callS {idx n nL2 h2 : Nat} {y : MethodName} {cc2 : ByteArray} {ret2 : Option FieldType} {As : List Value} {ro : Option Value} {S' : gS} {stk : List Value} (A : g_At X own cc nL p s m args c) (hsz : ls.size = nL) (hP : gP X S H) (hS : va_S (gA X) H0 H locs) (L : g_mlS own idx y cc2 nL2 ret2 n) (hM : g_C X y cc2 nL2 ret2 h2 As S ro S') (hn : As.length = n)
    (hR : h2 + 1 ≤ R.frames ∧ 8 + (nL2 + 11) + 45 * h2 ≤ R.locals) (hcs : cells ≤ R.cells ∧ slots ≤ R.slots) (hst : stk = As.reverse ++ rest) (hW : (rest.map fun v => v.category).sum ≤ 8) (hdg : decode cc pc = .ok (.invokestatic idx, 3))
    (kk : ∀ (H1 : Heap) (locs1 : List Loc), gP X S' H1 → va_S (gA X) H0 H1 locs1 → W p l e R s m args below meth c H1 locs1 cells slots Q (F0 m (pc + 3) ls (ro.toList ++ rest))) : W p l e R s m args below meth c H locs cells slots Q (F0 m pc ls stk) := by
  obtain ⟨⟨hlk, hini, hcd, hd⟩, hstt⟩ := L
  obtain ⟨hx, hb, hml, hown, hts, hK⟩ := A
  have hG : GoodIn gW (Cond.code y cc2 nL2 ret2 :: gW) := gW_good (fun _ h => h) hcd
  have hpre : PreS s H (g_Pc X As S) As := ⟨g_blind X _ S, fun U hU hW => ⟨rfl, by rw [hU]; exact hP, hK.warm hW⟩⟩
  rcases hlk with hlk | ⟨host, hlk⟩
  · exact w_back (va_runS (Ts := gW) (As := As) (rest := rest) ⟨hx, hb, hml, hown, hts⟩ (hM l) ⟨callB_of n hts hG rfl rfl rfl (hts _ hini) (hts _ hlk) hd hR, hts _ hstt⟩ hpre rfl hn hsz hst (lv_room hW) hdg ⟨by omega, by omega⟩) hS kk
  · exact w_back (va_runSN (Ts := gW) (As := As) (rest := rest) ⟨hx, hb, hml, hown, hts⟩ (hM l) ⟨va_cnB n hts hG rfl rfl rfl (hK.2 _ hlk) (hts _ hini) hd hR, hts _ hstt, trivial⟩ hpre rfl hn hsz hst (lv_room hW) hdg ⟨by omega, by omega⟩) hS kk
end WR
end
section
/-- at pc of a method (own class, code, locals, return, height), with the locals lv, the stack st, the cells S: it comes to its end with ro, and the cells S' -/
def G (X : gX) (own : String) (cc : ByteArray) (nL : Nat) (ret : Option FieldType) (h : Nat) (ro : Option Value) (S' : gS) (pc : Nat) (lv : List (Nat × Value)) (st : List Value) (S : gS) : Prop :=
  ∀ (p : Program) (l : Launch) (e : Env) (s : State) (m : MethodId) (args : Array Value) (below : List Frame) (meth : Method) (c : Code) (H : Heap) (locs : List Loc) (ls : Array Slot),
    g_At X own cc nL p s m args c → meth.sig.returnType = ret → meth.locks = false → gP X S H → va_S (gA X) s.heap H locs → lv_has ls nL lv →
    W p l e (g_room h) s m args below meth c H locs 0 0 (MQ below (g_Q X ro S') args s 0 0 (gA X)) (F0 m pc ls st)
section GR
variable {X : gX} {own : String} {cc : ByteArray} {nL : Nat} {ret : Option FieldType} {h : Nat} {ro : Option Value} {S' : gS} {pc : Nat} {lv lv' : List (Nat × Value)} {st : List Value} {S : gS}
theorem g_iconst {n : Int} {v : Int32} (d : decode cc pc = .ok (.iconst n, 1)) (hv : Int32.ofInt n = v) (k : G X own cc nL ret h ro S' (pc + 1) lv (.int v :: st) S) : G X own cc nL ret h ro S' pc lv st S := fun p l e s m args below meth c H locs ls A hr hk hP hS hl => lv_iconst A.1 A.2.1 d hv (k p l e s m args below meth c H locs ls A hr hk hP hS hl)
theorem g_bipush {n : Int} {v : Int32} (d : decode cc pc = .ok (.bipush n, 2)) (hv : (Int8.ofInt n).toInt32 = v) (k : G X own cc nL ret h ro S' (pc + 2) lv (.int v :: st) S) : G X own cc nL ret h ro S' pc lv st S := fun p l e s m args below meth c H locs ls A hr hk hP hS hl => lv_bipush A.1 A.2.1 d hv (k p l e s m args below meth c H locs ls A hr hk hP hS hl)
theorem g_sipush {n : Int} {v : Int32} (d : decode cc pc = .ok (.sipush n, 3)) (hv : (Int16.ofInt n).toInt32 = v) (k : G X own cc nL ret h ro S' (pc + 3) lv (.int v :: st) S) : G X own cc nL ret h ro S' pc lv st S := fun p l e s m args below meth c H locs ls A hr hk hP hS hl => lv_sipush A.1 A.2.1 d hv (k p l e s m args below meth c H locs ls A hr hk hP hS hl)
theorem g_lconst {n : Fin 2} {v : Int64} (d : decode cc pc = .ok (.lconst n, 1)) (hv : Int64.ofNat (n : Nat) = v) (k : G X own cc nL ret h ro S' (pc + 1) lv (.long v :: st) S) : G X own cc nL ret h ro S' pc lv st S := fun p l e s m args below meth c H locs ls A hr hk hP hS hl => lv_lconst A.1 A.2.1 d hv (k p l e s m args below meth c H locs ls A hr hk hP hS hl)
theorem g_iload_n {j : Fin 4} {i : Nat} {x : Int32} (d : decode cc pc = .ok (.iload_n j, 1)) (q : Nat) (hq : lv[q]? = some (i, .int x)) (hi : (j : Nat) = i) (k : G X own cc nL ret h ro S' (pc + 1) lv (.int x :: st) S) : G X own cc nL ret h ro S' pc lv st S := fun p l e s m args below meth c H locs ls A hr hk hP hS hl => lv_iload_n A.1 A.2.1 d hi (lv_at hl q hq) (k p l e s m args below meth c H locs ls A hr hk hP hS hl)
theorem g_iload {i : Nat} {x : Int32} (d : decode cc pc = .ok (.iload i, 2)) (q : Nat) (hq : lv[q]? = some (i, .int x)) (k : G X own cc nL ret h ro S' (pc + 2) lv (.int x :: st) S) : G X own cc nL ret h ro S' pc lv st S := fun p l e s m args below meth c H locs ls A hr hk hP hS hl => lv_iload A.1 A.2.1 d (lv_at hl q hq) (k p l e s m args below meth c H locs ls A hr hk hP hS hl)
theorem g_istore_n {j : Fin 4} {i : Nat} {x : Int32} (d : decode cc pc = .ok (.istore_n j, 1)) (hi : (j : Nat) = i) (hn : i < nL) (hf : (i, Value.int x) :: lv.filter (fun q => !(q.1 == i) && !(q.1 + 1 == i && q.2.category == 2)) = lv') (k : G X own cc nL ret h ro S' (pc + 1) lv' st S) : G X own cc nL ret h ro S' pc lv (.int x :: st) S := fun p l e s m args below meth c H locs ls A hr hk hP hS hl => lv_istore_n A.1 A.2.1 d hi hl hn hf (fun ls' hl' => k p l e s m args below meth c H locs ls' A hr hk hP hS hl')
theorem g_istore {i : Nat} {x : Int32} (d : decode cc pc = .ok (.istore i, 2)) (hn : i < nL) (hf : (i, Value.int x) :: lv.filter (fun q => !(q.1 == i) && !(q.1 + 1 == i && q.2.category == 2)) = lv') (k : G X own cc nL ret h ro S' (pc + 2) lv' st S) : G X own cc nL ret h ro S' pc lv (.int x :: st) S := fun p l e s m args below meth c H locs ls A hr hk hP hS hl => lv_istore A.1 A.2.1 d hl hn hf (fun ls' hl' => k p l e s m args below meth c H locs ls' A hr hk hP hS hl')
theorem g_lload_n {j : Fin 4} {i : Nat} {x : Int64} (d : decode cc pc = .ok (.lload_n j, 1)) (q : Nat) (hq : lv[q]? = some (i, .long x)) (hi : (j : Nat) = i) (k : G X own cc nL ret h ro S' (pc + 1) lv (.long x :: st) S) : G X own cc nL ret h ro S' pc lv st S := fun p l e s m args below meth c H locs ls A hr hk hP hS hl => lv_lload_n A.1 A.2.1 d hi (lv_at hl q hq) (k p l e s m args below meth c H locs ls A hr hk hP hS hl)
theorem g_lload {i : Nat} {x : Int64} (d : decode cc pc = .ok (.lload i, 2)) (q : Nat) (hq : lv[q]? = some (i, .long x)) (k : G X own cc nL ret h ro S' (pc + 2) lv (.long x :: st) S) : G X own cc nL ret h ro S' pc lv st S := fun p l e s m args below meth c H locs ls A hr hk hP hS hl => lv_lload A.1 A.2.1 d (lv_at hl q hq) (k p l e s m args below meth c H locs ls A hr hk hP hS hl)
theorem g_lstore_n {j : Fin 4} {i : Nat} {x : Int64} (d : decode cc pc = .ok (.lstore_n j, 1)) (hi : (j : Nat) = i) (hn : i + 1 < nL) (hf : (i, Value.long x) :: lv.filter (fun q => !(q.1 == i) && (!(q.1 == i + 1) && !(q.1 + 1 == i && q.2.category == 2))) = lv') (k : G X own cc nL ret h ro S' (pc + 1) lv' st S) : G X own cc nL ret h ro S' pc lv (.long x :: st) S := fun p l e s m args below meth c H locs ls A hr hk hP hS hl => lv_lstore_n A.1 A.2.1 d hi hl hn hf (fun ls' hl' => k p l e s m args below meth c H locs ls' A hr hk hP hS hl')
theorem g_lstore {i : Nat} {x : Int64} (d : decode cc pc = .ok (.lstore i, 2)) (hn : i + 1 < nL) (hf : (i, Value.long x) :: lv.filter (fun q => !(q.1 == i) && (!(q.1 == i + 1) && !(q.1 + 1 == i && q.2.category == 2))) = lv') (k : G X own cc nL ret h ro S' (pc + 2) lv' st S) : G X own cc nL ret h ro S' pc lv (.long x :: st) S := fun p l e s m args below meth c H locs ls A hr hk hP hS hl => lv_lstore A.1 A.2.1 d hl hn hf (fun ls' hl' => k p l e s m args below meth c H locs ls' A hr hk hP hS hl')
theorem g_aload_n {j : Fin 4} {i : Nat} {x : Nat} (d : decode cc pc = .ok (.aload_n j, 1)) (q : Nat) (hq : lv[q]? = some (i, .ref x)) (hi : (j : Nat) = i) (k : G X own cc nL ret h ro S' (pc + 1) lv (.ref x :: st) S) : G X own cc nL ret h ro S' pc lv st S := fun p l e s m args below meth c H locs ls A hr hk hP hS hl => lv_aload_n A.1 A.2.1 d hi (lv_at hl q hq) (k p l e s m args below meth c H locs ls A hr hk hP hS hl)
theorem g_aload {i : Nat} {x : Nat} (d : decode cc pc = .ok (.aload i, 2)) (q : Nat) (hq : lv[q]? = some (i, .ref x)) (k : G X own cc nL ret h ro S' (pc + 2) lv (.ref x :: st) S) : G X own cc nL ret h ro S' pc lv st S := fun p l e s m args below meth c H locs ls A hr hk hP hS hl => lv_aload A.1 A.2.1 d (lv_at hl q hq) (k p l e s m args below meth c H locs ls A hr hk hP hS hl)
theorem g_astore_n {j : Fin 4} {i : Nat} {x : Nat} (d : decode cc pc = .ok (.astore_n j, 1)) (hi : (j : Nat) = i) (hn : i < nL) (hf : (i, Value.ref x) :: lv.filter (fun q => !(q.1 == i) && !(q.1 + 1 == i && q.2.category == 2)) = lv') (k : G X own cc nL ret h ro S' (pc + 1) lv' st S) : G X own cc nL ret h ro S' pc lv (.ref x :: st) S := fun p l e s m args below meth c H locs ls A hr hk hP hS hl => lv_astore_n A.1 A.2.1 d hi hl hn hf (fun ls' hl' => k p l e s m args below meth c H locs ls' A hr hk hP hS hl')
theorem g_astore {i : Nat} {x : Nat} (d : decode cc pc = .ok (.astore i, 2)) (hn : i < nL) (hf : (i, Value.ref x) :: lv.filter (fun q => !(q.1 == i) && !(q.1 + 1 == i && q.2.category == 2)) = lv') (k : G X own cc nL ret h ro S' (pc + 2) lv' st S) : G X own cc nL ret h ro S' pc lv (.ref x :: st) S := fun p l e s m args below meth c H locs ls A hr hk hP hS hl => lv_astore A.1 A.2.1 d hl hn hf (fun ls' hl' => k p l e s m args below meth c H locs ls' A hr hk hP hS hl')
theorem g_iinc {i q : Nat} {n : Int} {x v : Int32} (d : decode cc pc = .ok (.iinc i n, 3)) (hq : lv[q]? = some (i, .int x)) (hv : x + Int32.ofInt n = v) (hn : i < nL) (hf : (i, Value.int v) :: lv.filter (fun q => !(q.1 == i) && !(q.1 + 1 == i && q.2.category == 2)) = lv') (k : G X own cc nL ret h ro S' (pc + 3) lv' st S) : G X own cc nL ret h ro S' pc lv st S := fun p l e s m args below meth c H locs ls A hr hk hP hS hl => lv_iinc A.1 A.2.1 d hl hq hv hn hf (fun ls' hl' => k p l e s m args below meth c H locs ls' A hr hk hP hS hl')
theorem g_iadd {x y : Int32} (d : decode cc pc = .ok (.iadd, 1))  (k : G X own cc nL ret h ro S' (pc + 1) lv (.int (x + y) :: st) S) : G X own cc nL ret h ro S' pc lv (.int y :: .int x :: st) S := fun p l e s m args below meth c H locs ls A hr hk hP hS hl => lv_iadd A.1 A.2.1 d  (k p l e s m args below meth c H locs ls A hr hk hP hS hl)
theorem g_isub {x y : Int32} (d : decode cc pc = .ok (.isub, 1))  (k : G X own cc nL ret h ro S' (pc + 1) lv (.int (x - y) :: st) S) : G X own cc nL ret h ro S' pc lv (.int y :: .int x :: st) S := fun p l e s m args below meth c H locs ls A hr hk hP hS hl => lv_isub A.1 A.2.1 d  (k p l e s m args below meth c H locs ls A hr hk hP hS hl)
theorem g_imul {x y : Int32} (d : decode cc pc = .ok (.imul, 1))  (k : G X own cc nL ret h ro S' (pc + 1) lv (.int (x * y) :: st) S) : G X own cc nL ret h ro S' pc lv (.int y :: .int x :: st) S := fun p l e s m args below meth c H locs ls A hr hk hP hS hl => lv_imul A.1 A.2.1 d  (k p l e s m args below meth c H locs ls A hr hk hP hS hl)
theorem g_iand {x y : Int32} (d : decode cc pc = .ok (.iand, 1))  (k : G X own cc nL ret h ro S' (pc + 1) lv (.int (x &&& y) :: st) S) : G X own cc nL ret h ro S' pc lv (.int y :: .int x :: st) S := fun p l e s m args below meth c H locs ls A hr hk hP hS hl => lv_iand A.1 A.2.1 d  (k p l e s m args below meth c H locs ls A hr hk hP hS hl)
theorem g_ior {x y : Int32} (d : decode cc pc = .ok (.ior, 1))  (k : G X own cc nL ret h ro S' (pc + 1) lv (.int (x ||| y) :: st) S) : G X own cc nL ret h ro S' pc lv (.int y :: .int x :: st) S := fun p l e s m args below meth c H locs ls A hr hk hP hS hl => lv_ior A.1 A.2.1 d  (k p l e s m args below meth c H locs ls A hr hk hP hS hl)
theorem g_ixor {x y : Int32} (d : decode cc pc = .ok (.ixor, 1))  (k : G X own cc nL ret h ro S' (pc + 1) lv (.int (x ^^^ y) :: st) S) : G X own cc nL ret h ro S' pc lv (.int y :: .int x :: st) S := fun p l e s m args below meth c H locs ls A hr hk hP hS hl => lv_ixor A.1 A.2.1 d  (k p l e s m args below meth c H locs ls A hr hk hP hS hl)
theorem g_ishl {x y : Int32} (d : decode cc pc = .ok (.ishl, 1))  (k : G X own cc nL ret h ro S' (pc + 1) lv (.int (x <<< (y &&& 31)) :: st) S) : G X own cc nL ret h ro S' pc lv (.int y :: .int x :: st) S := fun p l e s m args below meth c H locs ls A hr hk hP hS hl => lv_ishl A.1 A.2.1 d  (k p l e s m args below meth c H locs ls A hr hk hP hS hl)
theorem g_ishr {x y : Int32} (d : decode cc pc = .ok (.ishr, 1))  (k : G X own cc nL ret h ro S' (pc + 1) lv (.int (x >>> (y &&& 31)) :: st) S) : G X own cc nL ret h ro S' pc lv (.int y :: .int x :: st) S := fun p l e s m args below meth c H locs ls A hr hk hP hS hl => lv_ishr A.1 A.2.1 d  (k p l e s m args below meth c H locs ls A hr hk hP hS hl)
theorem g_idiv {x y : Int32} (d : decode cc pc = .ok (.idiv, 1)) (hne : ¬ y = 0) (k : G X own cc nL ret h ro S' (pc + 1) lv (.int (x / y) :: st) S) : G X own cc nL ret h ro S' pc lv (.int y :: .int x :: st) S := fun p l e s m args below meth c H locs ls A hr hk hP hS hl => lv_idiv A.1 A.2.1 d hne (k p l e s m args below meth c H locs ls A hr hk hP hS hl)
theorem g_irem {x y : Int32} (d : decode cc pc = .ok (.irem, 1)) (hne : ¬ y = 0) (k : G X own cc nL ret h ro S' (pc + 1) lv (.int (x - x / y * y) :: st) S) : G X own cc nL ret h ro S' pc lv (.int y :: .int x :: st) S := fun p l e s m args below meth c H locs ls A hr hk hP hS hl => lv_irem A.1 A.2.1 d hne (k p l e s m args below meth c H locs ls A hr hk hP hS hl)
theorem g_ladd {x y : Int64} (d : decode cc pc = .ok (.ladd, 1))  (k : G X own cc nL ret h ro S' (pc + 1) lv (.long (x + y) :: st) S) : G X own cc nL ret h ro S' pc lv (.long y :: .long x :: st) S := fun p l e s m args below meth c H locs ls A hr hk hP hS hl => lv_ladd A.1 A.2.1 d  (k p l e s m args below meth c H locs ls A hr hk hP hS hl)
theorem g_lsub {x y : Int64} (d : decode cc pc = .ok (.lsub, 1))  (k : G X own cc nL ret h ro S' (pc + 1) lv (.long (x - y) :: st) S) : G X own cc nL ret h ro S' pc lv (.long y :: .long x :: st) S := fun p l e s m args below meth c H locs ls A hr hk hP hS hl => lv_lsub A.1 A.2.1 d  (k p l e s m args below meth c H locs ls A hr hk hP hS hl)
theorem g_lmul {x y : Int64} (d : decode cc pc = .ok (.lmul, 1))  (k : G X own cc nL ret h ro S' (pc + 1) lv (.long (x * y) :: st) S) : G X own cc nL ret h ro S' pc lv (.long y :: .long x :: st) S := fun p l e s m args below meth c H locs ls A hr hk hP hS hl => lv_lmul A.1 A.2.1 d  (k p l e s m args below meth c H locs ls A hr hk hP hS hl)
theorem g_land {x y : Int64} (d : decode cc pc = .ok (.land, 1))  (k : G X own cc nL ret h ro S' (pc + 1) lv (.long (x &&& y) :: st) S) : G X own cc nL ret h ro S' pc lv (.long y :: .long x :: st) S := fun p l e s m args below meth c H locs ls A hr hk hP hS hl => lv_land A.1 A.2.1 d  (k p l e s m args below meth c H locs ls A hr hk hP hS hl)
theorem g_lor {x y : Int64} (d : decode cc pc = .ok (.lor, 1))  (k : G X own cc nL ret h ro S' (pc + 1) lv (.long (x ||| y) :: st) S) : G X own cc nL ret h ro S' pc lv (.long y :: .long x :: st) S := fun p l e s m args below meth c H locs ls A hr hk hP hS hl => lv_lor A.1 A.2.1 d  (k p l e s m args below meth c H locs ls A hr hk hP hS hl)
theorem g_lxor {x y : Int64} (d : decode cc pc = .ok (.lxor, 1))  (k : G X own cc nL ret h ro S' (pc + 1) lv (.long (x ^^^ y) :: st) S) : G X own cc nL ret h ro S' pc lv (.long y :: .long x :: st) S := fun p l e s m args below meth c H locs ls A hr hk hP hS hl => lv_lxor A.1 A.2.1 d  (k p l e s m args below meth c H locs ls A hr hk hP hS hl)
theorem g_ldiv {x y : Int64} (d : decode cc pc = .ok (.ldiv, 1)) (hne : ¬ y = 0) (k : G X own cc nL ret h ro S' (pc + 1) lv (.long (x / y) :: st) S) : G X own cc nL ret h ro S' pc lv (.long y :: .long x :: st) S := fun p l e s m args below meth c H locs ls A hr hk hP hS hl => lv_ldiv A.1 A.2.1 d hne (k p l e s m args below meth c H locs ls A hr hk hP hS hl)
theorem g_lrem {x y : Int64} (d : decode cc pc = .ok (.lrem, 1)) (hne : ¬ y = 0) (k : G X own cc nL ret h ro S' (pc + 1) lv (.long (x - x / y * y) :: st) S) : G X own cc nL ret h ro S' pc lv (.long y :: .long x :: st) S := fun p l e s m args below meth c H locs ls A hr hk hP hS hl => lv_lrem A.1 A.2.1 d hne (k p l e s m args below meth c H locs ls A hr hk hP hS hl)
theorem g_lneg {x : Int64} (d : decode cc pc = .ok (.lneg, 1))  (k : G X own cc nL ret h ro S' (pc + 1) lv (.long (-x) :: st) S) : G X own cc nL ret h ro S' pc lv (.long x :: st) S := fun p l e s m args below meth c H locs ls A hr hk hP hS hl => lv_lneg A.1 A.2.1 d  (k p l e s m args below meth c H locs ls A hr hk hP hS hl)
theorem g_i2l {x : Int32} (d : decode cc pc = .ok (.i2l, 1))  (k : G X own cc nL ret h ro S' (pc + 1) lv (.long x.toInt64 :: st) S) : G X own cc nL ret h ro S' pc lv (.int x :: st) S := fun p l e s m args below meth c H locs ls A hr hk hP hS hl => lv_i2l A.1 A.2.1 d rfl (k p l e s m args below meth c H locs ls A hr hk hP hS hl)
theorem g_l2i {x : Int64} (d : decode cc pc = .ok (.l2i, 1))  (k : G X own cc nL ret h ro S' (pc + 1) lv (.int x.toInt32 :: st) S) : G X own cc nL ret h ro S' pc lv (.long x :: st) S := fun p l e s m args below meth c H locs ls A hr hk hP hS hl => lv_l2i A.1 A.2.1 d rfl (k p l e s m args below meth c H locs ls A hr hk hP hS hl)
theorem g_i2b {x : Int32} (d : decode cc pc = .ok (.i2b, 1))  (k : G X own cc nL ret h ro S' (pc + 1) lv (.int x.toInt8.toInt32 :: st) S) : G X own cc nL ret h ro S' pc lv (.int x :: st) S := fun p l e s m args below meth c H locs ls A hr hk hP hS hl => lv_i2b A.1 A.2.1 d rfl (k p l e s m args below meth c H locs ls A hr hk hP hS hl)
theorem g_i2s {x : Int32} (d : decode cc pc = .ok (.i2s, 1))  (k : G X own cc nL ret h ro S' (pc + 1) lv (.int x.toInt16.toInt32 :: st) S) : G X own cc nL ret h ro S' pc lv (.int x :: st) S := fun p l e s m args below meth c H locs ls A hr hk hP hS hl => lv_i2s A.1 A.2.1 d rfl (k p l e s m args below meth c H locs ls A hr hk hP hS hl)
theorem g_lushr {x : Int64} {y : Int32} (d : decode cc pc = .ok (.lushr, 1))  (k : G X own cc nL ret h ro S' (pc + 1) lv (.long (x.toUInt64 >>> (y.toInt64.toUInt64 &&& Int64.toUInt64 63)).toInt64 :: st) S) : G X own cc nL ret h ro S' pc lv (.int y :: .long x :: st) S := fun p l e s m args below meth c H locs ls A hr hk hP hS hl => lv_lushr A.1 A.2.1 d rfl (k p l e s m args below meth c H locs ls A hr hk hP hS hl)
theorem g_lshl {x : Int64} {y : Int32} (d : decode cc pc = .ok (.lshl, 1))  (k : G X own cc nL ret h ro S' (pc + 1) lv (.long (x <<< (y.toInt64 &&& 63)) :: st) S) : G X own cc nL ret h ro S' pc lv (.int y :: .long x :: st) S := fun p l e s m args below meth c H locs ls A hr hk hP hS hl => lv_lshl A.1 A.2.1 d rfl (k p l e s m args below meth c H locs ls A hr hk hP hS hl)
theorem g_lcmp {x y : Int64} (d : decode cc pc = .ok (.lcmp, 1))  (k : G X own cc nL ret h ro S' (pc + 1) lv (.int (lg_cmp x y) :: st) S) : G X own cc nL ret h ro S' pc lv (.long y :: .long x :: st) S := fun p l e s m args below meth c H locs ls A hr hk hP hS hl => W.lcmp A.1 A.2.1 d  (k p l e s m args below meth c H locs ls A hr hk hP hS hl)
theorem g_dup {va : Value} (d : decode cc pc = .ok (.dup, 1)) (hva : va.category = 1) (k : G X own cc nL ret h ro S' (pc + 1) lv (va :: va :: st) S) : G X own cc nL ret h ro S' pc lv (va :: st) S := fun p l e s m args below meth c H locs ls A hr hk hP hS hl => lv_dup A.1 A.2.1 d hva (k p l e s m args below meth c H locs ls A hr hk hP hS hl)
theorem g_pop {va : Value} (d : decode cc pc = .ok (.pop, 1)) (hva : va.category = 1) (k : G X own cc nL ret h ro S' (pc + 1) lv st S) : G X own cc nL ret h ro S' pc lv (va :: st) S := fun p l e s m args below meth c H locs ls A hr hk hP hS hl => lv_pop A.1 A.2.1 d hva (k p l e s m args below meth c H locs ls A hr hk hP hS hl)
theorem g_dup2 {va vb : Value} (d : decode cc pc = .ok (.dup2, 1)) (hva : va.category = 1) (hvb : vb.category = 1) (k : G X own cc nL ret h ro S' (pc + 1) lv (va :: vb :: va :: vb :: st) S) : G X own cc nL ret h ro S' pc lv (va :: vb :: st) S := fun p l e s m args below meth c H locs ls A hr hk hP hS hl => lv_dup2_11 A.1 A.2.1 d hva hvb (k p l e s m args below meth c H locs ls A hr hk hP hS hl)
theorem g_null  (d : decode cc pc = .ok (.aconst_null, 1))  (k : G X own cc nL ret h ro S' (pc + 1) lv (.null :: st) S) : G X own cc nL ret h ro S' pc lv st S := fun p l e s m args below meth c H locs ls A hr hk hP hS hl => lv_null A.1 A.2.1 d  (k p l e s m args below meth c H locs ls A hr hk hP hS hl)
theorem g_ldc {i : Nat} {v : Int32} (d : decode cc pc = .ok (.ldc i, 2)) (hw : Cond.constant own i v ∈ gW) (k : G X own cc nL ret h ro S' (pc + 2) lv (.int v :: st) S) : G X own cc nL ret h ro S' pc lv st S := fun p l e s m args below meth c H locs ls A hr hk hP hS hl => lv_ldc A.1 A.2.1 A.2.2.2.1 (A.2.2.2.2.1 _ hw) d (k p l e s m args below meth c H locs ls A hr hk hP hS hl)
theorem g_ldcw {i : Nat} {v : Int32} (d : decode cc pc = .ok (.ldc_w i, 3)) (hw : Cond.constant own i v ∈ gW) (k : G X own cc nL ret h ro S' (pc + 3) lv (.int v :: st) S) : G X own cc nL ret h ro S' pc lv st S := fun p l e s m args below meth c H locs ls A hr hk hP hS hl => lv_ldcw A.1 A.2.1 A.2.2.2.1 (A.2.2.2.2.1 _ hw) d (k p l e s m args below meth c H locs ls A hr hk hP hS hl)
theorem g_ldc2 {i : Nat} {v : Int64} (d : decode cc pc = .ok (.ldc2_w i, 3)) (hw : Cond.constantLong own i v ∈ gW) (k : G X own cc nL ret h ro S' (pc + 3) lv (.long v :: st) S) : G X own cc nL ret h ro S' pc lv st S := fun p l e s m args below meth c H locs ls A hr hk hP hS hl => lv_ldc2 A.1 A.2.1 A.2.2.2.1 (A.2.2.2.2.1 _ hw) d (k p l e s m args below meth c H locs ls A hr hk hP hS hl)
theorem g_if_eq {x : Int32} {off : Int} {tgt : Nat} (d : decode cc pc = .ok (.ifCond .eq off, 3)) (ht : (pc : Int) + off = (tgt : Int)) (k1 : x = 0 → G X own cc nL ret h ro S' tgt lv st S) (k2 : ¬ x = 0 → G X own cc nL ret h ro S' (pc + 3) lv st S) : G X own cc nL ret h ro S' pc lv (.int x :: st) S := fun p l e s m args below meth c H locs ls A hr hk hP hS hl => lv_if_eq A.1 A.2.1 d ht (fun q => k1 q p l e s m args below meth c H locs ls A hr hk hP hS hl) (fun q => k2 q p l e s m args below meth c H locs ls A hr hk hP hS hl)
theorem g_icmp_eq {x y : Int32} {off : Int} {tgt : Nat} (d : decode cc pc = .ok (.if_icmp .eq off, 3)) (ht : (pc : Int) + off = (tgt : Int)) (k1 : x = y → G X own cc nL ret h ro S' tgt lv st S) (k2 : ¬ x = y → G X own cc nL ret h ro S' (pc + 3) lv st S) : G X own cc nL ret h ro S' pc lv (.int y :: .int x :: st) S := fun p l e s m args below meth c H locs ls A hr hk hP hS hl => lv_icmp_eq A.1 A.2.1 d ht (fun q => k1 q p l e s m args below meth c H locs ls A hr hk hP hS hl) (fun q => k2 q p l e s m args below meth c H locs ls A hr hk hP hS hl)
theorem g_if_ne {x : Int32} {off : Int} {tgt : Nat} (d : decode cc pc = .ok (.ifCond .ne off, 3)) (ht : (pc : Int) + off = (tgt : Int)) (k1 : ¬ x = 0 → G X own cc nL ret h ro S' tgt lv st S) (k2 : x = 0 → G X own cc nL ret h ro S' (pc + 3) lv st S) : G X own cc nL ret h ro S' pc lv (.int x :: st) S := fun p l e s m args below meth c H locs ls A hr hk hP hS hl => lv_if_ne A.1 A.2.1 d ht (fun q => k1 q p l e s m args below meth c H locs ls A hr hk hP hS hl) (fun q => k2 q p l e s m args below meth c H locs ls A hr hk hP hS hl)
theorem g_icmp_ne {x y : Int32} {off : Int} {tgt : Nat} (d : decode cc pc = .ok (.if_icmp .ne off, 3)) (ht : (pc : Int) + off = (tgt : Int)) (k1 : ¬ x = y → G X own cc nL ret h ro S' tgt lv st S) (k2 : x = y → G X own cc nL ret h ro S' (pc + 3) lv st S) : G X own cc nL ret h ro S' pc lv (.int y :: .int x :: st) S := fun p l e s m args below meth c H locs ls A hr hk hP hS hl => lv_icmp_ne A.1 A.2.1 d ht (fun q => k1 q p l e s m args below meth c H locs ls A hr hk hP hS hl) (fun q => k2 q p l e s m args below meth c H locs ls A hr hk hP hS hl)
theorem g_if_lt {x : Int32} {off : Int} {tgt : Nat} (d : decode cc pc = .ok (.ifCond .lt off, 3)) (ht : (pc : Int) + off = (tgt : Int)) (k1 : x < 0 → G X own cc nL ret h ro S' tgt lv st S) (k2 : ¬ x < 0 → G X own cc nL ret h ro S' (pc + 3) lv st S) : G X own cc nL ret h ro S' pc lv (.int x :: st) S := fun p l e s m args below meth c H locs ls A hr hk hP hS hl => lv_if_lt A.1 A.2.1 d ht (fun q => k1 q p l e s m args below meth c H locs ls A hr hk hP hS hl) (fun q => k2 q p l e s m args below meth c H locs ls A hr hk hP hS hl)
theorem g_icmp_lt {x y : Int32} {off : Int} {tgt : Nat} (d : decode cc pc = .ok (.if_icmp .lt off, 3)) (ht : (pc : Int) + off = (tgt : Int)) (k1 : x < y → G X own cc nL ret h ro S' tgt lv st S) (k2 : ¬ x < y → G X own cc nL ret h ro S' (pc + 3) lv st S) : G X own cc nL ret h ro S' pc lv (.int y :: .int x :: st) S := fun p l e s m args below meth c H locs ls A hr hk hP hS hl => lv_icmp_lt A.1 A.2.1 d ht (fun q => k1 q p l e s m args below meth c H locs ls A hr hk hP hS hl) (fun q => k2 q p l e s m args below meth c H locs ls A hr hk hP hS hl)
theorem g_if_ge {x : Int32} {off : Int} {tgt : Nat} (d : decode cc pc = .ok (.ifCond .ge off, 3)) (ht : (pc : Int) + off = (tgt : Int)) (k1 : 0 ≤ x → G X own cc nL ret h ro S' tgt lv st S) (k2 : ¬ 0 ≤ x → G X own cc nL ret h ro S' (pc + 3) lv st S) : G X own cc nL ret h ro S' pc lv (.int x :: st) S := fun p l e s m args below meth c H locs ls A hr hk hP hS hl => lv_if_ge A.1 A.2.1 d ht (fun q => k1 q p l e s m args below meth c H locs ls A hr hk hP hS hl) (fun q => k2 q p l e s m args below meth c H locs ls A hr hk hP hS hl)
theorem g_icmp_ge {x y : Int32} {off : Int} {tgt : Nat} (d : decode cc pc = .ok (.if_icmp .ge off, 3)) (ht : (pc : Int) + off = (tgt : Int)) (k1 : y ≤ x → G X own cc nL ret h ro S' tgt lv st S) (k2 : ¬ y ≤ x → G X own cc nL ret h ro S' (pc + 3) lv st S) : G X own cc nL ret h ro S' pc lv (.int y :: .int x :: st) S := fun p l e s m args below meth c H locs ls A hr hk hP hS hl => lv_icmp_ge A.1 A.2.1 d ht (fun q => k1 q p l e s m args below meth c H locs ls A hr hk hP hS hl) (fun q => k2 q p l e s m args below meth c H locs ls A hr hk hP hS hl)
theorem g_if_gt {x : Int32} {off : Int} {tgt : Nat} (d : decode cc pc = .ok (.ifCond .gt off, 3)) (ht : (pc : Int) + off = (tgt : Int)) (k1 : 0 < x → G X own cc nL ret h ro S' tgt lv st S) (k2 : ¬ 0 < x → G X own cc nL ret h ro S' (pc + 3) lv st S) : G X own cc nL ret h ro S' pc lv (.int x :: st) S := fun p l e s m args below meth c H locs ls A hr hk hP hS hl => lv_if_gt A.1 A.2.1 d ht (fun q => k1 q p l e s m args below meth c H locs ls A hr hk hP hS hl) (fun q => k2 q p l e s m args below meth c H locs ls A hr hk hP hS hl)
theorem g_icmp_gt {x y : Int32} {off : Int} {tgt : Nat} (d : decode cc pc = .ok (.if_icmp .gt off, 3)) (ht : (pc : Int) + off = (tgt : Int)) (k1 : y < x → G X own cc nL ret h ro S' tgt lv st S) (k2 : ¬ y < x → G X own cc nL ret h ro S' (pc + 3) lv st S) : G X own cc nL ret h ro S' pc lv (.int y :: .int x :: st) S := fun p l e s m args below meth c H locs ls A hr hk hP hS hl => lv_icmp_gt A.1 A.2.1 d ht (fun q => k1 q p l e s m args below meth c H locs ls A hr hk hP hS hl) (fun q => k2 q p l e s m args below meth c H locs ls A hr hk hP hS hl)
theorem g_if_le {x : Int32} {off : Int} {tgt : Nat} (d : decode cc pc = .ok (.ifCond .le off, 3)) (ht : (pc : Int) + off = (tgt : Int)) (k1 : x ≤ 0 → G X own cc nL ret h ro S' tgt lv st S) (k2 : ¬ x ≤ 0 → G X own cc nL ret h ro S' (pc + 3) lv st S) : G X own cc nL ret h ro S' pc lv (.int x :: st) S := fun p l e s m args below meth c H locs ls A hr hk hP hS hl => lv_if_le A.1 A.2.1 d ht (fun q => k1 q p l e s m args below meth c H locs ls A hr hk hP hS hl) (fun q => k2 q p l e s m args below meth c H locs ls A hr hk hP hS hl)
theorem g_icmp_le {x y : Int32} {off : Int} {tgt : Nat} (d : decode cc pc = .ok (.if_icmp .le off, 3)) (ht : (pc : Int) + off = (tgt : Int)) (k1 : x ≤ y → G X own cc nL ret h ro S' tgt lv st S) (k2 : ¬ x ≤ y → G X own cc nL ret h ro S' (pc + 3) lv st S) : G X own cc nL ret h ro S' pc lv (.int y :: .int x :: st) S := fun p l e s m args below meth c H locs ls A hr hk hP hS hl => lv_icmp_le A.1 A.2.1 d ht (fun q => k1 q p l e s m args below meth c H locs ls A hr hk hP hS hl) (fun q => k2 q p l e s m args below meth c H locs ls A hr hk hP hS hl)
theorem g_goto {off : Int} {tgt : Nat} (d : decode cc pc = .ok (.goto off, 3)) (ht : (pc : Int) + off = (tgt : Int)) (k : G X own cc nL ret h ro S' tgt lv st S) : G X own cc nL ret h ro S' pc lv st S := fun p l e s m args below meth c H locs ls A hr hk hP hS hl => lv_goto A.1 A.2.1 d ht (k p l e s m args below meth c H locs ls A hr hk hP hS hl)
theorem g_ifnull {x : Nat} {off : Int} (d : decode cc pc = .ok (.ifnull off, 3)) (k : G X own cc nL ret h ro S' (pc + 3) lv st S) : G X own cc nL ret h ro S' pc lv (.ref x :: st) S := fun p l e s m args below meth c H locs ls A hr hk hP hS hl => lv_ifnull A.1 A.2.1 d (k p l e s m args below meth c H locs ls A hr hk hP hS hl)
theorem g_ifnullN {off : Int} {tgt : Nat} (d : decode cc pc = .ok (.ifnull off, 3)) (ht : (pc : Int) + off = (tgt : Int)) (k : G X own cc nL ret h ro S' tgt lv st S) : G X own cc nL ret h ro S' pc lv (.null :: st) S := fun p l e s m args below meth c H locs ls A hr hk hP hS hl => lv_ifnullN A.1 A.2.1 d ht (k p l e s m args below meth c H locs ls A hr hk hP hS hl)
theorem g_aload_nN {j : Fin 4} {i : Nat} (d : decode cc pc = .ok (.aload_n j, 1)) (q : Nat) (hq : lv[q]? = some (i, .null)) (hi : (j : Nat) = i) (k : G X own cc nL ret h ro S' (pc + 1) lv (.null :: st) S) : G X own cc nL ret h ro S' pc lv st S := fun p l e s m args below meth c H locs ls A hr hk hP hS hl => lv_aload_nN A.1 A.2.1 d hi (lv_at hl q hq) (k p l e s m args below meth c H locs ls A hr hk hP hS hl)
theorem g_tabOut {dflt lo hi : Int} {offs : Array Int} {len : Nat} {x : Int32} {tgt : Nat} (d : decode cc pc = .ok (.tableswitch dflt lo hi offs, len)) (hx : x.toInt < lo ∨ hi < x.toInt) (ht : (pc : Int) + dflt = (tgt : Int)) (k : G X own cc nL ret h ro S' tgt lv st S) : G X own cc nL ret h ro S' pc lv (.int x :: st) S := fun p l e s m args below meth c H locs ls A hr hk hP hS hl => lv_tableOut A.1 A.2.1 d hx ht (k p l e s m args below meth c H locs ls A hr hk hP hS hl)
theorem g_tabIn {dflt lo hi : Int} {offs : Array Int} {len : Nat} {x : Int32} {off : Int} {tgt : Nat} (d : decode cc pc = .ok (.tableswitch dflt lo hi offs, len)) (h1 : ¬ x.toInt < lo) (h2 : ¬ hi < x.toInt) (ho : offs[(x.toInt - lo).toNat]? = some off) (ht : (pc : Int) + off = (tgt : Int)) (k : G X own cc nL ret h ro S' tgt lv st S) : G X own cc nL ret h ro S' pc lv (.int x :: st) S := fun p l e s m args below meth c H locs ls A hr hk hP hS hl => lv_tableIn A.1 A.2.1 d h1 h2 ho ht (k p l e s m args below meth c H locs ls A hr hk hP hS hl)
theorem g_lookup {dflt : Int} {ps : Array (Int × Int)} {len : Nat} {x : Int32} {off : Int} {tgt : Nat} (d : decode cc pc = .ok (.lookupswitch dflt ps, len)) (hp : (ps.toList.zip (ps.toList.drop 1)).all (fun (a, next) => a.1 < next.1) = true) (ho : Op.lookupswitch.offset ps.toList dflt x.toInt = off) (ht : (pc : Int) + off = (tgt : Int)) (k : G X own cc nL ret h ro S' tgt lv st S) : G X own cc nL ret h ro S' pc lv (.int x :: st) S := fun p l e s m args below meth c H locs ls A hr hk hP hS hl => lv_lookup A.1 A.2.1 d hp ho ht (k p l e s m args below meth c H locs ls A hr hk hP hS hl)
theorem g_geti {i ci q idx : Nat} (d : decode cc pc = .ok (.getfield idx, 3)) (L : g_lnk own idx ci q) (hs : g_isI i ci q) (k : G X own cc nL ret h ro S' (pc + 3) lv (.int (S.1 i q) :: st) S) : G X own cc nL ret h ro S' pc lv (.ref (X.1 + i) :: st) S := fun p l e s m args below meth c H locs ls A hr hk hP hS hl => w_geti A hP L hs d (k p l e s m args below meth c H locs ls A hr hk hP hS hl)
theorem g_getj {i ci q idx : Nat} (d : decode cc pc = .ok (.getfield idx, 3)) (L : g_lnk own idx ci q) (hs : g_isJ i ci q) (k : G X own cc nL ret h ro S' (pc + 3) lv (.long (S.2 i q) :: st) S) : G X own cc nL ret h ro S' pc lv (.ref (X.1 + i) :: st) S := fun p l e s m args below meth c H locs ls A hr hk hP hS hl => w_getj A hP L hs d (k p l e s m args below meth c H locs ls A hr hk hP hS hl)
theorem g_getr {i ci q idx t : Nat} (d : decode cc pc = .ok (.getfield idx, 3)) (L : g_lnk own idx ci q) (hs : g_isR i ci q t) (k : G X own cc nL ret h ro S' (pc + 3) lv (.ref (X.1 + t) :: st) S) : G X own cc nL ret h ro S' pc lv (.ref (X.1 + i) :: st) S := fun p l e s m args below meth c H locs ls A hr hk hP hS hl => w_getr A hP L hs d (k p l e s m args below meth c H locs ls A hr hk hP hS hl)
theorem g_puti {i ci q idx : Nat} {v : Int32} (d : decode cc pc = .ok (.putfield idx, 3)) (L : g_lnkP own idx ci q .int) (hs : g_isI i ci q) (k : G X own cc nL ret h ro S' (pc + 3) lv st (g_setI S i q v)) : G X own cc nL ret h ro S' pc lv (.int v :: .ref (X.1 + i) :: st) S := fun p l e s m args below meth c H locs ls A hr hk hP hS hl => w_puti A hP hS L hs d (fun H1 locs1 hP1 hS1 => k p l e s m args below meth c H1 locs1 ls A hr hk hP1 hS1 hl)
theorem g_putj {i ci q idx : Nat} {v : Int64} (d : decode cc pc = .ok (.putfield idx, 3)) (L : g_lnkP own idx ci q .long) (hs : g_isJ i ci q) (k : G X own cc nL ret h ro S' (pc + 3) lv st (g_setJ S i q v)) : G X own cc nL ret h ro S' pc lv (.long v :: .ref (X.1 + i) :: st) S := fun p l e s m args below meth c H locs ls A hr hk hP hS hl => w_putj A hP hS L hs d (fun H1 locs1 hP1 hS1 => k p l e s m args below meth c H1 locs1 ls A hr hk hP1 hS1 hl)
theorem g_iald {i n : Nat} {j : Int32} (d : decode cc pc = .ok (.iaload, 1)) (hs : g_isA i 0 n) (hin : vp_in j n) (k : G X own cc nL ret h ro S' (pc + 1) lv (.int (S.1 i j.toNatClampNeg) :: st) S) : G X own cc nL ret h ro S' pc lv (.int j :: .ref (X.1 + i) :: st) S := fun p l e s m args below meth c H locs ls A hr hk hP hS hl => w_iald A hP hs hin d (k p l e s m args below meth c H locs ls A hr hk hP hS hl)
theorem g_zald {i n : Nat} {j : Int32} (d : decode cc pc = .ok (.baload, 1)) (hs : g_isA i 2 n) (hin : vp_in j n) (k : G X own cc nL ret h ro S' (pc + 1) lv (.int (S.1 i j.toNatClampNeg) :: st) S) : G X own cc nL ret h ro S' pc lv (.int j :: .ref (X.1 + i) :: st) S := fun p l e s m args below meth c H locs ls A hr hk hP hS hl => w_zald A hP hs hin d (k p l e s m args below meth c H locs ls A hr hk hP hS hl)
theorem g_lald {i n : Nat} {j : Int32} (d : decode cc pc = .ok (.laload, 1)) (hs : g_isA i 1 n) (hin : vp_in j n) (k : G X own cc nL ret h ro S' (pc + 1) lv (.long (S.2 i j.toNatClampNeg) :: st) S) : G X own cc nL ret h ro S' pc lv (.int j :: .ref (X.1 + i) :: st) S := fun p l e s m args below meth c H locs ls A hr hk hP hS hl => w_lald A hP hs hin d (k p l e s m args below meth c H locs ls A hr hk hP hS hl)
theorem g_aald3 {i n b w : Nat} {j : Int32} (d : decode cc pc = .ok (.aaload, 1)) (hs : g_isAR i 3 n b w) (hin : vp_in j n) (k : G X own cc nL ret h ro S' (pc + 1) lv (.ref (X.1 + (b + w * j.toNatClampNeg)) :: st) S) : G X own cc nL ret h ro S' pc lv (.int j :: .ref (X.1 + i) :: st) S := fun p l e s m args below meth c H locs ls A hr hk hP hS hl => w_aald3 A hP hs hin d (k p l e s m args below meth c H locs ls A hr hk hP hS hl)
theorem g_aald4 {i n b w : Nat} {j : Int32} (d : decode cc pc = .ok (.aaload, 1)) (hs : g_isAR i 4 n b w) (hin : vp_in j n) (k : G X own cc nL ret h ro S' (pc + 1) lv (.ref (X.1 + (b + w * j.toNatClampNeg)) :: st) S) : G X own cc nL ret h ro S' pc lv (.int j :: .ref (X.1 + i) :: st) S := fun p l e s m args below meth c H locs ls A hr hk hP hS hl => w_aald4 A hP hs hin d (k p l e s m args below meth c H locs ls A hr hk hP hS hl)
theorem g_iast {i n : Nat} {j : Int32} {v : Int32} (d : decode cc pc = .ok (.iastore, 1)) (hs : g_isA i 0 n) (hin : vp_in j n) (k : G X own cc nL ret h ro S' (pc + 1) lv st (g_setI S i j.toNatClampNeg v)) : G X own cc nL ret h ro S' pc lv (.int v :: .int j :: .ref (X.1 + i) :: st) S := fun p l e s m args below meth c H locs ls A hr hk hP hS hl => w_iast A hP hS hs hin d (fun H1 locs1 hP1 hS1 => k p l e s m args below meth c H1 locs1 ls A hr hk hP1 hS1 hl)
theorem g_zast {i n : Nat} {j : Int32} {v : Int32} (d : decode cc pc = .ok (.bastore, 1)) (hs : g_isA i 2 n) (hin : vp_in j n) (k : G X own cc nL ret h ro S' (pc + 1) lv st (g_setI S i j.toNatClampNeg (vp_nar .boolean v))) : G X own cc nL ret h ro S' pc lv (.int v :: .int j :: .ref (X.1 + i) :: st) S := fun p l e s m args below meth c H locs ls A hr hk hP hS hl => w_zast A hP hS hs hin d (fun H1 locs1 hP1 hS1 => k p l e s m args below meth c H1 locs1 ls A hr hk hP1 hS1 hl)
theorem g_last {i n : Nat} {j : Int32} {v : Int64} (d : decode cc pc = .ok (.lastore, 1)) (hs : g_isA i 1 n) (hin : vp_in j n) (k : G X own cc nL ret h ro S' (pc + 1) lv st (g_setJ S i j.toNatClampNeg v)) : G X own cc nL ret h ro S' pc lv (.long v :: .int j :: .ref (X.1 + i) :: st) S := fun p l e s m args below meth c H locs ls A hr hk hP hS hl => w_last A hP hS hs hin d (fun H1 locs1 hP1 hS1 => k p l e s m args below meth c H1 locs1 ls A hr hk hP1 hS1 hl)
theorem g_alen {i kd n : Nat} (d : decode cc pc = .ok (.arraylength, 1)) (hkd : kd < 5) (hs : g_isA i kd n) (k : G X own cc nL ret h ro S' (pc + 1) lv (.int (Int32.ofNat n) :: st) S) : G X own cc nL ret h ro S' pc lv (.ref (X.1 + i) :: st) S := fun p l e s m args below meth c H locs ls A hr hk hP hS hl => w_alen A hP hkd hs d (k p l e s m args below meth c H locs ls A hr hk hP hS hl)
theorem g_cpy {i1 i2 n1 n2 idx : Nat} {sp dp n : Int32} (d : decode cc pc = .ok (.invokestatic idx, 3)) (L : Cond.methodLink own idx arraycopyName ∈ gW ∧ Cond.native arraycopyName ∈ gW ∧ Cond.static arraycopyName ∈ gW ∧ Cond.initialized "java/lang/System" ∈ gW) (hs1 : g_isA i1 0 n1) (hs2 : g_isA i2 0 n2) (hc : ¬ sp < 0 ∧ ¬ dp < 0 ∧ ¬ n < 0 ∧ sp.toNatClampNeg + n.toNatClampNeg ≤ n1 ∧ dp.toNatClampNeg + n.toNatClampNeg ≤ n2) (hh : 1 ≤ h) (hw : (st.map fun v => v.category).sum + (nativeFrameWords "java/lang/System" "arraycopy" 5 + 11) ≤ 45) (k : G X own cc nL ret h ro S' (pc + 3) lv st (g_cpyI S i1 i2 sp.toNatClampNeg dp.toNatClampNeg n.toNatClampNeg)) : G X own cc nL ret h ro S' pc lv (.int n :: .int dp :: .ref (X.1 + i2) :: .int sp :: .ref (X.1 + i1) :: st) S := fun p l e s m args below meth c H locs ls A hr hk hP hS hl => w_cpy A hl.1 hP hS L hs1 hs2 hc.1 hc.2.1 hc.2.2.1 hc.2.2.2.1 hc.2.2.2.2 hh (Nat.le_trans hw (by show 45 ≤ 45 * h; omega)) d (fun H1 locs1 hP1 hS1 => k p l e s m args below meth c H1 locs1 ls A hr hk hP1 hS1 hl)
theorem g_callVi {i ci idx n nL2 h2 : Nat} {y : MethodName} {cc2 : ByteArray} {ret2 : Option FieldType} {r : Int32} {S2 : gS} {stk : List Value} (As : List Value) (st : List Value) (d : decode cc pc = .ok (.invokevirtual idx, 3)) (L : g_mlV own idx y cc2 nL2 ret2 n ci) (ho : g_isO i ci) (hM : g_C X y cc2 nL2 ret2 h2 (.ref (X.1 + i) :: As) S (some (.int r)) S2) (hn : As.length = n) (hR : h2 + 1 ≤ h ∧ nL2 ≤ 26) (hst : stk = As.reverse ++ .ref (X.1 + i) :: st) (hw : (st.map fun v => v.category).sum ≤ 8) (k : G X own cc nL ret h ro S' (pc + 3) lv (.int r :: st) S2) : G X own cc nL ret h ro S' pc lv stk S := fun p l e s m args below meth c H locs ls A hr hk hP hS hl => w_callV A hl.1 hP hS L ho hM hn ⟨hR.1, by show 8 + (nL2 + 11) + 45 * h2 ≤ 45 * h; omega⟩ ⟨Nat.zero_le _, Nat.zero_le _⟩ hst hw d (fun H1 locs1 hP1 hS1 => k p l e s m args below meth c H1 locs1 ls A hr hk hP1 hS1 hl)
theorem g_callSi {idx n nL2 h2 : Nat} {y : MethodName} {cc2 : ByteArray} {ret2 : Option FieldType} {r : Int32} {S2 : gS} {stk : List Value} (As : List Value) (st : List Value) (d : decode cc pc = .ok (.invokestatic idx, 3)) (L : g_mlS own idx y cc2 nL2 ret2 n) (hM : g_C X y cc2 nL2 ret2 h2 As S (some (.int r)) S2) (hn : As.length = n) (hR : h2 + 1 ≤ h ∧ nL2 ≤ 26) (hst : stk = As.reverse ++ st) (hw : (st.map fun v => v.category).sum ≤ 8) (k : G X own cc nL ret h ro S' (pc + 3) lv (.int r :: st) S2) : G X own cc nL ret h ro S' pc lv stk S := fun p l e s m args below meth c H locs ls A hr hk hP hS hl => w_callS A hl.1 hP hS L hM hn ⟨hR.1, by show 8 + (nL2 + 11) + 45 * h2 ≤ 45 * h; omega⟩ ⟨Nat.zero_le _, Nat.zero_le _⟩ hst hw d (fun H1 locs1 hP1 hS1 => k p l e s m args below meth c H1 locs1 ls A hr hk hP1 hS1 hl)
theorem g_callVl {i ci idx n nL2 h2 : Nat} {y : MethodName} {cc2 : ByteArray} {ret2 : Option FieldType} {r : Int64} {S2 : gS} {stk : List Value} (As : List Value) (st : List Value) (d : decode cc pc = .ok (.invokevirtual idx, 3)) (L : g_mlV own idx y cc2 nL2 ret2 n ci) (ho : g_isO i ci) (hM : g_C X y cc2 nL2 ret2 h2 (.ref (X.1 + i) :: As) S (some (.long r)) S2) (hn : As.length = n) (hR : h2 + 1 ≤ h ∧ nL2 ≤ 26) (hst : stk = As.reverse ++ .ref (X.1 + i) :: st) (hw : (st.map fun v => v.category).sum ≤ 8) (k : G X own cc nL ret h ro S' (pc + 3) lv (.long r :: st) S2) : G X own cc nL ret h ro S' pc lv stk S := fun p l e s m args below meth c H locs ls A hr hk hP hS hl => w_callV A hl.1 hP hS L ho hM hn ⟨hR.1, by show 8 + (nL2 + 11) + 45 * h2 ≤ 45 * h; omega⟩ ⟨Nat.zero_le _, Nat.zero_le _⟩ hst hw d (fun H1 locs1 hP1 hS1 => k p l e s m args below meth c H1 locs1 ls A hr hk hP1 hS1 hl)
theorem g_callSl {idx n nL2 h2 : Nat} {y : MethodName} {cc2 : ByteArray} {ret2 : Option FieldType} {r : Int64} {S2 : gS} {stk : List Value} (As : List Value) (st : List Value) (d : decode cc pc = .ok (.invokestatic idx, 3)) (L : g_mlS own idx y cc2 nL2 ret2 n) (hM : g_C X y cc2 nL2 ret2 h2 As S (some (.long r)) S2) (hn : As.length = n) (hR : h2 + 1 ≤ h ∧ nL2 ≤ 26) (hst : stk = As.reverse ++ st) (hw : (st.map fun v => v.category).sum ≤ 8) (k : G X own cc nL ret h ro S' (pc + 3) lv (.long r :: st) S2) : G X own cc nL ret h ro S' pc lv stk S := fun p l e s m args below meth c H locs ls A hr hk hP hS hl => w_callS A hl.1 hP hS L hM hn ⟨hR.1, by show 8 + (nL2 + 11) + 45 * h2 ≤ 45 * h; omega⟩ ⟨Nat.zero_le _, Nat.zero_le _⟩ hst hw d (fun H1 locs1 hP1 hS1 => k p l e s m args below meth c H1 locs1 ls A hr hk hP1 hS1 hl)
theorem g_callVv {i ci idx n nL2 h2 : Nat} {y : MethodName} {cc2 : ByteArray} {ret2 : Option FieldType}  {S2 : gS} {stk : List Value} (As : List Value) (st : List Value) (d : decode cc pc = .ok (.invokevirtual idx, 3)) (L : g_mlV own idx y cc2 nL2 ret2 n ci) (ho : g_isO i ci) (hM : g_C X y cc2 nL2 ret2 h2 (.ref (X.1 + i) :: As) S none S2) (hn : As.length = n) (hR : h2 + 1 ≤ h ∧ nL2 ≤ 26) (hst : stk = As.reverse ++ .ref (X.1 + i) :: st) (hw : (st.map fun v => v.category).sum ≤ 8) (k : G X own cc nL ret h ro S' (pc + 3) lv st S2) : G X own cc nL ret h ro S' pc lv stk S := fun p l e s m args below meth c H locs ls A hr hk hP hS hl => w_callV A hl.1 hP hS L ho hM hn ⟨hR.1, by show 8 + (nL2 + 11) + 45 * h2 ≤ 45 * h; omega⟩ ⟨Nat.zero_le _, Nat.zero_le _⟩ hst hw d (fun H1 locs1 hP1 hS1 => k p l e s m args below meth c H1 locs1 ls A hr hk hP1 hS1 hl)
theorem g_callSv {idx n nL2 h2 : Nat} {y : MethodName} {cc2 : ByteArray} {ret2 : Option FieldType}  {S2 : gS} {stk : List Value} (As : List Value) (st : List Value) (d : decode cc pc = .ok (.invokestatic idx, 3)) (L : g_mlS own idx y cc2 nL2 ret2 n) (hM : g_C X y cc2 nL2 ret2 h2 As S none S2) (hn : As.length = n) (hR : h2 + 1 ≤ h ∧ nL2 ≤ 26) (hst : stk = As.reverse ++ st) (hw : (st.map fun v => v.category).sum ≤ 8) (k : G X own cc nL ret h ro S' (pc + 3) lv st S2) : G X own cc nL ret h ro S' pc lv stk S := fun p l e s m args below meth c H locs ls A hr hk hP hS hl => w_callS A hl.1 hP hS L hM hn ⟨hR.1, by show 8 + (nL2 + 11) + 45 * h2 ≤ 45 * h; omega⟩ ⟨Nat.zero_le _, Nat.zero_le _⟩ hst hw d (fun H1 locs1 hP1 hS1 => k p l e s m args below meth c H1 locs1 ls A hr hk hP1 hS1 hl)
theorem g_iret {x : Int32} (d : decode cc pc = .ok (.ireturn, 1)) (hret : ret = some .int) : G X own cc nL ret h (some (.int x)) S pc lv [.int x] S := fun p l e s m args below meth c H locs ls A hr hk hP hS hl => W.iret A.1 A.2.1 (hr.trans hret) (fun t ht _ => ⟨⟨rfl, by rw [ht]; exact hP⟩, hS.F ht⟩) hS.2.2 d hk
theorem g_zret {x : Int32} (d : decode cc pc = .ok (.ireturn, 1)) (hret : ret = some .boolean) (hx : narrow .boolean (.int x) = .int x) : G X own cc nL ret h (some (.int x)) S pc lv [.int x] S := fun p l e s m args below meth c H locs ls A hr hk hP hS hl => W.zret A.1 A.2.1 (hr.trans hret) hx (fun t ht _ => ⟨⟨rfl, by rw [ht]; exact hP⟩, hS.F ht⟩) hS.2.2 d hk
theorem g_lret {x : Int64} (d : decode cc pc = .ok (.lreturn, 1)) (hret : ret = some .long) : G X own cc nL ret h (some (.long x)) S pc lv [.long x] S := fun p l e s m args below meth c H locs ls A hr hk hP hS hl => W.lret A.1 A.2.1 (hr.trans hret) (fun t ht _ => ⟨⟨rfl, by rw [ht]; exact hP⟩, hS.F ht⟩) hS.2.2 d hk
theorem g_vret (d : decode cc pc = .ok (.return_, 1)) (hret : ret = none) : G X own cc nL ret h none S pc lv [] S := fun p l e s m args below meth c H locs ls A hr hk hP hS hl => W.vret A.1 A.2.1 (hr.trans hret) (fun t ht _ => ⟨⟨rfl, by rw [ht]; exact hP⟩, hS.F ht⟩) hS.2.2 d hk
theorem g_sub (ks : List Nat) (hk' : lv_pick lv ks = lv') (k : G X own cc nL ret h ro S' pc lv' st S) : G X own cc nL ret h ro S' pc lv st S := fun p l e s m args below meth c H locs ls A hr hk hP hS hl => k p l e s m args below meth c H locs ls A hr hk hP hS (lv_sub hl ks hk')
theorem g_met {y : MethodName} {av : List Value} (hy : plainName y.cls = true) (hav : (lg_sl av).length ≤ nL) (k : G X y.cls cc nL ret h ro S' 0 (lv_args 0 av) [] S) : g_C X y cc nL ret h av S ro S' := by
  intro l
  refine Met.ofW (cc := cc) (maxL := nL) (ret := ret) hy rfl ?_
  intro p e s m args below meth c s₁ B hml hv
  obtain ⟨rfl, hP, hK⟩ := hv
  have hts : ∀ w ∈ Cond.code y cc nL ret :: gW, w.before av.toArray s = true := atoms_spec B.pre
  have hown : s.vm.findClass y.cls = some m.cls := findClass_of_methodNamed B.named
  have hl := lv_entry av (n := nL) hav
  rw [lg_entry_eq]
  exact k p l e s m av.toArray below meth c s.heap [] _ ⟨B.exec, B.bytes, hml, hown, fun w hw => hts w (List.mem_cons_of_mem _ hw), hK⟩ B.returns B.notSynchronized hP va_S.rf hl
end GR
/-! the pure side's words -/
def g_chk {α : Type} (i : Int32) (n : Nat) (k : Option α) : Option α := if i < 0 ∨ n ≤ i.toNatClampNeg then none else k
def g_nz {α : Type} (y : Int32) (k : Option α) : Option α := if y = 0 then none else k
def g_nzl {α : Type} (y : Int64) (k : Option α) : Option α := if y = 0 then none else k
def g_bo {α : Type} (x : Int32) (k : Option α) : Option α := if vp_nar .boolean x = x then k else none
def g_cpyOk {α : Type} (sp dp n : Int32) (n1 n2 : Nat) (k : Option α) : Option α := if ¬ sp < 0 ∧ ¬ dp < 0 ∧ ¬ n < 0 ∧ sp.toNatClampNeg + n.toNatClampNeg ≤ n1 ∧ dp.toNatClampNeg + n.toNatClampNeg ≤ n2 then k else none
theorem gb {α β : Type} {o : Option α} {f : α → Option β} {b : β} (h : o.bind f = some b) : ∃ a, o = some a ∧ f a = some b := by
  cases o with
  | none => cases h
  | some a => exact ⟨a, rfl, h⟩
theorem gchk {α : Type} {i : Int32} {n : Nat} {k : Option α} {b : α} (h : g_chk i n k = some b) : vp_in i n ∧ k = some b := by
  unfold g_chk at h
  split at h
  · cases h
  · exact ⟨by assumption, h⟩
theorem gnz {α : Type} {i : Int32} {k : Option α} {b : α} (h : g_nz i k = some b) : ¬ i = 0 ∧ k = some b := by
  unfold g_nz at h
  split at h
  · cases h
  · exact ⟨by assumption, h⟩
theorem gnzl {α : Type} {i : Int64} {k : Option α} {b : α} (h : g_nzl i k = some b) : ¬ i = 0 ∧ k = some b := by
  unfold g_nzl at h
  split at h
  · cases h
  · exact ⟨by assumption, h⟩
theorem g_nar_b (x : Int32) : narrow .boolean (.int x) = .int (vp_nar .boolean x) := by
  simp [vp_nar, narrow]
theorem gbo {α : Type} {x : Int32} {k : Option α} {b : α} (h : g_bo x k = some b) : narrow .boolean (.int x) = .int x ∧ k = some b := by
  unfold g_bo at h
  split at h
  · next q => exact ⟨by rw [g_nar_b, q], h⟩
  · cases h
theorem gcpy {α : Type} {sp dp n : Int32} {n1 n2 : Nat} {k : Option α} {b : α} (h : g_cpyOk sp dp n n1 n2 k = some b) : (¬ sp < 0 ∧ ¬ dp < 0 ∧ ¬ n < 0 ∧ sp.toNatClampNeg + n.toNatClampNeg ≤ n1 ∧ dp.toNatClampNeg + n.toNatClampNeg ≤ n2) ∧ k = some b := by
  unfold g_cpyOk at h
  split at h
  · exact ⟨by assumption, h⟩
  · cases h
end
