section
-- ===== PART A: goes FIRST, ahead of the names: the tables' words, and 'selects' of the private methods out of them =====
/-- a private method of a class that the tables say can be made, by its rows of tables_1 -/
def lw_okq (q : MethodName × Nat) : Prop := (q.1.cls ≠ "java/lang/invoke/MethodHandle" ∧ q.1.cls ≠ "java/lang/invoke/VarHandle") ∧ Cond.instantiable q.1.cls q.2 ∈ tables_1 ∧ Cond.privateMethod q.1 ∈ tables_1 ∧ Cond.instanceMethod q.1 ∈ tables_1
theorem lw_p0 : lw_okq (⟨"SmallCrown", "bad", "(I)I"⟩, 13) := ⟨⟨by decide +kernel, by decide +kernel⟩, List.mem_of_getElem? (i := 21) (by decide +kernel), List.mem_of_getElem? (i := 272) (by decide +kernel), List.mem_of_getElem? (i := 273) (by decide +kernel)⟩
theorem lw_p1 : lw_okq (⟨"SmallCrown$World", "beginAnew", "(II)V"⟩, 10) := ⟨⟨by decide +kernel, by decide +kernel⟩, List.mem_of_getElem? (i := 31) (by decide +kernel), List.mem_of_getElem? (i := 276) (by decide +kernel), List.mem_of_getElem? (i := 277) (by decide +kernel)⟩
theorem lw_p2 : lw_okq (⟨"SmallCrown$Road", "beginAnew", "(II)V"⟩, 4) := ⟨⟨by decide +kernel, by decide +kernel⟩, List.mem_of_getElem? (i := 37) (by decide +kernel), List.mem_of_getElem? (i := 280) (by decide +kernel), List.mem_of_getElem? (i := 281) (by decide +kernel)⟩
theorem lw_p3 : lw_okq (⟨"SmallCrown$Walk", "begin", "(III)V"⟩, 8) := ⟨⟨by decide +kernel, by decide +kernel⟩, List.mem_of_getElem? (i := 63) (by decide +kernel), List.mem_of_getElem? (i := 284) (by decide +kernel), List.mem_of_getElem? (i := 285) (by decide +kernel)⟩
theorem lw_p4 : lw_okq (⟨"SmallCrown", "isCell", "(I)Z"⟩, 13) := ⟨⟨by decide +kernel, by decide +kernel⟩, List.mem_of_getElem? (i := 21) (by decide +kernel), List.mem_of_getElem? (i := 292) (by decide +kernel), List.mem_of_getElem? (i := 293) (by decide +kernel)⟩
theorem lw_p5 : lw_okq (⟨"SmallCrown$Road", "cobbleOf", "(I)I"⟩, 4) := ⟨⟨by decide +kernel, by decide +kernel⟩, List.mem_of_getElem? (i := 37) (by decide +kernel), List.mem_of_getElem? (i := 296) (by decide +kernel), List.mem_of_getElem? (i := 297) (by decide +kernel)⟩
theorem lw_p6 : lw_okq (⟨"SmallCrown$Road", "layCobble", "(II)V"⟩, 4) := ⟨⟨by decide +kernel, by decide +kernel⟩, List.mem_of_getElem? (i := 37) (by decide +kernel), List.mem_of_getElem? (i := 301) (by decide +kernel), List.mem_of_getElem? (i := 302) (by decide +kernel)⟩
theorem lw_p7 : lw_okq (⟨"SmallCrown$Road", "windIn", "(I)I"⟩, 4) := ⟨⟨by decide +kernel, by decide +kernel⟩, List.mem_of_getElem? (i := 37) (by decide +kernel), List.mem_of_getElem? (i := 309) (by decide +kernel), List.mem_of_getElem? (i := 310) (by decide +kernel)⟩
theorem lw_p8 : lw_okq (⟨"SmallCrown$Road", "setWind", "(II)V"⟩, 4) := ⟨⟨by decide +kernel, by decide +kernel⟩, List.mem_of_getElem? (i := 37) (by decide +kernel), List.mem_of_getElem? (i := 316) (by decide +kernel), List.mem_of_getElem? (i := 317) (by decide +kernel)⟩
theorem lw_p9 : lw_okq (⟨"SmallCrown", "full", "()I"⟩, 13) := ⟨⟨by decide +kernel, by decide +kernel⟩, List.mem_of_getElem? (i := 21) (by decide +kernel), List.mem_of_getElem? (i := 324) (by decide +kernel), List.mem_of_getElem? (i := 325) (by decide +kernel)⟩
theorem lw_p10 : lw_okq (⟨"SmallCrown$World", "addHead", "(II)V"⟩, 10) := ⟨⟨by decide +kernel, by decide +kernel⟩, List.mem_of_getElem? (i := 31) (by decide +kernel), List.mem_of_getElem? (i := 328) (by decide +kernel), List.mem_of_getElem? (i := 329) (by decide +kernel)⟩
theorem lw_p11 : lw_okq (⟨"SmallCrown$Reader", "add", "(I)V"⟩, 5) := ⟨⟨by decide +kernel, by decide +kernel⟩, List.mem_of_getElem? (i := 141) (by decide +kernel), List.mem_of_getElem? (i := 337) (by decide +kernel), List.mem_of_getElem? (i := 338) (by decide +kernel)⟩
theorem lw_p12 : lw_okq (⟨"SmallCrown$Reader", "tell", "(LSmallCrown$World;)I"⟩, 5) := ⟨⟨by decide +kernel, by decide +kernel⟩, List.mem_of_getElem? (i := 141) (by decide +kernel), List.mem_of_getElem? (i := 350) (by decide +kernel), List.mem_of_getElem? (i := 351) (by decide +kernel)⟩
theorem lw_p13 : lw_okq (⟨"SmallCrown$Reader", "nextToken", "()V"⟩, 5) := ⟨⟨by decide +kernel, by decide +kernel⟩, List.mem_of_getElem? (i := 141) (by decide +kernel), List.mem_of_getElem? (i := 354) (by decide +kernel), List.mem_of_getElem? (i := 355) (by decide +kernel)⟩
theorem lw_p14 : lw_okq (⟨"SmallCrown$Reader", "byteAt", "(I)I"⟩, 5) := ⟨⟨by decide +kernel, by decide +kernel⟩, List.mem_of_getElem? (i := 141) (by decide +kernel), List.mem_of_getElem? (i := 358) (by decide +kernel), List.mem_of_getElem? (i := 359) (by decide +kernel)⟩
theorem lw_p15 : lw_okq (⟨"SmallCrown$Reader", "tellRoad", "(LSmallCrown$World;)Z"⟩, 5) := ⟨⟨by decide +kernel, by decide +kernel⟩, List.mem_of_getElem? (i := 141) (by decide +kernel), List.mem_of_getElem? (i := 368) (by decide +kernel), List.mem_of_getElem? (i := 369) (by decide +kernel)⟩
def lw_privs_1 : List (MethodName × Nat) := [(⟨"SmallCrown", "bad", "(I)I"⟩, 13), (⟨"SmallCrown$World", "beginAnew", "(II)V"⟩, 10), (⟨"SmallCrown$Road", "beginAnew", "(II)V"⟩, 4), (⟨"SmallCrown$Walk", "begin", "(III)V"⟩, 8), (⟨"SmallCrown", "isCell", "(I)Z"⟩, 13), (⟨"SmallCrown$Road", "cobbleOf", "(I)I"⟩, 4), (⟨"SmallCrown$Road", "layCobble", "(II)V"⟩, 4), (⟨"SmallCrown$Road", "windIn", "(I)I"⟩, 4), (⟨"SmallCrown$Road", "setWind", "(II)V"⟩, 4), (⟨"SmallCrown", "full", "()I"⟩, 13), (⟨"SmallCrown$World", "addHead", "(II)V"⟩, 10), (⟨"SmallCrown$Reader", "add", "(I)V"⟩, 5), (⟨"SmallCrown$Reader", "tell", "(LSmallCrown$World;)I"⟩, 5), (⟨"SmallCrown$Reader", "nextToken", "()V"⟩, 5), (⟨"SmallCrown$Reader", "byteAt", "(I)I"⟩, 5), (⟨"SmallCrown$Reader", "tellRoad", "(LSmallCrown$World;)Z"⟩, 5)]
theorem lw_r1 : ∀ q ∈ lw_privs_1, lw_okq q := List.forall_mem_cons.mpr ⟨lw_p0, List.forall_mem_cons.mpr ⟨lw_p1, List.forall_mem_cons.mpr ⟨lw_p2, List.forall_mem_cons.mpr ⟨lw_p3, List.forall_mem_cons.mpr ⟨lw_p4, List.forall_mem_cons.mpr ⟨lw_p5, List.forall_mem_cons.mpr ⟨lw_p6, List.forall_mem_cons.mpr ⟨lw_p7, List.forall_mem_cons.mpr ⟨lw_p8, List.forall_mem_cons.mpr ⟨lw_p9, List.forall_mem_cons.mpr ⟨lw_p10, List.forall_mem_cons.mpr ⟨lw_p11, List.forall_mem_cons.mpr ⟨lw_p12, List.forall_mem_cons.mpr ⟨lw_p13, List.forall_mem_cons.mpr ⟨lw_p14, List.forall_mem_cons.mpr ⟨lw_p15, fun _ h => absurd h List.not_mem_nil⟩⟩⟩⟩⟩⟩⟩⟩⟩⟩⟩⟩⟩⟩⟩⟩
theorem lw_p16 : lw_okq (⟨"SmallCrown$Reader", "isWord", "(Ljava/lang/String;)Z"⟩, 5) := ⟨⟨by decide +kernel, by decide +kernel⟩, List.mem_of_getElem? (i := 141) (by decide +kernel), List.mem_of_getElem? (i := 373) (by decide +kernel), List.mem_of_getElem? (i := 374) (by decide +kernel)⟩
theorem lw_p17 : lw_okq (⟨"SmallCrown$Reader", "nextNumber", "(II)I"⟩, 5) := ⟨⟨by decide +kernel, by decide +kernel⟩, List.mem_of_getElem? (i := 141) (by decide +kernel), List.mem_of_getElem? (i := 425) (by decide +kernel), List.mem_of_getElem? (i := 426) (by decide +kernel)⟩
theorem lw_p18 : lw_okq (⟨"SmallCrown$Reader", "nextIsEnd", "()Z"⟩, 5) := ⟨⟨by decide +kernel, by decide +kernel⟩, List.mem_of_getElem? (i := 141) (by decide +kernel), List.mem_of_getElem? (i := 429) (by decide +kernel), List.mem_of_getElem? (i := 430) (by decide +kernel)⟩
theorem lw_p19 : lw_okq (⟨"SmallCrown$Reader", "tellItem", "(LSmallCrown$World;)Z"⟩, 5) := ⟨⟨by decide +kernel, by decide +kernel⟩, List.mem_of_getElem? (i := 141) (by decide +kernel), List.mem_of_getElem? (i := 434) (by decide +kernel), List.mem_of_getElem? (i := 435) (by decide +kernel)⟩
theorem lw_p20 : lw_okq (⟨"SmallCrown$Reader", "tellCobble", "(LSmallCrown$World;I)Z"⟩, 5) := ⟨⟨by decide +kernel, by decide +kernel⟩, List.mem_of_getElem? (i := 141) (by decide +kernel), List.mem_of_getElem? (i := 439) (by decide +kernel), List.mem_of_getElem? (i := 440) (by decide +kernel)⟩
theorem lw_p21 : lw_okq (⟨"SmallCrown$Reader", "tellWind", "(LSmallCrown$World;I)Z"⟩, 5) := ⟨⟨by decide +kernel, by decide +kernel⟩, List.mem_of_getElem? (i := 141) (by decide +kernel), List.mem_of_getElem? (i := 446) (by decide +kernel), List.mem_of_getElem? (i := 447) (by decide +kernel)⟩
theorem lw_p22 : lw_okq (⟨"SmallCrown$Reader", "tellHead", "(LSmallCrown$World;I)Z"⟩, 5) := ⟨⟨by decide +kernel, by decide +kernel⟩, List.mem_of_getElem? (i := 141) (by decide +kernel), List.mem_of_getElem? (i := 453) (by decide +kernel), List.mem_of_getElem? (i := 454) (by decide +kernel)⟩
theorem lw_p23 : lw_okq (⟨"SmallCrown$World", "copyFrom", "(LSmallCrown$World;)V"⟩, 10) := ⟨⟨by decide +kernel, by decide +kernel⟩, List.mem_of_getElem? (i := 31) (by decide +kernel), List.mem_of_getElem? (i := 459) (by decide +kernel), List.mem_of_getElem? (i := 460) (by decide +kernel)⟩
theorem lw_p24 : lw_okq (⟨"SmallCrown$Road", "copyFrom", "(LSmallCrown$Road;)V"⟩, 4) := ⟨⟨by decide +kernel, by decide +kernel⟩, List.mem_of_getElem? (i := 37) (by decide +kernel), List.mem_of_getElem? (i := 463) (by decide +kernel), List.mem_of_getElem? (i := 464) (by decide +kernel)⟩
theorem lw_p25 : lw_okq (⟨"SmallCrown$Walk", "copyFrom", "(LSmallCrown$Walk;)V"⟩, 8) := ⟨⟨by decide +kernel, by decide +kernel⟩, List.mem_of_getElem? (i := 63) (by decide +kernel), List.mem_of_getElem? (i := 470) (by decide +kernel), List.mem_of_getElem? (i := 471) (by decide +kernel)⟩
theorem lw_p26 : lw_okq (⟨"SmallCrown", "isHead", "(I)Z"⟩, 13) := ⟨⟨by decide +kernel, by decide +kernel⟩, List.mem_of_getElem? (i := 21) (by decide +kernel), List.mem_of_getElem? (i := 481) (by decide +kernel), List.mem_of_getElem? (i := 482) (by decide +kernel)⟩
theorem lw_p27 : lw_okq (⟨"SmallCrown$World", "setOf", "(I)I"⟩, 10) := ⟨⟨by decide +kernel, by decide +kernel⟩, List.mem_of_getElem? (i := 31) (by decide +kernel), List.mem_of_getElem? (i := 485) (by decide +kernel), List.mem_of_getElem? (i := 486) (by decide +kernel)⟩
theorem lw_p28 : lw_okq (⟨"SmallCrown$Walk", "isFallen", "(LSmallCrown$Road;)Z"⟩, 8) := ⟨⟨by decide +kernel, by decide +kernel⟩, List.mem_of_getElem? (i := 63) (by decide +kernel), List.mem_of_getElem? (i := 490) (by decide +kernel), List.mem_of_getElem? (i := 491) (by decide +kernel)⟩
theorem lw_p29 : lw_okq (⟨"SmallCrown$Road", "fells", "(I)Z"⟩, 4) := ⟨⟨by decide +kernel, by decide +kernel⟩, List.mem_of_getElem? (i := 37) (by decide +kernel), List.mem_of_getElem? (i := 494) (by decide +kernel), List.mem_of_getElem? (i := 495) (by decide +kernel)⟩
theorem lw_p30 : lw_okq (⟨"SmallCrown$Walk", "isOver", "(LSmallCrown$Road;)Z"⟩, 8) := ⟨⟨by decide +kernel, by decide +kernel⟩, List.mem_of_getElem? (i := 63) (by decide +kernel), List.mem_of_getElem? (i := 505) (by decide +kernel), List.mem_of_getElem? (i := 506) (by decide +kernel)⟩
theorem lw_p31 : lw_okq (⟨"SmallCrown", "no", "(I)I"⟩, 13) := ⟨⟨by decide +kernel, by decide +kernel⟩, List.mem_of_getElem? (i := 21) (by decide +kernel), List.mem_of_getElem? (i := 510) (by decide +kernel), List.mem_of_getElem? (i := 511) (by decide +kernel)⟩
def lw_privs_2 : List (MethodName × Nat) := [(⟨"SmallCrown$Reader", "isWord", "(Ljava/lang/String;)Z"⟩, 5), (⟨"SmallCrown$Reader", "nextNumber", "(II)I"⟩, 5), (⟨"SmallCrown$Reader", "nextIsEnd", "()Z"⟩, 5), (⟨"SmallCrown$Reader", "tellItem", "(LSmallCrown$World;)Z"⟩, 5), (⟨"SmallCrown$Reader", "tellCobble", "(LSmallCrown$World;I)Z"⟩, 5), (⟨"SmallCrown$Reader", "tellWind", "(LSmallCrown$World;I)Z"⟩, 5), (⟨"SmallCrown$Reader", "tellHead", "(LSmallCrown$World;I)Z"⟩, 5), (⟨"SmallCrown$World", "copyFrom", "(LSmallCrown$World;)V"⟩, 10), (⟨"SmallCrown$Road", "copyFrom", "(LSmallCrown$Road;)V"⟩, 4), (⟨"SmallCrown$Walk", "copyFrom", "(LSmallCrown$Walk;)V"⟩, 8), (⟨"SmallCrown", "isHead", "(I)Z"⟩, 13), (⟨"SmallCrown$World", "setOf", "(I)I"⟩, 10), (⟨"SmallCrown$Walk", "isFallen", "(LSmallCrown$Road;)Z"⟩, 8), (⟨"SmallCrown$Road", "fells", "(I)Z"⟩, 4), (⟨"SmallCrown$Walk", "isOver", "(LSmallCrown$Road;)Z"⟩, 8), (⟨"SmallCrown", "no", "(I)I"⟩, 13)]
theorem lw_r2 : ∀ q ∈ lw_privs_2, lw_okq q := List.forall_mem_cons.mpr ⟨lw_p16, List.forall_mem_cons.mpr ⟨lw_p17, List.forall_mem_cons.mpr ⟨lw_p18, List.forall_mem_cons.mpr ⟨lw_p19, List.forall_mem_cons.mpr ⟨lw_p20, List.forall_mem_cons.mpr ⟨lw_p21, List.forall_mem_cons.mpr ⟨lw_p22, List.forall_mem_cons.mpr ⟨lw_p23, List.forall_mem_cons.mpr ⟨lw_p24, List.forall_mem_cons.mpr ⟨lw_p25, List.forall_mem_cons.mpr ⟨lw_p26, List.forall_mem_cons.mpr ⟨lw_p27, List.forall_mem_cons.mpr ⟨lw_p28, List.forall_mem_cons.mpr ⟨lw_p29, List.forall_mem_cons.mpr ⟨lw_p30, List.forall_mem_cons.mpr ⟨lw_p31, fun _ h => absurd h List.not_mem_nil⟩⟩⟩⟩⟩⟩⟩⟩⟩⟩⟩⟩⟩⟩⟩⟩
theorem lw_p32 : lw_okq (⟨"SmallCrown$Walk", "keep", "()V"⟩, 8) := ⟨⟨by decide +kernel, by decide +kernel⟩, List.mem_of_getElem? (i := 63) (by decide +kernel), List.mem_of_getElem? (i := 514) (by decide +kernel), List.mem_of_getElem? (i := 515) (by decide +kernel)⟩
theorem lw_p33 : lw_okq (⟨"SmallCrown$Walk", "dropOldest", "()V"⟩, 8) := ⟨⟨by decide +kernel, by decide +kernel⟩, List.mem_of_getElem? (i := 63) (by decide +kernel), List.mem_of_getElem? (i := 518) (by decide +kernel), List.mem_of_getElem? (i := 519) (by decide +kernel)⟩
theorem lw_p34 : lw_okq (⟨"SmallCrown$World", "kindOf", "(I)I"⟩, 10) := ⟨⟨by decide +kernel, by decide +kernel⟩, List.mem_of_getElem? (i := 31) (by decide +kernel), List.mem_of_getElem? (i := 523) (by decide +kernel), List.mem_of_getElem? (i := 524) (by decide +kernel)⟩
theorem lw_p35 : lw_okq (⟨"SmallCrown", "kind", "(I)LSmallCrown$Plain;"⟩, 13) := ⟨⟨by decide +kernel, by decide +kernel⟩, List.mem_of_getElem? (i := 21) (by decide +kernel), List.mem_of_getElem? (i := 527) (by decide +kernel), List.mem_of_getElem? (i := 528) (by decide +kernel)⟩
theorem lw_p36 : lw_okq (⟨"SmallCrown$Walk", "go", "(LSmallCrown$Road;LSmallCrown$Plain;II)V"⟩, 8) := ⟨⟨by decide +kernel, by decide +kernel⟩, List.mem_of_getElem? (i := 63) (by decide +kernel), List.mem_of_getElem? (i := 531) (by decide +kernel), List.mem_of_getElem? (i := 532) (by decide +kernel)⟩
theorem lw_p37 : lw_okq (⟨"SmallCrown$Road", "cellBehind", "(II)I"⟩, 4) := ⟨⟨by decide +kernel, by decide +kernel⟩, List.mem_of_getElem? (i := 37) (by decide +kernel), List.mem_of_getElem? (i := 535) (by decide +kernel), List.mem_of_getElem? (i := 536) (by decide +kernel)⟩
theorem lw_p38 : lw_okq (⟨"SmallCrown$Walk", "isThrough", "(LSmallCrown$Road;)Z"⟩, 8) := ⟨⟨by decide +kernel, by decide +kernel⟩, List.mem_of_getElem? (i := 63) (by decide +kernel), List.mem_of_getElem? (i := 571) (by decide +kernel), List.mem_of_getElem? (i := 572) (by decide +kernel)⟩
theorem lw_p39 : lw_okq (⟨"SmallCrown$Walk", "takeBack", "()V"⟩, 8) := ⟨⟨by decide +kernel, by decide +kernel⟩, List.mem_of_getElem? (i := 63) (by decide +kernel), List.mem_of_getElem? (i := 579) (by decide +kernel), List.mem_of_getElem? (i := 580) (by decide +kernel)⟩
theorem lw_p40 : lw_okq (⟨"SmallCrown", "tryRow", "(IIIIII)V"⟩, 13) := ⟨⟨by decide +kernel, by decide +kernel⟩, List.mem_of_getElem? (i := 21) (by decide +kernel), List.mem_of_getElem? (i := 603) (by decide +kernel), List.mem_of_getElem? (i := 604) (by decide +kernel)⟩
theorem lw_p41 : lw_okq (⟨"SmallCrown$Ways", "fillSure", "(LSmallCrown$Road;LSmallCrown$Plain;I)V"⟩, 3) := ⟨⟨by decide +kernel, by decide +kernel⟩, List.mem_of_getElem? (i := 167) (by decide +kernel), List.mem_of_getElem? (i := 617) (by decide +kernel), List.mem_of_getElem? (i := 618) (by decide +kernel)⟩
theorem lw_p42 : lw_okq (⟨"SmallCrown$Ways", "worst", "(LSmallCrown$Road;LSmallCrown$Plain;IIIII)I"⟩, 3) := ⟨⟨by decide +kernel, by decide +kernel⟩, List.mem_of_getElem? (i := 167) (by decide +kernel), List.mem_of_getElem? (i := 622) (by decide +kernel), List.mem_of_getElem? (i := 623) (by decide +kernel)⟩
theorem lw_p43 : lw_okq (⟨"SmallCrown$Ways", "costFrom", "(LSmallCrown$Road;III)I"⟩, 3) := ⟨⟨by decide +kernel, by decide +kernel⟩, List.mem_of_getElem? (i := 167) (by decide +kernel), List.mem_of_getElem? (i := 630) (by decide +kernel), List.mem_of_getElem? (i := 631) (by decide +kernel)⟩
theorem lw_p44 : lw_okq (⟨"SmallCrown$Ways", "put", "(IIII)V"⟩, 3) := ⟨⟨by decide +kernel, by decide +kernel⟩, List.mem_of_getElem? (i := 167) (by decide +kernel), List.mem_of_getElem? (i := 644) (by decide +kernel), List.mem_of_getElem? (i := 645) (by decide +kernel)⟩
theorem lw_p45 : lw_okq (⟨"SmallCrown", "firstPace", "(LSmallCrown$Plain;III)I"⟩, 13) := ⟨⟨by decide +kernel, by decide +kernel⟩, List.mem_of_getElem? (i := 21) (by decide +kernel), List.mem_of_getElem? (i := 650) (by decide +kernel), List.mem_of_getElem? (i := 651) (by decide +kernel)⟩
theorem lw_p46 : lw_okq (⟨"SmallCrown$Ways", "leastBestPace", "(LSmallCrown$Road;LSmallCrown$Plain;III)I"⟩, 3) := ⟨⟨by decide +kernel, by decide +kernel⟩, List.mem_of_getElem? (i := 167) (by decide +kernel), List.mem_of_getElem? (i := 654) (by decide +kernel), List.mem_of_getElem? (i := 655) (by decide +kernel)⟩
theorem lw_p47 : lw_okq (⟨"SmallCrown$Ways", "fillFlat", "(LSmallCrown$Road;LSmallCrown$Plain;)V"⟩, 3) := ⟨⟨by decide +kernel, by decide +kernel⟩, List.mem_of_getElem? (i := 167) (by decide +kernel), List.mem_of_getElem? (i := 670) (by decide +kernel), List.mem_of_getElem? (i := 671) (by decide +kernel)⟩
def lw_privs_3 : List (MethodName × Nat) := [(⟨"SmallCrown$Walk", "keep", "()V"⟩, 8), (⟨"SmallCrown$Walk", "dropOldest", "()V"⟩, 8), (⟨"SmallCrown$World", "kindOf", "(I)I"⟩, 10), (⟨"SmallCrown", "kind", "(I)LSmallCrown$Plain;"⟩, 13), (⟨"SmallCrown$Walk", "go", "(LSmallCrown$Road;LSmallCrown$Plain;II)V"⟩, 8), (⟨"SmallCrown$Road", "cellBehind", "(II)I"⟩, 4), (⟨"SmallCrown$Walk", "isThrough", "(LSmallCrown$Road;)Z"⟩, 8), (⟨"SmallCrown$Walk", "takeBack", "()V"⟩, 8), (⟨"SmallCrown", "tryRow", "(IIIIII)V"⟩, 13), (⟨"SmallCrown$Ways", "fillSure", "(LSmallCrown$Road;LSmallCrown$Plain;I)V"⟩, 3), (⟨"SmallCrown$Ways", "worst", "(LSmallCrown$Road;LSmallCrown$Plain;IIIII)I"⟩, 3), (⟨"SmallCrown$Ways", "costFrom", "(LSmallCrown$Road;III)I"⟩, 3), (⟨"SmallCrown$Ways", "put", "(IIII)V"⟩, 3), (⟨"SmallCrown", "firstPace", "(LSmallCrown$Plain;III)I"⟩, 13), (⟨"SmallCrown$Ways", "leastBestPace", "(LSmallCrown$Road;LSmallCrown$Plain;III)I"⟩, 3), (⟨"SmallCrown$Ways", "fillFlat", "(LSmallCrown$Road;LSmallCrown$Plain;)V"⟩, 3)]
theorem lw_r3 : ∀ q ∈ lw_privs_3, lw_okq q := List.forall_mem_cons.mpr ⟨lw_p32, List.forall_mem_cons.mpr ⟨lw_p33, List.forall_mem_cons.mpr ⟨lw_p34, List.forall_mem_cons.mpr ⟨lw_p35, List.forall_mem_cons.mpr ⟨lw_p36, List.forall_mem_cons.mpr ⟨lw_p37, List.forall_mem_cons.mpr ⟨lw_p38, List.forall_mem_cons.mpr ⟨lw_p39, List.forall_mem_cons.mpr ⟨lw_p40, List.forall_mem_cons.mpr ⟨lw_p41, List.forall_mem_cons.mpr ⟨lw_p42, List.forall_mem_cons.mpr ⟨lw_p43, List.forall_mem_cons.mpr ⟨lw_p44, List.forall_mem_cons.mpr ⟨lw_p45, List.forall_mem_cons.mpr ⟨lw_p46, List.forall_mem_cons.mpr ⟨lw_p47, fun _ h => absurd h List.not_mem_nil⟩⟩⟩⟩⟩⟩⟩⟩⟩⟩⟩⟩⟩⟩⟩⟩
theorem lw_p48 : lw_okq (⟨"SmallCrown$Ways", "fewestFlat", "(LSmallCrown$Road;LSmallCrown$Plain;IIII)I"⟩, 3) := ⟨⟨by decide +kernel, by decide +kernel⟩, List.mem_of_getElem? (i := 167) (by decide +kernel), List.mem_of_getElem? (i := 674) (by decide +kernel), List.mem_of_getElem? (i := 675) (by decide +kernel)⟩
theorem lw_p49 : lw_okq (⟨"SmallCrown$World", "addNote", "(IIII)V"⟩, 10) := ⟨⟨by decide +kernel, by decide +kernel⟩, List.mem_of_getElem? (i := 31) (by decide +kernel), List.mem_of_getElem? (i := 684) (by decide +kernel), List.mem_of_getElem? (i := 685) (by decide +kernel)⟩
theorem lw_p50 : lw_okq (⟨"SmallCrown", "kindsThatFit", "(I)I"⟩, 13) := ⟨⟨by decide +kernel, by decide +kernel⟩, List.mem_of_getElem? (i := 21) (by decide +kernel), List.mem_of_getElem? (i := 696) (by decide +kernel), List.mem_of_getElem? (i := 697) (by decide +kernel)⟩
theorem lw_p51 : lw_okq (⟨"SmallCrown$Walk", "fellIn", "(LSmallCrown$Road;)I"⟩, 8) := ⟨⟨by decide +kernel, by decide +kernel⟩, List.mem_of_getElem? (i := 63) (by decide +kernel), List.mem_of_getElem? (i := 700) (by decide +kernel), List.mem_of_getElem? (i := 701) (by decide +kernel)⟩
theorem lw_p52 : lw_okq (⟨"SmallCrown", "mostThatEndAlike", "(III)I"⟩, 13) := ⟨⟨by decide +kernel, by decide +kernel⟩, List.mem_of_getElem? (i := 21) (by decide +kernel), List.mem_of_getElem? (i := 708) (by decide +kernel), List.mem_of_getElem? (i := 709) (by decide +kernel)⟩
theorem lw_p53 : lw_okq (⟨"SmallCrown", "endOfPace", "(III)I"⟩, 13) := ⟨⟨by decide +kernel, by decide +kernel⟩, List.mem_of_getElem? (i := 21) (by decide +kernel), List.mem_of_getElem? (i := 712) (by decide +kernel), List.mem_of_getElem? (i := 713) (by decide +kernel)⟩
theorem lw_p54 : lw_okq (⟨"SmallCrown$Ways", "through", "(LSmallCrown$Road;LSmallCrown$Plain;III)J"⟩, 3) := ⟨⟨by decide +kernel, by decide +kernel⟩, List.mem_of_getElem? (i := 167) (by decide +kernel), List.mem_of_getElem? (i := 726) (by decide +kernel), List.mem_of_getElem? (i := 727) (by decide +kernel)⟩
theorem lw_p55 : lw_okq (⟨"SmallCrown$Ways", "addChance", "(LSmallCrown$Road;IJ)V"⟩, 3) := ⟨⟨by decide +kernel, by decide +kernel⟩, List.mem_of_getElem? (i := 167) (by decide +kernel), List.mem_of_getElem? (i := 730) (by decide +kernel), List.mem_of_getElem? (i := 731) (by decide +kernel)⟩
theorem lw_p56 : lw_okq (⟨"SmallCrown$Ways", "turnChances", "()V"⟩, 3) := ⟨⟨by decide +kernel, by decide +kernel⟩, List.mem_of_getElem? (i := 167) (by decide +kernel), List.mem_of_getElem? (i := 734) (by decide +kernel), List.mem_of_getElem? (i := 735) (by decide +kernel)⟩
theorem lw_p57 : lw_okq (⟨"SmallCrown$Ways", "chanceOf", "(I)J"⟩, 3) := ⟨⟨by decide +kernel, by decide +kernel⟩, List.mem_of_getElem? (i := 167) (by decide +kernel), List.mem_of_getElem? (i := 738) (by decide +kernel), List.mem_of_getElem? (i := 739) (by decide +kernel)⟩
theorem lw_p58 : lw_okq (⟨"SmallCrown$Road", "addTo", "(J)J"⟩, 4) := ⟨⟨by decide +kernel, by decide +kernel⟩, List.mem_of_getElem? (i := 37) (by decide +kernel), List.mem_of_getElem? (i := 783) (by decide +kernel), List.mem_of_getElem? (i := 784) (by decide +kernel)⟩
theorem lw_p59 : lw_okq (⟨"SmallCrown$World", "addHeadsTo", "(J)J"⟩, 10) := ⟨⟨by decide +kernel, by decide +kernel⟩, List.mem_of_getElem? (i := 31) (by decide +kernel), List.mem_of_getElem? (i := 788) (by decide +kernel), List.mem_of_getElem? (i := 789) (by decide +kernel)⟩
theorem lw_p60 : lw_okq (⟨"SmallCrown$World", "addNotesTo", "(J)J"⟩, 10) := ⟨⟨by decide +kernel, by decide +kernel⟩, List.mem_of_getElem? (i := 31) (by decide +kernel), List.mem_of_getElem? (i := 794) (by decide +kernel), List.mem_of_getElem? (i := 795) (by decide +kernel)⟩
theorem lw_p61 : lw_okq (⟨"SmallCrownModel", "bad", "(I)I"⟩, 22) := ⟨⟨by decide +kernel, by decide +kernel⟩, List.mem_of_getElem? (i := 798) (by decide +kernel), List.mem_of_getElem? (i := 887) (by decide +kernel), List.mem_of_getElem? (i := 888) (by decide +kernel)⟩
theorem lw_p62 : lw_okq (⟨"SmallCrownModel", "isCell", "(I)Z"⟩, 22) := ⟨⟨by decide +kernel, by decide +kernel⟩, List.mem_of_getElem? (i := 798) (by decide +kernel), List.mem_of_getElem? (i := 895) (by decide +kernel), List.mem_of_getElem? (i := 896) (by decide +kernel)⟩
theorem lw_p63 : lw_okq (⟨"SmallCrownModel", "fountain", "()I"⟩, 22) := ⟨⟨by decide +kernel, by decide +kernel⟩, List.mem_of_getElem? (i := 798) (by decide +kernel), List.mem_of_getElem? (i := 899) (by decide +kernel), List.mem_of_getElem? (i := 900) (by decide +kernel)⟩
def lw_privs_4 : List (MethodName × Nat) := [(⟨"SmallCrown$Ways", "fewestFlat", "(LSmallCrown$Road;LSmallCrown$Plain;IIII)I"⟩, 3), (⟨"SmallCrown$World", "addNote", "(IIII)V"⟩, 10), (⟨"SmallCrown", "kindsThatFit", "(I)I"⟩, 13), (⟨"SmallCrown$Walk", "fellIn", "(LSmallCrown$Road;)I"⟩, 8), (⟨"SmallCrown", "mostThatEndAlike", "(III)I"⟩, 13), (⟨"SmallCrown", "endOfPace", "(III)I"⟩, 13), (⟨"SmallCrown$Ways", "through", "(LSmallCrown$Road;LSmallCrown$Plain;III)J"⟩, 3), (⟨"SmallCrown$Ways", "addChance", "(LSmallCrown$Road;IJ)V"⟩, 3), (⟨"SmallCrown$Ways", "turnChances", "()V"⟩, 3), (⟨"SmallCrown$Ways", "chanceOf", "(I)J"⟩, 3), (⟨"SmallCrown$Road", "addTo", "(J)J"⟩, 4), (⟨"SmallCrown$World", "addHeadsTo", "(J)J"⟩, 10), (⟨"SmallCrown$World", "addNotesTo", "(J)J"⟩, 10), (⟨"SmallCrownModel", "bad", "(I)I"⟩, 22), (⟨"SmallCrownModel", "isCell", "(I)Z"⟩, 22), (⟨"SmallCrownModel", "fountain", "()I"⟩, 22)]
theorem lw_r4 : ∀ q ∈ lw_privs_4, lw_okq q := List.forall_mem_cons.mpr ⟨lw_p48, List.forall_mem_cons.mpr ⟨lw_p49, List.forall_mem_cons.mpr ⟨lw_p50, List.forall_mem_cons.mpr ⟨lw_p51, List.forall_mem_cons.mpr ⟨lw_p52, List.forall_mem_cons.mpr ⟨lw_p53, List.forall_mem_cons.mpr ⟨lw_p54, List.forall_mem_cons.mpr ⟨lw_p55, List.forall_mem_cons.mpr ⟨lw_p56, List.forall_mem_cons.mpr ⟨lw_p57, List.forall_mem_cons.mpr ⟨lw_p58, List.forall_mem_cons.mpr ⟨lw_p59, List.forall_mem_cons.mpr ⟨lw_p60, List.forall_mem_cons.mpr ⟨lw_p61, List.forall_mem_cons.mpr ⟨lw_p62, List.forall_mem_cons.mpr ⟨lw_p63, fun _ h => absurd h List.not_mem_nil⟩⟩⟩⟩⟩⟩⟩⟩⟩⟩⟩⟩⟩⟩⟩⟩
theorem lw_p64 : lw_okq (⟨"SmallCrownModel", "full", "()I"⟩, 22) := ⟨⟨by decide +kernel, by decide +kernel⟩, List.mem_of_getElem? (i := 798) (by decide +kernel), List.mem_of_getElem? (i := 917) (by decide +kernel), List.mem_of_getElem? (i := 918) (by decide +kernel)⟩
theorem lw_p65 : lw_okq (⟨"SmallCrownModel", "isHead", "(I)Z"⟩, 22) := ⟨⟨by decide +kernel, by decide +kernel⟩, List.mem_of_getElem? (i := 798) (by decide +kernel), List.mem_of_getElem? (i := 928) (by decide +kernel), List.mem_of_getElem? (i := 929) (by decide +kernel)⟩
theorem lw_p66 : lw_okq (⟨"SmallCrownModel", "kindOf", "(I)I"⟩, 22) := ⟨⟨by decide +kernel, by decide +kernel⟩, List.mem_of_getElem? (i := 798) (by decide +kernel), List.mem_of_getElem? (i := 932) (by decide +kernel), List.mem_of_getElem? (i := 933) (by decide +kernel)⟩
theorem lw_p67 : lw_okq (⟨"SmallCrownModel", "setOf", "(I)I"⟩, 22) := ⟨⟨by decide +kernel, by decide +kernel⟩, List.mem_of_getElem? (i := 798) (by decide +kernel), List.mem_of_getElem? (i := 936) (by decide +kernel), List.mem_of_getElem? (i := 937) (by decide +kernel)⟩
theorem lw_p68 : lw_okq (⟨"SmallCrownModel", "falls", "(I)Z"⟩, 22) := ⟨⟨by decide +kernel, by decide +kernel⟩, List.mem_of_getElem? (i := 798) (by decide +kernel), List.mem_of_getElem? (i := 944) (by decide +kernel), List.mem_of_getElem? (i := 945) (by decide +kernel)⟩
theorem lw_p69 : lw_okq (⟨"SmallCrownModel", "isWalk", "()Z"⟩, 22) := ⟨⟨by decide +kernel, by decide +kernel⟩, List.mem_of_getElem? (i := 798) (by decide +kernel), List.mem_of_getElem? (i := 955) (by decide +kernel), List.mem_of_getElem? (i := 956) (by decide +kernel)⟩
theorem lw_p70 : lw_okq (⟨"SmallCrownModel", "isThere", "()Z"⟩, 22) := ⟨⟨by decide +kernel, by decide +kernel⟩, List.mem_of_getElem? (i := 798) (by decide +kernel), List.mem_of_getElem? (i := 959) (by decide +kernel), List.mem_of_getElem? (i := 960) (by decide +kernel)⟩
theorem lw_p71 : lw_okq (⟨"SmallCrownModel", "no", "(I)I"⟩, 22) := ⟨⟨by decide +kernel, by decide +kernel⟩, List.mem_of_getElem? (i := 798) (by decide +kernel), List.mem_of_getElem? (i := 963) (by decide +kernel), List.mem_of_getElem? (i := 964) (by decide +kernel)⟩
theorem lw_p72 : lw_okq (⟨"SmallCrownModel", "keep", "()V"⟩, 22) := ⟨⟨by decide +kernel, by decide +kernel⟩, List.mem_of_getElem? (i := 798) (by decide +kernel), List.mem_of_getElem? (i := 967) (by decide +kernel), List.mem_of_getElem? (i := 968) (by decide +kernel)⟩
theorem lw_p73 : lw_okq (⟨"SmallCrownModel", "layStones", "()V"⟩, 22) := ⟨⟨by decide +kernel, by decide +kernel⟩, List.mem_of_getElem? (i := 798) (by decide +kernel), List.mem_of_getElem? (i := 971) (by decide +kernel), List.mem_of_getElem? (i := 972) (by decide +kernel)⟩
theorem lw_p74 : lw_okq (⟨"SmallCrownModel", "leanBehind", "(IIIII)I"⟩, 22) := ⟨⟨by decide +kernel, by decide +kernel⟩, List.mem_of_getElem? (i := 798) (by decide +kernel), List.mem_of_getElem? (i := 975) (by decide +kernel), List.mem_of_getElem? (i := 976) (by decide +kernel)⟩
theorem lw_p75 : lw_okq (⟨"SmallCrownModel", "cellBy", "(II)I"⟩, 22) := ⟨⟨by decide +kernel, by decide +kernel⟩, List.mem_of_getElem? (i := 798) (by decide +kernel), List.mem_of_getElem? (i := 979) (by decide +kernel), List.mem_of_getElem? (i := 980) (by decide +kernel)⟩
theorem lw_p76 : lw_okq (⟨"SmallCrownModel", "goRow", "(IIIIII)V"⟩, 22) := ⟨⟨by decide +kernel, by decide +kernel⟩, List.mem_of_getElem? (i := 798) (by decide +kernel), List.mem_of_getElem? (i := 1012) (by decide +kernel), List.mem_of_getElem? (i := 1013) (by decide +kernel)⟩
theorem lw_p77 : lw_okq (⟨"SmallCrownModel", "beginAt", "(I)V"⟩, 22) := ⟨⟨by decide +kernel, by decide +kernel⟩, List.mem_of_getElem? (i := 798) (by decide +kernel), List.mem_of_getElem? (i := 1016) (by decide +kernel), List.mem_of_getElem? (i := 1017) (by decide +kernel)⟩
theorem lw_p78 : lw_okq (⟨"SmallCrownModel", "isOver", "()Z"⟩, 22) := ⟨⟨by decide +kernel, by decide +kernel⟩, List.mem_of_getElem? (i := 798) (by decide +kernel), List.mem_of_getElem? (i := 1023) (by decide +kernel), List.mem_of_getElem? (i := 1024) (by decide +kernel)⟩
theorem lw_p79 : lw_okq (⟨"SmallCrownModel", "goStep", "(IIII)V"⟩, 22) := ⟨⟨by decide +kernel, by decide +kernel⟩, List.mem_of_getElem? (i := 798) (by decide +kernel), List.mem_of_getElem? (i := 1030) (by decide +kernel), List.mem_of_getElem? (i := 1031) (by decide +kernel)⟩
def lw_privs_5 : List (MethodName × Nat) := [(⟨"SmallCrownModel", "full", "()I"⟩, 22), (⟨"SmallCrownModel", "isHead", "(I)Z"⟩, 22), (⟨"SmallCrownModel", "kindOf", "(I)I"⟩, 22), (⟨"SmallCrownModel", "setOf", "(I)I"⟩, 22), (⟨"SmallCrownModel", "falls", "(I)Z"⟩, 22), (⟨"SmallCrownModel", "isWalk", "()Z"⟩, 22), (⟨"SmallCrownModel", "isThere", "()Z"⟩, 22), (⟨"SmallCrownModel", "no", "(I)I"⟩, 22), (⟨"SmallCrownModel", "keep", "()V"⟩, 22), (⟨"SmallCrownModel", "layStones", "()V"⟩, 22), (⟨"SmallCrownModel", "leanBehind", "(IIIII)I"⟩, 22), (⟨"SmallCrownModel", "cellBy", "(II)I"⟩, 22), (⟨"SmallCrownModel", "goRow", "(IIIIII)V"⟩, 22), (⟨"SmallCrownModel", "beginAt", "(I)V"⟩, 22), (⟨"SmallCrownModel", "isOver", "()Z"⟩, 22), (⟨"SmallCrownModel", "goStep", "(IIII)V"⟩, 22)]
theorem lw_r5 : ∀ q ∈ lw_privs_5, lw_okq q := List.forall_mem_cons.mpr ⟨lw_p64, List.forall_mem_cons.mpr ⟨lw_p65, List.forall_mem_cons.mpr ⟨lw_p66, List.forall_mem_cons.mpr ⟨lw_p67, List.forall_mem_cons.mpr ⟨lw_p68, List.forall_mem_cons.mpr ⟨lw_p69, List.forall_mem_cons.mpr ⟨lw_p70, List.forall_mem_cons.mpr ⟨lw_p71, List.forall_mem_cons.mpr ⟨lw_p72, List.forall_mem_cons.mpr ⟨lw_p73, List.forall_mem_cons.mpr ⟨lw_p74, List.forall_mem_cons.mpr ⟨lw_p75, List.forall_mem_cons.mpr ⟨lw_p76, List.forall_mem_cons.mpr ⟨lw_p77, List.forall_mem_cons.mpr ⟨lw_p78, List.forall_mem_cons.mpr ⟨lw_p79, fun _ h => absurd h List.not_mem_nil⟩⟩⟩⟩⟩⟩⟩⟩⟩⟩⟩⟩⟩⟩⟩⟩
theorem lw_p80 : lw_okq (⟨"SmallCrownModel", "layLatest", "(II)V"⟩, 22) := ⟨⟨by decide +kernel, by decide +kernel⟩, List.mem_of_getElem? (i := 798) (by decide +kernel), List.mem_of_getElem? (i := 1038) (by decide +kernel), List.mem_of_getElem? (i := 1039) (by decide +kernel)⟩
theorem lw_p81 : lw_okq (⟨"SmallCrownModel", "byPace", "(IIIIII)I"⟩, 22) := ⟨⟨by decide +kernel, by decide +kernel⟩, List.mem_of_getElem? (i := 798) (by decide +kernel), List.mem_of_getElem? (i := 1043) (by decide +kernel), List.mem_of_getElem? (i := 1044) (by decide +kernel)⟩
theorem lw_p82 : lw_okq (⟨"SmallCrownModel", "latestAt", "(III)I"⟩, 22) := ⟨⟨by decide +kernel, by decide +kernel⟩, List.mem_of_getElem? (i := 798) (by decide +kernel), List.mem_of_getElem? (i := 1047) (by decide +kernel), List.mem_of_getElem? (i := 1048) (by decide +kernel)⟩
theorem lw_p83 : lw_okq (⟨"SmallCrownModel", "throughIn", "(II)I"⟩, 22) := ⟨⟨by decide +kernel, by decide +kernel⟩, List.mem_of_getElem? (i := 798) (by decide +kernel), List.mem_of_getElem? (i := 1051) (by decide +kernel), List.mem_of_getElem? (i := 1052) (by decide +kernel)⟩
theorem lw_p84 : lw_okq (⟨"SmallCrownModel", "kindsOf", "(I)I"⟩, 22) := ⟨⟨by decide +kernel, by decide +kernel⟩, List.mem_of_getElem? (i := 798) (by decide +kernel), List.mem_of_getElem? (i := 1083) (by decide +kernel), List.mem_of_getElem? (i := 1084) (by decide +kernel)⟩
theorem lw_p85 : lw_okq (⟨"SmallCrownModel", "canBe", "(II)Z"⟩, 22) := ⟨⟨by decide +kernel, by decide +kernel⟩, List.mem_of_getElem? (i := 798) (by decide +kernel), List.mem_of_getElem? (i := 1087) (by decide +kernel), List.mem_of_getElem? (i := 1088) (by decide +kernel)⟩
theorem lw_p86 : lw_okq (⟨"SmallCrownModel", "fellIn", "()I"⟩, 22) := ⟨⟨by decide +kernel, by decide +kernel⟩, List.mem_of_getElem? (i := 798) (by decide +kernel), List.mem_of_getElem? (i := 1091) (by decide +kernel), List.mem_of_getElem? (i := 1092) (by decide +kernel)⟩
theorem lw_p87 : lw_okq (⟨"SmallCrownModel", "goCases", "(IIIII)V"⟩, 22) := ⟨⟨by decide +kernel, by decide +kernel⟩, List.mem_of_getElem? (i := 798) (by decide +kernel), List.mem_of_getElem? (i := 1108) (by decide +kernel), List.mem_of_getElem? (i := 1109) (by decide +kernel)⟩
theorem lw_p88 : lw_okq (⟨"SmallCrownModel", "fraction", "(JJ)V"⟩, 22) := ⟨⟨by decide +kernel, by decide +kernel⟩, List.mem_of_getElem? (i := 798) (by decide +kernel), List.mem_of_getElem? (i := 1112) (by decide +kernel), List.mem_of_getElem? (i := 1113) (by decide +kernel)⟩
theorem lw_p89 : lw_okq (⟨"SmallCrownModel", "lookAt", "(I)V"⟩, 22) := ⟨⟨by decide +kernel, by decide +kernel⟩, List.mem_of_getElem? (i := 798) (by decide +kernel), List.mem_of_getElem? (i := 1139) (by decide +kernel), List.mem_of_getElem? (i := 1140) (by decide +kernel)⟩
theorem lw_p90 : lw_okq (⟨"SmallCrownModel", "takesRoad", "()Z"⟩, 22) := ⟨⟨by decide +kernel, by decide +kernel⟩, List.mem_of_getElem? (i := 798) (by decide +kernel), List.mem_of_getElem? (i := 1153) (by decide +kernel), List.mem_of_getElem? (i := 1154) (by decide +kernel)⟩
theorem lw_p91 : lw_okq (⟨"SmallCrownModel", "isWord", "(IIIIIII)Z"⟩, 22) := ⟨⟨by decide +kernel, by decide +kernel⟩, List.mem_of_getElem? (i := 798) (by decide +kernel), List.mem_of_getElem? (i := 1157) (by decide +kernel), List.mem_of_getElem? (i := 1158) (by decide +kernel)⟩
theorem lw_p92 : lw_okq (⟨"SmallCrownModel", "goBehind", "()V"⟩, 22) := ⟨⟨by decide +kernel, by decide +kernel⟩, List.mem_of_getElem? (i := 798) (by decide +kernel), List.mem_of_getElem? (i := 1161) (by decide +kernel), List.mem_of_getElem? (i := 1162) (by decide +kernel)⟩
theorem lw_p93 : lw_okq (⟨"SmallCrownModel", "takes", "(III)Z"⟩, 22) := ⟨⟨by decide +kernel, by decide +kernel⟩, List.mem_of_getElem? (i := 798) (by decide +kernel), List.mem_of_getElem? (i := 1165) (by decide +kernel), List.mem_of_getElem? (i := 1166) (by decide +kernel)⟩
theorem lw_p94 : lw_okq (⟨"SmallCrownModel", "takesItem", "()Z"⟩, 22) := ⟨⟨by decide +kernel, by decide +kernel⟩, List.mem_of_getElem? (i := 798) (by decide +kernel), List.mem_of_getElem? (i := 1169) (by decide +kernel), List.mem_of_getElem? (i := 1170) (by decide +kernel)⟩
theorem lw_p95 : lw_okq (⟨"SmallCrownModel", "takesCobble", "(I)Z"⟩, 22) := ⟨⟨by decide +kernel, by decide +kernel⟩, List.mem_of_getElem? (i := 798) (by decide +kernel), List.mem_of_getElem? (i := 1173) (by decide +kernel), List.mem_of_getElem? (i := 1174) (by decide +kernel)⟩
def lw_privs_6 : List (MethodName × Nat) := [(⟨"SmallCrownModel", "layLatest", "(II)V"⟩, 22), (⟨"SmallCrownModel", "byPace", "(IIIIII)I"⟩, 22), (⟨"SmallCrownModel", "latestAt", "(III)I"⟩, 22), (⟨"SmallCrownModel", "throughIn", "(II)I"⟩, 22), (⟨"SmallCrownModel", "kindsOf", "(I)I"⟩, 22), (⟨"SmallCrownModel", "canBe", "(II)Z"⟩, 22), (⟨"SmallCrownModel", "fellIn", "()I"⟩, 22), (⟨"SmallCrownModel", "goCases", "(IIIII)V"⟩, 22), (⟨"SmallCrownModel", "fraction", "(JJ)V"⟩, 22), (⟨"SmallCrownModel", "lookAt", "(I)V"⟩, 22), (⟨"SmallCrownModel", "takesRoad", "()Z"⟩, 22), (⟨"SmallCrownModel", "isWord", "(IIIIIII)Z"⟩, 22), (⟨"SmallCrownModel", "goBehind", "()V"⟩, 22), (⟨"SmallCrownModel", "takes", "(III)Z"⟩, 22), (⟨"SmallCrownModel", "takesItem", "()Z"⟩, 22), (⟨"SmallCrownModel", "takesCobble", "(I)Z"⟩, 22)]
theorem lw_r6 : ∀ q ∈ lw_privs_6, lw_okq q := List.forall_mem_cons.mpr ⟨lw_p80, List.forall_mem_cons.mpr ⟨lw_p81, List.forall_mem_cons.mpr ⟨lw_p82, List.forall_mem_cons.mpr ⟨lw_p83, List.forall_mem_cons.mpr ⟨lw_p84, List.forall_mem_cons.mpr ⟨lw_p85, List.forall_mem_cons.mpr ⟨lw_p86, List.forall_mem_cons.mpr ⟨lw_p87, List.forall_mem_cons.mpr ⟨lw_p88, List.forall_mem_cons.mpr ⟨lw_p89, List.forall_mem_cons.mpr ⟨lw_p90, List.forall_mem_cons.mpr ⟨lw_p91, List.forall_mem_cons.mpr ⟨lw_p92, List.forall_mem_cons.mpr ⟨lw_p93, List.forall_mem_cons.mpr ⟨lw_p94, List.forall_mem_cons.mpr ⟨lw_p95, fun _ h => absurd h List.not_mem_nil⟩⟩⟩⟩⟩⟩⟩⟩⟩⟩⟩⟩⟩⟩⟩⟩
theorem lw_p96 : lw_okq (⟨"SmallCrownModel", "takesTwo", "(III)Z"⟩, 22) := ⟨⟨by decide +kernel, by decide +kernel⟩, List.mem_of_getElem? (i := 798) (by decide +kernel), List.mem_of_getElem? (i := 1177) (by decide +kernel), List.mem_of_getElem? (i := 1178) (by decide +kernel)⟩
theorem lw_p97 : lw_okq (⟨"SmallCrownModel", "takesWind", "(I)Z"⟩, 22) := ⟨⟨by decide +kernel, by decide +kernel⟩, List.mem_of_getElem? (i := 798) (by decide +kernel), List.mem_of_getElem? (i := 1181) (by decide +kernel), List.mem_of_getElem? (i := 1182) (by decide +kernel)⟩
theorem lw_p98 : lw_okq (⟨"SmallCrownModel", "takesHead", "(I)Z"⟩, 22) := ⟨⟨by decide +kernel, by decide +kernel⟩, List.mem_of_getElem? (i := 798) (by decide +kernel), List.mem_of_getElem? (i := 1185) (by decide +kernel), List.mem_of_getElem? (i := 1186) (by decide +kernel)⟩
theorem lw_p99 : lw_okq (⟨"SmallCrownModel", "counted", "(I)I"⟩, 22) := ⟨⟨by decide +kernel, by decide +kernel⟩, List.mem_of_getElem? (i := 798) (by decide +kernel), List.mem_of_getElem? (i := 1210) (by decide +kernel), List.mem_of_getElem? (i := 1211) (by decide +kernel)⟩
theorem lw_p100 : lw_okq (⟨"SmallCrownModel", "sums", "(JII)J"⟩, 22) := ⟨⟨by decide +kernel, by decide +kernel⟩, List.mem_of_getElem? (i := 798) (by decide +kernel), List.mem_of_getElem? (i := 1220) (by decide +kernel), List.mem_of_getElem? (i := 1221) (by decide +kernel)⟩
def lw_privs_7 : List (MethodName × Nat) := [(⟨"SmallCrownModel", "takesTwo", "(III)Z"⟩, 22), (⟨"SmallCrownModel", "takesWind", "(I)Z"⟩, 22), (⟨"SmallCrownModel", "takesHead", "(I)Z"⟩, 22), (⟨"SmallCrownModel", "counted", "(I)I"⟩, 22), (⟨"SmallCrownModel", "sums", "(JII)J"⟩, 22)]
theorem lw_r7 : ∀ q ∈ lw_privs_7, lw_okq q := List.forall_mem_cons.mpr ⟨lw_p96, List.forall_mem_cons.mpr ⟨lw_p97, List.forall_mem_cons.mpr ⟨lw_p98, List.forall_mem_cons.mpr ⟨lw_p99, List.forall_mem_cons.mpr ⟨lw_p100, fun _ h => absurd h List.not_mem_nil⟩⟩⟩⟩⟩
def lw_privs : List (MethodName × Nat) := lw_privs_1 ++ (lw_privs_2 ++ (lw_privs_3 ++ (lw_privs_4 ++ (lw_privs_5 ++ (lw_privs_6 ++ (lw_privs_7))))))
def lw_tbl : List Cond := k2_sels lw_privs ++ tables_1
theorem lw_privs_ok : ∀ q ∈ lw_privs, lw_okq q := by
  show ∀ q ∈ lw_privs_1 ++ (lw_privs_2 ++ (lw_privs_3 ++ (lw_privs_4 ++ (lw_privs_5 ++ (lw_privs_6 ++ (lw_privs_7)))))), lw_okq q
  exact List.forall_mem_append.mpr ⟨lw_r1, List.forall_mem_append.mpr ⟨lw_r2, List.forall_mem_append.mpr ⟨lw_r3, List.forall_mem_append.mpr ⟨lw_r4, List.forall_mem_append.mpr ⟨lw_r5, List.forall_mem_append.mpr ⟨lw_r6, lw_r7⟩⟩⟩⟩⟩⟩
end
section
/-! ===== BEGIN printed: names, fields, word lists, decode rows ===== -/
def RX0 : String := "SmallCrown$Bowed"
def TX0 : u_T := fun k => match k with
  | _ => ("", "", "", false)
def tyX0 : Nat → FieldType := fun k => match k with
  | _ => .int
abbrev wsX00 : List Cond := u_ws RX0 TX0 0
theorem nmX0 : ∀ a, a < 0 → ∀ b, b < 0 → a ≠ b → (TX0 a).2.1 ≠ (TX0 b).2.1 := by decide +kernel
theorem tyX0_ok : ∀ k, k < 0 → parseFieldDescriptor (TX0 k).2.2.1 = some (tyX0 k) := by decide +kernel
abbrev cX0_init : ByteArray := prog_2_method_1_code
def yX0_init : MethodName := ⟨RX0, "<init>", "()V"⟩
abbrev cX0_leanBehind : ByteArray := prog_2_method_2_code
def yX0_leanBehind : MethodName := ⟨RX0, "leanBehind", "(IIII)I"⟩
def RX1 : String := "SmallCrown$Bred"
def TX1 : u_T := fun k => match k with
  | _ => ("", "", "", false)
def tyX1 : Nat → FieldType := fun k => match k with
  | _ => .int
abbrev wsX10 : List Cond := u_ws RX1 TX1 0
theorem nmX1 : ∀ a, a < 0 → ∀ b, b < 0 → a ≠ b → (TX1 a).2.1 ≠ (TX1 b).2.1 := by decide +kernel
theorem tyX1_ok : ∀ k, k < 0 → parseFieldDescriptor (TX1 k).2.2.1 = some (tyX1 k) := by decide +kernel
abbrev cX1_init : ByteArray := prog_3_method_1_code
def yX1_init : MethodName := ⟨RX1, "<init>", "()V"⟩
abbrev cX1_leanBehind : ByteArray := prog_3_method_2_code
def yX1_leanBehind : MethodName := ⟨RX1, "leanBehind", "(IIII)I"⟩
def RX2 : String := "SmallCrown$Nodder"
def TX2 : u_T := fun k => match k with
  | _ => ("", "", "", false)
def tyX2 : Nat → FieldType := fun k => match k with
  | _ => .int
abbrev wsX20 : List Cond := u_ws RX2 TX2 0
theorem nmX2 : ∀ a, a < 0 → ∀ b, b < 0 → a ≠ b → (TX2 a).2.1 ≠ (TX2 b).2.1 := by decide +kernel
theorem tyX2_ok : ∀ k, k < 0 → parseFieldDescriptor (TX2 k).2.2.1 = some (tyX2 k) := by decide +kernel
abbrev cX2_init : ByteArray := prog_4_method_1_code
def yX2_init : MethodName := ⟨RX2, "<init>", "()V"⟩
abbrev cX2_leanBehind : ByteArray := prog_4_method_2_code
def yX2_leanBehind : MethodName := ⟨RX2, "leanBehind", "(IIII)I"⟩
def RX3 : String := "SmallCrown$Plain"
def TX3 : u_T := fun k => match k with
  | _ => ("", "", "", false)
def tyX3 : Nat → FieldType := fun k => match k with
  | _ => .int
abbrev wsX30 : List Cond := u_ws RX3 TX3 0
theorem nmX3 : ∀ a, a < 0 → ∀ b, b < 0 → a ≠ b → (TX3 a).2.1 ≠ (TX3 b).2.1 := by decide +kernel
theorem tyX3_ok : ∀ k, k < 0 → parseFieldDescriptor (TX3 k).2.2.1 = some (tyX3 k) := by decide +kernel
abbrev cX3_init : ByteArray := prog_5_method_1_code
def yX3_init : MethodName := ⟨RX3, "<init>", "()V"⟩
abbrev cX3_leanBehind : ByteArray := prog_5_method_2_code
def yX3_leanBehind : MethodName := ⟨RX3, "leanBehind", "(IIII)I"⟩
def RX4 : String := "SmallCrown$Reader"
def TX4 : u_T := fun k => match k with
  | 0 => ("SmallCrown$Reader", "text", "[I", true)
  | 1 => ("SmallCrown$Reader", "length", "I", false)
  | 2 => ("SmallCrown$Reader", "sort", "I", false)
  | 3 => ("SmallCrown$Reader", "start", "I", false)
  | _ => ("SmallCrown$Reader", "end", "I", false)
def tyX4 : Nat → FieldType := fun k => match k with
  | 0 => .array .int
  | 1 => .int
  | 2 => .int
  | 3 => .int
  | _ => .int
abbrev wsX40 : List Cond := u_ws RX4 TX4 5
theorem nmX4 : ∀ a, a < 5 → ∀ b, b < 5 → a ≠ b → (TX4 a).2.1 ≠ (TX4 b).2.1 := by decide +kernel
theorem tyX4_ok : ∀ k, k < 5 → parseFieldDescriptor (TX4 k).2.2.1 = some (tyX4 k) := by decide +kernel
abbrev cX4_init : ByteArray := prog_6_method_1_code
def yX4_init : MethodName := ⟨RX4, "<init>", "()V"⟩
abbrev cX4_add : ByteArray := prog_6_method_2_code
def yX4_add : MethodName := ⟨RX4, "add", "(I)V"⟩
abbrev cX4_tell : ByteArray := prog_6_method_3_code
def yX4_tell : MethodName := ⟨RX4, "tell", "(LSmallCrown$World;)I"⟩
abbrev cX4_tellRoad : ByteArray := prog_6_method_4_code
def yX4_tellRoad : MethodName := ⟨RX4, "tellRoad", "(LSmallCrown$World;)Z"⟩
abbrev cX4_tellItem : ByteArray := prog_6_method_5_code
def yX4_tellItem : MethodName := ⟨RX4, "tellItem", "(LSmallCrown$World;)Z"⟩
abbrev cX4_tellCobble : ByteArray := prog_6_method_6_code
def yX4_tellCobble : MethodName := ⟨RX4, "tellCobble", "(LSmallCrown$World;I)Z"⟩
abbrev cX4_tellWind : ByteArray := prog_6_method_7_code
def yX4_tellWind : MethodName := ⟨RX4, "tellWind", "(LSmallCrown$World;I)Z"⟩
abbrev cX4_tellHead : ByteArray := prog_6_method_8_code
def yX4_tellHead : MethodName := ⟨RX4, "tellHead", "(LSmallCrown$World;I)Z"⟩
abbrev cX4_nextNumber : ByteArray := prog_6_method_9_code
def yX4_nextNumber : MethodName := ⟨RX4, "nextNumber", "(II)I"⟩
abbrev cX4_nextIsEnd : ByteArray := prog_6_method_10_code
def yX4_nextIsEnd : MethodName := ⟨RX4, "nextIsEnd", "()Z"⟩
abbrev cX4_isWord : ByteArray := prog_6_method_11_code
def yX4_isWord : MethodName := ⟨RX4, "isWord", "(Ljava/lang/String;)Z"⟩
abbrev cX4_nextToken : ByteArray := prog_6_method_12_code
def yX4_nextToken : MethodName := ⟨RX4, "nextToken", "()V"⟩
abbrev cX4_sortOf : ByteArray := prog_6_method_13_code
def yX4_sortOf : MethodName := ⟨RX4, "sortOf", "(I)I"⟩
abbrev cX4_byteAt : ByteArray := prog_6_method_14_code
def yX4_byteAt : MethodName := ⟨RX4, "byteAt", "(I)I"⟩
def RX5 : String := "SmallCrown$Road"
def TX5 : u_T := fun k => match k with
  | 0 => ("SmallCrown$Road", "length", "I", false)
  | 1 => ("SmallCrown$Road", "hold", "I", false)
  | 2 => ("SmallCrown$Road", "cobbles", "[I", true)
  | _ => ("SmallCrown$Road", "winds", "[I", true)
def tyX5 : Nat → FieldType := fun k => match k with
  | 0 => .int
  | 1 => .int
  | 2 => .array .int
  | _ => .array .int
abbrev wsX50 : List Cond := u_ws RX5 TX5 4
theorem nmX5 : ∀ a, a < 4 → ∀ b, b < 4 → a ≠ b → (TX5 a).2.1 ≠ (TX5 b).2.1 := by decide +kernel
theorem tyX5_ok : ∀ k, k < 4 → parseFieldDescriptor (TX5 k).2.2.1 = some (tyX5 k) := by decide +kernel
abbrev cX5_init : ByteArray := prog_7_method_1_code
def yX5_init : MethodName := ⟨RX5, "<init>", "()V"⟩
abbrev cX5_beginAnew : ByteArray := prog_7_method_2_code
def yX5_beginAnew : MethodName := ⟨RX5, "beginAnew", "(II)V"⟩
abbrev cX5_copyFrom : ByteArray := prog_7_method_3_code
def yX5_copyFrom : MethodName := ⟨RX5, "copyFrom", "(LSmallCrown$Road;)V"⟩
abbrev cX5_cobbleOf : ByteArray := prog_7_method_4_code
def yX5_cobbleOf : MethodName := ⟨RX5, "cobbleOf", "(I)I"⟩
abbrev cX5_layCobble : ByteArray := prog_7_method_5_code
def yX5_layCobble : MethodName := ⟨RX5, "layCobble", "(II)V"⟩
abbrev cX5_windIn : ByteArray := prog_7_method_6_code
def yX5_windIn : MethodName := ⟨RX5, "windIn", "(I)I"⟩
abbrev cX5_setWind : ByteArray := prog_7_method_7_code
def yX5_setWind : MethodName := ⟨RX5, "setWind", "(II)V"⟩
abbrev cX5_cellBehind : ByteArray := prog_7_method_8_code
def yX5_cellBehind : MethodName := ⟨RX5, "cellBehind", "(II)I"⟩
abbrev cX5_fells : ByteArray := prog_7_method_9_code
def yX5_fells : MethodName := ⟨RX5, "fells", "(I)Z"⟩
abbrev cX5_addTo : ByteArray := prog_7_method_10_code
def yX5_addTo : MethodName := ⟨RX5, "addTo", "(J)J"⟩
def RX6 : String := "SmallCrown$ShortStep"
def TX6 : u_T := fun k => match k with
  | _ => ("", "", "", false)
def tyX6 : Nat → FieldType := fun k => match k with
  | _ => .int
abbrev wsX60 : List Cond := u_ws RX6 TX6 0
theorem nmX6 : ∀ a, a < 0 → ∀ b, b < 0 → a ≠ b → (TX6 a).2.1 ≠ (TX6 b).2.1 := by decide +kernel
theorem tyX6_ok : ∀ k, k < 0 → parseFieldDescriptor (TX6 k).2.2.1 = some (tyX6 k) := by decide +kernel
abbrev cX6_init : ByteArray := prog_8_method_1_code
def yX6_init : MethodName := ⟨RX6, "<init>", "()V"⟩
abbrev cX6_leanBehind : ByteArray := prog_8_method_2_code
def yX6_leanBehind : MethodName := ⟨RX6, "leanBehind", "(IIII)I"⟩
def RX7 : String := "SmallCrown$Stiff"
def TX7 : u_T := fun k => match k with
  | _ => ("", "", "", false)
def tyX7 : Nat → FieldType := fun k => match k with
  | _ => .int
abbrev wsX70 : List Cond := u_ws RX7 TX7 0
theorem nmX7 : ∀ a, a < 0 → ∀ b, b < 0 → a ≠ b → (TX7 a).2.1 ≠ (TX7 b).2.1 := by decide +kernel
theorem tyX7_ok : ∀ k, k < 0 → parseFieldDescriptor (TX7 k).2.2.1 = some (tyX7 k) := by decide +kernel
abbrev cX7_init : ByteArray := prog_9_method_1_code
def yX7_init : MethodName := ⟨RX7, "<init>", "()V"⟩
abbrev cX7_leanBehind : ByteArray := prog_9_method_2_code
def yX7_leanBehind : MethodName := ⟨RX7, "leanBehind", "(IIII)I"⟩
def RX8 : String := "SmallCrown$Walk"
def TX8 : u_T := fun k => match k with
  | 0 => ("SmallCrown$Walk", "head", "I", false)
  | 1 => ("SmallCrown$Walk", "cell", "I", false)
  | 2 => ("SmallCrown$Walk", "step", "I", false)
  | 3 => ("SmallCrown$Walk", "lean", "I", false)
  | 4 => ("SmallCrown$Walk", "kept", "I", false)
  | 5 => ("SmallCrown$Walk", "keptCells", "[I", true)
  | 6 => ("SmallCrown$Walk", "keptSteps", "[I", true)
  | _ => ("SmallCrown$Walk", "keptLeans", "[I", true)
def tyX8 : Nat → FieldType := fun k => match k with
  | 0 => .int
  | 1 => .int
  | 2 => .int
  | 3 => .int
  | 4 => .int
  | 5 => .array .int
  | 6 => .array .int
  | _ => .array .int
abbrev wsX80 : List Cond := u_ws RX8 TX8 8
theorem nmX8 : ∀ a, a < 8 → ∀ b, b < 8 → a ≠ b → (TX8 a).2.1 ≠ (TX8 b).2.1 := by decide +kernel
theorem tyX8_ok : ∀ k, k < 8 → parseFieldDescriptor (TX8 k).2.2.1 = some (tyX8 k) := by decide +kernel
abbrev cX8_init : ByteArray := prog_10_method_1_code
def yX8_init : MethodName := ⟨RX8, "<init>", "()V"⟩
abbrev cX8_begin : ByteArray := prog_10_method_2_code
def yX8_begin : MethodName := ⟨RX8, "begin", "(III)V"⟩
abbrev cX8_copyFrom : ByteArray := prog_10_method_3_code
def yX8_copyFrom : MethodName := ⟨RX8, "copyFrom", "(LSmallCrown$Walk;)V"⟩
abbrev cX8_isFallen : ByteArray := prog_10_method_4_code
def yX8_isFallen : MethodName := ⟨RX8, "isFallen", "(LSmallCrown$Road;)Z"⟩
abbrev cX8_isThrough : ByteArray := prog_10_method_5_code
def yX8_isThrough : MethodName := ⟨RX8, "isThrough", "(LSmallCrown$Road;)Z"⟩
abbrev cX8_isOver : ByteArray := prog_10_method_6_code
def yX8_isOver : MethodName := ⟨RX8, "isOver", "(LSmallCrown$Road;)Z"⟩
abbrev cX8_fellIn : ByteArray := prog_10_method_7_code
def yX8_fellIn : MethodName := ⟨RX8, "fellIn", "(LSmallCrown$Road;)I"⟩
abbrev cX8_go : ByteArray := prog_10_method_8_code
def yX8_go : MethodName := ⟨RX8, "go", "(LSmallCrown$Road;LSmallCrown$Plain;II)V"⟩
abbrev cX8_keep : ByteArray := prog_10_method_9_code
def yX8_keep : MethodName := ⟨RX8, "keep", "()V"⟩
abbrev cX8_dropOldest : ByteArray := prog_10_method_10_code
def yX8_dropOldest : MethodName := ⟨RX8, "dropOldest", "()V"⟩
abbrev cX8_takeBack : ByteArray := prog_10_method_11_code
def yX8_takeBack : MethodName := ⟨RX8, "takeBack", "()V"⟩
def RX9 : String := "SmallCrown$Ways"
def TX9 : u_T := fun k => match k with
  | 0 => ("SmallCrown$Ways", "costs", "[I", true)
  | 1 => ("SmallCrown$Ways", "chances", "[J", true)
  | _ => ("SmallCrown$Ways", "nextChances", "[J", true)
def tyX9 : Nat → FieldType := fun k => match k with
  | 0 => .array .int
  | 1 => .array .long
  | _ => .array .long
abbrev wsX90 : List Cond := u_ws RX9 TX9 3
theorem nmX9 : ∀ a, a < 3 → ∀ b, b < 3 → a ≠ b → (TX9 a).2.1 ≠ (TX9 b).2.1 := by decide +kernel
theorem tyX9_ok : ∀ k, k < 3 → parseFieldDescriptor (TX9 k).2.2.1 = some (tyX9 k) := by decide +kernel
abbrev cX9_init : ByteArray := prog_11_method_1_code
def yX9_init : MethodName := ⟨RX9, "<init>", "()V"⟩
abbrev cX9_costFrom : ByteArray := prog_11_method_2_code
def yX9_costFrom : MethodName := ⟨RX9, "costFrom", "(LSmallCrown$Road;III)I"⟩
abbrev cX9_put : ByteArray := prog_11_method_3_code
def yX9_put : MethodName := ⟨RX9, "put", "(IIII)V"⟩
abbrev cX9_placeOf : ByteArray := prog_11_method_4_code
def yX9_placeOf : MethodName := ⟨RX9, "placeOf", "(III)I"⟩
abbrev cX9_fillSure : ByteArray := prog_11_method_5_code
def yX9_fillSure : MethodName := ⟨RX9, "fillSure", "(LSmallCrown$Road;LSmallCrown$Plain;I)V"⟩
abbrev cX9_worst : ByteArray := prog_11_method_6_code
def yX9_worst : MethodName := ⟨RX9, "worst", "(LSmallCrown$Road;LSmallCrown$Plain;IIIII)I"⟩
abbrev cX9_leastBestPace : ByteArray := prog_11_method_7_code
def yX9_leastBestPace : MethodName := ⟨RX9, "leastBestPace", "(LSmallCrown$Road;LSmallCrown$Plain;III)I"⟩
abbrev cX9_fillFlat : ByteArray := prog_11_method_8_code
def yX9_fillFlat : MethodName := ⟨RX9, "fillFlat", "(LSmallCrown$Road;LSmallCrown$Plain;)V"⟩
abbrev cX9_fewestFlat : ByteArray := prog_11_method_9_code
def yX9_fewestFlat : MethodName := ⟨RX9, "fewestFlat", "(LSmallCrown$Road;LSmallCrown$Plain;IIII)I"⟩
abbrev cX9_through : ByteArray := prog_11_method_10_code
def yX9_through : MethodName := ⟨RX9, "through", "(LSmallCrown$Road;LSmallCrown$Plain;III)J"⟩
abbrev cX9_turnChances : ByteArray := prog_11_method_11_code
def yX9_turnChances : MethodName := ⟨RX9, "turnChances", "()V"⟩
abbrev cX9_chanceOf : ByteArray := prog_11_method_12_code
def yX9_chanceOf : MethodName := ⟨RX9, "chanceOf", "(I)J"⟩
abbrev cX9_addChance : ByteArray := prog_11_method_13_code
def yX9_addChance : MethodName := ⟨RX9, "addChance", "(LSmallCrown$Road;IJ)V"⟩
def RX10 : String := "SmallCrown$World"
def TX10 : u_T := fun k => match k with
  | 0 => ("SmallCrown$World", "road", "LSmallCrown$Road;", true)
  | 1 => ("SmallCrown$World", "walk", "LSmallCrown$Walk;", true)
  | 2 => ("SmallCrown$World", "heads", "I", false)
  | 3 => ("SmallCrown$World", "headKinds", "[I", true)
  | 4 => ("SmallCrown$World", "headSets", "[I", true)
  | 5 => ("SmallCrown$World", "notes", "I", false)
  | 6 => ("SmallCrown$World", "noteHeads", "[I", true)
  | 7 => ("SmallCrown$World", "noteSteps", "[I", true)
  | 8 => ("SmallCrown$World", "noteRows", "[I", true)
  | _ => ("SmallCrown$World", "noteCells", "[I", true)
def tyX10 : Nat → FieldType := fun k => match k with
  | 0 => .object "SmallCrown$Road"
  | 1 => .object "SmallCrown$Walk"
  | 2 => .int
  | 3 => .array .int
  | 4 => .array .int
  | 5 => .int
  | 6 => .array .int
  | 7 => .array .int
  | 8 => .array .int
  | _ => .array .int
abbrev wsX100 : List Cond := u_ws RX10 TX10 10
theorem nmX10 : ∀ a, a < 10 → ∀ b, b < 10 → a ≠ b → (TX10 a).2.1 ≠ (TX10 b).2.1 := by decide +kernel
theorem tyX10_ok : ∀ k, k < 10 → parseFieldDescriptor (TX10 k).2.2.1 = some (tyX10 k) := by decide +kernel
abbrev cX10_init : ByteArray := prog_12_method_1_code
def yX10_init : MethodName := ⟨RX10, "<init>", "()V"⟩
abbrev cX10_beginAnew : ByteArray := prog_12_method_2_code
def yX10_beginAnew : MethodName := ⟨RX10, "beginAnew", "(II)V"⟩
abbrev cX10_copyFrom : ByteArray := prog_12_method_3_code
def yX10_copyFrom : MethodName := ⟨RX10, "copyFrom", "(LSmallCrown$World;)V"⟩
abbrev cX10_addHead : ByteArray := prog_12_method_4_code
def yX10_addHead : MethodName := ⟨RX10, "addHead", "(II)V"⟩
abbrev cX10_kindOf : ByteArray := prog_12_method_5_code
def yX10_kindOf : MethodName := ⟨RX10, "kindOf", "(I)I"⟩
abbrev cX10_setOf : ByteArray := prog_12_method_6_code
def yX10_setOf : MethodName := ⟨RX10, "setOf", "(I)I"⟩
abbrev cX10_addNote : ByteArray := prog_12_method_7_code
def yX10_addNote : MethodName := ⟨RX10, "addNote", "(IIII)V"⟩
abbrev cX10_addHeadsTo : ByteArray := prog_12_method_8_code
def yX10_addHeadsTo : MethodName := ⟨RX10, "addHeadsTo", "(J)J"⟩
abbrev cX10_addNotesTo : ByteArray := prog_12_method_9_code
def yX10_addNotesTo : MethodName := ⟨RX10, "addNotesTo", "(J)J"⟩
def RX11 : String := "SmallCrown"
def TX11 : u_T := fun k => match k with
  | 0 => ("SmallCrown", "kinds", "[LSmallCrown$Plain;", true)
  | 1 => ("SmallCrown", "world", "LSmallCrown$World;", true)
  | 2 => ("SmallCrown", "draft", "LSmallCrown$World;", true)
  | 3 => ("SmallCrown", "images", "[LSmallCrown$World;", true)
  | 4 => ("SmallCrown", "reader", "LSmallCrown$Reader;", true)
  | 5 => ("SmallCrown", "trial", "LSmallCrown$Walk;", true)
  | 6 => ("SmallCrown", "ways", "LSmallCrown$Ways;", true)
  | 7 => ("SmallCrown", "ends", "[I", true)
  | 8 => ("SmallCrown", "above", "J", false)
  | 9 => ("SmallCrown", "below", "J", false)
  | 10 => ("SmallCrown", "refusedBad", "I", false)
  | 11 => ("SmallCrown", "refusedNo", "I", false)
  | _ => ("SmallCrown", "refusedFull", "I", false)
def tyX11 : Nat → FieldType := fun k => match k with
  | 0 => .array (.object "SmallCrown$Plain")
  | 1 => .object "SmallCrown$World"
  | 2 => .object "SmallCrown$World"
  | 3 => .array (.object "SmallCrown$World")
  | 4 => .object "SmallCrown$Reader"
  | 5 => .object "SmallCrown$Walk"
  | 6 => .object "SmallCrown$Ways"
  | 7 => .array .int
  | 8 => .long
  | 9 => .long
  | 10 => .int
  | 11 => .int
  | _ => .int
abbrev wsX110 : List Cond := u_ws RX11 TX11 13
theorem nmX11 : ∀ a, a < 13 → ∀ b, b < 13 → a ≠ b → (TX11 a).2.1 ≠ (TX11 b).2.1 := by decide +kernel
theorem tyX11_ok : ∀ k, k < 13 → parseFieldDescriptor (TX11 k).2.2.1 = some (tyX11 k) := by decide +kernel
abbrev cX11_init : ByteArray := prog_1_method_1_code
def yX11_init : MethodName := ⟨RX11, "<init>", "()V"⟩
abbrev cX11_road : ByteArray := prog_1_method_2_code
def yX11_road : MethodName := ⟨RX11, "road", "(II)I"⟩
abbrev cX11_cobble : ByteArray := prog_1_method_3_code
def yX11_cobble : MethodName := ⟨RX11, "cobble", "(II)I"⟩
abbrev cX11_wind : ByteArray := prog_1_method_4_code
def yX11_wind : MethodName := ⟨RX11, "wind", "(II)I"⟩
abbrev cX11_head : ByteArray := prog_1_method_5_code
def yX11_head : MethodName := ⟨RX11, "head", "(II)I"⟩
abbrev cX11_type : ByteArray := prog_1_method_6_code
def yX11_type : MethodName := ⟨RX11, "type", "(I)I"⟩
abbrev cX11_clear : ByteArray := prog_1_method_7_code
def yX11_clear : MethodName := ⟨RX11, "clear", "()I"⟩
abbrev cX11_read : ByteArray := prog_1_method_8_code
def yX11_read : MethodName := ⟨RX11, "read", "()I"⟩
abbrev cX11_walk : ByteArray := prog_1_method_9_code
def yX11_walk : MethodName := ⟨RX11, "walk", "(I)I"⟩
abbrev cX11_step : ByteArray := prog_1_method_10_code
def yX11_step : MethodName := ⟨RX11, "step", "(I)I"⟩
abbrev cX11_hand : ByteArray := prog_1_method_11_code
def yX11_hand : MethodName := ⟨RX11, "hand", "()I"⟩
abbrev cX11_undo : ByteArray := prog_1_method_12_code
def yX11_undo : MethodName := ⟨RX11, "undo", "()I"⟩
abbrev cX11_of : ByteArray := prog_1_method_13_code
def yX11_of : MethodName := ⟨RX11, "of", "(II)I"⟩
abbrev cX11_now : ByteArray := prog_1_method_14_code
def yX11_now : MethodName := ⟨RX11, "now", "(I)I"⟩
abbrev cX11_paces : ByteArray := prog_1_method_15_code
def yX11_paces : MethodName := ⟨RX11, "paces", "(IIII)I"⟩
abbrev cX11_soonest : ByteArray := prog_1_method_16_code
def yX11_soonest : MethodName := ⟨RX11, "soonest", "(III)I"⟩
abbrev cX11_hour : ByteArray := prog_1_method_17_code
def yX11_hour : MethodName := ⟨RX11, "hour", "(I)I"⟩
abbrev cX11_sure : ByteArray := prog_1_method_18_code
def yX11_sure : MethodName := ⟨RX11, "sure", "(III)I"⟩
abbrev cX11_flat : ByteArray := prog_1_method_19_code
def yX11_flat : MethodName := ⟨RX11, "flat", "(II)I"⟩
abbrev cX11_note : ByteArray := prog_1_method_20_code
def yX11_note : MethodName := ⟨RX11, "note", "(IIII)I"⟩
abbrev cX11_forget : ByteArray := prog_1_method_21_code
def yX11_forget : MethodName := ⟨RX11, "forget", "()I"⟩
abbrev cX11_is : ByteArray := prog_1_method_22_code
def yX11_is : MethodName := ⟨RX11, "is", "(I)I"⟩
abbrev cX11_bowl : ByteArray := prog_1_method_23_code
def yX11_bowl : MethodName := ⟨RX11, "bowl", "(I)I"⟩
abbrev cX11_bowed : ByteArray := prog_1_method_24_code
def yX11_bowed : MethodName := ⟨RX11, "bowed", "(IIIII)I"⟩
abbrev cX11_pigeons : ByteArray := prog_1_method_25_code
def yX11_pigeons : MethodName := ⟨RX11, "pigeons", "(III)I"⟩
abbrev cX11_crowned : ByteArray := prog_1_method_26_code
def yX11_crowned : MethodName := ⟨RX11, "crowned", "(III)I"⟩
abbrev cX11_part : ByteArray := prog_1_method_27_code
def yX11_part : MethodName := ⟨RX11, "part", "(I)J"⟩
abbrev cX11_image : ByteArray := prog_1_method_28_code
def yX11_image : MethodName := ⟨RX11, "image", "(I)I"⟩
abbrev cX11_from : ByteArray := prog_1_method_29_code
def yX11_from : MethodName := ⟨RX11, "from", "(I)I"⟩
abbrev cX11_status : ByteArray := prog_1_method_30_code
def yX11_status : MethodName := ⟨RX11, "status", "(I)I"⟩
abbrev cX11_count : ByteArray := prog_1_method_31_code
def yX11_count : MethodName := ⟨RX11, "count", "(I)I"⟩
abbrev cX11_digest : ByteArray := prog_1_method_32_code
def yX11_digest : MethodName := ⟨RX11, "digest", "()J"⟩
abbrev cX11_bad : ByteArray := prog_1_method_33_code
def yX11_bad : MethodName := ⟨RX11, "bad", "(I)I"⟩
abbrev cX11_no : ByteArray := prog_1_method_34_code
def yX11_no : MethodName := ⟨RX11, "no", "(I)I"⟩
abbrev cX11_full : ByteArray := prog_1_method_35_code
def yX11_full : MethodName := ⟨RX11, "full", "()I"⟩
abbrev cX11_within : ByteArray := prog_1_method_36_code
def yX11_within : MethodName := ⟨RX11, "within", "(III)Z"⟩
abbrev cX11_bit : ByteArray := prog_1_method_37_code
def yX11_bit : MethodName := ⟨RX11, "bit", "(Z)I"⟩
abbrev cX11_isHead : ByteArray := prog_1_method_38_code
def yX11_isHead : MethodName := ⟨RX11, "isHead", "(I)Z"⟩
abbrev cX11_isCell : ByteArray := prog_1_method_39_code
def yX11_isCell : MethodName := ⟨RX11, "isCell", "(I)Z"⟩
abbrev cX11_isStep : ByteArray := prog_1_method_40_code
def yX11_isStep : MethodName := ⟨RX11, "isStep", "(I)Z"⟩
abbrev cX11_kind : ByteArray := prog_1_method_41_code
def yX11_kind : MethodName := ⟨RX11, "kind", "(I)LSmallCrown$Plain;"⟩
abbrev cX11_isRow : ByteArray := prog_1_method_42_code
def yX11_isRow : MethodName := ⟨RX11, "isRow", "(I)Z"⟩
abbrev cX11_figuresOf : ByteArray := prog_1_method_43_code
def yX11_figuresOf : MethodName := ⟨RX11, "figuresOf", "(I)I"⟩
abbrev cX11_paceOf : ByteArray := prog_1_method_44_code
def yX11_paceOf : MethodName := ⟨RX11, "paceOf", "(II)I"⟩
abbrev cX11_tryRow : ByteArray := prog_1_method_45_code
def yX11_tryRow : MethodName := ⟨RX11, "tryRow", "(IIIIII)V"⟩
abbrev cX11_firstPace : ByteArray := prog_1_method_46_code
def yX11_firstPace : MethodName := ⟨RX11, "firstPace", "(LSmallCrown$Plain;III)I"⟩
abbrev cX11_kindsThatFit : ByteArray := prog_1_method_47_code
def yX11_kindsThatFit : MethodName := ⟨RX11, "kindsThatFit", "(I)I"⟩
abbrev cX11_mostThatEndAlike : ByteArray := prog_1_method_48_code
def yX11_mostThatEndAlike : MethodName := ⟨RX11, "mostThatEndAlike", "(III)I"⟩
abbrev cX11_endOfPace : ByteArray := prog_1_method_49_code
def yX11_endOfPace : MethodName := ⟨RX11, "endOfPace", "(III)I"⟩
abbrev cX11_commonDivisor : ByteArray := prog_1_method_50_code
def yX11_commonDivisor : MethodName := ⟨RX11, "commonDivisor", "(JJ)J"⟩
def RX12 : String := "SmallCrownModel"
def TX12 : u_T := fun k => match k with
  | 0 => ("SmallCrownModel", "now", "[I", true)
  | 1 => ("SmallCrownModel", "kept", "[I", true)
  | 2 => ("SmallCrownModel", "isKept", "[Z", true)
  | 3 => ("SmallCrownModel", "refused", "[I", true)
  | 4 => ("SmallCrownModel", "above", "J", false)
  | 5 => ("SmallCrownModel", "below", "J", false)
  | 6 => ("SmallCrownModel", "stones", "[I", true)
  | 7 => ("SmallCrownModel", "at", "I", false)
  | 8 => ("SmallCrownModel", "leaning", "I", false)
  | 9 => ("SmallCrownModel", "steps", "I", false)
  | 10 => ("SmallCrownModel", "latest", "[I", true)
  | 11 => ("SmallCrownModel", "ends", "[I", true)
  | 12 => ("SmallCrownModel", "cases", "[J", true)
  | 13 => ("SmallCrownModel", "casesThen", "[J", true)
  | 14 => ("SmallCrownModel", "bytes", "[I", true)
  | 15 => ("SmallCrownModel", "bytesLong", "I", false)
  | 16 => ("SmallCrownModel", "tokenAt", "I", false)
  | 17 => ("SmallCrownModel", "tokenLong", "I", false)
  | 18 => ("SmallCrownModel", "token", "I", false)
  | 19 => ("SmallCrownModel", "value", "I", false)
  | 20 => ("SmallCrownModel", "anew", "[I", true)
  | _ => ("SmallCrownModel", "values", "[I", true)
def tyX12 : Nat → FieldType := fun k => match k with
  | 0 => .array .int
  | 1 => .array .int
  | 2 => .array .boolean
  | 3 => .array .int
  | 4 => .long
  | 5 => .long
  | 6 => .array .int
  | 7 => .int
  | 8 => .int
  | 9 => .int
  | 10 => .array .int
  | 11 => .array .int
  | 12 => .array .long
  | 13 => .array .long
  | 14 => .array .int
  | 15 => .int
  | 16 => .int
  | 17 => .int
  | 18 => .int
  | 19 => .int
  | 20 => .array .int
  | _ => .array .int
abbrev wsX120 : List Cond := u_ws RX12 TX12 22
theorem nmX12 : ∀ a, a < 22 → ∀ b, b < 22 → a ≠ b → (TX12 a).2.1 ≠ (TX12 b).2.1 := by decide +kernel
theorem tyX12_ok : ∀ k, k < 22 → parseFieldDescriptor (TX12 k).2.2.1 = some (tyX12 k) := by decide +kernel
abbrev cX12_init : ByteArray := prog_14_method_1_code
def yX12_init : MethodName := ⟨RX12, "<init>", "()V"⟩
abbrev cX12_in : ByteArray := prog_14_method_3_code
def yX12_in : MethodName := ⟨RX12, "in", "(JJJ)Z"⟩
abbrev cX12_bad : ByteArray := prog_14_method_4_code
def yX12_bad : MethodName := ⟨RX12, "bad", "(I)I"⟩
abbrev cX12_no : ByteArray := prog_14_method_5_code
def yX12_no : MethodName := ⟨RX12, "no", "(I)I"⟩
abbrev cX12_full : ByteArray := prog_14_method_6_code
def yX12_full : MethodName := ⟨RX12, "full", "()I"⟩
abbrev cX12_bits : ByteArray := prog_14_method_7_code
def yX12_bits : MethodName := ⟨RX12, "bits", "(I)I"⟩
abbrev cX12_begin : ByteArray := prog_14_method_8_code
def yX12_begin : MethodName := ⟨RX12, "begin", "([III)V"⟩
abbrev cX12_fountain : ByteArray := prog_14_method_9_code
def yX12_fountain : MethodName := ⟨RX12, "fountain", "()I"⟩
abbrev cX12_isHead : ByteArray := prog_14_method_10_code
def yX12_isHead : MethodName := ⟨RX12, "isHead", "(I)Z"⟩
abbrev cX12_isCell : ByteArray := prog_14_method_11_code
def yX12_isCell : MethodName := ⟨RX12, "isCell", "(I)Z"⟩
abbrev cX12_isStep : ByteArray := prog_14_method_12_code
def yX12_isStep : MethodName := ⟨RX12, "isStep", "(I)Z"⟩
abbrev cX12_isPace : ByteArray := prog_14_method_13_code
def yX12_isPace : MethodName := ⟨RX12, "isPace", "(I)Z"⟩
abbrev cX12_isRoad : ByteArray := prog_14_method_14_code
def yX12_isRoad : MethodName := ⟨RX12, "isRoad", "(II)Z"⟩
abbrev cX12_road : ByteArray := prog_14_method_15_code
def yX12_road : MethodName := ⟨RX12, "road", "(II)I"⟩
abbrev cX12_cobble : ByteArray := prog_14_method_16_code
def yX12_cobble : MethodName := ⟨RX12, "cobble", "(II)I"⟩
abbrev cX12_wind : ByteArray := prog_14_method_17_code
def yX12_wind : MethodName := ⟨RX12, "wind", "(II)I"⟩
abbrev cX12_layHead : ByteArray := prog_14_method_18_code
def yX12_layHead : MethodName := ⟨RX12, "layHead", "([III)V"⟩
abbrev cX12_head : ByteArray := prog_14_method_19_code
def yX12_head : MethodName := ⟨RX12, "head", "(II)I"⟩
abbrev cX12_kindOf : ByteArray := prog_14_method_20_code
def yX12_kindOf : MethodName := ⟨RX12, "kindOf", "(I)I"⟩
abbrev cX12_setOf : ByteArray := prog_14_method_21_code
def yX12_setOf : MethodName := ⟨RX12, "setOf", "(I)I"⟩
abbrev cX12_of : ByteArray := prog_14_method_22_code
def yX12_of : MethodName := ⟨RX12, "of", "(II)I"⟩
abbrev cX12_falls : ByteArray := prog_14_method_23_code
def yX12_falls : MethodName := ⟨RX12, "falls", "(I)Z"⟩
abbrev cX12_stiff : ByteArray := prog_14_method_24_code
def yX12_stiff : MethodName := ⟨RX12, "stiff", "(I)I"⟩
abbrev cX12_layStones : ByteArray := prog_14_method_25_code
def yX12_layStones : MethodName := ⟨RX12, "layStones", "()V"⟩
abbrev cX12_leanBy : ByteArray := prog_14_method_26_code
def yX12_leanBy : MethodName := ⟨RX12, "leanBy", "(IIIII)I"⟩
abbrev cX12_cellBy : ByteArray := prog_14_method_27_code
def yX12_cellBy : MethodName := ⟨RX12, "cellBy", "(II)I"⟩
abbrev cX12_leanBehind : ByteArray := prog_14_method_28_code
def yX12_leanBehind : MethodName := ⟨RX12, "leanBehind", "(IIIII)I"⟩
abbrev cX12_walk : ByteArray := prog_14_method_29_code
def yX12_walk : MethodName := ⟨RX12, "walk", "(I)I"⟩
abbrev cX12_keep : ByteArray := prog_14_method_30_code
def yX12_keep : MethodName := ⟨RX12, "keep", "()V"⟩
abbrev cX12_isWalk : ByteArray := prog_14_method_31_code
def yX12_isWalk : MethodName := ⟨RX12, "isWalk", "()Z"⟩
abbrev cX12_isThere : ByteArray := prog_14_method_32_code
def yX12_isThere : MethodName := ⟨RX12, "isThere", "()Z"⟩
abbrev cX12_step : ByteArray := prog_14_method_33_code
def yX12_step : MethodName := ⟨RX12, "step", "(I)I"⟩
abbrev cX12_hand : ByteArray := prog_14_method_34_code
def yX12_hand : MethodName := ⟨RX12, "hand", "()I"⟩
abbrev cX12_undo : ByteArray := prog_14_method_35_code
def yX12_undo : MethodName := ⟨RX12, "undo", "()I"⟩
abbrev cX12_now : ByteArray := prog_14_method_36_code
def yX12_now : MethodName := ⟨RX12, "now", "(I)I"⟩
abbrev cX12_isRow : ByteArray := prog_14_method_37_code
def yX12_isRow : MethodName := ⟨RX12, "isRow", "(I)Z"⟩
abbrev cX12_manyOf : ByteArray := prog_14_method_38_code
def yX12_manyOf : MethodName := ⟨RX12, "manyOf", "(I)I"⟩
abbrev cX12_paceOf : ByteArray := prog_14_method_39_code
def yX12_paceOf : MethodName := ⟨RX12, "paceOf", "(II)I"⟩
abbrev cX12_isOver : ByteArray := prog_14_method_40_code
def yX12_isOver : MethodName := ⟨RX12, "isOver", "()Z"⟩
abbrev cX12_goStep : ByteArray := prog_14_method_41_code
def yX12_goStep : MethodName := ⟨RX12, "goStep", "(IIII)V"⟩
abbrev cX12_beginAt : ByteArray := prog_14_method_42_code
def yX12_beginAt : MethodName := ⟨RX12, "beginAt", "(I)V"⟩
abbrev cX12_goRow : ByteArray := prog_14_method_43_code
def yX12_goRow : MethodName := ⟨RX12, "goRow", "(IIIIII)V"⟩
abbrev cX12_paces : ByteArray := prog_14_method_44_code
def yX12_paces : MethodName := ⟨RX12, "paces", "(IIII)I"⟩
abbrev cX12_latestAt : ByteArray := prog_14_method_45_code
def yX12_latestAt : MethodName := ⟨RX12, "latestAt", "(III)I"⟩
abbrev cX12_byPace : ByteArray := prog_14_method_46_code
def yX12_byPace : MethodName := ⟨RX12, "byPace", "(IIIIII)I"⟩
abbrev cX12_layLatest : ByteArray := prog_14_method_47_code
def yX12_layLatest : MethodName := ⟨RX12, "layLatest", "(II)V"⟩
abbrev cX12_throughIn : ByteArray := prog_14_method_48_code
def yX12_throughIn : MethodName := ⟨RX12, "throughIn", "(II)I"⟩
abbrev cX12_soonest : ByteArray := prog_14_method_49_code
def yX12_soonest : MethodName := ⟨RX12, "soonest", "(III)I"⟩
abbrev cX12_hour : ByteArray := prog_14_method_50_code
def yX12_hour : MethodName := ⟨RX12, "hour", "(I)I"⟩
abbrev cX12_sure : ByteArray := prog_14_method_51_code
def yX12_sure : MethodName := ⟨RX12, "sure", "(III)I"⟩
abbrev cX12_flat : ByteArray := prog_14_method_52_code
def yX12_flat : MethodName := ⟨RX12, "flat", "(II)I"⟩
abbrev cX12_note : ByteArray := prog_14_method_53_code
def yX12_note : MethodName := ⟨RX12, "note", "(IIII)I"⟩
abbrev cX12_forget : ByteArray := prog_14_method_54_code
def yX12_forget : MethodName := ⟨RX12, "forget", "()I"⟩
abbrev cX12_fellIn : ByteArray := prog_14_method_55_code
def yX12_fellIn : MethodName := ⟨RX12, "fellIn", "()I"⟩
abbrev cX12_canBe : ByteArray := prog_14_method_56_code
def yX12_canBe : MethodName := ⟨RX12, "canBe", "(II)Z"⟩
abbrev cX12_kindsOf : ByteArray := prog_14_method_57_code
def yX12_kindsOf : MethodName := ⟨RX12, "kindsOf", "(I)I"⟩
abbrev cX12_is : ByteArray := prog_14_method_58_code
def yX12_is : MethodName := ⟨RX12, "is", "(I)I"⟩
abbrev cX12_bowl : ByteArray := prog_14_method_59_code
def yX12_bowl : MethodName := ⟨RX12, "bowl", "(I)I"⟩
abbrev cX12_bowed : ByteArray := prog_14_method_60_code
def yX12_bowed : MethodName := ⟨RX12, "bowed", "(IIIII)I"⟩
abbrev cX12_fraction : ByteArray := prog_14_method_61_code
def yX12_fraction : MethodName := ⟨RX12, "fraction", "(JJ)V"⟩
abbrev cX12_goCases : ByteArray := prog_14_method_62_code
def yX12_goCases : MethodName := ⟨RX12, "goCases", "(IIIII)V"⟩
abbrev cX12_pigeons : ByteArray := prog_14_method_63_code
def yX12_pigeons : MethodName := ⟨RX12, "pigeons", "(III)I"⟩
abbrev cX12_crowned : ByteArray := prog_14_method_64_code
def yX12_crowned : MethodName := ⟨RX12, "crowned", "(III)I"⟩
abbrev cX12_type : ByteArray := prog_14_method_65_code
def yX12_type : MethodName := ⟨RX12, "type", "(I)I"⟩
abbrev cX12_clear : ByteArray := prog_14_method_66_code
def yX12_clear : MethodName := ⟨RX12, "clear", "()I"⟩
abbrev cX12_isSmall : ByteArray := prog_14_method_67_code
def yX12_isSmall : MethodName := ⟨RX12, "isSmall", "(I)Z"⟩
abbrev cX12_isFigure : ByteArray := prog_14_method_68_code
def yX12_isFigure : MethodName := ⟨RX12, "isFigure", "(I)Z"⟩
abbrev cX12_lookAt : ByteArray := prog_14_method_69_code
def yX12_lookAt : MethodName := ⟨RX12, "lookAt", "(I)V"⟩
abbrev cX12_goBehind : ByteArray := prog_14_method_70_code
def yX12_goBehind : MethodName := ⟨RX12, "goBehind", "()V"⟩
abbrev cX12_isWord : ByteArray := prog_14_method_71_code
def yX12_isWord : MethodName := ⟨RX12, "isWord", "(IIIIIII)Z"⟩
abbrev cX12_takes : ByteArray := prog_14_method_72_code
def yX12_takes : MethodName := ⟨RX12, "takes", "(III)Z"⟩
abbrev cX12_takesTwo : ByteArray := prog_14_method_73_code
def yX12_takesTwo : MethodName := ⟨RX12, "takesTwo", "(III)Z"⟩
abbrev cX12_takesRoad : ByteArray := prog_14_method_74_code
def yX12_takesRoad : MethodName := ⟨RX12, "takesRoad", "()Z"⟩
abbrev cX12_takesCobble : ByteArray := prog_14_method_75_code
def yX12_takesCobble : MethodName := ⟨RX12, "takesCobble", "(I)Z"⟩
abbrev cX12_takesWind : ByteArray := prog_14_method_76_code
def yX12_takesWind : MethodName := ⟨RX12, "takesWind", "(I)Z"⟩
abbrev cX12_takesHead : ByteArray := prog_14_method_77_code
def yX12_takesHead : MethodName := ⟨RX12, "takesHead", "(I)Z"⟩
abbrev cX12_takesItem : ByteArray := prog_14_method_78_code
def yX12_takesItem : MethodName := ⟨RX12, "takesItem", "()Z"⟩
abbrev cX12_read : ByteArray := prog_14_method_79_code
def yX12_read : MethodName := ⟨RX12, "read", "()I"⟩
abbrev cX12_part : ByteArray := prog_14_method_80_code
def yX12_part : MethodName := ⟨RX12, "part", "(I)J"⟩
abbrev cX12_image : ByteArray := prog_14_method_81_code
def yX12_image : MethodName := ⟨RX12, "image", "(I)I"⟩
abbrev cX12_from : ByteArray := prog_14_method_82_code
def yX12_from : MethodName := ⟨RX12, "from", "(I)I"⟩
abbrev cX12_status : ByteArray := prog_14_method_83_code
def yX12_status : MethodName := ⟨RX12, "status", "(I)I"⟩
abbrev cX12_counted : ByteArray := prog_14_method_84_code
def yX12_counted : MethodName := ⟨RX12, "counted", "(I)I"⟩
abbrev cX12_count : ByteArray := prog_14_method_85_code
def yX12_count : MethodName := ⟨RX12, "count", "(I)I"⟩
abbrev cX12_sums : ByteArray := prog_14_method_86_code
def yX12_sums : MethodName := ⟨RX12, "sums", "(JII)J"⟩
abbrev cX12_digest : ByteArray := prog_14_method_87_code
def yX12_digest : MethodName := ⟨RX12, "digest", "()J"⟩
def RJ9 : String := "java/lang/Math"
def TJ9 : u_T := fun k => match k with
  | _ => ("", "", "", false)
def tyJ9 : Nat → FieldType := fun k => match k with
  | _ => .int
abbrev wsJ90 : List Cond := u_ws RJ9 TJ9 0
theorem nmJ9 : ∀ a, a < 0 → ∀ b, b < 0 → a ≠ b → (TJ9 a).2.1 ≠ (TJ9 b).2.1 := by decide +kernel
theorem tyJ9_ok : ∀ k, k < 0 → parseFieldDescriptor (TJ9 k).2.2.1 = some (tyJ9 k) := by decide +kernel
abbrev cJ9_floorMod_7cf53 : ByteArray := prog_15_method_50_code
def yJ9_floorMod_7cf53 : MethodName := ⟨RJ9, "floorMod", "(II)I"⟩
abbrev cJ9_max_7cf53 : ByteArray := prog_15_method_65_code
def yJ9_max_7cf53 : MethodName := ⟨RJ9, "max", "(II)I"⟩
abbrev cJ9_min_7cf53 : ByteArray := prog_15_method_69_code
def yJ9_min_7cf53 : MethodName := ⟨RJ9, "min", "(II)I"⟩
def RJ0 : String := "java/lang/String"
def TJ0 : u_T := fun k => match k with
  | _ => ("", "", "", false)
def tyJ0 : Nat → FieldType := fun k => match k with
  | _ => .int
abbrev wsJ00 : List Cond := u_ws RJ0 TJ0 0
theorem nmJ0 : ∀ a, a < 0 → ∀ b, b < 0 → a ≠ b → (TJ0 a).2.1 ≠ (TJ0 b).2.1 := by decide +kernel
theorem tyJ0_ok : ∀ k, k < 0 → parseFieldDescriptor (TJ0 k).2.2.1 = some (tyJ0 k) := by decide +kernel
abbrev cJ0_length_8abf5 : ByteArray := prog_16_method_54_code
def yJ0_length_8abf5 : MethodName := ⟨RJ0, "length", "()I"⟩
abbrev cJ0_charAt_5068e : ByteArray := prog_16_method_56_code
def yJ0_charAt_5068e : MethodName := ⟨RJ0, "charAt", "(I)C"⟩
abbrev cJ0_coder_7d493 : ByteArray := prog_16_method_152_code
def yJ0_coder_7d493 : MethodName := ⟨RJ0, "coder", "()B"⟩
abbrev cJ0_isLatin1_aae02 : ByteArray := prog_16_method_154_code
def yJ0_isLatin1_aae02 : MethodName := ⟨RJ0, "isLatin1", "()Z"⟩
abbrev cJ0_checkIndex_df160 : ByteArray := prog_16_method_155_code
def yJ0_checkIndex_df160 : MethodName := ⟨RJ0, "checkIndex", "(II)V"⟩
def RJ1 : String := "java/lang/StringLatin1"
def TJ1 : u_T := fun k => match k with
  | _ => ("", "", "", false)
def tyJ1 : Nat → FieldType := fun k => match k with
  | _ => .int
abbrev wsJ10 : List Cond := u_ws RJ1 TJ1 0
theorem nmJ1 : ∀ a, a < 0 → ∀ b, b < 0 → a ≠ b → (TJ1 a).2.1 ≠ (TJ1 b).2.1 := by decide +kernel
theorem tyJ1_ok : ∀ k, k < 0 → parseFieldDescriptor (TJ1 k).2.2.1 = some (tyJ1 k) := by decide +kernel
abbrev cJ1_charAt_3b067 : ByteArray := prog_17_method_2_code
def yJ1_charAt_3b067 : MethodName := ⟨RJ1, "charAt", "([BI)C"⟩
def RJ2 : String := "java/lang/StringUTF16"
def TJ2 : u_T := fun k => match k with
  | _ => ("", "", "", false)
def tyJ2 : Nat → FieldType := fun k => match k with
  | _ => .int
abbrev wsJ20 : List Cond := u_ws RJ2 TJ2 0
theorem nmJ2 : ∀ a, a < 0 → ∀ b, b < 0 → a ≠ b → (TJ2 a).2.1 ≠ (TJ2 b).2.1 := by decide +kernel
theorem tyJ2_ok : ∀ k, k < 0 → parseFieldDescriptor (TJ2 k).2.2.1 = some (tyJ2 k) := by decide +kernel
abbrev cJ2_getChar_3b067 : ByteArray := prog_18_method_5_code
def yJ2_getChar_3b067 : MethodName := ⟨RJ2, "getChar", "([BI)C"⟩
abbrev cJ2_length_9d52b : ByteArray := prog_18_method_6_code
def yJ2_length_9d52b : MethodName := ⟨RJ2, "length", "([B)I"⟩
abbrev cJ2_charAt_3b067 : ByteArray := prog_18_method_83_code
def yJ2_charAt_3b067 : MethodName := ⟨RJ2, "charAt", "([BI)C"⟩
abbrev cJ2_checkIndex_2214a : ByteArray := prog_18_method_91_code
def yJ2_checkIndex_2214a : MethodName := ⟨RJ2, "checkIndex", "(I[B)V"⟩
def RJ10 : String := "java/lang/System"
def TJ10 : u_T := fun k => match k with
  | _ => ("", "", "", false)
def tyJ10 : Nat → FieldType := fun k => match k with
  | _ => .int
abbrev wsJ100 : List Cond := u_ws RJ10 TJ10 0
theorem nmJ10 : ∀ a, a < 0 → ∀ b, b < 0 → a ≠ b → (TJ10 a).2.1 ≠ (TJ10 b).2.1 := by decide +kernel
theorem tyJ10_ok : ∀ k, k < 0 → parseFieldDescriptor (TJ10 k).2.2.1 = some (tyJ10 k) := by decide +kernel
def RJ3 : String := "jdk/internal/util/Preconditions"
def TJ3 : u_T := fun k => match k with
  | _ => ("", "", "", false)
def tyJ3 : Nat → FieldType := fun k => match k with
  | _ => .int
abbrev wsJ30 : List Cond := u_ws RJ3 TJ3 0
theorem nmJ3 : ∀ a, a < 0 → ∀ b, b < 0 → a ≠ b → (TJ3 a).2.1 ≠ (TJ3 b).2.1 := by decide +kernel
theorem tyJ3_ok : ∀ k, k < 0 → parseFieldDescriptor (TJ3 k).2.2.1 = some (tyJ3 k) := by decide +kernel
abbrev cJ3_checkIndex_8e157 : ByteArray := prog_20_method_11_code
def yJ3_checkIndex_8e157 : MethodName := ⟨RJ3, "checkIndex", "(IILjava/util/function/BiFunction;)I"⟩
def RL : String := "SmallCrownLaw"
abbrev cL_law : ByteArray := code
def yL_law : MethodName := ⟨RL, "law", "([I)Z"⟩
abbrev vwCl : List vw_C := [(RX0, TX0, 0), (RX1, TX1, 0), (RX2, TX2, 0), (RX3, TX3, 0), (RX4, TX4, 5), (RX5, TX5, 4), (RX6, TX6, 0), (RX7, TX7, 0), (RX8, TX8, 8), (RX9, TX9, 3), (RX10, TX10, 10), (RX11, TX11, 13), (RX12, TX12, 22)]
/-! ===== END printed: names ===== -/
end
section
theorem dX0_init_0 : decode cX0_init 0 = .ok (.aload_n 0, 1) := by decide +kernel
theorem dX0_init_1 : decode cX0_init 1 = .ok (.invokespecial 1, 3) := by decide +kernel
theorem dX0_init_4 : decode cX0_init 4 = .ok (.return_, 1) := by decide +kernel
theorem dX0_leanBehind_0 : decode cX0_leanBehind 0 = .ok (.aload_n 0, 1) := by decide +kernel
theorem dX0_leanBehind_1 : decode cX0_leanBehind 1 = .ok (.iload_n 1, 1) := by decide +kernel
theorem dX0_leanBehind_2 : decode cX0_leanBehind 2 = .ok (.iload_n 2, 1) := by decide +kernel
theorem dX0_leanBehind_3 : decode cX0_leanBehind 3 = .ok (.iload_n 3, 1) := by decide +kernel
theorem dX0_leanBehind_4 : decode cX0_leanBehind 4 = .ok (.iload 4, 2) := by decide +kernel
theorem dX0_leanBehind_6 : decode cX0_leanBehind 6 = .ok (.invokespecial 7, 3) := by decide +kernel
theorem dX0_leanBehind_9 : decode cX0_leanBehind 9 = .ok (.iconst 1, 1) := by decide +kernel
theorem dX0_leanBehind_10 : decode cX0_leanBehind 10 = .ok (.iadd, 1) := by decide +kernel
theorem dX0_leanBehind_11 : decode cX0_leanBehind 11 = .ok (.ireturn, 1) := by decide +kernel
theorem dX1_init_0 : decode cX1_init 0 = .ok (.aload_n 0, 1) := by decide +kernel
theorem dX1_init_1 : decode cX1_init 1 = .ok (.invokespecial 1, 3) := by decide +kernel
theorem dX1_init_4 : decode cX1_init 4 = .ok (.return_, 1) := by decide +kernel
theorem dX1_leanBehind_0 : decode cX1_leanBehind 0 = .ok (.aload_n 0, 1) := by decide +kernel
theorem dX1_leanBehind_1 : decode cX1_leanBehind 1 = .ok (.iload_n 1, 1) := by decide +kernel
theorem dX1_leanBehind_2 : decode cX1_leanBehind 2 = .ok (.iload_n 2, 1) := by decide +kernel
theorem dX1_leanBehind_3 : decode cX1_leanBehind 3 = .ok (.iconst 0, 1) := by decide +kernel
theorem dX1_leanBehind_4 : decode cX1_leanBehind 4 = .ok (.iload 4, 2) := by decide +kernel
theorem dX1_leanBehind_6 : decode cX1_leanBehind 6 = .ok (.invokespecial 7, 3) := by decide +kernel
theorem dX1_leanBehind_9 : decode cX1_leanBehind 9 = .ok (.ireturn, 1) := by decide +kernel
theorem dX2_init_0 : decode cX2_init 0 = .ok (.aload_n 0, 1) := by decide +kernel
theorem dX2_init_1 : decode cX2_init 1 = .ok (.invokespecial 1, 3) := by decide +kernel
theorem dX2_init_4 : decode cX2_init 4 = .ok (.return_, 1) := by decide +kernel
theorem dX2_leanBehind_0 : decode cX2_leanBehind 0 = .ok (.aload_n 0, 1) := by decide +kernel
theorem dX2_leanBehind_1 : decode cX2_leanBehind 1 = .ok (.iload_n 1, 1) := by decide +kernel
theorem dX2_leanBehind_2 : decode cX2_leanBehind 2 = .ok (.iload_n 2, 1) := by decide +kernel
theorem dX2_leanBehind_3 : decode cX2_leanBehind 3 = .ok (.iload_n 3, 1) := by decide +kernel
theorem dX2_leanBehind_4 : decode cX2_leanBehind 4 = .ok (.iload 4, 2) := by decide +kernel
theorem dX2_leanBehind_6 : decode cX2_leanBehind 6 = .ok (.invokespecial 7, 3) := by decide +kernel
theorem dX2_leanBehind_9 : decode cX2_leanBehind 9 = .ok (.istore 5, 2) := by decide +kernel
theorem dX2_leanBehind_11 : decode cX2_leanBehind 11 = .ok (.iload 4, 2) := by decide +kernel
theorem dX2_leanBehind_13 : decode cX2_leanBehind 13 = .ok (.iconst 2, 1) := by decide +kernel
theorem dX2_leanBehind_14 : decode cX2_leanBehind 14 = .ok (.if_icmp .ne 9, 3) := by decide +kernel
theorem dX2_leanBehind_17 : decode cX2_leanBehind 17 = .ok (.iload 5, 2) := by decide +kernel
theorem dX2_leanBehind_19 : decode cX2_leanBehind 19 = .ok (.ineg, 1) := by decide +kernel
theorem dX2_leanBehind_20 : decode cX2_leanBehind 20 = .ok (.goto 5, 3) := by decide +kernel
theorem dX2_leanBehind_23 : decode cX2_leanBehind 23 = .ok (.iload 5, 2) := by decide +kernel
theorem dX2_leanBehind_25 : decode cX2_leanBehind 25 = .ok (.ireturn, 1) := by decide +kernel
theorem dX3_init_0 : decode cX3_init 0 = .ok (.aload_n 0, 1) := by decide +kernel
theorem dX3_init_1 : decode cX3_init 1 = .ok (.invokespecial 1, 3) := by decide +kernel
theorem dX3_init_4 : decode cX3_init 4 = .ok (.return_, 1) := by decide +kernel
theorem dX3_leanBehind_0 : decode cX3_leanBehind 0 = .ok (.iload_n 1, 1) := by decide +kernel
theorem dX3_leanBehind_1 : decode cX3_leanBehind 1 = .ok (.iload_n 2, 1) := by decide +kernel
theorem dX3_leanBehind_2 : decode cX3_leanBehind 2 = .ok (.iadd, 1) := by decide +kernel
theorem dX3_leanBehind_3 : decode cX3_leanBehind 3 = .ok (.iload_n 3, 1) := by decide +kernel
theorem dX3_leanBehind_4 : decode cX3_leanBehind 4 = .ok (.iadd, 1) := by decide +kernel
theorem dX3_leanBehind_5 : decode cX3_leanBehind 5 = .ok (.ireturn, 1) := by decide +kernel
theorem dX4_init_0 : decode cX4_init 0 = .ok (.aload_n 0, 1) := by decide +kernel
theorem dX4_init_1 : decode cX4_init 1 = .ok (.invokespecial 3, 3) := by decide +kernel
theorem dX4_init_4 : decode cX4_init 4 = .ok (.aload_n 0, 1) := by decide +kernel
theorem dX4_init_5 : decode cX4_init 5 = .ok (.sipush 150, 3) := by decide +kernel
theorem dX4_init_8 : decode cX4_init 8 = .ok (.newarray .int, 2) := by decide +kernel
theorem dX4_init_10 : decode cX4_init 10 = .ok (.putfield 9, 3) := by decide +kernel
theorem dX4_init_13 : decode cX4_init 13 = .ok (.aload_n 0, 1) := by decide +kernel
theorem dX4_init_14 : decode cX4_init 14 = .ok (.iconst 0, 1) := by decide +kernel
theorem dX4_init_15 : decode cX4_init 15 = .ok (.putfield 15, 3) := by decide +kernel
theorem dX4_init_18 : decode cX4_init 18 = .ok (.aload_n 0, 1) := by decide +kernel
theorem dX4_init_19 : decode cX4_init 19 = .ok (.iconst 0, 1) := by decide +kernel
theorem dX4_init_20 : decode cX4_init 20 = .ok (.putfield 19, 3) := by decide +kernel
theorem dX4_init_23 : decode cX4_init 23 = .ok (.aload_n 0, 1) := by decide +kernel
theorem dX4_init_24 : decode cX4_init 24 = .ok (.iconst 0, 1) := by decide +kernel
theorem dX4_init_25 : decode cX4_init 25 = .ok (.putfield 22, 3) := by decide +kernel
theorem dX4_init_28 : decode cX4_init 28 = .ok (.aload_n 0, 1) := by decide +kernel
theorem dX4_init_29 : decode cX4_init 29 = .ok (.iconst 0, 1) := by decide +kernel
theorem dX4_init_30 : decode cX4_init 30 = .ok (.putfield 25, 3) := by decide +kernel
theorem dX4_init_33 : decode cX4_init 33 = .ok (.return_, 1) := by decide +kernel
theorem dX4_add_0 : decode cX4_add 0 = .ok (.aload_n 0, 1) := by decide +kernel
theorem dX4_add_1 : decode cX4_add 1 = .ok (.getfield 15, 3) := by decide +kernel
theorem dX4_add_4 : decode cX4_add 4 = .ok (.iconst 0, 1) := by decide +kernel
theorem dX4_add_5 : decode cX4_add 5 = .ok (.sipush 149, 3) := by decide +kernel
theorem dX4_add_8 : decode cX4_add 8 = .ok (.invokestatic 28, 3) := by decide +kernel
theorem dX4_add_11 : decode cX4_add 11 = .ok (.ifCond .eq 23, 3) := by decide +kernel
theorem dX4_add_14 : decode cX4_add 14 = .ok (.aload_n 0, 1) := by decide +kernel
theorem dX4_add_15 : decode cX4_add 15 = .ok (.getfield 9, 3) := by decide +kernel
theorem dX4_add_18 : decode cX4_add 18 = .ok (.aload_n 0, 1) := by decide +kernel
theorem dX4_add_19 : decode cX4_add 19 = .ok (.getfield 15, 3) := by decide +kernel
theorem dX4_add_22 : decode cX4_add 22 = .ok (.iload_n 1, 1) := by decide +kernel
theorem dX4_add_23 : decode cX4_add 23 = .ok (.iastore, 1) := by decide +kernel
theorem dX4_add_24 : decode cX4_add 24 = .ok (.aload_n 0, 1) := by decide +kernel
theorem dX4_add_25 : decode cX4_add 25 = .ok (.dup, 1) := by decide +kernel
theorem dX4_add_26 : decode cX4_add 26 = .ok (.getfield 15, 3) := by decide +kernel
theorem dX4_add_29 : decode cX4_add 29 = .ok (.iconst 1, 1) := by decide +kernel
theorem dX4_add_30 : decode cX4_add 30 = .ok (.iadd, 1) := by decide +kernel
theorem dX4_add_31 : decode cX4_add 31 = .ok (.putfield 15, 3) := by decide +kernel
theorem dX4_add_34 : decode cX4_add 34 = .ok (.return_, 1) := by decide +kernel
theorem dX4_tell_0 : decode cX4_tell 0 = .ok (.aload_n 0, 1) := by decide +kernel
theorem dX4_tell_1 : decode cX4_tell 1 = .ok (.iconst 0, 1) := by decide +kernel
theorem dX4_tell_2 : decode cX4_tell 2 = .ok (.putfield 25, 3) := by decide +kernel
theorem dX4_tell_5 : decode cX4_tell 5 = .ok (.iconst 0, 1) := by decide +kernel
theorem dX4_tell_6 : decode cX4_tell 6 = .ok (.istore_n 2, 1) := by decide +kernel
theorem dX4_tell_7 : decode cX4_tell 7 = .ok (.iload_n 2, 1) := by decide +kernel
theorem dX4_tell_8 : decode cX4_tell 8 = .ok (.sipush 150, 3) := by decide +kernel
theorem dX4_tell_11 : decode cX4_tell 11 = .ok (.if_icmp .ge 50, 3) := by decide +kernel
theorem dX4_tell_14 : decode cX4_tell 14 = .ok (.aload_n 0, 1) := by decide +kernel
theorem dX4_tell_15 : decode cX4_tell 15 = .ok (.invokevirtual 32, 3) := by decide +kernel
theorem dX4_tell_18 : decode cX4_tell 18 = .ok (.aload_n 0, 1) := by decide +kernel
theorem dX4_tell_19 : decode cX4_tell 19 = .ok (.getfield 19, 3) := by decide +kernel
theorem dX4_tell_22 : decode cX4_tell 22 = .ok (.ifCond .ne 9, 3) := by decide +kernel
theorem dX4_tell_25 : decode cX4_tell 25 = .ok (.iload_n 2, 1) := by decide +kernel
theorem dX4_tell_26 : decode cX4_tell 26 = .ok (.ifCond .le 5, 3) := by decide +kernel
theorem dX4_tell_29 : decode cX4_tell 29 = .ok (.iload_n 2, 1) := by decide +kernel
theorem dX4_tell_30 : decode cX4_tell 30 = .ok (.ireturn, 1) := by decide +kernel
theorem dX4_tell_31 : decode cX4_tell 31 = .ok (.iload_n 2, 1) := by decide +kernel
theorem dX4_tell_32 : decode cX4_tell 32 = .ok (.ifCond .ne 11, 3) := by decide +kernel
theorem dX4_tell_35 : decode cX4_tell 35 = .ok (.aload_n 0, 1) := by decide +kernel
theorem dX4_tell_36 : decode cX4_tell 36 = .ok (.aload_n 1, 1) := by decide +kernel
theorem dX4_tell_37 : decode cX4_tell 37 = .ok (.invokevirtual 35, 3) := by decide +kernel
theorem dX4_tell_40 : decode cX4_tell 40 = .ok (.goto 8, 3) := by decide +kernel
theorem dX4_tell_43 : decode cX4_tell 43 = .ok (.aload_n 0, 1) := by decide +kernel
theorem dX4_tell_44 : decode cX4_tell 44 = .ok (.aload_n 1, 1) := by decide +kernel
theorem dX4_tell_45 : decode cX4_tell 45 = .ok (.invokevirtual 39, 3) := by decide +kernel
theorem dX4_tell_48 : decode cX4_tell 48 = .ok (.istore_n 3, 1) := by decide +kernel
theorem dX4_tell_49 : decode cX4_tell 49 = .ok (.iload_n 3, 1) := by decide +kernel
theorem dX4_tell_50 : decode cX4_tell 50 = .ok (.ifCond .ne 5, 3) := by decide +kernel
theorem dX4_tell_53 : decode cX4_tell 53 = .ok (.iconst (-1), 1) := by decide +kernel
theorem dX4_tell_54 : decode cX4_tell 54 = .ok (.ireturn, 1) := by decide +kernel
theorem dX4_tell_55 : decode cX4_tell 55 = .ok (.iinc 2 1, 3) := by decide +kernel
theorem dX4_tell_58 : decode cX4_tell 58 = .ok (.goto (-51), 3) := by decide +kernel
theorem dX4_tell_61 : decode cX4_tell 61 = .ok (.iconst (-1), 1) := by decide +kernel
theorem dX4_tell_62 : decode cX4_tell 62 = .ok (.ireturn, 1) := by decide +kernel
theorem dX4_tellRoad_0 : decode cX4_tellRoad 0 = .ok (.aload_n 0, 1) := by decide +kernel
theorem dX4_tellRoad_1 : decode cX4_tellRoad 1 = .ok (.ldc 42, 2) := by decide +kernel
theorem dX4_tellRoad_3 : decode cX4_tellRoad 3 = .ok (.invokevirtual 44, 3) := by decide +kernel
theorem dX4_tellRoad_6 : decode cX4_tellRoad 6 = .ok (.ifCond .ne 5, 3) := by decide +kernel
theorem dX4_tellRoad_9 : decode cX4_tellRoad 9 = .ok (.iconst 0, 1) := by decide +kernel
theorem dX4_tellRoad_10 : decode cX4_tellRoad 10 = .ok (.ireturn, 1) := by decide +kernel
theorem dX4_tellRoad_11 : decode cX4_tellRoad 11 = .ok (.aload_n 0, 1) := by decide +kernel
theorem dX4_tellRoad_12 : decode cX4_tellRoad 12 = .ok (.iconst 1, 1) := by decide +kernel
theorem dX4_tellRoad_13 : decode cX4_tellRoad 13 = .ok (.bipush 15, 2) := by decide +kernel
theorem dX4_tellRoad_15 : decode cX4_tellRoad 15 = .ok (.invokevirtual 48, 3) := by decide +kernel
theorem dX4_tellRoad_18 : decode cX4_tellRoad 18 = .ok (.istore_n 2, 1) := by decide +kernel
theorem dX4_tellRoad_19 : decode cX4_tellRoad 19 = .ok (.iload_n 2, 1) := by decide +kernel
theorem dX4_tellRoad_20 : decode cX4_tellRoad 20 = .ok (.iconst (-1), 1) := by decide +kernel
theorem dX4_tellRoad_21 : decode cX4_tellRoad 21 = .ok (.if_icmp .ne 7, 3) := by decide +kernel
theorem dX4_tellRoad_24 : decode cX4_tellRoad 24 = .ok (.iconst (-1), 1) := by decide +kernel
theorem dX4_tellRoad_25 : decode cX4_tellRoad 25 = .ok (.goto 10, 3) := by decide +kernel
theorem dX4_tellRoad_28 : decode cX4_tellRoad 28 = .ok (.aload_n 0, 1) := by decide +kernel
theorem dX4_tellRoad_29 : decode cX4_tellRoad 29 = .ok (.iconst 1, 1) := by decide +kernel
theorem dX4_tellRoad_30 : decode cX4_tellRoad 30 = .ok (.bipush 12, 2) := by decide +kernel
theorem dX4_tellRoad_32 : decode cX4_tellRoad 32 = .ok (.invokevirtual 48, 3) := by decide +kernel
theorem dX4_tellRoad_35 : decode cX4_tellRoad 35 = .ok (.istore_n 3, 1) := by decide +kernel
theorem dX4_tellRoad_36 : decode cX4_tellRoad 36 = .ok (.iload_n 3, 1) := by decide +kernel
theorem dX4_tellRoad_37 : decode cX4_tellRoad 37 = .ok (.iconst (-1), 1) := by decide +kernel
theorem dX4_tellRoad_38 : decode cX4_tellRoad 38 = .ok (.if_icmp .eq 10, 3) := by decide +kernel
theorem dX4_tellRoad_41 : decode cX4_tellRoad 41 = .ok (.aload_n 0, 1) := by decide +kernel
theorem dX4_tellRoad_42 : decode cX4_tellRoad 42 = .ok (.invokevirtual 52, 3) := by decide +kernel
theorem dX4_tellRoad_45 : decode cX4_tellRoad 45 = .ok (.ifCond .ne 5, 3) := by decide +kernel
theorem dX4_tellRoad_48 : decode cX4_tellRoad 48 = .ok (.iconst 0, 1) := by decide +kernel
theorem dX4_tellRoad_49 : decode cX4_tellRoad 49 = .ok (.ireturn, 1) := by decide +kernel
theorem dX4_tellRoad_50 : decode cX4_tellRoad 50 = .ok (.aload_n 1, 1) := by decide +kernel
theorem dX4_tellRoad_51 : decode cX4_tellRoad 51 = .ok (.iload_n 2, 1) := by decide +kernel
theorem dX4_tellRoad_52 : decode cX4_tellRoad 52 = .ok (.iload_n 3, 1) := by decide +kernel
theorem dX4_tellRoad_53 : decode cX4_tellRoad 53 = .ok (.invokevirtual 56, 3) := by decide +kernel
theorem dX4_tellRoad_56 : decode cX4_tellRoad 56 = .ok (.iconst 1, 1) := by decide +kernel
theorem dX4_tellRoad_57 : decode cX4_tellRoad 57 = .ok (.ireturn, 1) := by decide +kernel
theorem dX4_tellItem_0 : decode cX4_tellItem 0 = .ok (.aload_n 0, 1) := by decide +kernel
theorem dX4_tellItem_1 : decode cX4_tellItem 1 = .ok (.ldc 62, 2) := by decide +kernel
theorem dX4_tellItem_3 : decode cX4_tellItem 3 = .ok (.invokevirtual 44, 3) := by decide +kernel
theorem dX4_tellItem_6 : decode cX4_tellItem 6 = .ok (.ifCond .eq 10, 3) := by decide +kernel
theorem dX4_tellItem_9 : decode cX4_tellItem 9 = .ok (.aload_n 0, 1) := by decide +kernel
theorem dX4_tellItem_10 : decode cX4_tellItem 10 = .ok (.aload_n 1, 1) := by decide +kernel
theorem dX4_tellItem_11 : decode cX4_tellItem 11 = .ok (.iconst 1, 1) := by decide +kernel
theorem dX4_tellItem_12 : decode cX4_tellItem 12 = .ok (.invokevirtual 64, 3) := by decide +kernel
theorem dX4_tellItem_15 : decode cX4_tellItem 15 = .ok (.ireturn, 1) := by decide +kernel
theorem dX4_tellItem_16 : decode cX4_tellItem 16 = .ok (.aload_n 0, 1) := by decide +kernel
theorem dX4_tellItem_17 : decode cX4_tellItem 17 = .ok (.ldc 68, 2) := by decide +kernel
theorem dX4_tellItem_19 : decode cX4_tellItem 19 = .ok (.invokevirtual 44, 3) := by decide +kernel
theorem dX4_tellItem_22 : decode cX4_tellItem 22 = .ok (.ifCond .eq 10, 3) := by decide +kernel
theorem dX4_tellItem_25 : decode cX4_tellItem 25 = .ok (.aload_n 0, 1) := by decide +kernel
theorem dX4_tellItem_26 : decode cX4_tellItem 26 = .ok (.aload_n 1, 1) := by decide +kernel
theorem dX4_tellItem_27 : decode cX4_tellItem 27 = .ok (.iconst (-1), 1) := by decide +kernel
theorem dX4_tellItem_28 : decode cX4_tellItem 28 = .ok (.invokevirtual 64, 3) := by decide +kernel
theorem dX4_tellItem_31 : decode cX4_tellItem 31 = .ok (.ireturn, 1) := by decide +kernel
theorem dX4_tellItem_32 : decode cX4_tellItem 32 = .ok (.aload_n 0, 1) := by decide +kernel
theorem dX4_tellItem_33 : decode cX4_tellItem 33 = .ok (.ldc 70, 2) := by decide +kernel
theorem dX4_tellItem_35 : decode cX4_tellItem 35 = .ok (.invokevirtual 44, 3) := by decide +kernel
theorem dX4_tellItem_38 : decode cX4_tellItem 38 = .ok (.ifCond .eq 10, 3) := by decide +kernel
theorem dX4_tellItem_41 : decode cX4_tellItem 41 = .ok (.aload_n 0, 1) := by decide +kernel
theorem dX4_tellItem_42 : decode cX4_tellItem 42 = .ok (.aload_n 1, 1) := by decide +kernel
theorem dX4_tellItem_43 : decode cX4_tellItem 43 = .ok (.iconst 1, 1) := by decide +kernel
theorem dX4_tellItem_44 : decode cX4_tellItem 44 = .ok (.invokevirtual 72, 3) := by decide +kernel
theorem dX4_tellItem_47 : decode cX4_tellItem 47 = .ok (.ireturn, 1) := by decide +kernel
theorem dX4_tellItem_48 : decode cX4_tellItem 48 = .ok (.aload_n 0, 1) := by decide +kernel
theorem dX4_tellItem_49 : decode cX4_tellItem 49 = .ok (.ldc 75, 2) := by decide +kernel
theorem dX4_tellItem_51 : decode cX4_tellItem 51 = .ok (.invokevirtual 44, 3) := by decide +kernel
theorem dX4_tellItem_54 : decode cX4_tellItem 54 = .ok (.ifCond .eq 10, 3) := by decide +kernel
theorem dX4_tellItem_57 : decode cX4_tellItem 57 = .ok (.aload_n 0, 1) := by decide +kernel
theorem dX4_tellItem_58 : decode cX4_tellItem 58 = .ok (.aload_n 1, 1) := by decide +kernel
theorem dX4_tellItem_59 : decode cX4_tellItem 59 = .ok (.iconst (-1), 1) := by decide +kernel
theorem dX4_tellItem_60 : decode cX4_tellItem 60 = .ok (.invokevirtual 72, 3) := by decide +kernel
theorem dX4_tellItem_63 : decode cX4_tellItem 63 = .ok (.ireturn, 1) := by decide +kernel
theorem dX4_tellItem_64 : decode cX4_tellItem 64 = .ok (.aload_n 0, 1) := by decide +kernel
theorem dX4_tellItem_65 : decode cX4_tellItem 65 = .ok (.ldc 77, 2) := by decide +kernel
theorem dX4_tellItem_67 : decode cX4_tellItem 67 = .ok (.invokevirtual 44, 3) := by decide +kernel
theorem dX4_tellItem_70 : decode cX4_tellItem 70 = .ok (.ifCond .eq 10, 3) := by decide +kernel
theorem dX4_tellItem_73 : decode cX4_tellItem 73 = .ok (.aload_n 0, 1) := by decide +kernel
theorem dX4_tellItem_74 : decode cX4_tellItem 74 = .ok (.aload_n 1, 1) := by decide +kernel
theorem dX4_tellItem_75 : decode cX4_tellItem 75 = .ok (.iconst 1, 1) := by decide +kernel
theorem dX4_tellItem_76 : decode cX4_tellItem 76 = .ok (.invokevirtual 79, 3) := by decide +kernel
theorem dX4_tellItem_79 : decode cX4_tellItem 79 = .ok (.ireturn, 1) := by decide +kernel
theorem dX4_tellItem_80 : decode cX4_tellItem 80 = .ok (.aload_n 0, 1) := by decide +kernel
theorem dX4_tellItem_81 : decode cX4_tellItem 81 = .ok (.ldc 82, 2) := by decide +kernel
theorem dX4_tellItem_83 : decode cX4_tellItem 83 = .ok (.invokevirtual 44, 3) := by decide +kernel
theorem dX4_tellItem_86 : decode cX4_tellItem 86 = .ok (.ifCond .eq 16, 3) := by decide +kernel
theorem dX4_tellItem_89 : decode cX4_tellItem 89 = .ok (.aload_n 0, 1) := by decide +kernel
theorem dX4_tellItem_90 : decode cX4_tellItem 90 = .ok (.aload_n 1, 1) := by decide +kernel
theorem dX4_tellItem_91 : decode cX4_tellItem 91 = .ok (.iconst (-1), 1) := by decide +kernel
theorem dX4_tellItem_92 : decode cX4_tellItem 92 = .ok (.invokevirtual 79, 3) := by decide +kernel
theorem dX4_tellItem_95 : decode cX4_tellItem 95 = .ok (.ifCond .eq 7, 3) := by decide +kernel
theorem dX4_tellItem_98 : decode cX4_tellItem 98 = .ok (.iconst 1, 1) := by decide +kernel
theorem dX4_tellItem_99 : decode cX4_tellItem 99 = .ok (.goto 4, 3) := by decide +kernel
theorem dX4_tellItem_102 : decode cX4_tellItem 102 = .ok (.iconst 0, 1) := by decide +kernel
theorem dX4_tellItem_103 : decode cX4_tellItem 103 = .ok (.ireturn, 1) := by decide +kernel
theorem dX4_tellCobble_0 : decode cX4_tellCobble 0 = .ok (.aload_n 0, 1) := by decide +kernel
theorem dX4_tellCobble_1 : decode cX4_tellCobble 1 = .ok (.iconst 0, 1) := by decide +kernel
theorem dX4_tellCobble_2 : decode cX4_tellCobble 2 = .ok (.aload_n 1, 1) := by decide +kernel
theorem dX4_tellCobble_3 : decode cX4_tellCobble 3 = .ok (.getfield 84, 3) := by decide +kernel
theorem dX4_tellCobble_6 : decode cX4_tellCobble 6 = .ok (.getfield 87, 3) := by decide +kernel
theorem dX4_tellCobble_9 : decode cX4_tellCobble 9 = .ok (.invokevirtual 48, 3) := by decide +kernel
theorem dX4_tellCobble_12 : decode cX4_tellCobble 12 = .ok (.istore_n 3, 1) := by decide +kernel
theorem dX4_tellCobble_13 : decode cX4_tellCobble 13 = .ok (.iload_n 3, 1) := by decide +kernel
theorem dX4_tellCobble_14 : decode cX4_tellCobble 14 = .ok (.iconst (-1), 1) := by decide +kernel
theorem dX4_tellCobble_15 : decode cX4_tellCobble 15 = .ok (.if_icmp .ne 7, 3) := by decide +kernel
theorem dX4_tellCobble_18 : decode cX4_tellCobble 18 = .ok (.iconst (-1), 1) := by decide +kernel
theorem dX4_tellCobble_19 : decode cX4_tellCobble 19 = .ok (.goto 9, 3) := by decide +kernel
theorem dX4_tellCobble_22 : decode cX4_tellCobble 22 = .ok (.aload_n 0, 1) := by decide +kernel
theorem dX4_tellCobble_23 : decode cX4_tellCobble 23 = .ok (.iconst 0, 1) := by decide +kernel
theorem dX4_tellCobble_24 : decode cX4_tellCobble 24 = .ok (.iconst 4, 1) := by decide +kernel
theorem dX4_tellCobble_25 : decode cX4_tellCobble 25 = .ok (.invokevirtual 48, 3) := by decide +kernel
theorem dX4_tellCobble_28 : decode cX4_tellCobble 28 = .ok (.istore 4, 2) := by decide +kernel
theorem dX4_tellCobble_30 : decode cX4_tellCobble 30 = .ok (.iload 4, 2) := by decide +kernel
theorem dX4_tellCobble_32 : decode cX4_tellCobble 32 = .ok (.iconst (-1), 1) := by decide +kernel
theorem dX4_tellCobble_33 : decode cX4_tellCobble 33 = .ok (.if_icmp .eq 10, 3) := by decide +kernel
theorem dX4_tellCobble_36 : decode cX4_tellCobble 36 = .ok (.aload_n 0, 1) := by decide +kernel
theorem dX4_tellCobble_37 : decode cX4_tellCobble 37 = .ok (.invokevirtual 52, 3) := by decide +kernel
theorem dX4_tellCobble_40 : decode cX4_tellCobble 40 = .ok (.ifCond .ne 5, 3) := by decide +kernel
theorem dX4_tellCobble_43 : decode cX4_tellCobble 43 = .ok (.iconst 0, 1) := by decide +kernel
theorem dX4_tellCobble_44 : decode cX4_tellCobble 44 = .ok (.ireturn, 1) := by decide +kernel
theorem dX4_tellCobble_45 : decode cX4_tellCobble 45 = .ok (.aload_n 1, 1) := by decide +kernel
theorem dX4_tellCobble_46 : decode cX4_tellCobble 46 = .ok (.getfield 84, 3) := by decide +kernel
theorem dX4_tellCobble_49 : decode cX4_tellCobble 49 = .ok (.iload_n 3, 1) := by decide +kernel
theorem dX4_tellCobble_50 : decode cX4_tellCobble 50 = .ok (.iload_n 2, 1) := by decide +kernel
theorem dX4_tellCobble_51 : decode cX4_tellCobble 51 = .ok (.iload 4, 2) := by decide +kernel
theorem dX4_tellCobble_53 : decode cX4_tellCobble 53 = .ok (.imul, 1) := by decide +kernel
theorem dX4_tellCobble_54 : decode cX4_tellCobble 54 = .ok (.invokevirtual 90, 3) := by decide +kernel
theorem dX4_tellCobble_57 : decode cX4_tellCobble 57 = .ok (.iconst 1, 1) := by decide +kernel
theorem dX4_tellCobble_58 : decode cX4_tellCobble 58 = .ok (.ireturn, 1) := by decide +kernel
theorem dX4_tellWind_0 : decode cX4_tellWind 0 = .ok (.aload_n 0, 1) := by decide +kernel
theorem dX4_tellWind_1 : decode cX4_tellWind 1 = .ok (.iconst 0, 1) := by decide +kernel
theorem dX4_tellWind_2 : decode cX4_tellWind 2 = .ok (.iconst 5, 1) := by decide +kernel
theorem dX4_tellWind_3 : decode cX4_tellWind 3 = .ok (.invokevirtual 48, 3) := by decide +kernel
theorem dX4_tellWind_6 : decode cX4_tellWind 6 = .ok (.istore_n 3, 1) := by decide +kernel
theorem dX4_tellWind_7 : decode cX4_tellWind 7 = .ok (.iload_n 3, 1) := by decide +kernel
theorem dX4_tellWind_8 : decode cX4_tellWind 8 = .ok (.iconst (-1), 1) := by decide +kernel
theorem dX4_tellWind_9 : decode cX4_tellWind 9 = .ok (.if_icmp .ne 7, 3) := by decide +kernel
theorem dX4_tellWind_12 : decode cX4_tellWind 12 = .ok (.iconst (-1), 1) := by decide +kernel
theorem dX4_tellWind_13 : decode cX4_tellWind 13 = .ok (.goto 9, 3) := by decide +kernel
theorem dX4_tellWind_16 : decode cX4_tellWind 16 = .ok (.aload_n 0, 1) := by decide +kernel
theorem dX4_tellWind_17 : decode cX4_tellWind 17 = .ok (.iconst 0, 1) := by decide +kernel
theorem dX4_tellWind_18 : decode cX4_tellWind 18 = .ok (.iconst 3, 1) := by decide +kernel
theorem dX4_tellWind_19 : decode cX4_tellWind 19 = .ok (.invokevirtual 48, 3) := by decide +kernel
theorem dX4_tellWind_22 : decode cX4_tellWind 22 = .ok (.istore 4, 2) := by decide +kernel
theorem dX4_tellWind_24 : decode cX4_tellWind 24 = .ok (.iload 4, 2) := by decide +kernel
theorem dX4_tellWind_26 : decode cX4_tellWind 26 = .ok (.iconst (-1), 1) := by decide +kernel
theorem dX4_tellWind_27 : decode cX4_tellWind 27 = .ok (.if_icmp .eq 10, 3) := by decide +kernel
theorem dX4_tellWind_30 : decode cX4_tellWind 30 = .ok (.aload_n 0, 1) := by decide +kernel
theorem dX4_tellWind_31 : decode cX4_tellWind 31 = .ok (.invokevirtual 52, 3) := by decide +kernel
theorem dX4_tellWind_34 : decode cX4_tellWind 34 = .ok (.ifCond .ne 5, 3) := by decide +kernel
theorem dX4_tellWind_37 : decode cX4_tellWind 37 = .ok (.iconst 0, 1) := by decide +kernel
theorem dX4_tellWind_38 : decode cX4_tellWind 38 = .ok (.ireturn, 1) := by decide +kernel
theorem dX4_tellWind_39 : decode cX4_tellWind 39 = .ok (.aload_n 1, 1) := by decide +kernel
theorem dX4_tellWind_40 : decode cX4_tellWind 40 = .ok (.getfield 84, 3) := by decide +kernel
theorem dX4_tellWind_43 : decode cX4_tellWind 43 = .ok (.iload_n 3, 1) := by decide +kernel
theorem dX4_tellWind_44 : decode cX4_tellWind 44 = .ok (.iload_n 2, 1) := by decide +kernel
theorem dX4_tellWind_45 : decode cX4_tellWind 45 = .ok (.iload 4, 2) := by decide +kernel
theorem dX4_tellWind_47 : decode cX4_tellWind 47 = .ok (.imul, 1) := by decide +kernel
theorem dX4_tellWind_48 : decode cX4_tellWind 48 = .ok (.invokevirtual 93, 3) := by decide +kernel
theorem dX4_tellWind_51 : decode cX4_tellWind 51 = .ok (.iconst 1, 1) := by decide +kernel
theorem dX4_tellWind_52 : decode cX4_tellWind 52 = .ok (.ireturn, 1) := by decide +kernel
theorem dX4_tellHead_0 : decode cX4_tellHead 0 = .ok (.aload_n 1, 1) := by decide +kernel
theorem dX4_tellHead_1 : decode cX4_tellHead 1 = .ok (.getfield 96, 3) := by decide +kernel
theorem dX4_tellHead_4 : decode cX4_tellHead 4 = .ok (.iconst 5, 1) := by decide +kernel
theorem dX4_tellHead_5 : decode cX4_tellHead 5 = .ok (.if_icmp .lt 5, 3) := by decide +kernel
theorem dX4_tellHead_8 : decode cX4_tellHead 8 = .ok (.iconst 0, 1) := by decide +kernel
theorem dX4_tellHead_9 : decode cX4_tellHead 9 = .ok (.ireturn, 1) := by decide +kernel
theorem dX4_tellHead_10 : decode cX4_tellHead 10 = .ok (.aload_n 0, 1) := by decide +kernel
theorem dX4_tellHead_11 : decode cX4_tellHead 11 = .ok (.iconst 0, 1) := by decide +kernel
theorem dX4_tellHead_12 : decode cX4_tellHead 12 = .ok (.iconst 5, 1) := by decide +kernel
theorem dX4_tellHead_13 : decode cX4_tellHead 13 = .ok (.invokevirtual 48, 3) := by decide +kernel
theorem dX4_tellHead_16 : decode cX4_tellHead 16 = .ok (.istore_n 3, 1) := by decide +kernel
theorem dX4_tellHead_17 : decode cX4_tellHead 17 = .ok (.iload_n 3, 1) := by decide +kernel
theorem dX4_tellHead_18 : decode cX4_tellHead 18 = .ok (.iconst (-1), 1) := by decide +kernel
theorem dX4_tellHead_19 : decode cX4_tellHead 19 = .ok (.if_icmp .ne 7, 3) := by decide +kernel
theorem dX4_tellHead_22 : decode cX4_tellHead 22 = .ok (.iconst (-1), 1) := by decide +kernel
theorem dX4_tellHead_23 : decode cX4_tellHead 23 = .ok (.goto 10, 3) := by decide +kernel
theorem dX4_tellHead_26 : decode cX4_tellHead 26 = .ok (.aload_n 0, 1) := by decide +kernel
theorem dX4_tellHead_27 : decode cX4_tellHead 27 = .ok (.iconst 0, 1) := by decide +kernel
theorem dX4_tellHead_28 : decode cX4_tellHead 28 = .ok (.bipush 12, 2) := by decide +kernel
theorem dX4_tellHead_30 : decode cX4_tellHead 30 = .ok (.invokevirtual 48, 3) := by decide +kernel
theorem dX4_tellHead_33 : decode cX4_tellHead 33 = .ok (.istore 4, 2) := by decide +kernel
theorem dX4_tellHead_35 : decode cX4_tellHead 35 = .ok (.iload 4, 2) := by decide +kernel
theorem dX4_tellHead_37 : decode cX4_tellHead 37 = .ok (.iconst (-1), 1) := by decide +kernel
theorem dX4_tellHead_38 : decode cX4_tellHead 38 = .ok (.if_icmp .eq 10, 3) := by decide +kernel
theorem dX4_tellHead_41 : decode cX4_tellHead 41 = .ok (.aload_n 0, 1) := by decide +kernel
theorem dX4_tellHead_42 : decode cX4_tellHead 42 = .ok (.invokevirtual 52, 3) := by decide +kernel
theorem dX4_tellHead_45 : decode cX4_tellHead 45 = .ok (.ifCond .ne 5, 3) := by decide +kernel
theorem dX4_tellHead_48 : decode cX4_tellHead 48 = .ok (.iconst 0, 1) := by decide +kernel
theorem dX4_tellHead_49 : decode cX4_tellHead 49 = .ok (.ireturn, 1) := by decide +kernel
theorem dX4_tellHead_50 : decode cX4_tellHead 50 = .ok (.aload_n 1, 1) := by decide +kernel
theorem dX4_tellHead_51 : decode cX4_tellHead 51 = .ok (.iload_n 3, 1) := by decide +kernel
theorem dX4_tellHead_52 : decode cX4_tellHead 52 = .ok (.iload_n 2, 1) := by decide +kernel
theorem dX4_tellHead_53 : decode cX4_tellHead 53 = .ok (.iload 4, 2) := by decide +kernel
theorem dX4_tellHead_55 : decode cX4_tellHead 55 = .ok (.imul, 1) := by decide +kernel
theorem dX4_tellHead_56 : decode cX4_tellHead 56 = .ok (.invokevirtual 99, 3) := by decide +kernel
theorem dX4_tellHead_59 : decode cX4_tellHead 59 = .ok (.iconst 1, 1) := by decide +kernel
theorem dX4_tellHead_60 : decode cX4_tellHead 60 = .ok (.ireturn, 1) := by decide +kernel
theorem dX4_nextNumber_0 : decode cX4_nextNumber 0 = .ok (.aload_n 0, 1) := by decide +kernel
theorem dX4_nextNumber_1 : decode cX4_nextNumber 1 = .ok (.invokevirtual 32, 3) := by decide +kernel
theorem dX4_nextNumber_4 : decode cX4_nextNumber 4 = .ok (.aload_n 0, 1) := by decide +kernel
theorem dX4_nextNumber_5 : decode cX4_nextNumber 5 = .ok (.getfield 19, 3) := by decide +kernel
theorem dX4_nextNumber_8 : decode cX4_nextNumber 8 = .ok (.iconst 2, 1) := by decide +kernel
theorem dX4_nextNumber_9 : decode cX4_nextNumber 9 = .ok (.if_icmp .ne 16, 3) := by decide +kernel
theorem dX4_nextNumber_12 : decode cX4_nextNumber 12 = .ok (.aload_n 0, 1) := by decide +kernel
theorem dX4_nextNumber_13 : decode cX4_nextNumber 13 = .ok (.getfield 25, 3) := by decide +kernel
theorem dX4_nextNumber_16 : decode cX4_nextNumber 16 = .ok (.aload_n 0, 1) := by decide +kernel
theorem dX4_nextNumber_17 : decode cX4_nextNumber 17 = .ok (.getfield 22, 3) := by decide +kernel
theorem dX4_nextNumber_20 : decode cX4_nextNumber 20 = .ok (.isub, 1) := by decide +kernel
theorem dX4_nextNumber_21 : decode cX4_nextNumber 21 = .ok (.iconst 2, 1) := by decide +kernel
theorem dX4_nextNumber_22 : decode cX4_nextNumber 22 = .ok (.if_icmp .le 5, 3) := by decide +kernel
theorem dX4_nextNumber_25 : decode cX4_nextNumber 25 = .ok (.iconst (-1), 1) := by decide +kernel
theorem dX4_nextNumber_26 : decode cX4_nextNumber 26 = .ok (.ireturn, 1) := by decide +kernel
theorem dX4_nextNumber_27 : decode cX4_nextNumber 27 = .ok (.iconst 0, 1) := by decide +kernel
theorem dX4_nextNumber_28 : decode cX4_nextNumber 28 = .ok (.istore_n 3, 1) := by decide +kernel
theorem dX4_nextNumber_29 : decode cX4_nextNumber 29 = .ok (.aload_n 0, 1) := by decide +kernel
theorem dX4_nextNumber_30 : decode cX4_nextNumber 30 = .ok (.getfield 22, 3) := by decide +kernel
theorem dX4_nextNumber_33 : decode cX4_nextNumber 33 = .ok (.istore 4, 2) := by decide +kernel
theorem dX4_nextNumber_35 : decode cX4_nextNumber 35 = .ok (.iload 4, 2) := by decide +kernel
theorem dX4_nextNumber_37 : decode cX4_nextNumber 37 = .ok (.aload_n 0, 1) := by decide +kernel
theorem dX4_nextNumber_38 : decode cX4_nextNumber 38 = .ok (.getfield 25, 3) := by decide +kernel
theorem dX4_nextNumber_41 : decode cX4_nextNumber 41 = .ok (.if_icmp .ge 24, 3) := by decide +kernel
theorem dX4_nextNumber_44 : decode cX4_nextNumber 44 = .ok (.iload_n 3, 1) := by decide +kernel
theorem dX4_nextNumber_45 : decode cX4_nextNumber 45 = .ok (.bipush 10, 2) := by decide +kernel
theorem dX4_nextNumber_47 : decode cX4_nextNumber 47 = .ok (.imul, 1) := by decide +kernel
theorem dX4_nextNumber_48 : decode cX4_nextNumber 48 = .ok (.aload_n 0, 1) := by decide +kernel
theorem dX4_nextNumber_49 : decode cX4_nextNumber 49 = .ok (.iload 4, 2) := by decide +kernel
theorem dX4_nextNumber_51 : decode cX4_nextNumber 51 = .ok (.invokevirtual 102, 3) := by decide +kernel
theorem dX4_nextNumber_54 : decode cX4_nextNumber 54 = .ok (.iadd, 1) := by decide +kernel
theorem dX4_nextNumber_55 : decode cX4_nextNumber 55 = .ok (.bipush 48, 2) := by decide +kernel
theorem dX4_nextNumber_57 : decode cX4_nextNumber 57 = .ok (.isub, 1) := by decide +kernel
theorem dX4_nextNumber_58 : decode cX4_nextNumber 58 = .ok (.istore_n 3, 1) := by decide +kernel
theorem dX4_nextNumber_59 : decode cX4_nextNumber 59 = .ok (.iinc 4 1, 3) := by decide +kernel
theorem dX4_nextNumber_62 : decode cX4_nextNumber 62 = .ok (.goto (-27), 3) := by decide +kernel
theorem dX4_nextNumber_65 : decode cX4_nextNumber 65 = .ok (.iload_n 3, 1) := by decide +kernel
theorem dX4_nextNumber_66 : decode cX4_nextNumber 66 = .ok (.iload_n 1, 1) := by decide +kernel
theorem dX4_nextNumber_67 : decode cX4_nextNumber 67 = .ok (.iload_n 2, 1) := by decide +kernel
theorem dX4_nextNumber_68 : decode cX4_nextNumber 68 = .ok (.invokestatic 28, 3) := by decide +kernel
theorem dX4_nextNumber_71 : decode cX4_nextNumber 71 = .ok (.ifCond .eq 7, 3) := by decide +kernel
theorem dX4_nextNumber_74 : decode cX4_nextNumber 74 = .ok (.iload_n 3, 1) := by decide +kernel
theorem dX4_nextNumber_75 : decode cX4_nextNumber 75 = .ok (.goto 4, 3) := by decide +kernel
theorem dX4_nextNumber_78 : decode cX4_nextNumber 78 = .ok (.iconst (-1), 1) := by decide +kernel
theorem dX4_nextNumber_79 : decode cX4_nextNumber 79 = .ok (.ireturn, 1) := by decide +kernel
theorem dX4_nextIsEnd_0 : decode cX4_nextIsEnd 0 = .ok (.aload_n 0, 1) := by decide +kernel
theorem dX4_nextIsEnd_1 : decode cX4_nextIsEnd 1 = .ok (.invokevirtual 32, 3) := by decide +kernel
theorem dX4_nextIsEnd_4 : decode cX4_nextIsEnd 4 = .ok (.aload_n 0, 1) := by decide +kernel
theorem dX4_nextIsEnd_5 : decode cX4_nextIsEnd 5 = .ok (.getfield 19, 3) := by decide +kernel
theorem dX4_nextIsEnd_8 : decode cX4_nextIsEnd 8 = .ok (.iconst 3, 1) := by decide +kernel
theorem dX4_nextIsEnd_9 : decode cX4_nextIsEnd 9 = .ok (.if_icmp .ne 7, 3) := by decide +kernel
theorem dX4_nextIsEnd_12 : decode cX4_nextIsEnd 12 = .ok (.iconst 1, 1) := by decide +kernel
theorem dX4_nextIsEnd_13 : decode cX4_nextIsEnd 13 = .ok (.goto 4, 3) := by decide +kernel
theorem dX4_nextIsEnd_16 : decode cX4_nextIsEnd 16 = .ok (.iconst 0, 1) := by decide +kernel
theorem dX4_nextIsEnd_17 : decode cX4_nextIsEnd 17 = .ok (.ireturn, 1) := by decide +kernel
theorem dX4_isWord_0 : decode cX4_isWord 0 = .ok (.aload_n 0, 1) := by decide +kernel
theorem dX4_isWord_1 : decode cX4_isWord 1 = .ok (.getfield 19, 3) := by decide +kernel
theorem dX4_isWord_4 : decode cX4_isWord 4 = .ok (.iconst 1, 1) := by decide +kernel
theorem dX4_isWord_5 : decode cX4_isWord 5 = .ok (.if_icmp .ne 19, 3) := by decide +kernel
theorem dX4_isWord_8 : decode cX4_isWord 8 = .ok (.aload_n 0, 1) := by decide +kernel
theorem dX4_isWord_9 : decode cX4_isWord 9 = .ok (.getfield 25, 3) := by decide +kernel
theorem dX4_isWord_12 : decode cX4_isWord 12 = .ok (.aload_n 0, 1) := by decide +kernel
theorem dX4_isWord_13 : decode cX4_isWord 13 = .ok (.getfield 22, 3) := by decide +kernel
theorem dX4_isWord_16 : decode cX4_isWord 16 = .ok (.isub, 1) := by decide +kernel
theorem dX4_isWord_17 : decode cX4_isWord 17 = .ok (.aload_n 1, 1) := by decide +kernel
theorem dX4_isWord_18 : decode cX4_isWord 18 = .ok (.invokevirtual 106, 3) := by decide +kernel
theorem dX4_isWord_21 : decode cX4_isWord 21 = .ok (.if_icmp .eq 5, 3) := by decide +kernel
theorem dX4_isWord_24 : decode cX4_isWord 24 = .ok (.iconst 0, 1) := by decide +kernel
theorem dX4_isWord_25 : decode cX4_isWord 25 = .ok (.ireturn, 1) := by decide +kernel
theorem dX4_isWord_26 : decode cX4_isWord 26 = .ok (.iconst 0, 1) := by decide +kernel
theorem dX4_isWord_27 : decode cX4_isWord 27 = .ok (.istore_n 2, 1) := by decide +kernel
theorem dX4_isWord_28 : decode cX4_isWord 28 = .ok (.iload_n 2, 1) := by decide +kernel
theorem dX4_isWord_29 : decode cX4_isWord 29 = .ok (.aload_n 1, 1) := by decide +kernel
theorem dX4_isWord_30 : decode cX4_isWord 30 = .ok (.invokevirtual 106, 3) := by decide +kernel
theorem dX4_isWord_33 : decode cX4_isWord 33 = .ok (.if_icmp .ge 29, 3) := by decide +kernel
theorem dX4_isWord_36 : decode cX4_isWord 36 = .ok (.aload_n 0, 1) := by decide +kernel
theorem dX4_isWord_37 : decode cX4_isWord 37 = .ok (.aload_n 0, 1) := by decide +kernel
theorem dX4_isWord_38 : decode cX4_isWord 38 = .ok (.getfield 22, 3) := by decide +kernel
theorem dX4_isWord_41 : decode cX4_isWord 41 = .ok (.iload_n 2, 1) := by decide +kernel
theorem dX4_isWord_42 : decode cX4_isWord 42 = .ok (.iadd, 1) := by decide +kernel
theorem dX4_isWord_43 : decode cX4_isWord 43 = .ok (.invokevirtual 102, 3) := by decide +kernel
theorem dX4_isWord_46 : decode cX4_isWord 46 = .ok (.aload_n 1, 1) := by decide +kernel
theorem dX4_isWord_47 : decode cX4_isWord 47 = .ok (.iload_n 2, 1) := by decide +kernel
theorem dX4_isWord_48 : decode cX4_isWord 48 = .ok (.invokevirtual 111, 3) := by decide +kernel
theorem dX4_isWord_51 : decode cX4_isWord 51 = .ok (.if_icmp .eq 5, 3) := by decide +kernel
theorem dX4_isWord_54 : decode cX4_isWord 54 = .ok (.iconst 0, 1) := by decide +kernel
theorem dX4_isWord_55 : decode cX4_isWord 55 = .ok (.ireturn, 1) := by decide +kernel
theorem dX4_isWord_56 : decode cX4_isWord 56 = .ok (.iinc 2 1, 3) := by decide +kernel
theorem dX4_isWord_59 : decode cX4_isWord 59 = .ok (.goto (-31), 3) := by decide +kernel
theorem dX4_isWord_62 : decode cX4_isWord 62 = .ok (.iconst 1, 1) := by decide +kernel
theorem dX4_isWord_63 : decode cX4_isWord 63 = .ok (.ireturn, 1) := by decide +kernel
theorem dX4_nextToken_0 : decode cX4_nextToken 0 = .ok (.aload_n 0, 1) := by decide +kernel
theorem dX4_nextToken_1 : decode cX4_nextToken 1 = .ok (.aload_n 0, 1) := by decide +kernel
theorem dX4_nextToken_2 : decode cX4_nextToken 2 = .ok (.getfield 25, 3) := by decide +kernel
theorem dX4_nextToken_5 : decode cX4_nextToken 5 = .ok (.putfield 22, 3) := by decide +kernel
theorem dX4_nextToken_8 : decode cX4_nextToken 8 = .ok (.aload_n 0, 1) := by decide +kernel
theorem dX4_nextToken_9 : decode cX4_nextToken 9 = .ok (.getfield 22, 3) := by decide +kernel
theorem dX4_nextToken_12 : decode cX4_nextToken 12 = .ok (.aload_n 0, 1) := by decide +kernel
theorem dX4_nextToken_13 : decode cX4_nextToken 13 = .ok (.getfield 15, 3) := by decide +kernel
theorem dX4_nextToken_16 : decode cX4_nextToken 16 = .ok (.if_icmp .ge 29, 3) := by decide +kernel
theorem dX4_nextToken_19 : decode cX4_nextToken 19 = .ok (.aload_n 0, 1) := by decide +kernel
theorem dX4_nextToken_20 : decode cX4_nextToken 20 = .ok (.aload_n 0, 1) := by decide +kernel
theorem dX4_nextToken_21 : decode cX4_nextToken 21 = .ok (.getfield 22, 3) := by decide +kernel
theorem dX4_nextToken_24 : decode cX4_nextToken 24 = .ok (.invokevirtual 102, 3) := by decide +kernel
theorem dX4_nextToken_27 : decode cX4_nextToken 27 = .ok (.bipush 32, 2) := by decide +kernel
theorem dX4_nextToken_29 : decode cX4_nextToken 29 = .ok (.if_icmp .ne 16, 3) := by decide +kernel
theorem dX4_nextToken_32 : decode cX4_nextToken 32 = .ok (.aload_n 0, 1) := by decide +kernel
theorem dX4_nextToken_33 : decode cX4_nextToken 33 = .ok (.dup, 1) := by decide +kernel
theorem dX4_nextToken_34 : decode cX4_nextToken 34 = .ok (.getfield 22, 3) := by decide +kernel
theorem dX4_nextToken_37 : decode cX4_nextToken 37 = .ok (.iconst 1, 1) := by decide +kernel
theorem dX4_nextToken_38 : decode cX4_nextToken 38 = .ok (.iadd, 1) := by decide +kernel
theorem dX4_nextToken_39 : decode cX4_nextToken 39 = .ok (.putfield 22, 3) := by decide +kernel
theorem dX4_nextToken_42 : decode cX4_nextToken 42 = .ok (.goto (-34), 3) := by decide +kernel
theorem dX4_nextToken_45 : decode cX4_nextToken 45 = .ok (.aload_n 0, 1) := by decide +kernel
theorem dX4_nextToken_46 : decode cX4_nextToken 46 = .ok (.aload_n 0, 1) := by decide +kernel
theorem dX4_nextToken_47 : decode cX4_nextToken 47 = .ok (.getfield 22, 3) := by decide +kernel
theorem dX4_nextToken_50 : decode cX4_nextToken 50 = .ok (.aload_n 0, 1) := by decide +kernel
theorem dX4_nextToken_51 : decode cX4_nextToken 51 = .ok (.getfield 15, 3) := by decide +kernel
theorem dX4_nextToken_54 : decode cX4_nextToken 54 = .ok (.if_icmp .ge 17, 3) := by decide +kernel
theorem dX4_nextToken_57 : decode cX4_nextToken 57 = .ok (.aload_n 0, 1) := by decide +kernel
theorem dX4_nextToken_58 : decode cX4_nextToken 58 = .ok (.aload_n 0, 1) := by decide +kernel
theorem dX4_nextToken_59 : decode cX4_nextToken 59 = .ok (.getfield 22, 3) := by decide +kernel
theorem dX4_nextToken_62 : decode cX4_nextToken 62 = .ok (.invokevirtual 102, 3) := by decide +kernel
theorem dX4_nextToken_65 : decode cX4_nextToken 65 = .ok (.invokestatic 115, 3) := by decide +kernel
theorem dX4_nextToken_68 : decode cX4_nextToken 68 = .ok (.goto 4, 3) := by decide +kernel
theorem dX4_nextToken_71 : decode cX4_nextToken 71 = .ok (.iconst 0, 1) := by decide +kernel
theorem dX4_nextToken_72 : decode cX4_nextToken 72 = .ok (.putfield 19, 3) := by decide +kernel
theorem dX4_nextToken_75 : decode cX4_nextToken 75 = .ok (.aload_n 0, 1) := by decide +kernel
theorem dX4_nextToken_76 : decode cX4_nextToken 76 = .ok (.aload_n 0, 1) := by decide +kernel
theorem dX4_nextToken_77 : decode cX4_nextToken 77 = .ok (.getfield 22, 3) := by decide +kernel
theorem dX4_nextToken_80 : decode cX4_nextToken 80 = .ok (.iconst 1, 1) := by decide +kernel
theorem dX4_nextToken_81 : decode cX4_nextToken 81 = .ok (.iadd, 1) := by decide +kernel
theorem dX4_nextToken_82 : decode cX4_nextToken 82 = .ok (.aload_n 0, 1) := by decide +kernel
theorem dX4_nextToken_83 : decode cX4_nextToken 83 = .ok (.getfield 15, 3) := by decide +kernel
theorem dX4_nextToken_86 : decode cX4_nextToken 86 = .ok (.invokestatic 118, 3) := by decide +kernel
theorem dX4_nextToken_89 : decode cX4_nextToken 89 = .ok (.putfield 25, 3) := by decide +kernel
theorem dX4_nextToken_92 : decode cX4_nextToken 92 = .ok (.aload_n 0, 1) := by decide +kernel
theorem dX4_nextToken_93 : decode cX4_nextToken 93 = .ok (.getfield 19, 3) := by decide +kernel
theorem dX4_nextToken_96 : decode cX4_nextToken 96 = .ok (.iconst 1, 1) := by decide +kernel
theorem dX4_nextToken_97 : decode cX4_nextToken 97 = .ok (.if_icmp .eq 11, 3) := by decide +kernel
theorem dX4_nextToken_100 : decode cX4_nextToken 100 = .ok (.aload_n 0, 1) := by decide +kernel
theorem dX4_nextToken_101 : decode cX4_nextToken 101 = .ok (.getfield 19, 3) := by decide +kernel
theorem dX4_nextToken_104 : decode cX4_nextToken 104 = .ok (.iconst 2, 1) := by decide +kernel
theorem dX4_nextToken_105 : decode cX4_nextToken 105 = .ok (.if_icmp .ne 45, 3) := by decide +kernel
theorem dX4_nextToken_108 : decode cX4_nextToken 108 = .ok (.aload_n 0, 1) := by decide +kernel
theorem dX4_nextToken_109 : decode cX4_nextToken 109 = .ok (.getfield 25, 3) := by decide +kernel
theorem dX4_nextToken_112 : decode cX4_nextToken 112 = .ok (.aload_n 0, 1) := by decide +kernel
theorem dX4_nextToken_113 : decode cX4_nextToken 113 = .ok (.getfield 15, 3) := by decide +kernel
theorem dX4_nextToken_116 : decode cX4_nextToken 116 = .ok (.if_icmp .ge 34, 3) := by decide +kernel
theorem dX4_nextToken_119 : decode cX4_nextToken 119 = .ok (.aload_n 0, 1) := by decide +kernel
theorem dX4_nextToken_120 : decode cX4_nextToken 120 = .ok (.aload_n 0, 1) := by decide +kernel
theorem dX4_nextToken_121 : decode cX4_nextToken 121 = .ok (.getfield 25, 3) := by decide +kernel
theorem dX4_nextToken_124 : decode cX4_nextToken 124 = .ok (.invokevirtual 102, 3) := by decide +kernel
theorem dX4_nextToken_127 : decode cX4_nextToken 127 = .ok (.invokestatic 115, 3) := by decide +kernel
theorem dX4_nextToken_130 : decode cX4_nextToken 130 = .ok (.aload_n 0, 1) := by decide +kernel
theorem dX4_nextToken_131 : decode cX4_nextToken 131 = .ok (.getfield 19, 3) := by decide +kernel
theorem dX4_nextToken_134 : decode cX4_nextToken 134 = .ok (.if_icmp .ne 16, 3) := by decide +kernel
theorem dX4_nextToken_137 : decode cX4_nextToken 137 = .ok (.aload_n 0, 1) := by decide +kernel
theorem dX4_nextToken_138 : decode cX4_nextToken 138 = .ok (.dup, 1) := by decide +kernel
theorem dX4_nextToken_139 : decode cX4_nextToken 139 = .ok (.getfield 25, 3) := by decide +kernel
theorem dX4_nextToken_142 : decode cX4_nextToken 142 = .ok (.iconst 1, 1) := by decide +kernel
theorem dX4_nextToken_143 : decode cX4_nextToken 143 = .ok (.iadd, 1) := by decide +kernel
theorem dX4_nextToken_144 : decode cX4_nextToken 144 = .ok (.putfield 25, 3) := by decide +kernel
theorem dX4_nextToken_147 : decode cX4_nextToken 147 = .ok (.goto (-39), 3) := by decide +kernel
theorem dX4_nextToken_150 : decode cX4_nextToken 150 = .ok (.return_, 1) := by decide +kernel
theorem dX4_sortOf_0 : decode cX4_sortOf 0 = .ok (.iload_n 0, 1) := by decide +kernel
theorem dX4_sortOf_1 : decode cX4_sortOf 1 = .ok (.bipush 97, 2) := by decide +kernel
theorem dX4_sortOf_3 : decode cX4_sortOf 3 = .ok (.if_icmp .lt 11, 3) := by decide +kernel
theorem dX4_sortOf_6 : decode cX4_sortOf 6 = .ok (.iload_n 0, 1) := by decide +kernel
theorem dX4_sortOf_7 : decode cX4_sortOf 7 = .ok (.bipush 122, 2) := by decide +kernel
theorem dX4_sortOf_9 : decode cX4_sortOf 9 = .ok (.if_icmp .gt 5, 3) := by decide +kernel
theorem dX4_sortOf_12 : decode cX4_sortOf 12 = .ok (.iconst 1, 1) := by decide +kernel
theorem dX4_sortOf_13 : decode cX4_sortOf 13 = .ok (.ireturn, 1) := by decide +kernel
theorem dX4_sortOf_14 : decode cX4_sortOf 14 = .ok (.iload_n 0, 1) := by decide +kernel
theorem dX4_sortOf_15 : decode cX4_sortOf 15 = .ok (.bipush 48, 2) := by decide +kernel
theorem dX4_sortOf_17 : decode cX4_sortOf 17 = .ok (.if_icmp .lt 11, 3) := by decide +kernel
theorem dX4_sortOf_20 : decode cX4_sortOf 20 = .ok (.iload_n 0, 1) := by decide +kernel
theorem dX4_sortOf_21 : decode cX4_sortOf 21 = .ok (.bipush 57, 2) := by decide +kernel
theorem dX4_sortOf_23 : decode cX4_sortOf 23 = .ok (.if_icmp .gt 5, 3) := by decide +kernel
theorem dX4_sortOf_26 : decode cX4_sortOf 26 = .ok (.iconst 2, 1) := by decide +kernel
theorem dX4_sortOf_27 : decode cX4_sortOf 27 = .ok (.ireturn, 1) := by decide +kernel
theorem dX4_sortOf_28 : decode cX4_sortOf 28 = .ok (.iload_n 0, 1) := by decide +kernel
theorem dX4_sortOf_29 : decode cX4_sortOf 29 = .ok (.bipush 59, 2) := by decide +kernel
theorem dX4_sortOf_31 : decode cX4_sortOf 31 = .ok (.if_icmp .ne 7, 3) := by decide +kernel
theorem dX4_sortOf_34 : decode cX4_sortOf 34 = .ok (.iconst 3, 1) := by decide +kernel
theorem dX4_sortOf_35 : decode cX4_sortOf 35 = .ok (.goto 4, 3) := by decide +kernel
theorem dX4_sortOf_38 : decode cX4_sortOf 38 = .ok (.iconst 4, 1) := by decide +kernel
theorem dX4_sortOf_39 : decode cX4_sortOf 39 = .ok (.ireturn, 1) := by decide +kernel
theorem dX4_byteAt_0 : decode cX4_byteAt 0 = .ok (.iload_n 1, 1) := by decide +kernel
theorem dX4_byteAt_1 : decode cX4_byteAt 1 = .ok (.iconst 0, 1) := by decide +kernel
theorem dX4_byteAt_2 : decode cX4_byteAt 2 = .ok (.sipush 149, 3) := by decide +kernel
theorem dX4_byteAt_5 : decode cX4_byteAt 5 = .ok (.invokestatic 28, 3) := by decide +kernel
theorem dX4_byteAt_8 : decode cX4_byteAt 8 = .ok (.ifCond .eq 12, 3) := by decide +kernel
theorem dX4_byteAt_11 : decode cX4_byteAt 11 = .ok (.aload_n 0, 1) := by decide +kernel
theorem dX4_byteAt_12 : decode cX4_byteAt 12 = .ok (.getfield 9, 3) := by decide +kernel
theorem dX4_byteAt_15 : decode cX4_byteAt 15 = .ok (.iload_n 1, 1) := by decide +kernel
theorem dX4_byteAt_16 : decode cX4_byteAt 16 = .ok (.iaload, 1) := by decide +kernel
theorem dX4_byteAt_17 : decode cX4_byteAt 17 = .ok (.goto 4, 3) := by decide +kernel
theorem dX4_byteAt_20 : decode cX4_byteAt 20 = .ok (.iconst 0, 1) := by decide +kernel
theorem dX4_byteAt_21 : decode cX4_byteAt 21 = .ok (.ireturn, 1) := by decide +kernel
theorem dX5_init_0 : decode cX5_init 0 = .ok (.aload_n 0, 1) := by decide +kernel
theorem dX5_init_1 : decode cX5_init 1 = .ok (.invokespecial 3, 3) := by decide +kernel
theorem dX5_init_4 : decode cX5_init 4 = .ok (.aload_n 0, 1) := by decide +kernel
theorem dX5_init_5 : decode cX5_init 5 = .ok (.bipush 8, 2) := by decide +kernel
theorem dX5_init_7 : decode cX5_init 7 = .ok (.putfield 9, 3) := by decide +kernel
theorem dX5_init_10 : decode cX5_init 10 = .ok (.aload_n 0, 1) := by decide +kernel
theorem dX5_init_11 : decode cX5_init 11 = .ok (.iconst 5, 1) := by decide +kernel
theorem dX5_init_12 : decode cX5_init 12 = .ok (.putfield 15, 3) := by decide +kernel
theorem dX5_init_15 : decode cX5_init 15 = .ok (.aload_n 0, 1) := by decide +kernel
theorem dX5_init_16 : decode cX5_init 16 = .ok (.bipush 16, 2) := by decide +kernel
theorem dX5_init_18 : decode cX5_init 18 = .ok (.newarray .int, 2) := by decide +kernel
theorem dX5_init_20 : decode cX5_init 20 = .ok (.putfield 18, 3) := by decide +kernel
theorem dX5_init_23 : decode cX5_init 23 = .ok (.aload_n 0, 1) := by decide +kernel
theorem dX5_init_24 : decode cX5_init 24 = .ok (.bipush 6, 2) := by decide +kernel
theorem dX5_init_26 : decode cX5_init 26 = .ok (.newarray .int, 2) := by decide +kernel
theorem dX5_init_28 : decode cX5_init 28 = .ok (.putfield 22, 3) := by decide +kernel
theorem dX5_init_31 : decode cX5_init 31 = .ok (.return_, 1) := by decide +kernel
theorem dX5_beginAnew_0 : decode cX5_beginAnew 0 = .ok (.aload_n 0, 1) := by decide +kernel
theorem dX5_beginAnew_1 : decode cX5_beginAnew 1 = .ok (.iload_n 1, 1) := by decide +kernel
theorem dX5_beginAnew_2 : decode cX5_beginAnew 2 = .ok (.putfield 9, 3) := by decide +kernel
theorem dX5_beginAnew_5 : decode cX5_beginAnew 5 = .ok (.aload_n 0, 1) := by decide +kernel
theorem dX5_beginAnew_6 : decode cX5_beginAnew 6 = .ok (.iload_n 2, 1) := by decide +kernel
theorem dX5_beginAnew_7 : decode cX5_beginAnew 7 = .ok (.putfield 15, 3) := by decide +kernel
theorem dX5_beginAnew_10 : decode cX5_beginAnew 10 = .ok (.iconst 0, 1) := by decide +kernel
theorem dX5_beginAnew_11 : decode cX5_beginAnew 11 = .ok (.istore_n 3, 1) := by decide +kernel
theorem dX5_beginAnew_12 : decode cX5_beginAnew 12 = .ok (.iload_n 3, 1) := by decide +kernel
theorem dX5_beginAnew_13 : decode cX5_beginAnew 13 = .ok (.aload_n 0, 1) := by decide +kernel
theorem dX5_beginAnew_14 : decode cX5_beginAnew 14 = .ok (.getfield 18, 3) := by decide +kernel
theorem dX5_beginAnew_17 : decode cX5_beginAnew 17 = .ok (.arraylength, 1) := by decide +kernel
theorem dX5_beginAnew_18 : decode cX5_beginAnew 18 = .ok (.if_icmp .ge 16, 3) := by decide +kernel
theorem dX5_beginAnew_21 : decode cX5_beginAnew 21 = .ok (.aload_n 0, 1) := by decide +kernel
theorem dX5_beginAnew_22 : decode cX5_beginAnew 22 = .ok (.getfield 18, 3) := by decide +kernel
theorem dX5_beginAnew_25 : decode cX5_beginAnew 25 = .ok (.iload_n 3, 1) := by decide +kernel
theorem dX5_beginAnew_26 : decode cX5_beginAnew 26 = .ok (.iconst 0, 1) := by decide +kernel
theorem dX5_beginAnew_27 : decode cX5_beginAnew 27 = .ok (.iastore, 1) := by decide +kernel
theorem dX5_beginAnew_28 : decode cX5_beginAnew 28 = .ok (.iinc 3 1, 3) := by decide +kernel
theorem dX5_beginAnew_31 : decode cX5_beginAnew 31 = .ok (.goto (-19), 3) := by decide +kernel
theorem dX5_beginAnew_34 : decode cX5_beginAnew 34 = .ok (.iconst 0, 1) := by decide +kernel
theorem dX5_beginAnew_35 : decode cX5_beginAnew 35 = .ok (.istore_n 3, 1) := by decide +kernel
theorem dX5_beginAnew_36 : decode cX5_beginAnew 36 = .ok (.iload_n 3, 1) := by decide +kernel
theorem dX5_beginAnew_37 : decode cX5_beginAnew 37 = .ok (.aload_n 0, 1) := by decide +kernel
theorem dX5_beginAnew_38 : decode cX5_beginAnew 38 = .ok (.getfield 22, 3) := by decide +kernel
theorem dX5_beginAnew_41 : decode cX5_beginAnew 41 = .ok (.arraylength, 1) := by decide +kernel
theorem dX5_beginAnew_42 : decode cX5_beginAnew 42 = .ok (.if_icmp .ge 16, 3) := by decide +kernel
theorem dX5_beginAnew_45 : decode cX5_beginAnew 45 = .ok (.aload_n 0, 1) := by decide +kernel
theorem dX5_beginAnew_46 : decode cX5_beginAnew 46 = .ok (.getfield 22, 3) := by decide +kernel
theorem dX5_beginAnew_49 : decode cX5_beginAnew 49 = .ok (.iload_n 3, 1) := by decide +kernel
theorem dX5_beginAnew_50 : decode cX5_beginAnew 50 = .ok (.iconst 0, 1) := by decide +kernel
theorem dX5_beginAnew_51 : decode cX5_beginAnew 51 = .ok (.iastore, 1) := by decide +kernel
theorem dX5_beginAnew_52 : decode cX5_beginAnew 52 = .ok (.iinc 3 1, 3) := by decide +kernel
theorem dX5_beginAnew_55 : decode cX5_beginAnew 55 = .ok (.goto (-19), 3) := by decide +kernel
theorem dX5_beginAnew_58 : decode cX5_beginAnew 58 = .ok (.return_, 1) := by decide +kernel
theorem dX5_copyFrom_0 : decode cX5_copyFrom 0 = .ok (.aload_n 0, 1) := by decide +kernel
theorem dX5_copyFrom_1 : decode cX5_copyFrom 1 = .ok (.aload_n 1, 1) := by decide +kernel
theorem dX5_copyFrom_2 : decode cX5_copyFrom 2 = .ok (.getfield 9, 3) := by decide +kernel
theorem dX5_copyFrom_5 : decode cX5_copyFrom 5 = .ok (.putfield 9, 3) := by decide +kernel
theorem dX5_copyFrom_8 : decode cX5_copyFrom 8 = .ok (.aload_n 0, 1) := by decide +kernel
theorem dX5_copyFrom_9 : decode cX5_copyFrom 9 = .ok (.aload_n 1, 1) := by decide +kernel
theorem dX5_copyFrom_10 : decode cX5_copyFrom 10 = .ok (.getfield 15, 3) := by decide +kernel
theorem dX5_copyFrom_13 : decode cX5_copyFrom 13 = .ok (.putfield 15, 3) := by decide +kernel
theorem dX5_copyFrom_16 : decode cX5_copyFrom 16 = .ok (.aload_n 1, 1) := by decide +kernel
theorem dX5_copyFrom_17 : decode cX5_copyFrom 17 = .ok (.getfield 18, 3) := by decide +kernel
theorem dX5_copyFrom_20 : decode cX5_copyFrom 20 = .ok (.iconst 0, 1) := by decide +kernel
theorem dX5_copyFrom_21 : decode cX5_copyFrom 21 = .ok (.aload_n 0, 1) := by decide +kernel
theorem dX5_copyFrom_22 : decode cX5_copyFrom 22 = .ok (.getfield 18, 3) := by decide +kernel
theorem dX5_copyFrom_25 : decode cX5_copyFrom 25 = .ok (.iconst 0, 1) := by decide +kernel
theorem dX5_copyFrom_26 : decode cX5_copyFrom 26 = .ok (.bipush 16, 2) := by decide +kernel
theorem dX5_copyFrom_28 : decode cX5_copyFrom 28 = .ok (.invokestatic 25, 3) := by decide +kernel
theorem dX5_copyFrom_31 : decode cX5_copyFrom 31 = .ok (.aload_n 1, 1) := by decide +kernel
theorem dX5_copyFrom_32 : decode cX5_copyFrom 32 = .ok (.getfield 22, 3) := by decide +kernel
theorem dX5_copyFrom_35 : decode cX5_copyFrom 35 = .ok (.iconst 0, 1) := by decide +kernel
theorem dX5_copyFrom_36 : decode cX5_copyFrom 36 = .ok (.aload_n 0, 1) := by decide +kernel
theorem dX5_copyFrom_37 : decode cX5_copyFrom 37 = .ok (.getfield 22, 3) := by decide +kernel
theorem dX5_copyFrom_40 : decode cX5_copyFrom 40 = .ok (.iconst 0, 1) := by decide +kernel
theorem dX5_copyFrom_41 : decode cX5_copyFrom 41 = .ok (.bipush 6, 2) := by decide +kernel
theorem dX5_copyFrom_43 : decode cX5_copyFrom 43 = .ok (.invokestatic 25, 3) := by decide +kernel
theorem dX5_copyFrom_46 : decode cX5_copyFrom 46 = .ok (.return_, 1) := by decide +kernel
theorem dX5_cobbleOf_0 : decode cX5_cobbleOf 0 = .ok (.iload_n 1, 1) := by decide +kernel
theorem dX5_cobbleOf_1 : decode cX5_cobbleOf 1 = .ok (.iconst 0, 1) := by decide +kernel
theorem dX5_cobbleOf_2 : decode cX5_cobbleOf 2 = .ok (.aload_n 0, 1) := by decide +kernel
theorem dX5_cobbleOf_3 : decode cX5_cobbleOf 3 = .ok (.getfield 18, 3) := by decide +kernel
theorem dX5_cobbleOf_6 : decode cX5_cobbleOf 6 = .ok (.arraylength, 1) := by decide +kernel
theorem dX5_cobbleOf_7 : decode cX5_cobbleOf 7 = .ok (.iconst 1, 1) := by decide +kernel
theorem dX5_cobbleOf_8 : decode cX5_cobbleOf 8 = .ok (.isub, 1) := by decide +kernel
theorem dX5_cobbleOf_9 : decode cX5_cobbleOf 9 = .ok (.invokestatic 31, 3) := by decide +kernel
theorem dX5_cobbleOf_12 : decode cX5_cobbleOf 12 = .ok (.ifCond .eq 12, 3) := by decide +kernel
theorem dX5_cobbleOf_15 : decode cX5_cobbleOf 15 = .ok (.aload_n 0, 1) := by decide +kernel
theorem dX5_cobbleOf_16 : decode cX5_cobbleOf 16 = .ok (.getfield 18, 3) := by decide +kernel
theorem dX5_cobbleOf_19 : decode cX5_cobbleOf 19 = .ok (.iload_n 1, 1) := by decide +kernel
theorem dX5_cobbleOf_20 : decode cX5_cobbleOf 20 = .ok (.iaload, 1) := by decide +kernel
theorem dX5_cobbleOf_21 : decode cX5_cobbleOf 21 = .ok (.goto 4, 3) := by decide +kernel
theorem dX5_cobbleOf_24 : decode cX5_cobbleOf 24 = .ok (.iconst 0, 1) := by decide +kernel
theorem dX5_cobbleOf_25 : decode cX5_cobbleOf 25 = .ok (.ireturn, 1) := by decide +kernel
theorem dX5_layCobble_0 : decode cX5_layCobble 0 = .ok (.iload_n 1, 1) := by decide +kernel
theorem dX5_layCobble_1 : decode cX5_layCobble 1 = .ok (.iconst 0, 1) := by decide +kernel
theorem dX5_layCobble_2 : decode cX5_layCobble 2 = .ok (.aload_n 0, 1) := by decide +kernel
theorem dX5_layCobble_3 : decode cX5_layCobble 3 = .ok (.getfield 18, 3) := by decide +kernel
theorem dX5_layCobble_6 : decode cX5_layCobble 6 = .ok (.arraylength, 1) := by decide +kernel
theorem dX5_layCobble_7 : decode cX5_layCobble 7 = .ok (.iconst 1, 1) := by decide +kernel
theorem dX5_layCobble_8 : decode cX5_layCobble 8 = .ok (.isub, 1) := by decide +kernel
theorem dX5_layCobble_9 : decode cX5_layCobble 9 = .ok (.invokestatic 31, 3) := by decide +kernel
theorem dX5_layCobble_12 : decode cX5_layCobble 12 = .ok (.ifCond .eq 10, 3) := by decide +kernel
theorem dX5_layCobble_15 : decode cX5_layCobble 15 = .ok (.aload_n 0, 1) := by decide +kernel
theorem dX5_layCobble_16 : decode cX5_layCobble 16 = .ok (.getfield 18, 3) := by decide +kernel
theorem dX5_layCobble_19 : decode cX5_layCobble 19 = .ok (.iload_n 1, 1) := by decide +kernel
theorem dX5_layCobble_20 : decode cX5_layCobble 20 = .ok (.iload_n 2, 1) := by decide +kernel
theorem dX5_layCobble_21 : decode cX5_layCobble 21 = .ok (.iastore, 1) := by decide +kernel
theorem dX5_layCobble_22 : decode cX5_layCobble 22 = .ok (.return_, 1) := by decide +kernel
theorem dX5_windIn_0 : decode cX5_windIn 0 = .ok (.aload_n 0, 1) := by decide +kernel
theorem dX5_windIn_1 : decode cX5_windIn 1 = .ok (.getfield 22, 3) := by decide +kernel
theorem dX5_windIn_4 : decode cX5_windIn 4 = .ok (.iload_n 1, 1) := by decide +kernel
theorem dX5_windIn_5 : decode cX5_windIn 5 = .ok (.bipush 6, 2) := by decide +kernel
theorem dX5_windIn_7 : decode cX5_windIn 7 = .ok (.invokestatic 35, 3) := by decide +kernel
theorem dX5_windIn_10 : decode cX5_windIn 10 = .ok (.iaload, 1) := by decide +kernel
theorem dX5_windIn_11 : decode cX5_windIn 11 = .ok (.ireturn, 1) := by decide +kernel
theorem dX5_setWind_0 : decode cX5_setWind 0 = .ok (.aload_n 0, 1) := by decide +kernel
theorem dX5_setWind_1 : decode cX5_setWind 1 = .ok (.getfield 22, 3) := by decide +kernel
theorem dX5_setWind_4 : decode cX5_setWind 4 = .ok (.iload_n 1, 1) := by decide +kernel
theorem dX5_setWind_5 : decode cX5_setWind 5 = .ok (.bipush 6, 2) := by decide +kernel
theorem dX5_setWind_7 : decode cX5_setWind 7 = .ok (.invokestatic 35, 3) := by decide +kernel
theorem dX5_setWind_10 : decode cX5_setWind 10 = .ok (.iload_n 2, 1) := by decide +kernel
theorem dX5_setWind_11 : decode cX5_setWind 11 = .ok (.iastore, 1) := by decide +kernel
theorem dX5_setWind_12 : decode cX5_setWind 12 = .ok (.return_, 1) := by decide +kernel
theorem dX5_cellBehind_0 : decode cX5_cellBehind 0 = .ok (.iload_n 1, 1) := by decide +kernel
theorem dX5_cellBehind_1 : decode cX5_cellBehind 1 = .ok (.iload_n 2, 1) := by decide +kernel
theorem dX5_cellBehind_2 : decode cX5_cellBehind 2 = .ok (.iadd, 1) := by decide +kernel
theorem dX5_cellBehind_3 : decode cX5_cellBehind 3 = .ok (.aload_n 0, 1) := by decide +kernel
theorem dX5_cellBehind_4 : decode cX5_cellBehind 4 = .ok (.getfield 9, 3) := by decide +kernel
theorem dX5_cellBehind_7 : decode cX5_cellBehind 7 = .ok (.invokestatic 41, 3) := by decide +kernel
theorem dX5_cellBehind_10 : decode cX5_cellBehind 10 = .ok (.ireturn, 1) := by decide +kernel
theorem dX5_fells_0 : decode cX5_fells 0 = .ok (.iload_n 1, 1) := by decide +kernel
theorem dX5_fells_1 : decode cX5_fells 1 = .ok (.aload_n 0, 1) := by decide +kernel
theorem dX5_fells_2 : decode cX5_fells 2 = .ok (.getfield 15, 3) := by decide +kernel
theorem dX5_fells_5 : decode cX5_fells 5 = .ok (.if_icmp .gt 12, 3) := by decide +kernel
theorem dX5_fells_8 : decode cX5_fells 8 = .ok (.iload_n 1, 1) := by decide +kernel
theorem dX5_fells_9 : decode cX5_fells 9 = .ok (.aload_n 0, 1) := by decide +kernel
theorem dX5_fells_10 : decode cX5_fells 10 = .ok (.getfield 15, 3) := by decide +kernel
theorem dX5_fells_13 : decode cX5_fells 13 = .ok (.ineg, 1) := by decide +kernel
theorem dX5_fells_14 : decode cX5_fells 14 = .ok (.if_icmp .ge 7, 3) := by decide +kernel
theorem dX5_fells_17 : decode cX5_fells 17 = .ok (.iconst 1, 1) := by decide +kernel
theorem dX5_fells_18 : decode cX5_fells 18 = .ok (.goto 4, 3) := by decide +kernel
theorem dX5_fells_21 : decode cX5_fells 21 = .ok (.iconst 0, 1) := by decide +kernel
theorem dX5_fells_22 : decode cX5_fells 22 = .ok (.ireturn, 1) := by decide +kernel
theorem dX5_addTo_0 : decode cX5_addTo 0 = .ok (.lload_n 1, 1) := by decide +kernel
theorem dX5_addTo_1 : decode cX5_addTo 1 = .ok (.lstore_n 3, 1) := by decide +kernel
theorem dX5_addTo_2 : decode cX5_addTo 2 = .ok (.iconst 0, 1) := by decide +kernel
theorem dX5_addTo_3 : decode cX5_addTo 3 = .ok (.istore 5, 2) := by decide +kernel
theorem dX5_addTo_5 : decode cX5_addTo 5 = .ok (.iload 5, 2) := by decide +kernel
theorem dX5_addTo_7 : decode cX5_addTo 7 = .ok (.aload_n 0, 1) := by decide +kernel
theorem dX5_addTo_8 : decode cX5_addTo 8 = .ok (.getfield 9, 3) := by decide +kernel
theorem dX5_addTo_11 : decode cX5_addTo 11 = .ok (.if_icmp .gt 31, 3) := by decide +kernel
theorem dX5_addTo_14 : decode cX5_addTo 14 = .ok (.iload 5, 2) := by decide +kernel
theorem dX5_addTo_16 : decode cX5_addTo 16 = .ok (.bipush 16, 2) := by decide +kernel
theorem dX5_addTo_18 : decode cX5_addTo 18 = .ok (.if_icmp .ge 24, 3) := by decide +kernel
theorem dX5_addTo_21 : decode cX5_addTo 21 = .ok (.ldc2_w 44, 3) := by decide +kernel
theorem dX5_addTo_24 : decode cX5_addTo 24 = .ok (.lload_n 3, 1) := by decide +kernel
theorem dX5_addTo_25 : decode cX5_addTo 25 = .ok (.lmul, 1) := by decide +kernel
theorem dX5_addTo_26 : decode cX5_addTo 26 = .ok (.aload_n 0, 1) := by decide +kernel
theorem dX5_addTo_27 : decode cX5_addTo 27 = .ok (.getfield 18, 3) := by decide +kernel
theorem dX5_addTo_30 : decode cX5_addTo 30 = .ok (.iload 5, 2) := by decide +kernel
theorem dX5_addTo_32 : decode cX5_addTo 32 = .ok (.iaload, 1) := by decide +kernel
theorem dX5_addTo_33 : decode cX5_addTo 33 = .ok (.i2l, 1) := by decide +kernel
theorem dX5_addTo_34 : decode cX5_addTo 34 = .ok (.ladd, 1) := by decide +kernel
theorem dX5_addTo_35 : decode cX5_addTo 35 = .ok (.lstore_n 3, 1) := by decide +kernel
theorem dX5_addTo_36 : decode cX5_addTo 36 = .ok (.iinc 5 1, 3) := by decide +kernel
theorem dX5_addTo_39 : decode cX5_addTo 39 = .ok (.goto (-34), 3) := by decide +kernel
theorem dX5_addTo_42 : decode cX5_addTo 42 = .ok (.iconst 0, 1) := by decide +kernel
theorem dX5_addTo_43 : decode cX5_addTo 43 = .ok (.istore 5, 2) := by decide +kernel
theorem dX5_addTo_45 : decode cX5_addTo 45 = .ok (.iload 5, 2) := by decide +kernel
theorem dX5_addTo_47 : decode cX5_addTo 47 = .ok (.bipush 6, 2) := by decide +kernel
theorem dX5_addTo_49 : decode cX5_addTo 49 = .ok (.if_icmp .ge 24, 3) := by decide +kernel
theorem dX5_addTo_52 : decode cX5_addTo 52 = .ok (.ldc2_w 44, 3) := by decide +kernel
theorem dX5_addTo_55 : decode cX5_addTo 55 = .ok (.lload_n 3, 1) := by decide +kernel
theorem dX5_addTo_56 : decode cX5_addTo 56 = .ok (.lmul, 1) := by decide +kernel
theorem dX5_addTo_57 : decode cX5_addTo 57 = .ok (.aload_n 0, 1) := by decide +kernel
theorem dX5_addTo_58 : decode cX5_addTo 58 = .ok (.getfield 22, 3) := by decide +kernel
theorem dX5_addTo_61 : decode cX5_addTo 61 = .ok (.iload 5, 2) := by decide +kernel
theorem dX5_addTo_63 : decode cX5_addTo 63 = .ok (.iaload, 1) := by decide +kernel
theorem dX5_addTo_64 : decode cX5_addTo 64 = .ok (.i2l, 1) := by decide +kernel
theorem dX5_addTo_65 : decode cX5_addTo 65 = .ok (.ladd, 1) := by decide +kernel
theorem dX5_addTo_66 : decode cX5_addTo 66 = .ok (.lstore_n 3, 1) := by decide +kernel
theorem dX5_addTo_67 : decode cX5_addTo 67 = .ok (.iinc 5 1, 3) := by decide +kernel
theorem dX5_addTo_70 : decode cX5_addTo 70 = .ok (.goto (-25), 3) := by decide +kernel
theorem dX5_addTo_73 : decode cX5_addTo 73 = .ok (.lload_n 3, 1) := by decide +kernel
theorem dX5_addTo_74 : decode cX5_addTo 74 = .ok (.lreturn, 1) := by decide +kernel
theorem dX6_init_0 : decode cX6_init 0 = .ok (.aload_n 0, 1) := by decide +kernel
theorem dX6_init_1 : decode cX6_init 1 = .ok (.invokespecial 1, 3) := by decide +kernel
theorem dX6_init_4 : decode cX6_init 4 = .ok (.return_, 1) := by decide +kernel
theorem dX6_leanBehind_0 : decode cX6_leanBehind 0 = .ok (.iload 4, 2) := by decide +kernel
theorem dX6_leanBehind_2 : decode cX6_leanBehind 2 = .ok (.iconst 3, 1) := by decide +kernel
theorem dX6_leanBehind_3 : decode cX6_leanBehind 3 = .ok (.if_icmp .ne 9, 3) := by decide +kernel
theorem dX6_leanBehind_6 : decode cX6_leanBehind 6 = .ok (.iconst 2, 1) := by decide +kernel
theorem dX6_leanBehind_7 : decode cX6_leanBehind 7 = .ok (.iload_n 2, 1) := by decide +kernel
theorem dX6_leanBehind_8 : decode cX6_leanBehind 8 = .ok (.imul, 1) := by decide +kernel
theorem dX6_leanBehind_9 : decode cX6_leanBehind 9 = .ok (.goto 4, 3) := by decide +kernel
theorem dX6_leanBehind_12 : decode cX6_leanBehind 12 = .ok (.iload_n 2, 1) := by decide +kernel
theorem dX6_leanBehind_13 : decode cX6_leanBehind 13 = .ok (.istore 5, 2) := by decide +kernel
theorem dX6_leanBehind_15 : decode cX6_leanBehind 15 = .ok (.aload_n 0, 1) := by decide +kernel
theorem dX6_leanBehind_16 : decode cX6_leanBehind 16 = .ok (.iload_n 1, 1) := by decide +kernel
theorem dX6_leanBehind_17 : decode cX6_leanBehind 17 = .ok (.iload 5, 2) := by decide +kernel
theorem dX6_leanBehind_19 : decode cX6_leanBehind 19 = .ok (.iload_n 3, 1) := by decide +kernel
theorem dX6_leanBehind_20 : decode cX6_leanBehind 20 = .ok (.iload 4, 2) := by decide +kernel
theorem dX6_leanBehind_22 : decode cX6_leanBehind 22 = .ok (.invokespecial 7, 3) := by decide +kernel
theorem dX6_leanBehind_25 : decode cX6_leanBehind 25 = .ok (.ireturn, 1) := by decide +kernel
theorem dX7_init_0 : decode cX7_init 0 = .ok (.aload_n 0, 1) := by decide +kernel
theorem dX7_init_1 : decode cX7_init 1 = .ok (.invokespecial 1, 3) := by decide +kernel
theorem dX7_init_4 : decode cX7_init 4 = .ok (.return_, 1) := by decide +kernel
theorem dX7_leanBehind_0 : decode cX7_leanBehind 0 = .ok (.aload_n 0, 1) := by decide +kernel
theorem dX7_leanBehind_1 : decode cX7_leanBehind 1 = .ok (.iload_n 1, 1) := by decide +kernel
theorem dX7_leanBehind_2 : decode cX7_leanBehind 2 = .ok (.iload_n 2, 1) := by decide +kernel
theorem dX7_leanBehind_3 : decode cX7_leanBehind 3 = .ok (.iload_n 3, 1) := by decide +kernel
theorem dX7_leanBehind_4 : decode cX7_leanBehind 4 = .ok (.iload 4, 2) := by decide +kernel
theorem dX7_leanBehind_6 : decode cX7_leanBehind 6 = .ok (.invokespecial 7, 3) := by decide +kernel
theorem dX7_leanBehind_9 : decode cX7_leanBehind 9 = .ok (.istore 5, 2) := by decide +kernel
theorem dX7_leanBehind_11 : decode cX7_leanBehind 11 = .ok (.iload 5, 2) := by decide +kernel
theorem dX7_leanBehind_13 : decode cX7_leanBehind 13 = .ok (.ifCond .le 8, 3) := by decide +kernel
theorem dX7_leanBehind_16 : decode cX7_leanBehind 16 = .ok (.iload 5, 2) := by decide +kernel
theorem dX7_leanBehind_18 : decode cX7_leanBehind 18 = .ok (.iconst 1, 1) := by decide +kernel
theorem dX7_leanBehind_19 : decode cX7_leanBehind 19 = .ok (.isub, 1) := by decide +kernel
theorem dX7_leanBehind_20 : decode cX7_leanBehind 20 = .ok (.ireturn, 1) := by decide +kernel
theorem dX7_leanBehind_21 : decode cX7_leanBehind 21 = .ok (.iload 5, 2) := by decide +kernel
theorem dX7_leanBehind_23 : decode cX7_leanBehind 23 = .ok (.ifCond .ge 10, 3) := by decide +kernel
theorem dX7_leanBehind_26 : decode cX7_leanBehind 26 = .ok (.iload 5, 2) := by decide +kernel
theorem dX7_leanBehind_28 : decode cX7_leanBehind 28 = .ok (.iconst 1, 1) := by decide +kernel
theorem dX7_leanBehind_29 : decode cX7_leanBehind 29 = .ok (.iadd, 1) := by decide +kernel
theorem dX7_leanBehind_30 : decode cX7_leanBehind 30 = .ok (.goto 4, 3) := by decide +kernel
theorem dX7_leanBehind_33 : decode cX7_leanBehind 33 = .ok (.iconst 0, 1) := by decide +kernel
theorem dX7_leanBehind_34 : decode cX7_leanBehind 34 = .ok (.ireturn, 1) := by decide +kernel
theorem dX8_init_0 : decode cX8_init 0 = .ok (.aload_n 0, 1) := by decide +kernel
theorem dX8_init_1 : decode cX8_init 1 = .ok (.invokespecial 3, 3) := by decide +kernel
theorem dX8_init_4 : decode cX8_init 4 = .ok (.aload_n 0, 1) := by decide +kernel
theorem dX8_init_5 : decode cX8_init 5 = .ok (.iconst (-1), 1) := by decide +kernel
theorem dX8_init_6 : decode cX8_init 6 = .ok (.putfield 9, 3) := by decide +kernel
theorem dX8_init_9 : decode cX8_init 9 = .ok (.aload_n 0, 1) := by decide +kernel
theorem dX8_init_10 : decode cX8_init 10 = .ok (.iconst 0, 1) := by decide +kernel
theorem dX8_init_11 : decode cX8_init 11 = .ok (.putfield 15, 3) := by decide +kernel
theorem dX8_init_14 : decode cX8_init 14 = .ok (.aload_n 0, 1) := by decide +kernel
theorem dX8_init_15 : decode cX8_init 15 = .ok (.iconst 0, 1) := by decide +kernel
theorem dX8_init_16 : decode cX8_init 16 = .ok (.putfield 18, 3) := by decide +kernel
theorem dX8_init_19 : decode cX8_init 19 = .ok (.aload_n 0, 1) := by decide +kernel
theorem dX8_init_20 : decode cX8_init 20 = .ok (.iconst 0, 1) := by decide +kernel
theorem dX8_init_21 : decode cX8_init 21 = .ok (.putfield 21, 3) := by decide +kernel
theorem dX8_init_24 : decode cX8_init 24 = .ok (.aload_n 0, 1) := by decide +kernel
theorem dX8_init_25 : decode cX8_init 25 = .ok (.iconst 0, 1) := by decide +kernel
theorem dX8_init_26 : decode cX8_init 26 = .ok (.putfield 24, 3) := by decide +kernel
theorem dX8_init_29 : decode cX8_init 29 = .ok (.aload_n 0, 1) := by decide +kernel
theorem dX8_init_30 : decode cX8_init 30 = .ok (.bipush 8, 2) := by decide +kernel
theorem dX8_init_32 : decode cX8_init 32 = .ok (.newarray .int, 2) := by decide +kernel
theorem dX8_init_34 : decode cX8_init 34 = .ok (.putfield 27, 3) := by decide +kernel
theorem dX8_init_37 : decode cX8_init 37 = .ok (.aload_n 0, 1) := by decide +kernel
theorem dX8_init_38 : decode cX8_init 38 = .ok (.bipush 8, 2) := by decide +kernel
theorem dX8_init_40 : decode cX8_init 40 = .ok (.newarray .int, 2) := by decide +kernel
theorem dX8_init_42 : decode cX8_init 42 = .ok (.putfield 31, 3) := by decide +kernel
theorem dX8_init_45 : decode cX8_init 45 = .ok (.aload_n 0, 1) := by decide +kernel
theorem dX8_init_46 : decode cX8_init 46 = .ok (.bipush 8, 2) := by decide +kernel
theorem dX8_init_48 : decode cX8_init 48 = .ok (.newarray .int, 2) := by decide +kernel
theorem dX8_init_50 : decode cX8_init 50 = .ok (.putfield 34, 3) := by decide +kernel
theorem dX8_init_53 : decode cX8_init 53 = .ok (.return_, 1) := by decide +kernel
theorem dX8_begin_0 : decode cX8_begin 0 = .ok (.aload_n 0, 1) := by decide +kernel
theorem dX8_begin_1 : decode cX8_begin 1 = .ok (.iload_n 1, 1) := by decide +kernel
theorem dX8_begin_2 : decode cX8_begin 2 = .ok (.putfield 9, 3) := by decide +kernel
theorem dX8_begin_5 : decode cX8_begin 5 = .ok (.aload_n 0, 1) := by decide +kernel
theorem dX8_begin_6 : decode cX8_begin 6 = .ok (.iconst 0, 1) := by decide +kernel
theorem dX8_begin_7 : decode cX8_begin 7 = .ok (.putfield 15, 3) := by decide +kernel
theorem dX8_begin_10 : decode cX8_begin 10 = .ok (.aload_n 0, 1) := by decide +kernel
theorem dX8_begin_11 : decode cX8_begin 11 = .ok (.iload_n 2, 1) := by decide +kernel
theorem dX8_begin_12 : decode cX8_begin 12 = .ok (.putfield 18, 3) := by decide +kernel
theorem dX8_begin_15 : decode cX8_begin 15 = .ok (.aload_n 0, 1) := by decide +kernel
theorem dX8_begin_16 : decode cX8_begin 16 = .ok (.iload_n 3, 1) := by decide +kernel
theorem dX8_begin_17 : decode cX8_begin 17 = .ok (.putfield 21, 3) := by decide +kernel
theorem dX8_begin_20 : decode cX8_begin 20 = .ok (.aload_n 0, 1) := by decide +kernel
theorem dX8_begin_21 : decode cX8_begin 21 = .ok (.iconst 0, 1) := by decide +kernel
theorem dX8_begin_22 : decode cX8_begin 22 = .ok (.putfield 24, 3) := by decide +kernel
theorem dX8_begin_25 : decode cX8_begin 25 = .ok (.return_, 1) := by decide +kernel
theorem dX8_copyFrom_0 : decode cX8_copyFrom 0 = .ok (.aload_n 0, 1) := by decide +kernel
theorem dX8_copyFrom_1 : decode cX8_copyFrom 1 = .ok (.aload_n 1, 1) := by decide +kernel
theorem dX8_copyFrom_2 : decode cX8_copyFrom 2 = .ok (.getfield 9, 3) := by decide +kernel
theorem dX8_copyFrom_5 : decode cX8_copyFrom 5 = .ok (.putfield 9, 3) := by decide +kernel
theorem dX8_copyFrom_8 : decode cX8_copyFrom 8 = .ok (.aload_n 0, 1) := by decide +kernel
theorem dX8_copyFrom_9 : decode cX8_copyFrom 9 = .ok (.aload_n 1, 1) := by decide +kernel
theorem dX8_copyFrom_10 : decode cX8_copyFrom 10 = .ok (.getfield 15, 3) := by decide +kernel
theorem dX8_copyFrom_13 : decode cX8_copyFrom 13 = .ok (.putfield 15, 3) := by decide +kernel
theorem dX8_copyFrom_16 : decode cX8_copyFrom 16 = .ok (.aload_n 0, 1) := by decide +kernel
theorem dX8_copyFrom_17 : decode cX8_copyFrom 17 = .ok (.aload_n 1, 1) := by decide +kernel
theorem dX8_copyFrom_18 : decode cX8_copyFrom 18 = .ok (.getfield 18, 3) := by decide +kernel
theorem dX8_copyFrom_21 : decode cX8_copyFrom 21 = .ok (.putfield 18, 3) := by decide +kernel
theorem dX8_copyFrom_24 : decode cX8_copyFrom 24 = .ok (.aload_n 0, 1) := by decide +kernel
theorem dX8_copyFrom_25 : decode cX8_copyFrom 25 = .ok (.aload_n 1, 1) := by decide +kernel
theorem dX8_copyFrom_26 : decode cX8_copyFrom 26 = .ok (.getfield 21, 3) := by decide +kernel
theorem dX8_copyFrom_29 : decode cX8_copyFrom 29 = .ok (.putfield 21, 3) := by decide +kernel
theorem dX8_copyFrom_32 : decode cX8_copyFrom 32 = .ok (.aload_n 0, 1) := by decide +kernel
theorem dX8_copyFrom_33 : decode cX8_copyFrom 33 = .ok (.aload_n 1, 1) := by decide +kernel
theorem dX8_copyFrom_34 : decode cX8_copyFrom 34 = .ok (.getfield 24, 3) := by decide +kernel
theorem dX8_copyFrom_37 : decode cX8_copyFrom 37 = .ok (.putfield 24, 3) := by decide +kernel
theorem dX8_copyFrom_40 : decode cX8_copyFrom 40 = .ok (.aload_n 1, 1) := by decide +kernel
theorem dX8_copyFrom_41 : decode cX8_copyFrom 41 = .ok (.getfield 27, 3) := by decide +kernel
theorem dX8_copyFrom_44 : decode cX8_copyFrom 44 = .ok (.iconst 0, 1) := by decide +kernel
theorem dX8_copyFrom_45 : decode cX8_copyFrom 45 = .ok (.aload_n 0, 1) := by decide +kernel
theorem dX8_copyFrom_46 : decode cX8_copyFrom 46 = .ok (.getfield 27, 3) := by decide +kernel
theorem dX8_copyFrom_49 : decode cX8_copyFrom 49 = .ok (.iconst 0, 1) := by decide +kernel
theorem dX8_copyFrom_50 : decode cX8_copyFrom 50 = .ok (.bipush 8, 2) := by decide +kernel
theorem dX8_copyFrom_52 : decode cX8_copyFrom 52 = .ok (.invokestatic 37, 3) := by decide +kernel
theorem dX8_copyFrom_55 : decode cX8_copyFrom 55 = .ok (.aload_n 1, 1) := by decide +kernel
theorem dX8_copyFrom_56 : decode cX8_copyFrom 56 = .ok (.getfield 31, 3) := by decide +kernel
theorem dX8_copyFrom_59 : decode cX8_copyFrom 59 = .ok (.iconst 0, 1) := by decide +kernel
theorem dX8_copyFrom_60 : decode cX8_copyFrom 60 = .ok (.aload_n 0, 1) := by decide +kernel
theorem dX8_copyFrom_61 : decode cX8_copyFrom 61 = .ok (.getfield 31, 3) := by decide +kernel
theorem dX8_copyFrom_64 : decode cX8_copyFrom 64 = .ok (.iconst 0, 1) := by decide +kernel
theorem dX8_copyFrom_65 : decode cX8_copyFrom 65 = .ok (.bipush 8, 2) := by decide +kernel
theorem dX8_copyFrom_67 : decode cX8_copyFrom 67 = .ok (.invokestatic 37, 3) := by decide +kernel
theorem dX8_copyFrom_70 : decode cX8_copyFrom 70 = .ok (.aload_n 1, 1) := by decide +kernel
theorem dX8_copyFrom_71 : decode cX8_copyFrom 71 = .ok (.getfield 34, 3) := by decide +kernel
theorem dX8_copyFrom_74 : decode cX8_copyFrom 74 = .ok (.iconst 0, 1) := by decide +kernel
theorem dX8_copyFrom_75 : decode cX8_copyFrom 75 = .ok (.aload_n 0, 1) := by decide +kernel
theorem dX8_copyFrom_76 : decode cX8_copyFrom 76 = .ok (.getfield 34, 3) := by decide +kernel
theorem dX8_copyFrom_79 : decode cX8_copyFrom 79 = .ok (.iconst 0, 1) := by decide +kernel
theorem dX8_copyFrom_80 : decode cX8_copyFrom 80 = .ok (.bipush 8, 2) := by decide +kernel
theorem dX8_copyFrom_82 : decode cX8_copyFrom 82 = .ok (.invokestatic 37, 3) := by decide +kernel
theorem dX8_copyFrom_85 : decode cX8_copyFrom 85 = .ok (.return_, 1) := by decide +kernel
theorem dX8_isFallen_0 : decode cX8_isFallen 0 = .ok (.aload_n 1, 1) := by decide +kernel
theorem dX8_isFallen_1 : decode cX8_isFallen 1 = .ok (.aload_n 0, 1) := by decide +kernel
theorem dX8_isFallen_2 : decode cX8_isFallen 2 = .ok (.getfield 21, 3) := by decide +kernel
theorem dX8_isFallen_5 : decode cX8_isFallen 5 = .ok (.invokevirtual 43, 3) := by decide +kernel
theorem dX8_isFallen_8 : decode cX8_isFallen 8 = .ok (.ireturn, 1) := by decide +kernel
theorem dX8_isThrough_0 : decode cX8_isThrough 0 = .ok (.aload_n 0, 1) := by decide +kernel
theorem dX8_isThrough_1 : decode cX8_isThrough 1 = .ok (.getfield 15, 3) := by decide +kernel
theorem dX8_isThrough_4 : decode cX8_isThrough 4 = .ok (.aload_n 1, 1) := by decide +kernel
theorem dX8_isThrough_5 : decode cX8_isThrough 5 = .ok (.getfield 49, 3) := by decide +kernel
theorem dX8_isThrough_8 : decode cX8_isThrough 8 = .ok (.if_icmp .lt 15, 3) := by decide +kernel
theorem dX8_isThrough_11 : decode cX8_isThrough 11 = .ok (.aload_n 0, 1) := by decide +kernel
theorem dX8_isThrough_12 : decode cX8_isThrough 12 = .ok (.aload_n 1, 1) := by decide +kernel
theorem dX8_isThrough_13 : decode cX8_isThrough 13 = .ok (.invokevirtual 52, 3) := by decide +kernel
theorem dX8_isThrough_16 : decode cX8_isThrough 16 = .ok (.ifCond .ne 7, 3) := by decide +kernel
theorem dX8_isThrough_19 : decode cX8_isThrough 19 = .ok (.iconst 1, 1) := by decide +kernel
theorem dX8_isThrough_20 : decode cX8_isThrough 20 = .ok (.goto 4, 3) := by decide +kernel
theorem dX8_isThrough_23 : decode cX8_isThrough 23 = .ok (.iconst 0, 1) := by decide +kernel
theorem dX8_isThrough_24 : decode cX8_isThrough 24 = .ok (.ireturn, 1) := by decide +kernel
theorem dX8_isOver_0 : decode cX8_isOver 0 = .ok (.aload_n 0, 1) := by decide +kernel
theorem dX8_isOver_1 : decode cX8_isOver 1 = .ok (.getfield 15, 3) := by decide +kernel
theorem dX8_isOver_4 : decode cX8_isOver 4 = .ok (.aload_n 1, 1) := by decide +kernel
theorem dX8_isOver_5 : decode cX8_isOver 5 = .ok (.getfield 49, 3) := by decide +kernel
theorem dX8_isOver_8 : decode cX8_isOver 8 = .ok (.if_icmp .ge 11, 3) := by decide +kernel
theorem dX8_isOver_11 : decode cX8_isOver 11 = .ok (.aload_n 0, 1) := by decide +kernel
theorem dX8_isOver_12 : decode cX8_isOver 12 = .ok (.aload_n 1, 1) := by decide +kernel
theorem dX8_isOver_13 : decode cX8_isOver 13 = .ok (.invokevirtual 52, 3) := by decide +kernel
theorem dX8_isOver_16 : decode cX8_isOver 16 = .ok (.ifCond .eq 7, 3) := by decide +kernel
theorem dX8_isOver_19 : decode cX8_isOver 19 = .ok (.iconst 1, 1) := by decide +kernel
theorem dX8_isOver_20 : decode cX8_isOver 20 = .ok (.goto 4, 3) := by decide +kernel
theorem dX8_isOver_23 : decode cX8_isOver 23 = .ok (.iconst 0, 1) := by decide +kernel
theorem dX8_isOver_24 : decode cX8_isOver 24 = .ok (.ireturn, 1) := by decide +kernel
theorem dX8_fellIn_0 : decode cX8_fellIn 0 = .ok (.aload_n 0, 1) := by decide +kernel
theorem dX8_fellIn_1 : decode cX8_fellIn 1 = .ok (.aload_n 1, 1) := by decide +kernel
theorem dX8_fellIn_2 : decode cX8_fellIn 2 = .ok (.invokevirtual 52, 3) := by decide +kernel
theorem dX8_fellIn_5 : decode cX8_fellIn 5 = .ok (.ifCond .eq 10, 3) := by decide +kernel
theorem dX8_fellIn_8 : decode cX8_fellIn 8 = .ok (.aload_n 0, 1) := by decide +kernel
theorem dX8_fellIn_9 : decode cX8_fellIn 9 = .ok (.getfield 15, 3) := by decide +kernel
theorem dX8_fellIn_12 : decode cX8_fellIn 12 = .ok (.goto 4, 3) := by decide +kernel
theorem dX8_fellIn_15 : decode cX8_fellIn 15 = .ok (.iconst (-1), 1) := by decide +kernel
theorem dX8_fellIn_16 : decode cX8_fellIn 16 = .ok (.ireturn, 1) := by decide +kernel
theorem dX8_go_0 : decode cX8_go 0 = .ok (.aload_n 0, 1) := by decide +kernel
theorem dX8_go_1 : decode cX8_go 1 = .ok (.aload_n 1, 1) := by decide +kernel
theorem dX8_go_2 : decode cX8_go 2 = .ok (.aload_n 0, 1) := by decide +kernel
theorem dX8_go_3 : decode cX8_go 3 = .ok (.getfield 15, 3) := by decide +kernel
theorem dX8_go_6 : decode cX8_go 6 = .ok (.iload_n 3, 1) := by decide +kernel
theorem dX8_go_7 : decode cX8_go 7 = .ok (.invokevirtual 56, 3) := by decide +kernel
theorem dX8_go_10 : decode cX8_go 10 = .ok (.putfield 15, 3) := by decide +kernel
theorem dX8_go_13 : decode cX8_go 13 = .ok (.aload_n 0, 1) := by decide +kernel
theorem dX8_go_14 : decode cX8_go 14 = .ok (.aload_n 2, 1) := by decide +kernel
theorem dX8_go_15 : decode cX8_go 15 = .ok (.aload_n 0, 1) := by decide +kernel
theorem dX8_go_16 : decode cX8_go 16 = .ok (.getfield 21, 3) := by decide +kernel
theorem dX8_go_19 : decode cX8_go 19 = .ok (.aload_n 1, 1) := by decide +kernel
theorem dX8_go_20 : decode cX8_go 20 = .ok (.aload_n 0, 1) := by decide +kernel
theorem dX8_go_21 : decode cX8_go 21 = .ok (.getfield 15, 3) := by decide +kernel
theorem dX8_go_24 : decode cX8_go 24 = .ok (.invokevirtual 60, 3) := by decide +kernel
theorem dX8_go_27 : decode cX8_go 27 = .ok (.aload_n 1, 1) := by decide +kernel
theorem dX8_go_28 : decode cX8_go 28 = .ok (.aload_n 0, 1) := by decide +kernel
theorem dX8_go_29 : decode cX8_go 29 = .ok (.getfield 18, 3) := by decide +kernel
theorem dX8_go_32 : decode cX8_go 32 = .ok (.invokevirtual 64, 3) := by decide +kernel
theorem dX8_go_35 : decode cX8_go 35 = .ok (.iload_n 3, 1) := by decide +kernel
theorem dX8_go_36 : decode cX8_go 36 = .ok (.invokevirtual 67, 3) := by decide +kernel
theorem dX8_go_39 : decode cX8_go 39 = .ok (.iload 4, 2) := by decide +kernel
theorem dX8_go_41 : decode cX8_go 41 = .ok (.iadd, 1) := by decide +kernel
theorem dX8_go_42 : decode cX8_go 42 = .ok (.putfield 21, 3) := by decide +kernel
theorem dX8_go_45 : decode cX8_go 45 = .ok (.aload_n 0, 1) := by decide +kernel
theorem dX8_go_46 : decode cX8_go 46 = .ok (.dup, 1) := by decide +kernel
theorem dX8_go_47 : decode cX8_go 47 = .ok (.getfield 18, 3) := by decide +kernel
theorem dX8_go_50 : decode cX8_go 50 = .ok (.iconst 1, 1) := by decide +kernel
theorem dX8_go_51 : decode cX8_go 51 = .ok (.iadd, 1) := by decide +kernel
theorem dX8_go_52 : decode cX8_go 52 = .ok (.putfield 18, 3) := by decide +kernel
theorem dX8_go_55 : decode cX8_go 55 = .ok (.return_, 1) := by decide +kernel
theorem dX8_keep_0 : decode cX8_keep 0 = .ok (.aload_n 0, 1) := by decide +kernel
theorem dX8_keep_1 : decode cX8_keep 1 = .ok (.getfield 24, 3) := by decide +kernel
theorem dX8_keep_4 : decode cX8_keep 4 = .ok (.bipush 8, 2) := by decide +kernel
theorem dX8_keep_6 : decode cX8_keep 6 = .ok (.if_icmp .lt 7, 3) := by decide +kernel
theorem dX8_keep_9 : decode cX8_keep 9 = .ok (.aload_n 0, 1) := by decide +kernel
theorem dX8_keep_10 : decode cX8_keep 10 = .ok (.invokevirtual 73, 3) := by decide +kernel
theorem dX8_keep_13 : decode cX8_keep 13 = .ok (.aload_n 0, 1) := by decide +kernel
theorem dX8_keep_14 : decode cX8_keep 14 = .ok (.getfield 24, 3) := by decide +kernel
theorem dX8_keep_17 : decode cX8_keep 17 = .ok (.iconst 0, 1) := by decide +kernel
theorem dX8_keep_18 : decode cX8_keep 18 = .ok (.bipush 7, 2) := by decide +kernel
theorem dX8_keep_20 : decode cX8_keep 20 = .ok (.invokestatic 76, 3) := by decide +kernel
theorem dX8_keep_23 : decode cX8_keep 23 = .ok (.ifCond .eq 52, 3) := by decide +kernel
theorem dX8_keep_26 : decode cX8_keep 26 = .ok (.aload_n 0, 1) := by decide +kernel
theorem dX8_keep_27 : decode cX8_keep 27 = .ok (.getfield 27, 3) := by decide +kernel
theorem dX8_keep_30 : decode cX8_keep 30 = .ok (.aload_n 0, 1) := by decide +kernel
theorem dX8_keep_31 : decode cX8_keep 31 = .ok (.getfield 24, 3) := by decide +kernel
theorem dX8_keep_34 : decode cX8_keep 34 = .ok (.aload_n 0, 1) := by decide +kernel
theorem dX8_keep_35 : decode cX8_keep 35 = .ok (.getfield 15, 3) := by decide +kernel
theorem dX8_keep_38 : decode cX8_keep 38 = .ok (.iastore, 1) := by decide +kernel
theorem dX8_keep_39 : decode cX8_keep 39 = .ok (.aload_n 0, 1) := by decide +kernel
theorem dX8_keep_40 : decode cX8_keep 40 = .ok (.getfield 31, 3) := by decide +kernel
theorem dX8_keep_43 : decode cX8_keep 43 = .ok (.aload_n 0, 1) := by decide +kernel
theorem dX8_keep_44 : decode cX8_keep 44 = .ok (.getfield 24, 3) := by decide +kernel
theorem dX8_keep_47 : decode cX8_keep 47 = .ok (.aload_n 0, 1) := by decide +kernel
theorem dX8_keep_48 : decode cX8_keep 48 = .ok (.getfield 18, 3) := by decide +kernel
theorem dX8_keep_51 : decode cX8_keep 51 = .ok (.iastore, 1) := by decide +kernel
theorem dX8_keep_52 : decode cX8_keep 52 = .ok (.aload_n 0, 1) := by decide +kernel
theorem dX8_keep_53 : decode cX8_keep 53 = .ok (.getfield 34, 3) := by decide +kernel
theorem dX8_keep_56 : decode cX8_keep 56 = .ok (.aload_n 0, 1) := by decide +kernel
theorem dX8_keep_57 : decode cX8_keep 57 = .ok (.getfield 24, 3) := by decide +kernel
theorem dX8_keep_60 : decode cX8_keep 60 = .ok (.aload_n 0, 1) := by decide +kernel
theorem dX8_keep_61 : decode cX8_keep 61 = .ok (.getfield 21, 3) := by decide +kernel
theorem dX8_keep_64 : decode cX8_keep 64 = .ok (.iastore, 1) := by decide +kernel
theorem dX8_keep_65 : decode cX8_keep 65 = .ok (.aload_n 0, 1) := by decide +kernel
theorem dX8_keep_66 : decode cX8_keep 66 = .ok (.dup, 1) := by decide +kernel
theorem dX8_keep_67 : decode cX8_keep 67 = .ok (.getfield 24, 3) := by decide +kernel
theorem dX8_keep_70 : decode cX8_keep 70 = .ok (.iconst 1, 1) := by decide +kernel
theorem dX8_keep_71 : decode cX8_keep 71 = .ok (.iadd, 1) := by decide +kernel
theorem dX8_keep_72 : decode cX8_keep 72 = .ok (.putfield 24, 3) := by decide +kernel
theorem dX8_keep_75 : decode cX8_keep 75 = .ok (.return_, 1) := by decide +kernel
theorem dX8_dropOldest_0 : decode cX8_dropOldest 0 = .ok (.iconst 1, 1) := by decide +kernel
theorem dX8_dropOldest_1 : decode cX8_dropOldest 1 = .ok (.istore_n 1, 1) := by decide +kernel
theorem dX8_dropOldest_2 : decode cX8_dropOldest 2 = .ok (.iload_n 1, 1) := by decide +kernel
theorem dX8_dropOldest_3 : decode cX8_dropOldest 3 = .ok (.bipush 8, 2) := by decide +kernel
theorem dX8_dropOldest_5 : decode cX8_dropOldest 5 = .ok (.if_icmp .ge 51, 3) := by decide +kernel
theorem dX8_dropOldest_8 : decode cX8_dropOldest 8 = .ok (.aload_n 0, 1) := by decide +kernel
theorem dX8_dropOldest_9 : decode cX8_dropOldest 9 = .ok (.getfield 27, 3) := by decide +kernel
theorem dX8_dropOldest_12 : decode cX8_dropOldest 12 = .ok (.iload_n 1, 1) := by decide +kernel
theorem dX8_dropOldest_13 : decode cX8_dropOldest 13 = .ok (.iconst 1, 1) := by decide +kernel
theorem dX8_dropOldest_14 : decode cX8_dropOldest 14 = .ok (.isub, 1) := by decide +kernel
theorem dX8_dropOldest_15 : decode cX8_dropOldest 15 = .ok (.aload_n 0, 1) := by decide +kernel
theorem dX8_dropOldest_16 : decode cX8_dropOldest 16 = .ok (.getfield 27, 3) := by decide +kernel
theorem dX8_dropOldest_19 : decode cX8_dropOldest 19 = .ok (.iload_n 1, 1) := by decide +kernel
theorem dX8_dropOldest_20 : decode cX8_dropOldest 20 = .ok (.iaload, 1) := by decide +kernel
theorem dX8_dropOldest_21 : decode cX8_dropOldest 21 = .ok (.iastore, 1) := by decide +kernel
theorem dX8_dropOldest_22 : decode cX8_dropOldest 22 = .ok (.aload_n 0, 1) := by decide +kernel
theorem dX8_dropOldest_23 : decode cX8_dropOldest 23 = .ok (.getfield 31, 3) := by decide +kernel
theorem dX8_dropOldest_26 : decode cX8_dropOldest 26 = .ok (.iload_n 1, 1) := by decide +kernel
theorem dX8_dropOldest_27 : decode cX8_dropOldest 27 = .ok (.iconst 1, 1) := by decide +kernel
theorem dX8_dropOldest_28 : decode cX8_dropOldest 28 = .ok (.isub, 1) := by decide +kernel
theorem dX8_dropOldest_29 : decode cX8_dropOldest 29 = .ok (.aload_n 0, 1) := by decide +kernel
theorem dX8_dropOldest_30 : decode cX8_dropOldest 30 = .ok (.getfield 31, 3) := by decide +kernel
theorem dX8_dropOldest_33 : decode cX8_dropOldest 33 = .ok (.iload_n 1, 1) := by decide +kernel
theorem dX8_dropOldest_34 : decode cX8_dropOldest 34 = .ok (.iaload, 1) := by decide +kernel
theorem dX8_dropOldest_35 : decode cX8_dropOldest 35 = .ok (.iastore, 1) := by decide +kernel
theorem dX8_dropOldest_36 : decode cX8_dropOldest 36 = .ok (.aload_n 0, 1) := by decide +kernel
theorem dX8_dropOldest_37 : decode cX8_dropOldest 37 = .ok (.getfield 34, 3) := by decide +kernel
theorem dX8_dropOldest_40 : decode cX8_dropOldest 40 = .ok (.iload_n 1, 1) := by decide +kernel
theorem dX8_dropOldest_41 : decode cX8_dropOldest 41 = .ok (.iconst 1, 1) := by decide +kernel
theorem dX8_dropOldest_42 : decode cX8_dropOldest 42 = .ok (.isub, 1) := by decide +kernel
theorem dX8_dropOldest_43 : decode cX8_dropOldest 43 = .ok (.aload_n 0, 1) := by decide +kernel
theorem dX8_dropOldest_44 : decode cX8_dropOldest 44 = .ok (.getfield 34, 3) := by decide +kernel
theorem dX8_dropOldest_47 : decode cX8_dropOldest 47 = .ok (.iload_n 1, 1) := by decide +kernel
theorem dX8_dropOldest_48 : decode cX8_dropOldest 48 = .ok (.iaload, 1) := by decide +kernel
theorem dX8_dropOldest_49 : decode cX8_dropOldest 49 = .ok (.iastore, 1) := by decide +kernel
theorem dX8_dropOldest_50 : decode cX8_dropOldest 50 = .ok (.iinc 1 1, 3) := by decide +kernel
theorem dX8_dropOldest_53 : decode cX8_dropOldest 53 = .ok (.goto (-51), 3) := by decide +kernel
theorem dX8_dropOldest_56 : decode cX8_dropOldest 56 = .ok (.aload_n 0, 1) := by decide +kernel
theorem dX8_dropOldest_57 : decode cX8_dropOldest 57 = .ok (.bipush 7, 2) := by decide +kernel
theorem dX8_dropOldest_59 : decode cX8_dropOldest 59 = .ok (.putfield 24, 3) := by decide +kernel
theorem dX8_dropOldest_62 : decode cX8_dropOldest 62 = .ok (.return_, 1) := by decide +kernel
theorem dX8_takeBack_0 : decode cX8_takeBack 0 = .ok (.aload_n 0, 1) := by decide +kernel
theorem dX8_takeBack_1 : decode cX8_takeBack 1 = .ok (.getfield 24, 3) := by decide +kernel
theorem dX8_takeBack_4 : decode cX8_takeBack 4 = .ok (.iconst 1, 1) := by decide +kernel
theorem dX8_takeBack_5 : decode cX8_takeBack 5 = .ok (.bipush 8, 2) := by decide +kernel
theorem dX8_takeBack_7 : decode cX8_takeBack 7 = .ok (.invokestatic 76, 3) := by decide +kernel
theorem dX8_takeBack_10 : decode cX8_takeBack 10 = .ok (.ifCond .eq 52, 3) := by decide +kernel
theorem dX8_takeBack_13 : decode cX8_takeBack 13 = .ok (.aload_n 0, 1) := by decide +kernel
theorem dX8_takeBack_14 : decode cX8_takeBack 14 = .ok (.dup, 1) := by decide +kernel
theorem dX8_takeBack_15 : decode cX8_takeBack 15 = .ok (.getfield 24, 3) := by decide +kernel
theorem dX8_takeBack_18 : decode cX8_takeBack 18 = .ok (.iconst 1, 1) := by decide +kernel
theorem dX8_takeBack_19 : decode cX8_takeBack 19 = .ok (.isub, 1) := by decide +kernel
theorem dX8_takeBack_20 : decode cX8_takeBack 20 = .ok (.putfield 24, 3) := by decide +kernel
theorem dX8_takeBack_23 : decode cX8_takeBack 23 = .ok (.aload_n 0, 1) := by decide +kernel
theorem dX8_takeBack_24 : decode cX8_takeBack 24 = .ok (.aload_n 0, 1) := by decide +kernel
theorem dX8_takeBack_25 : decode cX8_takeBack 25 = .ok (.getfield 27, 3) := by decide +kernel
theorem dX8_takeBack_28 : decode cX8_takeBack 28 = .ok (.aload_n 0, 1) := by decide +kernel
theorem dX8_takeBack_29 : decode cX8_takeBack 29 = .ok (.getfield 24, 3) := by decide +kernel
theorem dX8_takeBack_32 : decode cX8_takeBack 32 = .ok (.iaload, 1) := by decide +kernel
theorem dX8_takeBack_33 : decode cX8_takeBack 33 = .ok (.putfield 15, 3) := by decide +kernel
theorem dX8_takeBack_36 : decode cX8_takeBack 36 = .ok (.aload_n 0, 1) := by decide +kernel
theorem dX8_takeBack_37 : decode cX8_takeBack 37 = .ok (.aload_n 0, 1) := by decide +kernel
theorem dX8_takeBack_38 : decode cX8_takeBack 38 = .ok (.getfield 31, 3) := by decide +kernel
theorem dX8_takeBack_41 : decode cX8_takeBack 41 = .ok (.aload_n 0, 1) := by decide +kernel
theorem dX8_takeBack_42 : decode cX8_takeBack 42 = .ok (.getfield 24, 3) := by decide +kernel
theorem dX8_takeBack_45 : decode cX8_takeBack 45 = .ok (.iaload, 1) := by decide +kernel
theorem dX8_takeBack_46 : decode cX8_takeBack 46 = .ok (.putfield 18, 3) := by decide +kernel
theorem dX8_takeBack_49 : decode cX8_takeBack 49 = .ok (.aload_n 0, 1) := by decide +kernel
theorem dX8_takeBack_50 : decode cX8_takeBack 50 = .ok (.aload_n 0, 1) := by decide +kernel
theorem dX8_takeBack_51 : decode cX8_takeBack 51 = .ok (.getfield 34, 3) := by decide +kernel
theorem dX8_takeBack_54 : decode cX8_takeBack 54 = .ok (.aload_n 0, 1) := by decide +kernel
theorem dX8_takeBack_55 : decode cX8_takeBack 55 = .ok (.getfield 24, 3) := by decide +kernel
theorem dX8_takeBack_58 : decode cX8_takeBack 58 = .ok (.iaload, 1) := by decide +kernel
theorem dX8_takeBack_59 : decode cX8_takeBack 59 = .ok (.putfield 21, 3) := by decide +kernel
theorem dX8_takeBack_62 : decode cX8_takeBack 62 = .ok (.return_, 1) := by decide +kernel
theorem dX9_init_0 : decode cX9_init 0 = .ok (.aload_n 0, 1) := by decide +kernel
theorem dX9_init_1 : decode cX9_init 1 = .ok (.invokespecial 3, 3) := by decide +kernel
theorem dX9_init_4 : decode cX9_init 4 = .ok (.aload_n 0, 1) := by decide +kernel
theorem dX9_init_5 : decode cX9_init 5 = .ok (.sipush 2250, 3) := by decide +kernel
theorem dX9_init_8 : decode cX9_init 8 = .ok (.newarray .int, 2) := by decide +kernel
theorem dX9_init_10 : decode cX9_init 10 = .ok (.putfield 11, 3) := by decide +kernel
theorem dX9_init_13 : decode cX9_init 13 = .ok (.aload_n 0, 1) := by decide +kernel
theorem dX9_init_14 : decode cX9_init 14 = .ok (.bipush 25, 2) := by decide +kernel
theorem dX9_init_16 : decode cX9_init 16 = .ok (.newarray .long, 2) := by decide +kernel
theorem dX9_init_18 : decode cX9_init 18 = .ok (.putfield 15, 3) := by decide +kernel
theorem dX9_init_21 : decode cX9_init 21 = .ok (.aload_n 0, 1) := by decide +kernel
theorem dX9_init_22 : decode cX9_init 22 = .ok (.bipush 25, 2) := by decide +kernel
theorem dX9_init_24 : decode cX9_init 24 = .ok (.newarray .long, 2) := by decide +kernel
theorem dX9_init_26 : decode cX9_init 26 = .ok (.putfield 19, 3) := by decide +kernel
theorem dX9_init_29 : decode cX9_init 29 = .ok (.return_, 1) := by decide +kernel
theorem dX9_costFrom_0 : decode cX9_costFrom 0 = .ok (.aload_n 1, 1) := by decide +kernel
theorem dX9_costFrom_1 : decode cX9_costFrom 1 = .ok (.iload 4, 2) := by decide +kernel
theorem dX9_costFrom_3 : decode cX9_costFrom 3 = .ok (.invokevirtual 22, 3) := by decide +kernel
theorem dX9_costFrom_6 : decode cX9_costFrom 6 = .ok (.ifCond .eq 6, 3) := by decide +kernel
theorem dX9_costFrom_9 : decode cX9_costFrom 9 = .ok (.ldc 28, 2) := by decide +kernel
theorem dX9_costFrom_11 : decode cX9_costFrom 11 = .ok (.ireturn, 1) := by decide +kernel
theorem dX9_costFrom_12 : decode cX9_costFrom 12 = .ok (.iload_n 2, 1) := by decide +kernel
theorem dX9_costFrom_13 : decode cX9_costFrom 13 = .ok (.aload_n 1, 1) := by decide +kernel
theorem dX9_costFrom_14 : decode cX9_costFrom 14 = .ok (.getfield 29, 3) := by decide +kernel
theorem dX9_costFrom_17 : decode cX9_costFrom 17 = .ok (.if_icmp .lt 5, 3) := by decide +kernel
theorem dX9_costFrom_20 : decode cX9_costFrom 20 = .ok (.iconst 0, 1) := by decide +kernel
theorem dX9_costFrom_21 : decode cX9_costFrom 21 = .ok (.ireturn, 1) := by decide +kernel
theorem dX9_costFrom_22 : decode cX9_costFrom 22 = .ok (.iload_n 2, 1) := by decide +kernel
theorem dX9_costFrom_23 : decode cX9_costFrom 23 = .ok (.iload_n 3, 1) := by decide +kernel
theorem dX9_costFrom_24 : decode cX9_costFrom 24 = .ok (.iload 4, 2) := by decide +kernel
theorem dX9_costFrom_26 : decode cX9_costFrom 26 = .ok (.invokestatic 33, 3) := by decide +kernel
theorem dX9_costFrom_29 : decode cX9_costFrom 29 = .ok (.istore 5, 2) := by decide +kernel
theorem dX9_costFrom_31 : decode cX9_costFrom 31 = .ok (.iload 5, 2) := by decide +kernel
theorem dX9_costFrom_33 : decode cX9_costFrom 33 = .ok (.iconst 0, 1) := by decide +kernel
theorem dX9_costFrom_34 : decode cX9_costFrom 34 = .ok (.aload_n 0, 1) := by decide +kernel
theorem dX9_costFrom_35 : decode cX9_costFrom 35 = .ok (.getfield 11, 3) := by decide +kernel
theorem dX9_costFrom_38 : decode cX9_costFrom 38 = .ok (.arraylength, 1) := by decide +kernel
theorem dX9_costFrom_39 : decode cX9_costFrom 39 = .ok (.iconst 1, 1) := by decide +kernel
theorem dX9_costFrom_40 : decode cX9_costFrom 40 = .ok (.isub, 1) := by decide +kernel
theorem dX9_costFrom_41 : decode cX9_costFrom 41 = .ok (.invokestatic 37, 3) := by decide +kernel
theorem dX9_costFrom_44 : decode cX9_costFrom 44 = .ok (.ifCond .eq 13, 3) := by decide +kernel
theorem dX9_costFrom_47 : decode cX9_costFrom 47 = .ok (.aload_n 0, 1) := by decide +kernel
theorem dX9_costFrom_48 : decode cX9_costFrom 48 = .ok (.getfield 11, 3) := by decide +kernel
theorem dX9_costFrom_51 : decode cX9_costFrom 51 = .ok (.iload 5, 2) := by decide +kernel
theorem dX9_costFrom_53 : decode cX9_costFrom 53 = .ok (.iaload, 1) := by decide +kernel
theorem dX9_costFrom_54 : decode cX9_costFrom 54 = .ok (.goto 5, 3) := by decide +kernel
theorem dX9_costFrom_57 : decode cX9_costFrom 57 = .ok (.ldc 28, 2) := by decide +kernel
theorem dX9_costFrom_59 : decode cX9_costFrom 59 = .ok (.ireturn, 1) := by decide +kernel
theorem dX9_put_0 : decode cX9_put 0 = .ok (.iload_n 1, 1) := by decide +kernel
theorem dX9_put_1 : decode cX9_put 1 = .ok (.iload_n 2, 1) := by decide +kernel
theorem dX9_put_2 : decode cX9_put 2 = .ok (.iload_n 3, 1) := by decide +kernel
theorem dX9_put_3 : decode cX9_put 3 = .ok (.invokestatic 33, 3) := by decide +kernel
theorem dX9_put_6 : decode cX9_put 6 = .ok (.istore 5, 2) := by decide +kernel
theorem dX9_put_8 : decode cX9_put 8 = .ok (.iload 5, 2) := by decide +kernel
theorem dX9_put_10 : decode cX9_put 10 = .ok (.iconst 0, 1) := by decide +kernel
theorem dX9_put_11 : decode cX9_put 11 = .ok (.aload_n 0, 1) := by decide +kernel
theorem dX9_put_12 : decode cX9_put 12 = .ok (.getfield 11, 3) := by decide +kernel
theorem dX9_put_15 : decode cX9_put 15 = .ok (.arraylength, 1) := by decide +kernel
theorem dX9_put_16 : decode cX9_put 16 = .ok (.iconst 1, 1) := by decide +kernel
theorem dX9_put_17 : decode cX9_put 17 = .ok (.isub, 1) := by decide +kernel
theorem dX9_put_18 : decode cX9_put 18 = .ok (.invokestatic 37, 3) := by decide +kernel
theorem dX9_put_21 : decode cX9_put 21 = .ok (.ifCond .eq 12, 3) := by decide +kernel
theorem dX9_put_24 : decode cX9_put 24 = .ok (.aload_n 0, 1) := by decide +kernel
theorem dX9_put_25 : decode cX9_put 25 = .ok (.getfield 11, 3) := by decide +kernel
theorem dX9_put_28 : decode cX9_put 28 = .ok (.iload 5, 2) := by decide +kernel
theorem dX9_put_30 : decode cX9_put 30 = .ok (.iload 4, 2) := by decide +kernel
theorem dX9_put_32 : decode cX9_put 32 = .ok (.iastore, 1) := by decide +kernel
theorem dX9_put_33 : decode cX9_put 33 = .ok (.return_, 1) := by decide +kernel
theorem dX9_placeOf_0 : decode cX9_placeOf 0 = .ok (.iload_n 0, 1) := by decide +kernel
theorem dX9_placeOf_1 : decode cX9_placeOf 1 = .ok (.bipush 6, 2) := by decide +kernel
theorem dX9_placeOf_3 : decode cX9_placeOf 3 = .ok (.imul, 1) := by decide +kernel
theorem dX9_placeOf_4 : decode cX9_placeOf 4 = .ok (.iload_n 1, 1) := by decide +kernel
theorem dX9_placeOf_5 : decode cX9_placeOf 5 = .ok (.bipush 6, 2) := by decide +kernel
theorem dX9_placeOf_7 : decode cX9_placeOf 7 = .ok (.invokestatic 41, 3) := by decide +kernel
theorem dX9_placeOf_10 : decode cX9_placeOf 10 = .ok (.iadd, 1) := by decide +kernel
theorem dX9_placeOf_11 : decode cX9_placeOf 11 = .ok (.bipush 25, 2) := by decide +kernel
theorem dX9_placeOf_13 : decode cX9_placeOf 13 = .ok (.imul, 1) := by decide +kernel
theorem dX9_placeOf_14 : decode cX9_placeOf 14 = .ok (.iload_n 2, 1) := by decide +kernel
theorem dX9_placeOf_15 : decode cX9_placeOf 15 = .ok (.iadd, 1) := by decide +kernel
theorem dX9_placeOf_16 : decode cX9_placeOf 16 = .ok (.bipush 12, 2) := by decide +kernel
theorem dX9_placeOf_18 : decode cX9_placeOf 18 = .ok (.iadd, 1) := by decide +kernel
theorem dX9_placeOf_19 : decode cX9_placeOf 19 = .ok (.ireturn, 1) := by decide +kernel
theorem dX9_fillSure_0 : decode cX9_fillSure 0 = .ok (.aload_n 1, 1) := by decide +kernel
theorem dX9_fillSure_1 : decode cX9_fillSure 1 = .ok (.getfield 29, 3) := by decide +kernel
theorem dX9_fillSure_4 : decode cX9_fillSure 4 = .ok (.iconst 1, 1) := by decide +kernel
theorem dX9_fillSure_5 : decode cX9_fillSure 5 = .ok (.isub, 1) := by decide +kernel
theorem dX9_fillSure_6 : decode cX9_fillSure 6 = .ok (.istore 4, 2) := by decide +kernel
theorem dX9_fillSure_8 : decode cX9_fillSure 8 = .ok (.iload 4, 2) := by decide +kernel
theorem dX9_fillSure_10 : decode cX9_fillSure 10 = .ok (.ifCond .lt 100, 3) := by decide +kernel
theorem dX9_fillSure_13 : decode cX9_fillSure 13 = .ok (.iconst 0, 1) := by decide +kernel
theorem dX9_fillSure_14 : decode cX9_fillSure 14 = .ok (.istore 5, 2) := by decide +kernel
theorem dX9_fillSure_16 : decode cX9_fillSure 16 = .ok (.iload 5, 2) := by decide +kernel
theorem dX9_fillSure_18 : decode cX9_fillSure 18 = .ok (.bipush 6, 2) := by decide +kernel
theorem dX9_fillSure_20 : decode cX9_fillSure 20 = .ok (.if_icmp .ge 84, 3) := by decide +kernel
theorem dX9_fillSure_23 : decode cX9_fillSure 23 = .ok (.aload_n 1, 1) := by decide +kernel
theorem dX9_fillSure_24 : decode cX9_fillSure 24 = .ok (.getfield 47, 3) := by decide +kernel
theorem dX9_fillSure_27 : decode cX9_fillSure 27 = .ok (.ineg, 1) := by decide +kernel
theorem dX9_fillSure_28 : decode cX9_fillSure 28 = .ok (.istore 6, 2) := by decide +kernel
theorem dX9_fillSure_30 : decode cX9_fillSure 30 = .ok (.iload 6, 2) := by decide +kernel
theorem dX9_fillSure_32 : decode cX9_fillSure 32 = .ok (.aload_n 1, 1) := by decide +kernel
theorem dX9_fillSure_33 : decode cX9_fillSure 33 = .ok (.getfield 47, 3) := by decide +kernel
theorem dX9_fillSure_36 : decode cX9_fillSure 36 = .ok (.if_icmp .gt 62, 3) := by decide +kernel
theorem dX9_fillSure_39 : decode cX9_fillSure 39 = .ok (.ldc 28, 2) := by decide +kernel
theorem dX9_fillSure_41 : decode cX9_fillSure 41 = .ok (.istore 7, 2) := by decide +kernel
theorem dX9_fillSure_43 : decode cX9_fillSure 43 = .ok (.iconst 1, 1) := by decide +kernel
theorem dX9_fillSure_44 : decode cX9_fillSure 44 = .ok (.istore 8, 2) := by decide +kernel
theorem dX9_fillSure_46 : decode cX9_fillSure 46 = .ok (.iload 8, 2) := by decide +kernel
theorem dX9_fillSure_48 : decode cX9_fillSure 48 = .ok (.iconst 3, 1) := by decide +kernel
theorem dX9_fillSure_49 : decode cX9_fillSure 49 = .ok (.if_icmp .gt 31, 3) := by decide +kernel
theorem dX9_fillSure_52 : decode cX9_fillSure 52 = .ok (.iload 7, 2) := by decide +kernel
theorem dX9_fillSure_54 : decode cX9_fillSure 54 = .ok (.aload_n 0, 1) := by decide +kernel
theorem dX9_fillSure_55 : decode cX9_fillSure 55 = .ok (.aload_n 1, 1) := by decide +kernel
theorem dX9_fillSure_56 : decode cX9_fillSure 56 = .ok (.aload_n 2, 1) := by decide +kernel
theorem dX9_fillSure_57 : decode cX9_fillSure 57 = .ok (.iload 4, 2) := by decide +kernel
theorem dX9_fillSure_59 : decode cX9_fillSure 59 = .ok (.iload 5, 2) := by decide +kernel
theorem dX9_fillSure_61 : decode cX9_fillSure 61 = .ok (.iload 6, 2) := by decide +kernel
theorem dX9_fillSure_63 : decode cX9_fillSure 63 = .ok (.iload 8, 2) := by decide +kernel
theorem dX9_fillSure_65 : decode cX9_fillSure 65 = .ok (.iload_n 3, 1) := by decide +kernel
theorem dX9_fillSure_66 : decode cX9_fillSure 66 = .ok (.invokevirtual 50, 3) := by decide +kernel
theorem dX9_fillSure_69 : decode cX9_fillSure 69 = .ok (.invokestatic 54, 3) := by decide +kernel
theorem dX9_fillSure_72 : decode cX9_fillSure 72 = .ok (.istore 7, 2) := by decide +kernel
theorem dX9_fillSure_74 : decode cX9_fillSure 74 = .ok (.iinc 8 1, 3) := by decide +kernel
theorem dX9_fillSure_77 : decode cX9_fillSure 77 = .ok (.goto (-31), 3) := by decide +kernel
theorem dX9_fillSure_80 : decode cX9_fillSure 80 = .ok (.aload_n 0, 1) := by decide +kernel
theorem dX9_fillSure_81 : decode cX9_fillSure 81 = .ok (.iload 4, 2) := by decide +kernel
theorem dX9_fillSure_83 : decode cX9_fillSure 83 = .ok (.iload 5, 2) := by decide +kernel
theorem dX9_fillSure_85 : decode cX9_fillSure 85 = .ok (.iload 6, 2) := by decide +kernel
theorem dX9_fillSure_87 : decode cX9_fillSure 87 = .ok (.iload 7, 2) := by decide +kernel
theorem dX9_fillSure_89 : decode cX9_fillSure 89 = .ok (.invokevirtual 57, 3) := by decide +kernel
theorem dX9_fillSure_92 : decode cX9_fillSure 92 = .ok (.iinc 6 1, 3) := by decide +kernel
theorem dX9_fillSure_95 : decode cX9_fillSure 95 = .ok (.goto (-65), 3) := by decide +kernel
theorem dX9_fillSure_98 : decode cX9_fillSure 98 = .ok (.iinc 5 1, 3) := by decide +kernel
theorem dX9_fillSure_101 : decode cX9_fillSure 101 = .ok (.goto (-85), 3) := by decide +kernel
theorem dX9_fillSure_104 : decode cX9_fillSure 104 = .ok (.iinc 4 (-1), 3) := by decide +kernel
theorem dX9_fillSure_107 : decode cX9_fillSure 107 = .ok (.goto (-99), 3) := by decide +kernel
theorem dX9_fillSure_110 : decode cX9_fillSure 110 = .ok (.return_, 1) := by decide +kernel
theorem dX9_worst_0 : decode cX9_worst 0 = .ok (.aload_n 1, 1) := by decide +kernel
theorem dX9_worst_1 : decode cX9_worst 1 = .ok (.iload_n 3, 1) := by decide +kernel
theorem dX9_worst_2 : decode cX9_worst 2 = .ok (.iload 6, 2) := by decide +kernel
theorem dX9_worst_4 : decode cX9_worst 4 = .ok (.invokevirtual 61, 3) := by decide +kernel
theorem dX9_worst_7 : decode cX9_worst 7 = .ok (.istore 8, 2) := by decide +kernel
theorem dX9_worst_9 : decode cX9_worst 9 = .ok (.aload_n 2, 1) := by decide +kernel
theorem dX9_worst_10 : decode cX9_worst 10 = .ok (.iload 5, 2) := by decide +kernel
theorem dX9_worst_12 : decode cX9_worst 12 = .ok (.aload_n 1, 1) := by decide +kernel
theorem dX9_worst_13 : decode cX9_worst 13 = .ok (.iload 8, 2) := by decide +kernel
theorem dX9_worst_15 : decode cX9_worst 15 = .ok (.invokevirtual 64, 3) := by decide +kernel
theorem dX9_worst_18 : decode cX9_worst 18 = .ok (.aload_n 1, 1) := by decide +kernel
theorem dX9_worst_19 : decode cX9_worst 19 = .ok (.iload 4, 2) := by decide +kernel
theorem dX9_worst_21 : decode cX9_worst 21 = .ok (.invokevirtual 68, 3) := by decide +kernel
theorem dX9_worst_24 : decode cX9_worst 24 = .ok (.iload 6, 2) := by decide +kernel
theorem dX9_worst_26 : decode cX9_worst 26 = .ok (.invokevirtual 71, 3) := by decide +kernel
theorem dX9_worst_29 : decode cX9_worst 29 = .ok (.istore 9, 2) := by decide +kernel
theorem dX9_worst_31 : decode cX9_worst 31 = .ok (.aload_n 0, 1) := by decide +kernel
theorem dX9_worst_32 : decode cX9_worst 32 = .ok (.aload_n 1, 1) := by decide +kernel
theorem dX9_worst_33 : decode cX9_worst 33 = .ok (.iload 8, 2) := by decide +kernel
theorem dX9_worst_35 : decode cX9_worst 35 = .ok (.iload 4, 2) := by decide +kernel
theorem dX9_worst_37 : decode cX9_worst 37 = .ok (.iconst 1, 1) := by decide +kernel
theorem dX9_worst_38 : decode cX9_worst 38 = .ok (.iadd, 1) := by decide +kernel
theorem dX9_worst_39 : decode cX9_worst 39 = .ok (.iload 9, 2) := by decide +kernel
theorem dX9_worst_41 : decode cX9_worst 41 = .ok (.invokevirtual 77, 3) := by decide +kernel
theorem dX9_worst_44 : decode cX9_worst 44 = .ok (.istore 10, 2) := by decide +kernel
theorem dX9_worst_46 : decode cX9_worst 46 = .ok (.iload 7, 2) := by decide +kernel
theorem dX9_worst_48 : decode cX9_worst 48 = .ok (.ifCond .eq 49, 3) := by decide +kernel
theorem dX9_worst_51 : decode cX9_worst 51 = .ok (.iload 10, 2) := by decide +kernel
theorem dX9_worst_53 : decode cX9_worst 53 = .ok (.aload_n 0, 1) := by decide +kernel
theorem dX9_worst_54 : decode cX9_worst 54 = .ok (.aload_n 1, 1) := by decide +kernel
theorem dX9_worst_55 : decode cX9_worst 55 = .ok (.iload 8, 2) := by decide +kernel
theorem dX9_worst_57 : decode cX9_worst 57 = .ok (.iload 4, 2) := by decide +kernel
theorem dX9_worst_59 : decode cX9_worst 59 = .ok (.iconst 1, 1) := by decide +kernel
theorem dX9_worst_60 : decode cX9_worst 60 = .ok (.iadd, 1) := by decide +kernel
theorem dX9_worst_61 : decode cX9_worst 61 = .ok (.iload 9, 2) := by decide +kernel
theorem dX9_worst_63 : decode cX9_worst 63 = .ok (.iload 7, 2) := by decide +kernel
theorem dX9_worst_65 : decode cX9_worst 65 = .ok (.isub, 1) := by decide +kernel
theorem dX9_worst_66 : decode cX9_worst 66 = .ok (.invokevirtual 77, 3) := by decide +kernel
theorem dX9_worst_69 : decode cX9_worst 69 = .ok (.invokestatic 81, 3) := by decide +kernel
theorem dX9_worst_72 : decode cX9_worst 72 = .ok (.istore 10, 2) := by decide +kernel
theorem dX9_worst_74 : decode cX9_worst 74 = .ok (.iload 10, 2) := by decide +kernel
theorem dX9_worst_76 : decode cX9_worst 76 = .ok (.aload_n 0, 1) := by decide +kernel
theorem dX9_worst_77 : decode cX9_worst 77 = .ok (.aload_n 1, 1) := by decide +kernel
theorem dX9_worst_78 : decode cX9_worst 78 = .ok (.iload 8, 2) := by decide +kernel
theorem dX9_worst_80 : decode cX9_worst 80 = .ok (.iload 4, 2) := by decide +kernel
theorem dX9_worst_82 : decode cX9_worst 82 = .ok (.iconst 1, 1) := by decide +kernel
theorem dX9_worst_83 : decode cX9_worst 83 = .ok (.iadd, 1) := by decide +kernel
theorem dX9_worst_84 : decode cX9_worst 84 = .ok (.iload 9, 2) := by decide +kernel
theorem dX9_worst_86 : decode cX9_worst 86 = .ok (.iload 7, 2) := by decide +kernel
theorem dX9_worst_88 : decode cX9_worst 88 = .ok (.iadd, 1) := by decide +kernel
theorem dX9_worst_89 : decode cX9_worst 89 = .ok (.invokevirtual 77, 3) := by decide +kernel
theorem dX9_worst_92 : decode cX9_worst 92 = .ok (.invokestatic 81, 3) := by decide +kernel
theorem dX9_worst_95 : decode cX9_worst 95 = .ok (.istore 10, 2) := by decide +kernel
theorem dX9_worst_97 : decode cX9_worst 97 = .ok (.iload 10, 2) := by decide +kernel
theorem dX9_worst_99 : decode cX9_worst 99 = .ok (.iconst 1, 1) := by decide +kernel
theorem dX9_worst_100 : decode cX9_worst 100 = .ok (.iadd, 1) := by decide +kernel
theorem dX9_worst_101 : decode cX9_worst 101 = .ok (.ireturn, 1) := by decide +kernel
theorem dX9_leastBestPace_0 : decode cX9_leastBestPace 0 = .ok (.aload_n 0, 1) := by decide +kernel
theorem dX9_leastBestPace_1 : decode cX9_leastBestPace 1 = .ok (.aload_n 1, 1) := by decide +kernel
theorem dX9_leastBestPace_2 : decode cX9_leastBestPace 2 = .ok (.iload_n 3, 1) := by decide +kernel
theorem dX9_leastBestPace_3 : decode cX9_leastBestPace 3 = .ok (.iload 4, 2) := by decide +kernel
theorem dX9_leastBestPace_5 : decode cX9_leastBestPace 5 = .ok (.iload 5, 2) := by decide +kernel
theorem dX9_leastBestPace_7 : decode cX9_leastBestPace 7 = .ok (.invokevirtual 77, 3) := by decide +kernel
theorem dX9_leastBestPace_10 : decode cX9_leastBestPace 10 = .ok (.istore 6, 2) := by decide +kernel
theorem dX9_leastBestPace_12 : decode cX9_leastBestPace 12 = .ok (.iconst 1, 1) := by decide +kernel
theorem dX9_leastBestPace_13 : decode cX9_leastBestPace 13 = .ok (.istore 7, 2) := by decide +kernel
theorem dX9_leastBestPace_15 : decode cX9_leastBestPace 15 = .ok (.iload 7, 2) := by decide +kernel
theorem dX9_leastBestPace_17 : decode cX9_leastBestPace 17 = .ok (.iconst 3, 1) := by decide +kernel
theorem dX9_leastBestPace_18 : decode cX9_leastBestPace 18 = .ok (.if_icmp .ge 31, 3) := by decide +kernel
theorem dX9_leastBestPace_21 : decode cX9_leastBestPace 21 = .ok (.aload_n 0, 1) := by decide +kernel
theorem dX9_leastBestPace_22 : decode cX9_leastBestPace 22 = .ok (.aload_n 1, 1) := by decide +kernel
theorem dX9_leastBestPace_23 : decode cX9_leastBestPace 23 = .ok (.aload_n 2, 1) := by decide +kernel
theorem dX9_leastBestPace_24 : decode cX9_leastBestPace 24 = .ok (.iload_n 3, 1) := by decide +kernel
theorem dX9_leastBestPace_25 : decode cX9_leastBestPace 25 = .ok (.iload 4, 2) := by decide +kernel
theorem dX9_leastBestPace_27 : decode cX9_leastBestPace 27 = .ok (.iload 5, 2) := by decide +kernel
theorem dX9_leastBestPace_29 : decode cX9_leastBestPace 29 = .ok (.iload 7, 2) := by decide +kernel
theorem dX9_leastBestPace_31 : decode cX9_leastBestPace 31 = .ok (.iconst 0, 1) := by decide +kernel
theorem dX9_leastBestPace_32 : decode cX9_leastBestPace 32 = .ok (.invokevirtual 50, 3) := by decide +kernel
theorem dX9_leastBestPace_35 : decode cX9_leastBestPace 35 = .ok (.iload 6, 2) := by decide +kernel
theorem dX9_leastBestPace_37 : decode cX9_leastBestPace 37 = .ok (.if_icmp .ne 6, 3) := by decide +kernel
theorem dX9_leastBestPace_40 : decode cX9_leastBestPace 40 = .ok (.iload 7, 2) := by decide +kernel
theorem dX9_leastBestPace_42 : decode cX9_leastBestPace 42 = .ok (.ireturn, 1) := by decide +kernel
theorem dX9_leastBestPace_43 : decode cX9_leastBestPace 43 = .ok (.iinc 7 1, 3) := by decide +kernel
theorem dX9_leastBestPace_46 : decode cX9_leastBestPace 46 = .ok (.goto (-31), 3) := by decide +kernel
theorem dX9_leastBestPace_49 : decode cX9_leastBestPace 49 = .ok (.iconst 3, 1) := by decide +kernel
theorem dX9_leastBestPace_50 : decode cX9_leastBestPace 50 = .ok (.ireturn, 1) := by decide +kernel
theorem dX9_fillFlat_0 : decode cX9_fillFlat 0 = .ok (.aload_n 1, 1) := by decide +kernel
theorem dX9_fillFlat_1 : decode cX9_fillFlat 1 = .ok (.getfield 29, 3) := by decide +kernel
theorem dX9_fillFlat_4 : decode cX9_fillFlat 4 = .ok (.iconst 1, 1) := by decide +kernel
theorem dX9_fillFlat_5 : decode cX9_fillFlat 5 = .ok (.isub, 1) := by decide +kernel
theorem dX9_fillFlat_6 : decode cX9_fillFlat 6 = .ok (.istore_n 3, 1) := by decide +kernel
theorem dX9_fillFlat_7 : decode cX9_fillFlat 7 = .ok (.iload_n 3, 1) := by decide +kernel
theorem dX9_fillFlat_8 : decode cX9_fillFlat 8 = .ok (.ifCond .lt 97, 3) := by decide +kernel
theorem dX9_fillFlat_11 : decode cX9_fillFlat 11 = .ok (.iconst 0, 1) := by decide +kernel
theorem dX9_fillFlat_12 : decode cX9_fillFlat 12 = .ok (.istore 4, 2) := by decide +kernel
theorem dX9_fillFlat_14 : decode cX9_fillFlat 14 = .ok (.iload 4, 2) := by decide +kernel
theorem dX9_fillFlat_16 : decode cX9_fillFlat 16 = .ok (.bipush 6, 2) := by decide +kernel
theorem dX9_fillFlat_18 : decode cX9_fillFlat 18 = .ok (.if_icmp .ge 81, 3) := by decide +kernel
theorem dX9_fillFlat_21 : decode cX9_fillFlat 21 = .ok (.aload_n 1, 1) := by decide +kernel
theorem dX9_fillFlat_22 : decode cX9_fillFlat 22 = .ok (.getfield 47, 3) := by decide +kernel
theorem dX9_fillFlat_25 : decode cX9_fillFlat 25 = .ok (.ineg, 1) := by decide +kernel
theorem dX9_fillFlat_26 : decode cX9_fillFlat 26 = .ok (.istore 5, 2) := by decide +kernel
theorem dX9_fillFlat_28 : decode cX9_fillFlat 28 = .ok (.iload 5, 2) := by decide +kernel
theorem dX9_fillFlat_30 : decode cX9_fillFlat 30 = .ok (.aload_n 1, 1) := by decide +kernel
theorem dX9_fillFlat_31 : decode cX9_fillFlat 31 = .ok (.getfield 47, 3) := by decide +kernel
theorem dX9_fillFlat_34 : decode cX9_fillFlat 34 = .ok (.if_icmp .gt 59, 3) := by decide +kernel
theorem dX9_fillFlat_37 : decode cX9_fillFlat 37 = .ok (.ldc 28, 2) := by decide +kernel
theorem dX9_fillFlat_39 : decode cX9_fillFlat 39 = .ok (.istore 6, 2) := by decide +kernel
theorem dX9_fillFlat_41 : decode cX9_fillFlat 41 = .ok (.iconst 1, 1) := by decide +kernel
theorem dX9_fillFlat_42 : decode cX9_fillFlat 42 = .ok (.istore 7, 2) := by decide +kernel
theorem dX9_fillFlat_44 : decode cX9_fillFlat 44 = .ok (.iload 7, 2) := by decide +kernel
theorem dX9_fillFlat_46 : decode cX9_fillFlat 46 = .ok (.iconst 3, 1) := by decide +kernel
theorem dX9_fillFlat_47 : decode cX9_fillFlat 47 = .ok (.if_icmp .gt 29, 3) := by decide +kernel
theorem dX9_fillFlat_50 : decode cX9_fillFlat 50 = .ok (.iload 6, 2) := by decide +kernel
theorem dX9_fillFlat_52 : decode cX9_fillFlat 52 = .ok (.aload_n 0, 1) := by decide +kernel
theorem dX9_fillFlat_53 : decode cX9_fillFlat 53 = .ok (.aload_n 1, 1) := by decide +kernel
theorem dX9_fillFlat_54 : decode cX9_fillFlat 54 = .ok (.aload_n 2, 1) := by decide +kernel
theorem dX9_fillFlat_55 : decode cX9_fillFlat 55 = .ok (.iload_n 3, 1) := by decide +kernel
theorem dX9_fillFlat_56 : decode cX9_fillFlat 56 = .ok (.iload 4, 2) := by decide +kernel
theorem dX9_fillFlat_58 : decode cX9_fillFlat 58 = .ok (.iload 5, 2) := by decide +kernel
theorem dX9_fillFlat_60 : decode cX9_fillFlat 60 = .ok (.iload 7, 2) := by decide +kernel
theorem dX9_fillFlat_62 : decode cX9_fillFlat 62 = .ok (.invokevirtual 84, 3) := by decide +kernel
theorem dX9_fillFlat_65 : decode cX9_fillFlat 65 = .ok (.invokestatic 54, 3) := by decide +kernel
theorem dX9_fillFlat_68 : decode cX9_fillFlat 68 = .ok (.istore 6, 2) := by decide +kernel
theorem dX9_fillFlat_70 : decode cX9_fillFlat 70 = .ok (.iinc 7 1, 3) := by decide +kernel
theorem dX9_fillFlat_73 : decode cX9_fillFlat 73 = .ok (.goto (-29), 3) := by decide +kernel
theorem dX9_fillFlat_76 : decode cX9_fillFlat 76 = .ok (.aload_n 0, 1) := by decide +kernel
theorem dX9_fillFlat_77 : decode cX9_fillFlat 77 = .ok (.iload_n 3, 1) := by decide +kernel
theorem dX9_fillFlat_78 : decode cX9_fillFlat 78 = .ok (.iload 4, 2) := by decide +kernel
theorem dX9_fillFlat_80 : decode cX9_fillFlat 80 = .ok (.iload 5, 2) := by decide +kernel
theorem dX9_fillFlat_82 : decode cX9_fillFlat 82 = .ok (.iload 6, 2) := by decide +kernel
theorem dX9_fillFlat_84 : decode cX9_fillFlat 84 = .ok (.invokevirtual 57, 3) := by decide +kernel
theorem dX9_fillFlat_87 : decode cX9_fillFlat 87 = .ok (.iinc 5 1, 3) := by decide +kernel
theorem dX9_fillFlat_90 : decode cX9_fillFlat 90 = .ok (.goto (-62), 3) := by decide +kernel
theorem dX9_fillFlat_93 : decode cX9_fillFlat 93 = .ok (.iinc 4 1, 3) := by decide +kernel
theorem dX9_fillFlat_96 : decode cX9_fillFlat 96 = .ok (.goto (-82), 3) := by decide +kernel
theorem dX9_fillFlat_99 : decode cX9_fillFlat 99 = .ok (.iinc 3 (-1), 3) := by decide +kernel
theorem dX9_fillFlat_102 : decode cX9_fillFlat 102 = .ok (.goto (-95), 3) := by decide +kernel
theorem dX9_fillFlat_105 : decode cX9_fillFlat 105 = .ok (.return_, 1) := by decide +kernel
theorem dX9_fewestFlat_0 : decode cX9_fewestFlat 0 = .ok (.aload_n 1, 1) := by decide +kernel
theorem dX9_fewestFlat_1 : decode cX9_fewestFlat 1 = .ok (.iload_n 3, 1) := by decide +kernel
theorem dX9_fewestFlat_2 : decode cX9_fewestFlat 2 = .ok (.iload 6, 2) := by decide +kernel
theorem dX9_fewestFlat_4 : decode cX9_fewestFlat 4 = .ok (.invokevirtual 61, 3) := by decide +kernel
theorem dX9_fewestFlat_7 : decode cX9_fewestFlat 7 = .ok (.istore 7, 2) := by decide +kernel
theorem dX9_fewestFlat_9 : decode cX9_fewestFlat 9 = .ok (.aload_n 1, 1) := by decide +kernel
theorem dX9_fewestFlat_10 : decode cX9_fewestFlat 10 = .ok (.iload 4, 2) := by decide +kernel
theorem dX9_fewestFlat_12 : decode cX9_fewestFlat 12 = .ok (.invokevirtual 68, 3) := by decide +kernel
theorem dX9_fewestFlat_15 : decode cX9_fewestFlat 15 = .ok (.istore 8, 2) := by decide +kernel
theorem dX9_fewestFlat_17 : decode cX9_fewestFlat 17 = .ok (.aload_n 2, 1) := by decide +kernel
theorem dX9_fewestFlat_18 : decode cX9_fewestFlat 18 = .ok (.iload 5, 2) := by decide +kernel
theorem dX9_fewestFlat_20 : decode cX9_fewestFlat 20 = .ok (.aload_n 1, 1) := by decide +kernel
theorem dX9_fewestFlat_21 : decode cX9_fewestFlat 21 = .ok (.iload 7, 2) := by decide +kernel
theorem dX9_fewestFlat_23 : decode cX9_fewestFlat 23 = .ok (.invokevirtual 64, 3) := by decide +kernel
theorem dX9_fewestFlat_26 : decode cX9_fewestFlat 26 = .ok (.iload 8, 2) := by decide +kernel
theorem dX9_fewestFlat_28 : decode cX9_fewestFlat 28 = .ok (.iload 6, 2) := by decide +kernel
theorem dX9_fewestFlat_30 : decode cX9_fewestFlat 30 = .ok (.invokevirtual 71, 3) := by decide +kernel
theorem dX9_fewestFlat_33 : decode cX9_fewestFlat 33 = .ok (.istore 9, 2) := by decide +kernel
theorem dX9_fewestFlat_35 : decode cX9_fewestFlat 35 = .ok (.aload_n 2, 1) := by decide +kernel
theorem dX9_fewestFlat_36 : decode cX9_fewestFlat 36 = .ok (.iload 5, 2) := by decide +kernel
theorem dX9_fewestFlat_38 : decode cX9_fewestFlat 38 = .ok (.iconst 0, 1) := by decide +kernel
theorem dX9_fewestFlat_39 : decode cX9_fewestFlat 39 = .ok (.iload 8, 2) := by decide +kernel
theorem dX9_fewestFlat_41 : decode cX9_fewestFlat 41 = .ok (.iload 6, 2) := by decide +kernel
theorem dX9_fewestFlat_43 : decode cX9_fewestFlat 43 = .ok (.invokevirtual 71, 3) := by decide +kernel
theorem dX9_fewestFlat_46 : decode cX9_fewestFlat 46 = .ok (.istore 10, 2) := by decide +kernel
theorem dX9_fewestFlat_48 : decode cX9_fewestFlat 48 = .ok (.ldc 88, 2) := by decide +kernel
theorem dX9_fewestFlat_50 : decode cX9_fewestFlat 50 = .ok (.iconst 1, 1) := by decide +kernel
theorem dX9_fewestFlat_51 : decode cX9_fewestFlat 51 = .ok (.iload 7, 2) := by decide +kernel
theorem dX9_fewestFlat_53 : decode cX9_fewestFlat 53 = .ok (.ishl, 1) := by decide +kernel
theorem dX9_fewestFlat_54 : decode cX9_fewestFlat 54 = .ok (.iadd, 1) := by decide +kernel
theorem dX9_fewestFlat_55 : decode cX9_fewestFlat 55 = .ok (.istore 11, 2) := by decide +kernel
theorem dX9_fewestFlat_57 : decode cX9_fewestFlat 57 = .ok (.aload_n 0, 1) := by decide +kernel
theorem dX9_fewestFlat_58 : decode cX9_fewestFlat 58 = .ok (.aload_n 1, 1) := by decide +kernel
theorem dX9_fewestFlat_59 : decode cX9_fewestFlat 59 = .ok (.iload 7, 2) := by decide +kernel
theorem dX9_fewestFlat_61 : decode cX9_fewestFlat 61 = .ok (.iload 4, 2) := by decide +kernel
theorem dX9_fewestFlat_63 : decode cX9_fewestFlat 63 = .ok (.iconst 1, 1) := by decide +kernel
theorem dX9_fewestFlat_64 : decode cX9_fewestFlat 64 = .ok (.iadd, 1) := by decide +kernel
theorem dX9_fewestFlat_65 : decode cX9_fewestFlat 65 = .ok (.iload 9, 2) := by decide +kernel
theorem dX9_fewestFlat_67 : decode cX9_fewestFlat 67 = .ok (.invokevirtual 77, 3) := by decide +kernel
theorem dX9_fewestFlat_70 : decode cX9_fewestFlat 70 = .ok (.iload 11, 2) := by decide +kernel
theorem dX9_fewestFlat_72 : decode cX9_fewestFlat 72 = .ok (.aload_n 0, 1) := by decide +kernel
theorem dX9_fewestFlat_73 : decode cX9_fewestFlat 73 = .ok (.aload_n 1, 1) := by decide +kernel
theorem dX9_fewestFlat_74 : decode cX9_fewestFlat 74 = .ok (.iload 7, 2) := by decide +kernel
theorem dX9_fewestFlat_76 : decode cX9_fewestFlat 76 = .ok (.iload 4, 2) := by decide +kernel
theorem dX9_fewestFlat_78 : decode cX9_fewestFlat 78 = .ok (.iconst 1, 1) := by decide +kernel
theorem dX9_fewestFlat_79 : decode cX9_fewestFlat 79 = .ok (.iadd, 1) := by decide +kernel
theorem dX9_fewestFlat_80 : decode cX9_fewestFlat 80 = .ok (.iload 10, 2) := by decide +kernel
theorem dX9_fewestFlat_82 : decode cX9_fewestFlat 82 = .ok (.invokevirtual 77, 3) := by decide +kernel
theorem dX9_fewestFlat_85 : decode cX9_fewestFlat 85 = .ok (.iadd, 1) := by decide +kernel
theorem dX9_fewestFlat_86 : decode cX9_fewestFlat 86 = .ok (.invokestatic 54, 3) := by decide +kernel
theorem dX9_fewestFlat_89 : decode cX9_fewestFlat 89 = .ok (.ireturn, 1) := by decide +kernel
theorem dX9_through_0 : decode cX9_through 0 = .ok (.iconst 0, 1) := by decide +kernel
theorem dX9_through_1 : decode cX9_through 1 = .ok (.istore 6, 2) := by decide +kernel
theorem dX9_through_3 : decode cX9_through 3 = .ok (.iload 6, 2) := by decide +kernel
theorem dX9_through_5 : decode cX9_through 5 = .ok (.bipush 25, 2) := by decide +kernel
theorem dX9_through_7 : decode cX9_through 7 = .ok (.if_icmp .ge 17, 3) := by decide +kernel
theorem dX9_through_10 : decode cX9_through 10 = .ok (.aload_n 0, 1) := by decide +kernel
theorem dX9_through_11 : decode cX9_through 11 = .ok (.getfield 19, 3) := by decide +kernel
theorem dX9_through_14 : decode cX9_through 14 = .ok (.iload 6, 2) := by decide +kernel
theorem dX9_through_16 : decode cX9_through 16 = .ok (.lconst 0, 1) := by decide +kernel
theorem dX9_through_17 : decode cX9_through 17 = .ok (.lastore, 1) := by decide +kernel
theorem dX9_through_18 : decode cX9_through 18 = .ok (.iinc 6 1, 3) := by decide +kernel
theorem dX9_through_21 : decode cX9_through 21 = .ok (.goto (-18), 3) := by decide +kernel
theorem dX9_through_24 : decode cX9_through 24 = .ok (.aload_n 0, 1) := by decide +kernel
theorem dX9_through_25 : decode cX9_through 25 = .ok (.aload_n 1, 1) := by decide +kernel
theorem dX9_through_26 : decode cX9_through 26 = .ok (.iload_n 3, 1) := by decide +kernel
theorem dX9_through_27 : decode cX9_through 27 = .ok (.lconst 1, 1) := by decide +kernel
theorem dX9_through_28 : decode cX9_through 28 = .ok (.invokevirtual 89, 3) := by decide +kernel
theorem dX9_through_31 : decode cX9_through 31 = .ok (.iconst 0, 1) := by decide +kernel
theorem dX9_through_32 : decode cX9_through 32 = .ok (.istore 6, 2) := by decide +kernel
theorem dX9_through_34 : decode cX9_through 34 = .ok (.iconst 0, 1) := by decide +kernel
theorem dX9_through_35 : decode cX9_through 35 = .ok (.istore 7, 2) := by decide +kernel
theorem dX9_through_37 : decode cX9_through 37 = .ok (.iload 7, 2) := by decide +kernel
theorem dX9_through_39 : decode cX9_through 39 = .ok (.bipush 15, 2) := by decide +kernel
theorem dX9_through_41 : decode cX9_through 41 = .ok (.if_icmp .ge 115, 3) := by decide +kernel
theorem dX9_through_44 : decode cX9_through 44 = .ok (.iload 6, 2) := by decide +kernel
theorem dX9_through_46 : decode cX9_through 46 = .ok (.aload_n 1, 1) := by decide +kernel
theorem dX9_through_47 : decode cX9_through 47 = .ok (.getfield 29, 3) := by decide +kernel
theorem dX9_through_50 : decode cX9_through 50 = .ok (.if_icmp .ge 106, 3) := by decide +kernel
theorem dX9_through_53 : decode cX9_through 53 = .ok (.aload_n 1, 1) := by decide +kernel
theorem dX9_through_54 : decode cX9_through 54 = .ok (.iload 6, 2) := by decide +kernel
theorem dX9_through_56 : decode cX9_through 56 = .ok (.iload 4, 2) := by decide +kernel
theorem dX9_through_58 : decode cX9_through 58 = .ok (.invokevirtual 61, 3) := by decide +kernel
theorem dX9_through_61 : decode cX9_through 61 = .ok (.istore 6, 2) := by decide +kernel
theorem dX9_through_63 : decode cX9_through 63 = .ok (.aload_n 0, 1) := by decide +kernel
theorem dX9_through_64 : decode cX9_through 64 = .ok (.invokevirtual 93, 3) := by decide +kernel
theorem dX9_through_67 : decode cX9_through 67 = .ok (.aload_n 1, 1) := by decide +kernel
theorem dX9_through_68 : decode cX9_through 68 = .ok (.getfield 47, 3) := by decide +kernel
theorem dX9_through_71 : decode cX9_through 71 = .ok (.ineg, 1) := by decide +kernel
theorem dX9_through_72 : decode cX9_through 72 = .ok (.istore 8, 2) := by decide +kernel
theorem dX9_through_74 : decode cX9_through 74 = .ok (.iload 8, 2) := by decide +kernel
theorem dX9_through_76 : decode cX9_through 76 = .ok (.aload_n 1, 1) := by decide +kernel
theorem dX9_through_77 : decode cX9_through 77 = .ok (.getfield 47, 3) := by decide +kernel
theorem dX9_through_80 : decode cX9_through 80 = .ok (.if_icmp .gt 70, 3) := by decide +kernel
theorem dX9_through_83 : decode cX9_through 83 = .ok (.aload_n 0, 1) := by decide +kernel
theorem dX9_through_84 : decode cX9_through 84 = .ok (.iload 8, 2) := by decide +kernel
theorem dX9_through_86 : decode cX9_through 86 = .ok (.invokevirtual 96, 3) := by decide +kernel
theorem dX9_through_89 : decode cX9_through 89 = .ok (.lstore 9, 2) := by decide +kernel
theorem dX9_through_91 : decode cX9_through 91 = .ok (.aload_n 2, 1) := by decide +kernel
theorem dX9_through_92 : decode cX9_through 92 = .ok (.iload 8, 2) := by decide +kernel
theorem dX9_through_94 : decode cX9_through 94 = .ok (.aload_n 1, 1) := by decide +kernel
theorem dX9_through_95 : decode cX9_through 95 = .ok (.iload 6, 2) := by decide +kernel
theorem dX9_through_97 : decode cX9_through 97 = .ok (.invokevirtual 64, 3) := by decide +kernel
theorem dX9_through_100 : decode cX9_through 100 = .ok (.aload_n 1, 1) := by decide +kernel
theorem dX9_through_101 : decode cX9_through 101 = .ok (.iload 7, 2) := by decide +kernel
theorem dX9_through_103 : decode cX9_through 103 = .ok (.invokevirtual 68, 3) := by decide +kernel
theorem dX9_through_106 : decode cX9_through 106 = .ok (.iload 4, 2) := by decide +kernel
theorem dX9_through_108 : decode cX9_through 108 = .ok (.invokevirtual 71, 3) := by decide +kernel
theorem dX9_through_111 : decode cX9_through 111 = .ok (.istore 11, 2) := by decide +kernel
theorem dX9_through_113 : decode cX9_through 113 = .ok (.aload_n 0, 1) := by decide +kernel
theorem dX9_through_114 : decode cX9_through 114 = .ok (.aload_n 1, 1) := by decide +kernel
theorem dX9_through_115 : decode cX9_through 115 = .ok (.iload 11, 2) := by decide +kernel
theorem dX9_through_117 : decode cX9_through 117 = .ok (.lload 9, 2) := by decide +kernel
theorem dX9_through_119 : decode cX9_through 119 = .ok (.bipush 10, 2) := by decide +kernel
theorem dX9_through_121 : decode cX9_through 121 = .ok (.iload 5, 2) := by decide +kernel
theorem dX9_through_123 : decode cX9_through 123 = .ok (.isub, 1) := by decide +kernel
theorem dX9_through_124 : decode cX9_through 124 = .ok (.i2l, 1) := by decide +kernel
theorem dX9_through_125 : decode cX9_through 125 = .ok (.lmul, 1) := by decide +kernel
theorem dX9_through_126 : decode cX9_through 126 = .ok (.invokevirtual 89, 3) := by decide +kernel
theorem dX9_through_129 : decode cX9_through 129 = .ok (.aload_n 0, 1) := by decide +kernel
theorem dX9_through_130 : decode cX9_through 130 = .ok (.aload_n 1, 1) := by decide +kernel
theorem dX9_through_131 : decode cX9_through 131 = .ok (.iload 11, 2) := by decide +kernel
theorem dX9_through_133 : decode cX9_through 133 = .ok (.iconst 1, 1) := by decide +kernel
theorem dX9_through_134 : decode cX9_through 134 = .ok (.iadd, 1) := by decide +kernel
theorem dX9_through_135 : decode cX9_through 135 = .ok (.lload 9, 2) := by decide +kernel
theorem dX9_through_137 : decode cX9_through 137 = .ok (.iload 5, 2) := by decide +kernel
theorem dX9_through_139 : decode cX9_through 139 = .ok (.i2l, 1) := by decide +kernel
theorem dX9_through_140 : decode cX9_through 140 = .ok (.lmul, 1) := by decide +kernel
theorem dX9_through_141 : decode cX9_through 141 = .ok (.invokevirtual 89, 3) := by decide +kernel
theorem dX9_through_144 : decode cX9_through 144 = .ok (.iinc 8 1, 3) := by decide +kernel
theorem dX9_through_147 : decode cX9_through 147 = .ok (.goto (-73), 3) := by decide +kernel
theorem dX9_through_150 : decode cX9_through 150 = .ok (.iinc 7 1, 3) := by decide +kernel
theorem dX9_through_153 : decode cX9_through 153 = .ok (.goto (-116), 3) := by decide +kernel
theorem dX9_through_156 : decode cX9_through 156 = .ok (.lconst 0, 1) := by decide +kernel
theorem dX9_through_157 : decode cX9_through 157 = .ok (.lstore 7, 2) := by decide +kernel
theorem dX9_through_159 : decode cX9_through 159 = .ok (.iconst 0, 1) := by decide +kernel
theorem dX9_through_160 : decode cX9_through 160 = .ok (.istore 9, 2) := by decide +kernel
theorem dX9_through_162 : decode cX9_through 162 = .ok (.iload 9, 2) := by decide +kernel
theorem dX9_through_164 : decode cX9_through 164 = .ok (.bipush 25, 2) := by decide +kernel
theorem dX9_through_166 : decode cX9_through 166 = .ok (.if_icmp .ge 21, 3) := by decide +kernel
theorem dX9_through_169 : decode cX9_through 169 = .ok (.lload 7, 2) := by decide +kernel
theorem dX9_through_171 : decode cX9_through 171 = .ok (.aload_n 0, 1) := by decide +kernel
theorem dX9_through_172 : decode cX9_through 172 = .ok (.getfield 19, 3) := by decide +kernel
theorem dX9_through_175 : decode cX9_through 175 = .ok (.iload 9, 2) := by decide +kernel
theorem dX9_through_177 : decode cX9_through 177 = .ok (.laload, 1) := by decide +kernel
theorem dX9_through_178 : decode cX9_through 178 = .ok (.ladd, 1) := by decide +kernel
theorem dX9_through_179 : decode cX9_through 179 = .ok (.lstore 7, 2) := by decide +kernel
theorem dX9_through_181 : decode cX9_through 181 = .ok (.iinc 9 1, 3) := by decide +kernel
theorem dX9_through_184 : decode cX9_through 184 = .ok (.goto (-22), 3) := by decide +kernel
theorem dX9_through_187 : decode cX9_through 187 = .ok (.lload 7, 2) := by decide +kernel
theorem dX9_through_189 : decode cX9_through 189 = .ok (.lreturn, 1) := by decide +kernel
theorem dX9_turnChances_0 : decode cX9_turnChances 0 = .ok (.iconst 0, 1) := by decide +kernel
theorem dX9_turnChances_1 : decode cX9_turnChances 1 = .ok (.istore_n 1, 1) := by decide +kernel
theorem dX9_turnChances_2 : decode cX9_turnChances 2 = .ok (.iload_n 1, 1) := by decide +kernel
theorem dX9_turnChances_3 : decode cX9_turnChances 3 = .ok (.bipush 25, 2) := by decide +kernel
theorem dX9_turnChances_5 : decode cX9_turnChances 5 = .ok (.if_icmp .ge 28, 3) := by decide +kernel
theorem dX9_turnChances_8 : decode cX9_turnChances 8 = .ok (.aload_n 0, 1) := by decide +kernel
theorem dX9_turnChances_9 : decode cX9_turnChances 9 = .ok (.getfield 15, 3) := by decide +kernel
theorem dX9_turnChances_12 : decode cX9_turnChances 12 = .ok (.iload_n 1, 1) := by decide +kernel
theorem dX9_turnChances_13 : decode cX9_turnChances 13 = .ok (.aload_n 0, 1) := by decide +kernel
theorem dX9_turnChances_14 : decode cX9_turnChances 14 = .ok (.getfield 19, 3) := by decide +kernel
theorem dX9_turnChances_17 : decode cX9_turnChances 17 = .ok (.iload_n 1, 1) := by decide +kernel
theorem dX9_turnChances_18 : decode cX9_turnChances 18 = .ok (.laload, 1) := by decide +kernel
theorem dX9_turnChances_19 : decode cX9_turnChances 19 = .ok (.lastore, 1) := by decide +kernel
theorem dX9_turnChances_20 : decode cX9_turnChances 20 = .ok (.aload_n 0, 1) := by decide +kernel
theorem dX9_turnChances_21 : decode cX9_turnChances 21 = .ok (.getfield 19, 3) := by decide +kernel
theorem dX9_turnChances_24 : decode cX9_turnChances 24 = .ok (.iload_n 1, 1) := by decide +kernel
theorem dX9_turnChances_25 : decode cX9_turnChances 25 = .ok (.lconst 0, 1) := by decide +kernel
theorem dX9_turnChances_26 : decode cX9_turnChances 26 = .ok (.lastore, 1) := by decide +kernel
theorem dX9_turnChances_27 : decode cX9_turnChances 27 = .ok (.iinc 1 1, 3) := by decide +kernel
theorem dX9_turnChances_30 : decode cX9_turnChances 30 = .ok (.goto (-28), 3) := by decide +kernel
theorem dX9_turnChances_33 : decode cX9_turnChances 33 = .ok (.return_, 1) := by decide +kernel
theorem dX9_chanceOf_0 : decode cX9_chanceOf 0 = .ok (.iload_n 1, 1) := by decide +kernel
theorem dX9_chanceOf_1 : decode cX9_chanceOf 1 = .ok (.bipush 12, 2) := by decide +kernel
theorem dX9_chanceOf_3 : decode cX9_chanceOf 3 = .ok (.iadd, 1) := by decide +kernel
theorem dX9_chanceOf_4 : decode cX9_chanceOf 4 = .ok (.istore_n 2, 1) := by decide +kernel
theorem dX9_chanceOf_5 : decode cX9_chanceOf 5 = .ok (.iload_n 2, 1) := by decide +kernel
theorem dX9_chanceOf_6 : decode cX9_chanceOf 6 = .ok (.iconst 0, 1) := by decide +kernel
theorem dX9_chanceOf_7 : decode cX9_chanceOf 7 = .ok (.bipush 24, 2) := by decide +kernel
theorem dX9_chanceOf_9 : decode cX9_chanceOf 9 = .ok (.invokestatic 37, 3) := by decide +kernel
theorem dX9_chanceOf_12 : decode cX9_chanceOf 12 = .ok (.ifCond .eq 12, 3) := by decide +kernel
theorem dX9_chanceOf_15 : decode cX9_chanceOf 15 = .ok (.aload_n 0, 1) := by decide +kernel
theorem dX9_chanceOf_16 : decode cX9_chanceOf 16 = .ok (.getfield 15, 3) := by decide +kernel
theorem dX9_chanceOf_19 : decode cX9_chanceOf 19 = .ok (.iload_n 2, 1) := by decide +kernel
theorem dX9_chanceOf_20 : decode cX9_chanceOf 20 = .ok (.laload, 1) := by decide +kernel
theorem dX9_chanceOf_21 : decode cX9_chanceOf 21 = .ok (.goto 4, 3) := by decide +kernel
theorem dX9_chanceOf_24 : decode cX9_chanceOf 24 = .ok (.lconst 0, 1) := by decide +kernel
theorem dX9_chanceOf_25 : decode cX9_chanceOf 25 = .ok (.lreturn, 1) := by decide +kernel
theorem dX9_addChance_0 : decode cX9_addChance 0 = .ok (.iload_n 2, 1) := by decide +kernel
theorem dX9_addChance_1 : decode cX9_addChance 1 = .ok (.bipush 12, 2) := by decide +kernel
theorem dX9_addChance_3 : decode cX9_addChance 3 = .ok (.iadd, 1) := by decide +kernel
theorem dX9_addChance_4 : decode cX9_addChance 4 = .ok (.istore 5, 2) := by decide +kernel
theorem dX9_addChance_6 : decode cX9_addChance 6 = .ok (.aload_n 1, 1) := by decide +kernel
theorem dX9_addChance_7 : decode cX9_addChance 7 = .ok (.iload_n 2, 1) := by decide +kernel
theorem dX9_addChance_8 : decode cX9_addChance 8 = .ok (.invokevirtual 22, 3) := by decide +kernel
theorem dX9_addChance_11 : decode cX9_addChance 11 = .ok (.ifCond .ne 25, 3) := by decide +kernel
theorem dX9_addChance_14 : decode cX9_addChance 14 = .ok (.iload 5, 2) := by decide +kernel
theorem dX9_addChance_16 : decode cX9_addChance 16 = .ok (.iconst 0, 1) := by decide +kernel
theorem dX9_addChance_17 : decode cX9_addChance 17 = .ok (.bipush 24, 2) := by decide +kernel
theorem dX9_addChance_19 : decode cX9_addChance 19 = .ok (.invokestatic 37, 3) := by decide +kernel
theorem dX9_addChance_22 : decode cX9_addChance 22 = .ok (.ifCond .eq 14, 3) := by decide +kernel
theorem dX9_addChance_25 : decode cX9_addChance 25 = .ok (.aload_n 0, 1) := by decide +kernel
theorem dX9_addChance_26 : decode cX9_addChance 26 = .ok (.getfield 19, 3) := by decide +kernel
theorem dX9_addChance_29 : decode cX9_addChance 29 = .ok (.iload 5, 2) := by decide +kernel
theorem dX9_addChance_31 : decode cX9_addChance 31 = .ok (.dup2, 1) := by decide +kernel
theorem dX9_addChance_32 : decode cX9_addChance 32 = .ok (.laload, 1) := by decide +kernel
theorem dX9_addChance_33 : decode cX9_addChance 33 = .ok (.lload_n 3, 1) := by decide +kernel
theorem dX9_addChance_34 : decode cX9_addChance 34 = .ok (.ladd, 1) := by decide +kernel
theorem dX9_addChance_35 : decode cX9_addChance 35 = .ok (.lastore, 1) := by decide +kernel
theorem dX9_addChance_36 : decode cX9_addChance 36 = .ok (.return_, 1) := by decide +kernel
theorem dX10_init_0 : decode cX10_init 0 = .ok (.aload_n 0, 1) := by decide +kernel
theorem dX10_init_1 : decode cX10_init 1 = .ok (.invokespecial 3, 3) := by decide +kernel
theorem dX10_init_4 : decode cX10_init 4 = .ok (.aload_n 0, 1) := by decide +kernel
theorem dX10_init_5 : decode cX10_init 5 = .ok (.new 9, 3) := by decide +kernel
theorem dX10_init_8 : decode cX10_init 8 = .ok (.dup, 1) := by decide +kernel
theorem dX10_init_9 : decode cX10_init 9 = .ok (.invokespecial 11, 3) := by decide +kernel
theorem dX10_init_12 : decode cX10_init 12 = .ok (.putfield 12, 3) := by decide +kernel
theorem dX10_init_15 : decode cX10_init 15 = .ok (.aload_n 0, 1) := by decide +kernel
theorem dX10_init_16 : decode cX10_init 16 = .ok (.new 18, 3) := by decide +kernel
theorem dX10_init_19 : decode cX10_init 19 = .ok (.dup, 1) := by decide +kernel
theorem dX10_init_20 : decode cX10_init 20 = .ok (.invokespecial 20, 3) := by decide +kernel
theorem dX10_init_23 : decode cX10_init 23 = .ok (.putfield 21, 3) := by decide +kernel
theorem dX10_init_26 : decode cX10_init 26 = .ok (.aload_n 0, 1) := by decide +kernel
theorem dX10_init_27 : decode cX10_init 27 = .ok (.iconst 0, 1) := by decide +kernel
theorem dX10_init_28 : decode cX10_init 28 = .ok (.putfield 25, 3) := by decide +kernel
theorem dX10_init_31 : decode cX10_init 31 = .ok (.aload_n 0, 1) := by decide +kernel
theorem dX10_init_32 : decode cX10_init 32 = .ok (.iconst 5, 1) := by decide +kernel
theorem dX10_init_33 : decode cX10_init 33 = .ok (.newarray .int, 2) := by decide +kernel
theorem dX10_init_35 : decode cX10_init 35 = .ok (.putfield 29, 3) := by decide +kernel
theorem dX10_init_38 : decode cX10_init 38 = .ok (.aload_n 0, 1) := by decide +kernel
theorem dX10_init_39 : decode cX10_init 39 = .ok (.iconst 5, 1) := by decide +kernel
theorem dX10_init_40 : decode cX10_init 40 = .ok (.newarray .int, 2) := by decide +kernel
theorem dX10_init_42 : decode cX10_init 42 = .ok (.putfield 33, 3) := by decide +kernel
theorem dX10_init_45 : decode cX10_init 45 = .ok (.aload_n 0, 1) := by decide +kernel
theorem dX10_init_46 : decode cX10_init 46 = .ok (.iconst 0, 1) := by decide +kernel
theorem dX10_init_47 : decode cX10_init 47 = .ok (.putfield 36, 3) := by decide +kernel
theorem dX10_init_50 : decode cX10_init 50 = .ok (.aload_n 0, 1) := by decide +kernel
theorem dX10_init_51 : decode cX10_init 51 = .ok (.bipush 6, 2) := by decide +kernel
theorem dX10_init_53 : decode cX10_init 53 = .ok (.newarray .int, 2) := by decide +kernel
theorem dX10_init_55 : decode cX10_init 55 = .ok (.putfield 39, 3) := by decide +kernel
theorem dX10_init_58 : decode cX10_init 58 = .ok (.aload_n 0, 1) := by decide +kernel
theorem dX10_init_59 : decode cX10_init 59 = .ok (.bipush 6, 2) := by decide +kernel
theorem dX10_init_61 : decode cX10_init 61 = .ok (.newarray .int, 2) := by decide +kernel
theorem dX10_init_63 : decode cX10_init 63 = .ok (.putfield 42, 3) := by decide +kernel
theorem dX10_init_66 : decode cX10_init 66 = .ok (.aload_n 0, 1) := by decide +kernel
theorem dX10_init_67 : decode cX10_init 67 = .ok (.bipush 6, 2) := by decide +kernel
theorem dX10_init_69 : decode cX10_init 69 = .ok (.newarray .int, 2) := by decide +kernel
theorem dX10_init_71 : decode cX10_init 71 = .ok (.putfield 45, 3) := by decide +kernel
theorem dX10_init_74 : decode cX10_init 74 = .ok (.aload_n 0, 1) := by decide +kernel
theorem dX10_init_75 : decode cX10_init 75 = .ok (.bipush 6, 2) := by decide +kernel
theorem dX10_init_77 : decode cX10_init 77 = .ok (.newarray .int, 2) := by decide +kernel
theorem dX10_init_79 : decode cX10_init 79 = .ok (.putfield 48, 3) := by decide +kernel
theorem dX10_init_82 : decode cX10_init 82 = .ok (.return_, 1) := by decide +kernel
theorem dX10_beginAnew_0 : decode cX10_beginAnew 0 = .ok (.aload_n 0, 1) := by decide +kernel
theorem dX10_beginAnew_1 : decode cX10_beginAnew 1 = .ok (.getfield 12, 3) := by decide +kernel
theorem dX10_beginAnew_4 : decode cX10_beginAnew 4 = .ok (.iload_n 1, 1) := by decide +kernel
theorem dX10_beginAnew_5 : decode cX10_beginAnew 5 = .ok (.iload_n 2, 1) := by decide +kernel
theorem dX10_beginAnew_6 : decode cX10_beginAnew 6 = .ok (.invokevirtual 51, 3) := by decide +kernel
theorem dX10_beginAnew_9 : decode cX10_beginAnew 9 = .ok (.aload_n 0, 1) := by decide +kernel
theorem dX10_beginAnew_10 : decode cX10_beginAnew 10 = .ok (.getfield 21, 3) := by decide +kernel
theorem dX10_beginAnew_13 : decode cX10_beginAnew 13 = .ok (.iconst (-1), 1) := by decide +kernel
theorem dX10_beginAnew_14 : decode cX10_beginAnew 14 = .ok (.iconst 0, 1) := by decide +kernel
theorem dX10_beginAnew_15 : decode cX10_beginAnew 15 = .ok (.iconst 0, 1) := by decide +kernel
theorem dX10_beginAnew_16 : decode cX10_beginAnew 16 = .ok (.invokevirtual 55, 3) := by decide +kernel
theorem dX10_beginAnew_19 : decode cX10_beginAnew 19 = .ok (.aload_n 0, 1) := by decide +kernel
theorem dX10_beginAnew_20 : decode cX10_beginAnew 20 = .ok (.iconst 0, 1) := by decide +kernel
theorem dX10_beginAnew_21 : decode cX10_beginAnew 21 = .ok (.putfield 25, 3) := by decide +kernel
theorem dX10_beginAnew_24 : decode cX10_beginAnew 24 = .ok (.aload_n 0, 1) := by decide +kernel
theorem dX10_beginAnew_25 : decode cX10_beginAnew 25 = .ok (.iconst 0, 1) := by decide +kernel
theorem dX10_beginAnew_26 : decode cX10_beginAnew 26 = .ok (.putfield 36, 3) := by decide +kernel
theorem dX10_beginAnew_29 : decode cX10_beginAnew 29 = .ok (.return_, 1) := by decide +kernel
theorem dX10_copyFrom_0 : decode cX10_copyFrom 0 = .ok (.aload_n 0, 1) := by decide +kernel
theorem dX10_copyFrom_1 : decode cX10_copyFrom 1 = .ok (.getfield 12, 3) := by decide +kernel
theorem dX10_copyFrom_4 : decode cX10_copyFrom 4 = .ok (.aload_n 1, 1) := by decide +kernel
theorem dX10_copyFrom_5 : decode cX10_copyFrom 5 = .ok (.getfield 12, 3) := by decide +kernel
theorem dX10_copyFrom_8 : decode cX10_copyFrom 8 = .ok (.invokevirtual 59, 3) := by decide +kernel
theorem dX10_copyFrom_11 : decode cX10_copyFrom 11 = .ok (.aload_n 0, 1) := by decide +kernel
theorem dX10_copyFrom_12 : decode cX10_copyFrom 12 = .ok (.getfield 21, 3) := by decide +kernel
theorem dX10_copyFrom_15 : decode cX10_copyFrom 15 = .ok (.aload_n 1, 1) := by decide +kernel
theorem dX10_copyFrom_16 : decode cX10_copyFrom 16 = .ok (.getfield 21, 3) := by decide +kernel
theorem dX10_copyFrom_19 : decode cX10_copyFrom 19 = .ok (.invokevirtual 63, 3) := by decide +kernel
theorem dX10_copyFrom_22 : decode cX10_copyFrom 22 = .ok (.aload_n 0, 1) := by decide +kernel
theorem dX10_copyFrom_23 : decode cX10_copyFrom 23 = .ok (.aload_n 1, 1) := by decide +kernel
theorem dX10_copyFrom_24 : decode cX10_copyFrom 24 = .ok (.getfield 25, 3) := by decide +kernel
theorem dX10_copyFrom_27 : decode cX10_copyFrom 27 = .ok (.putfield 25, 3) := by decide +kernel
theorem dX10_copyFrom_30 : decode cX10_copyFrom 30 = .ok (.aload_n 1, 1) := by decide +kernel
theorem dX10_copyFrom_31 : decode cX10_copyFrom 31 = .ok (.getfield 29, 3) := by decide +kernel
theorem dX10_copyFrom_34 : decode cX10_copyFrom 34 = .ok (.iconst 0, 1) := by decide +kernel
theorem dX10_copyFrom_35 : decode cX10_copyFrom 35 = .ok (.aload_n 0, 1) := by decide +kernel
theorem dX10_copyFrom_36 : decode cX10_copyFrom 36 = .ok (.getfield 29, 3) := by decide +kernel
theorem dX10_copyFrom_39 : decode cX10_copyFrom 39 = .ok (.iconst 0, 1) := by decide +kernel
theorem dX10_copyFrom_40 : decode cX10_copyFrom 40 = .ok (.iconst 5, 1) := by decide +kernel
theorem dX10_copyFrom_41 : decode cX10_copyFrom 41 = .ok (.invokestatic 66, 3) := by decide +kernel
theorem dX10_copyFrom_44 : decode cX10_copyFrom 44 = .ok (.aload_n 1, 1) := by decide +kernel
theorem dX10_copyFrom_45 : decode cX10_copyFrom 45 = .ok (.getfield 33, 3) := by decide +kernel
theorem dX10_copyFrom_48 : decode cX10_copyFrom 48 = .ok (.iconst 0, 1) := by decide +kernel
theorem dX10_copyFrom_49 : decode cX10_copyFrom 49 = .ok (.aload_n 0, 1) := by decide +kernel
theorem dX10_copyFrom_50 : decode cX10_copyFrom 50 = .ok (.getfield 33, 3) := by decide +kernel
theorem dX10_copyFrom_53 : decode cX10_copyFrom 53 = .ok (.iconst 0, 1) := by decide +kernel
theorem dX10_copyFrom_54 : decode cX10_copyFrom 54 = .ok (.iconst 5, 1) := by decide +kernel
theorem dX10_copyFrom_55 : decode cX10_copyFrom 55 = .ok (.invokestatic 66, 3) := by decide +kernel
theorem dX10_copyFrom_58 : decode cX10_copyFrom 58 = .ok (.aload_n 0, 1) := by decide +kernel
theorem dX10_copyFrom_59 : decode cX10_copyFrom 59 = .ok (.aload_n 1, 1) := by decide +kernel
theorem dX10_copyFrom_60 : decode cX10_copyFrom 60 = .ok (.getfield 36, 3) := by decide +kernel
theorem dX10_copyFrom_63 : decode cX10_copyFrom 63 = .ok (.putfield 36, 3) := by decide +kernel
theorem dX10_copyFrom_66 : decode cX10_copyFrom 66 = .ok (.aload_n 1, 1) := by decide +kernel
theorem dX10_copyFrom_67 : decode cX10_copyFrom 67 = .ok (.getfield 39, 3) := by decide +kernel
theorem dX10_copyFrom_70 : decode cX10_copyFrom 70 = .ok (.iconst 0, 1) := by decide +kernel
theorem dX10_copyFrom_71 : decode cX10_copyFrom 71 = .ok (.aload_n 0, 1) := by decide +kernel
theorem dX10_copyFrom_72 : decode cX10_copyFrom 72 = .ok (.getfield 39, 3) := by decide +kernel
theorem dX10_copyFrom_75 : decode cX10_copyFrom 75 = .ok (.iconst 0, 1) := by decide +kernel
theorem dX10_copyFrom_76 : decode cX10_copyFrom 76 = .ok (.bipush 6, 2) := by decide +kernel
theorem dX10_copyFrom_78 : decode cX10_copyFrom 78 = .ok (.invokestatic 66, 3) := by decide +kernel
theorem dX10_copyFrom_81 : decode cX10_copyFrom 81 = .ok (.aload_n 1, 1) := by decide +kernel
theorem dX10_copyFrom_82 : decode cX10_copyFrom 82 = .ok (.getfield 42, 3) := by decide +kernel
theorem dX10_copyFrom_85 : decode cX10_copyFrom 85 = .ok (.iconst 0, 1) := by decide +kernel
theorem dX10_copyFrom_86 : decode cX10_copyFrom 86 = .ok (.aload_n 0, 1) := by decide +kernel
theorem dX10_copyFrom_87 : decode cX10_copyFrom 87 = .ok (.getfield 42, 3) := by decide +kernel
theorem dX10_copyFrom_90 : decode cX10_copyFrom 90 = .ok (.iconst 0, 1) := by decide +kernel
theorem dX10_copyFrom_91 : decode cX10_copyFrom 91 = .ok (.bipush 6, 2) := by decide +kernel
theorem dX10_copyFrom_93 : decode cX10_copyFrom 93 = .ok (.invokestatic 66, 3) := by decide +kernel
theorem dX10_copyFrom_96 : decode cX10_copyFrom 96 = .ok (.aload_n 1, 1) := by decide +kernel
theorem dX10_copyFrom_97 : decode cX10_copyFrom 97 = .ok (.getfield 45, 3) := by decide +kernel
theorem dX10_copyFrom_100 : decode cX10_copyFrom 100 = .ok (.iconst 0, 1) := by decide +kernel
theorem dX10_copyFrom_101 : decode cX10_copyFrom 101 = .ok (.aload_n 0, 1) := by decide +kernel
theorem dX10_copyFrom_102 : decode cX10_copyFrom 102 = .ok (.getfield 45, 3) := by decide +kernel
theorem dX10_copyFrom_105 : decode cX10_copyFrom 105 = .ok (.iconst 0, 1) := by decide +kernel
theorem dX10_copyFrom_106 : decode cX10_copyFrom 106 = .ok (.bipush 6, 2) := by decide +kernel
theorem dX10_copyFrom_108 : decode cX10_copyFrom 108 = .ok (.invokestatic 66, 3) := by decide +kernel
theorem dX10_copyFrom_111 : decode cX10_copyFrom 111 = .ok (.aload_n 1, 1) := by decide +kernel
theorem dX10_copyFrom_112 : decode cX10_copyFrom 112 = .ok (.getfield 48, 3) := by decide +kernel
theorem dX10_copyFrom_115 : decode cX10_copyFrom 115 = .ok (.iconst 0, 1) := by decide +kernel
theorem dX10_copyFrom_116 : decode cX10_copyFrom 116 = .ok (.aload_n 0, 1) := by decide +kernel
theorem dX10_copyFrom_117 : decode cX10_copyFrom 117 = .ok (.getfield 48, 3) := by decide +kernel
theorem dX10_copyFrom_120 : decode cX10_copyFrom 120 = .ok (.iconst 0, 1) := by decide +kernel
theorem dX10_copyFrom_121 : decode cX10_copyFrom 121 = .ok (.bipush 6, 2) := by decide +kernel
theorem dX10_copyFrom_123 : decode cX10_copyFrom 123 = .ok (.invokestatic 66, 3) := by decide +kernel
theorem dX10_copyFrom_126 : decode cX10_copyFrom 126 = .ok (.return_, 1) := by decide +kernel
theorem dX10_addHead_0 : decode cX10_addHead 0 = .ok (.aload_n 0, 1) := by decide +kernel
theorem dX10_addHead_1 : decode cX10_addHead 1 = .ok (.getfield 25, 3) := by decide +kernel
theorem dX10_addHead_4 : decode cX10_addHead 4 = .ok (.iconst 0, 1) := by decide +kernel
theorem dX10_addHead_5 : decode cX10_addHead 5 = .ok (.iconst 4, 1) := by decide +kernel
theorem dX10_addHead_6 : decode cX10_addHead 6 = .ok (.invokestatic 72, 3) := by decide +kernel
theorem dX10_addHead_9 : decode cX10_addHead 9 = .ok (.ifCond .eq 33, 3) := by decide +kernel
theorem dX10_addHead_12 : decode cX10_addHead 12 = .ok (.aload_n 0, 1) := by decide +kernel
theorem dX10_addHead_13 : decode cX10_addHead 13 = .ok (.getfield 29, 3) := by decide +kernel
theorem dX10_addHead_16 : decode cX10_addHead 16 = .ok (.aload_n 0, 1) := by decide +kernel
theorem dX10_addHead_17 : decode cX10_addHead 17 = .ok (.getfield 25, 3) := by decide +kernel
theorem dX10_addHead_20 : decode cX10_addHead 20 = .ok (.iload_n 1, 1) := by decide +kernel
theorem dX10_addHead_21 : decode cX10_addHead 21 = .ok (.iastore, 1) := by decide +kernel
theorem dX10_addHead_22 : decode cX10_addHead 22 = .ok (.aload_n 0, 1) := by decide +kernel
theorem dX10_addHead_23 : decode cX10_addHead 23 = .ok (.getfield 33, 3) := by decide +kernel
theorem dX10_addHead_26 : decode cX10_addHead 26 = .ok (.aload_n 0, 1) := by decide +kernel
theorem dX10_addHead_27 : decode cX10_addHead 27 = .ok (.getfield 25, 3) := by decide +kernel
theorem dX10_addHead_30 : decode cX10_addHead 30 = .ok (.iload_n 2, 1) := by decide +kernel
theorem dX10_addHead_31 : decode cX10_addHead 31 = .ok (.iastore, 1) := by decide +kernel
theorem dX10_addHead_32 : decode cX10_addHead 32 = .ok (.aload_n 0, 1) := by decide +kernel
theorem dX10_addHead_33 : decode cX10_addHead 33 = .ok (.dup, 1) := by decide +kernel
theorem dX10_addHead_34 : decode cX10_addHead 34 = .ok (.getfield 25, 3) := by decide +kernel
theorem dX10_addHead_37 : decode cX10_addHead 37 = .ok (.iconst 1, 1) := by decide +kernel
theorem dX10_addHead_38 : decode cX10_addHead 38 = .ok (.iadd, 1) := by decide +kernel
theorem dX10_addHead_39 : decode cX10_addHead 39 = .ok (.putfield 25, 3) := by decide +kernel
theorem dX10_addHead_42 : decode cX10_addHead 42 = .ok (.return_, 1) := by decide +kernel
theorem dX10_kindOf_0 : decode cX10_kindOf 0 = .ok (.iload_n 1, 1) := by decide +kernel
theorem dX10_kindOf_1 : decode cX10_kindOf 1 = .ok (.iconst 0, 1) := by decide +kernel
theorem dX10_kindOf_2 : decode cX10_kindOf 2 = .ok (.iconst 4, 1) := by decide +kernel
theorem dX10_kindOf_3 : decode cX10_kindOf 3 = .ok (.invokestatic 72, 3) := by decide +kernel
theorem dX10_kindOf_6 : decode cX10_kindOf 6 = .ok (.ifCond .eq 12, 3) := by decide +kernel
theorem dX10_kindOf_9 : decode cX10_kindOf 9 = .ok (.aload_n 0, 1) := by decide +kernel
theorem dX10_kindOf_10 : decode cX10_kindOf 10 = .ok (.getfield 29, 3) := by decide +kernel
theorem dX10_kindOf_13 : decode cX10_kindOf 13 = .ok (.iload_n 1, 1) := by decide +kernel
theorem dX10_kindOf_14 : decode cX10_kindOf 14 = .ok (.iaload, 1) := by decide +kernel
theorem dX10_kindOf_15 : decode cX10_kindOf 15 = .ok (.goto 4, 3) := by decide +kernel
theorem dX10_kindOf_18 : decode cX10_kindOf 18 = .ok (.iconst 0, 1) := by decide +kernel
theorem dX10_kindOf_19 : decode cX10_kindOf 19 = .ok (.ireturn, 1) := by decide +kernel
theorem dX10_setOf_0 : decode cX10_setOf 0 = .ok (.iload_n 1, 1) := by decide +kernel
theorem dX10_setOf_1 : decode cX10_setOf 1 = .ok (.iconst 0, 1) := by decide +kernel
theorem dX10_setOf_2 : decode cX10_setOf 2 = .ok (.iconst 4, 1) := by decide +kernel
theorem dX10_setOf_3 : decode cX10_setOf 3 = .ok (.invokestatic 72, 3) := by decide +kernel
theorem dX10_setOf_6 : decode cX10_setOf 6 = .ok (.ifCond .eq 12, 3) := by decide +kernel
theorem dX10_setOf_9 : decode cX10_setOf 9 = .ok (.aload_n 0, 1) := by decide +kernel
theorem dX10_setOf_10 : decode cX10_setOf 10 = .ok (.getfield 33, 3) := by decide +kernel
theorem dX10_setOf_13 : decode cX10_setOf 13 = .ok (.iload_n 1, 1) := by decide +kernel
theorem dX10_setOf_14 : decode cX10_setOf 14 = .ok (.iaload, 1) := by decide +kernel
theorem dX10_setOf_15 : decode cX10_setOf 15 = .ok (.goto 4, 3) := by decide +kernel
theorem dX10_setOf_18 : decode cX10_setOf 18 = .ok (.iconst 0, 1) := by decide +kernel
theorem dX10_setOf_19 : decode cX10_setOf 19 = .ok (.ireturn, 1) := by decide +kernel
theorem dX10_addNote_0 : decode cX10_addNote 0 = .ok (.aload_n 0, 1) := by decide +kernel
theorem dX10_addNote_1 : decode cX10_addNote 1 = .ok (.getfield 36, 3) := by decide +kernel
theorem dX10_addNote_4 : decode cX10_addNote 4 = .ok (.iconst 0, 1) := by decide +kernel
theorem dX10_addNote_5 : decode cX10_addNote 5 = .ok (.iconst 5, 1) := by decide +kernel
theorem dX10_addNote_6 : decode cX10_addNote 6 = .ok (.invokestatic 72, 3) := by decide +kernel
theorem dX10_addNote_9 : decode cX10_addNote 9 = .ok (.ifCond .eq 54, 3) := by decide +kernel
theorem dX10_addNote_12 : decode cX10_addNote 12 = .ok (.aload_n 0, 1) := by decide +kernel
theorem dX10_addNote_13 : decode cX10_addNote 13 = .ok (.getfield 39, 3) := by decide +kernel
theorem dX10_addNote_16 : decode cX10_addNote 16 = .ok (.aload_n 0, 1) := by decide +kernel
theorem dX10_addNote_17 : decode cX10_addNote 17 = .ok (.getfield 36, 3) := by decide +kernel
theorem dX10_addNote_20 : decode cX10_addNote 20 = .ok (.iload_n 1, 1) := by decide +kernel
theorem dX10_addNote_21 : decode cX10_addNote 21 = .ok (.iastore, 1) := by decide +kernel
theorem dX10_addNote_22 : decode cX10_addNote 22 = .ok (.aload_n 0, 1) := by decide +kernel
theorem dX10_addNote_23 : decode cX10_addNote 23 = .ok (.getfield 42, 3) := by decide +kernel
theorem dX10_addNote_26 : decode cX10_addNote 26 = .ok (.aload_n 0, 1) := by decide +kernel
theorem dX10_addNote_27 : decode cX10_addNote 27 = .ok (.getfield 36, 3) := by decide +kernel
theorem dX10_addNote_30 : decode cX10_addNote 30 = .ok (.iload_n 2, 1) := by decide +kernel
theorem dX10_addNote_31 : decode cX10_addNote 31 = .ok (.iastore, 1) := by decide +kernel
theorem dX10_addNote_32 : decode cX10_addNote 32 = .ok (.aload_n 0, 1) := by decide +kernel
theorem dX10_addNote_33 : decode cX10_addNote 33 = .ok (.getfield 45, 3) := by decide +kernel
theorem dX10_addNote_36 : decode cX10_addNote 36 = .ok (.aload_n 0, 1) := by decide +kernel
theorem dX10_addNote_37 : decode cX10_addNote 37 = .ok (.getfield 36, 3) := by decide +kernel
theorem dX10_addNote_40 : decode cX10_addNote 40 = .ok (.iload_n 3, 1) := by decide +kernel
theorem dX10_addNote_41 : decode cX10_addNote 41 = .ok (.iastore, 1) := by decide +kernel
theorem dX10_addNote_42 : decode cX10_addNote 42 = .ok (.aload_n 0, 1) := by decide +kernel
theorem dX10_addNote_43 : decode cX10_addNote 43 = .ok (.getfield 48, 3) := by decide +kernel
theorem dX10_addNote_46 : decode cX10_addNote 46 = .ok (.aload_n 0, 1) := by decide +kernel
theorem dX10_addNote_47 : decode cX10_addNote 47 = .ok (.getfield 36, 3) := by decide +kernel
theorem dX10_addNote_50 : decode cX10_addNote 50 = .ok (.iload 4, 2) := by decide +kernel
theorem dX10_addNote_52 : decode cX10_addNote 52 = .ok (.iastore, 1) := by decide +kernel
theorem dX10_addNote_53 : decode cX10_addNote 53 = .ok (.aload_n 0, 1) := by decide +kernel
theorem dX10_addNote_54 : decode cX10_addNote 54 = .ok (.dup, 1) := by decide +kernel
theorem dX10_addNote_55 : decode cX10_addNote 55 = .ok (.getfield 36, 3) := by decide +kernel
theorem dX10_addNote_58 : decode cX10_addNote 58 = .ok (.iconst 1, 1) := by decide +kernel
theorem dX10_addNote_59 : decode cX10_addNote 59 = .ok (.iadd, 1) := by decide +kernel
theorem dX10_addNote_60 : decode cX10_addNote 60 = .ok (.putfield 36, 3) := by decide +kernel
theorem dX10_addNote_63 : decode cX10_addNote 63 = .ok (.return_, 1) := by decide +kernel
theorem dX10_addHeadsTo_0 : decode cX10_addHeadsTo 0 = .ok (.lload_n 1, 1) := by decide +kernel
theorem dX10_addHeadsTo_1 : decode cX10_addHeadsTo 1 = .ok (.lstore_n 3, 1) := by decide +kernel
theorem dX10_addHeadsTo_2 : decode cX10_addHeadsTo 2 = .ok (.iconst 0, 1) := by decide +kernel
theorem dX10_addHeadsTo_3 : decode cX10_addHeadsTo 3 = .ok (.istore 5, 2) := by decide +kernel
theorem dX10_addHeadsTo_5 : decode cX10_addHeadsTo 5 = .ok (.iload 5, 2) := by decide +kernel
theorem dX10_addHeadsTo_7 : decode cX10_addHeadsTo 7 = .ok (.aload_n 0, 1) := by decide +kernel
theorem dX10_addHeadsTo_8 : decode cX10_addHeadsTo 8 = .ok (.getfield 25, 3) := by decide +kernel
theorem dX10_addHeadsTo_11 : decode cX10_addHeadsTo 11 = .ok (.if_icmp .ge 45, 3) := by decide +kernel
theorem dX10_addHeadsTo_14 : decode cX10_addHeadsTo 14 = .ok (.iload 5, 2) := by decide +kernel
theorem dX10_addHeadsTo_16 : decode cX10_addHeadsTo 16 = .ok (.iconst 5, 1) := by decide +kernel
theorem dX10_addHeadsTo_17 : decode cX10_addHeadsTo 17 = .ok (.if_icmp .ge 39, 3) := by decide +kernel
theorem dX10_addHeadsTo_20 : decode cX10_addHeadsTo 20 = .ok (.ldc2_w 76, 3) := by decide +kernel
theorem dX10_addHeadsTo_23 : decode cX10_addHeadsTo 23 = .ok (.lload_n 3, 1) := by decide +kernel
theorem dX10_addHeadsTo_24 : decode cX10_addHeadsTo 24 = .ok (.lmul, 1) := by decide +kernel
theorem dX10_addHeadsTo_25 : decode cX10_addHeadsTo 25 = .ok (.aload_n 0, 1) := by decide +kernel
theorem dX10_addHeadsTo_26 : decode cX10_addHeadsTo 26 = .ok (.getfield 29, 3) := by decide +kernel
theorem dX10_addHeadsTo_29 : decode cX10_addHeadsTo 29 = .ok (.iload 5, 2) := by decide +kernel
theorem dX10_addHeadsTo_31 : decode cX10_addHeadsTo 31 = .ok (.iaload, 1) := by decide +kernel
theorem dX10_addHeadsTo_32 : decode cX10_addHeadsTo 32 = .ok (.i2l, 1) := by decide +kernel
theorem dX10_addHeadsTo_33 : decode cX10_addHeadsTo 33 = .ok (.ladd, 1) := by decide +kernel
theorem dX10_addHeadsTo_34 : decode cX10_addHeadsTo 34 = .ok (.lstore_n 3, 1) := by decide +kernel
theorem dX10_addHeadsTo_35 : decode cX10_addHeadsTo 35 = .ok (.ldc2_w 76, 3) := by decide +kernel
theorem dX10_addHeadsTo_38 : decode cX10_addHeadsTo 38 = .ok (.lload_n 3, 1) := by decide +kernel
theorem dX10_addHeadsTo_39 : decode cX10_addHeadsTo 39 = .ok (.lmul, 1) := by decide +kernel
theorem dX10_addHeadsTo_40 : decode cX10_addHeadsTo 40 = .ok (.aload_n 0, 1) := by decide +kernel
theorem dX10_addHeadsTo_41 : decode cX10_addHeadsTo 41 = .ok (.getfield 33, 3) := by decide +kernel
theorem dX10_addHeadsTo_44 : decode cX10_addHeadsTo 44 = .ok (.iload 5, 2) := by decide +kernel
theorem dX10_addHeadsTo_46 : decode cX10_addHeadsTo 46 = .ok (.iaload, 1) := by decide +kernel
theorem dX10_addHeadsTo_47 : decode cX10_addHeadsTo 47 = .ok (.i2l, 1) := by decide +kernel
theorem dX10_addHeadsTo_48 : decode cX10_addHeadsTo 48 = .ok (.ladd, 1) := by decide +kernel
theorem dX10_addHeadsTo_49 : decode cX10_addHeadsTo 49 = .ok (.lstore_n 3, 1) := by decide +kernel
theorem dX10_addHeadsTo_50 : decode cX10_addHeadsTo 50 = .ok (.iinc 5 1, 3) := by decide +kernel
theorem dX10_addHeadsTo_53 : decode cX10_addHeadsTo 53 = .ok (.goto (-48), 3) := by decide +kernel
theorem dX10_addHeadsTo_56 : decode cX10_addHeadsTo 56 = .ok (.lload_n 3, 1) := by decide +kernel
theorem dX10_addHeadsTo_57 : decode cX10_addHeadsTo 57 = .ok (.lreturn, 1) := by decide +kernel
theorem dX10_addNotesTo_0 : decode cX10_addNotesTo 0 = .ok (.lload_n 1, 1) := by decide +kernel
theorem dX10_addNotesTo_1 : decode cX10_addNotesTo 1 = .ok (.lstore_n 3, 1) := by decide +kernel
theorem dX10_addNotesTo_2 : decode cX10_addNotesTo 2 = .ok (.iconst 0, 1) := by decide +kernel
theorem dX10_addNotesTo_3 : decode cX10_addNotesTo 3 = .ok (.istore 5, 2) := by decide +kernel
theorem dX10_addNotesTo_5 : decode cX10_addNotesTo 5 = .ok (.iload 5, 2) := by decide +kernel
theorem dX10_addNotesTo_7 : decode cX10_addNotesTo 7 = .ok (.aload_n 0, 1) := by decide +kernel
theorem dX10_addNotesTo_8 : decode cX10_addNotesTo 8 = .ok (.getfield 36, 3) := by decide +kernel
theorem dX10_addNotesTo_11 : decode cX10_addNotesTo 11 = .ok (.if_icmp .ge 76, 3) := by decide +kernel
theorem dX10_addNotesTo_14 : decode cX10_addNotesTo 14 = .ok (.iload 5, 2) := by decide +kernel
theorem dX10_addNotesTo_16 : decode cX10_addNotesTo 16 = .ok (.bipush 6, 2) := by decide +kernel
theorem dX10_addNotesTo_18 : decode cX10_addNotesTo 18 = .ok (.if_icmp .ge 69, 3) := by decide +kernel
theorem dX10_addNotesTo_21 : decode cX10_addNotesTo 21 = .ok (.ldc2_w 76, 3) := by decide +kernel
theorem dX10_addNotesTo_24 : decode cX10_addNotesTo 24 = .ok (.lload_n 3, 1) := by decide +kernel
theorem dX10_addNotesTo_25 : decode cX10_addNotesTo 25 = .ok (.lmul, 1) := by decide +kernel
theorem dX10_addNotesTo_26 : decode cX10_addNotesTo 26 = .ok (.aload_n 0, 1) := by decide +kernel
theorem dX10_addNotesTo_27 : decode cX10_addNotesTo 27 = .ok (.getfield 39, 3) := by decide +kernel
theorem dX10_addNotesTo_30 : decode cX10_addNotesTo 30 = .ok (.iload 5, 2) := by decide +kernel
theorem dX10_addNotesTo_32 : decode cX10_addNotesTo 32 = .ok (.iaload, 1) := by decide +kernel
theorem dX10_addNotesTo_33 : decode cX10_addNotesTo 33 = .ok (.i2l, 1) := by decide +kernel
theorem dX10_addNotesTo_34 : decode cX10_addNotesTo 34 = .ok (.ladd, 1) := by decide +kernel
theorem dX10_addNotesTo_35 : decode cX10_addNotesTo 35 = .ok (.lstore_n 3, 1) := by decide +kernel
theorem dX10_addNotesTo_36 : decode cX10_addNotesTo 36 = .ok (.ldc2_w 76, 3) := by decide +kernel
theorem dX10_addNotesTo_39 : decode cX10_addNotesTo 39 = .ok (.lload_n 3, 1) := by decide +kernel
theorem dX10_addNotesTo_40 : decode cX10_addNotesTo 40 = .ok (.lmul, 1) := by decide +kernel
theorem dX10_addNotesTo_41 : decode cX10_addNotesTo 41 = .ok (.aload_n 0, 1) := by decide +kernel
theorem dX10_addNotesTo_42 : decode cX10_addNotesTo 42 = .ok (.getfield 42, 3) := by decide +kernel
theorem dX10_addNotesTo_45 : decode cX10_addNotesTo 45 = .ok (.iload 5, 2) := by decide +kernel
theorem dX10_addNotesTo_47 : decode cX10_addNotesTo 47 = .ok (.iaload, 1) := by decide +kernel
theorem dX10_addNotesTo_48 : decode cX10_addNotesTo 48 = .ok (.i2l, 1) := by decide +kernel
theorem dX10_addNotesTo_49 : decode cX10_addNotesTo 49 = .ok (.ladd, 1) := by decide +kernel
theorem dX10_addNotesTo_50 : decode cX10_addNotesTo 50 = .ok (.lstore_n 3, 1) := by decide +kernel
theorem dX10_addNotesTo_51 : decode cX10_addNotesTo 51 = .ok (.ldc2_w 76, 3) := by decide +kernel
theorem dX10_addNotesTo_54 : decode cX10_addNotesTo 54 = .ok (.lload_n 3, 1) := by decide +kernel
theorem dX10_addNotesTo_55 : decode cX10_addNotesTo 55 = .ok (.lmul, 1) := by decide +kernel
theorem dX10_addNotesTo_56 : decode cX10_addNotesTo 56 = .ok (.aload_n 0, 1) := by decide +kernel
theorem dX10_addNotesTo_57 : decode cX10_addNotesTo 57 = .ok (.getfield 45, 3) := by decide +kernel
theorem dX10_addNotesTo_60 : decode cX10_addNotesTo 60 = .ok (.iload 5, 2) := by decide +kernel
theorem dX10_addNotesTo_62 : decode cX10_addNotesTo 62 = .ok (.iaload, 1) := by decide +kernel
theorem dX10_addNotesTo_63 : decode cX10_addNotesTo 63 = .ok (.i2l, 1) := by decide +kernel
theorem dX10_addNotesTo_64 : decode cX10_addNotesTo 64 = .ok (.ladd, 1) := by decide +kernel
theorem dX10_addNotesTo_65 : decode cX10_addNotesTo 65 = .ok (.lstore_n 3, 1) := by decide +kernel
theorem dX10_addNotesTo_66 : decode cX10_addNotesTo 66 = .ok (.ldc2_w 76, 3) := by decide +kernel
theorem dX10_addNotesTo_69 : decode cX10_addNotesTo 69 = .ok (.lload_n 3, 1) := by decide +kernel
theorem dX10_addNotesTo_70 : decode cX10_addNotesTo 70 = .ok (.lmul, 1) := by decide +kernel
theorem dX10_addNotesTo_71 : decode cX10_addNotesTo 71 = .ok (.aload_n 0, 1) := by decide +kernel
theorem dX10_addNotesTo_72 : decode cX10_addNotesTo 72 = .ok (.getfield 48, 3) := by decide +kernel
theorem dX10_addNotesTo_75 : decode cX10_addNotesTo 75 = .ok (.iload 5, 2) := by decide +kernel
theorem dX10_addNotesTo_77 : decode cX10_addNotesTo 77 = .ok (.iaload, 1) := by decide +kernel
theorem dX10_addNotesTo_78 : decode cX10_addNotesTo 78 = .ok (.i2l, 1) := by decide +kernel
theorem dX10_addNotesTo_79 : decode cX10_addNotesTo 79 = .ok (.ladd, 1) := by decide +kernel
theorem dX10_addNotesTo_80 : decode cX10_addNotesTo 80 = .ok (.lstore_n 3, 1) := by decide +kernel
theorem dX10_addNotesTo_81 : decode cX10_addNotesTo 81 = .ok (.iinc 5 1, 3) := by decide +kernel
theorem dX10_addNotesTo_84 : decode cX10_addNotesTo 84 = .ok (.goto (-79), 3) := by decide +kernel
theorem dX10_addNotesTo_87 : decode cX10_addNotesTo 87 = .ok (.lload_n 3, 1) := by decide +kernel
theorem dX10_addNotesTo_88 : decode cX10_addNotesTo 88 = .ok (.lreturn, 1) := by decide +kernel
theorem dX11_init_0 : decode cX11_init 0 = .ok (.aload_n 0, 1) := by decide +kernel
theorem dX11_init_1 : decode cX11_init 1 = .ok (.invokespecial 3, 3) := by decide +kernel
theorem dX11_init_4 : decode cX11_init 4 = .ok (.aload_n 0, 1) := by decide +kernel
theorem dX11_init_5 : decode cX11_init 5 = .ok (.bipush 6, 2) := by decide +kernel
theorem dX11_init_7 : decode cX11_init 7 = .ok (.anewarray 9, 3) := by decide +kernel
theorem dX11_init_10 : decode cX11_init 10 = .ok (.putfield 11, 3) := by decide +kernel
theorem dX11_init_13 : decode cX11_init 13 = .ok (.aload_n 0, 1) := by decide +kernel
theorem dX11_init_14 : decode cX11_init 14 = .ok (.new 15, 3) := by decide +kernel
theorem dX11_init_17 : decode cX11_init 17 = .ok (.dup, 1) := by decide +kernel
theorem dX11_init_18 : decode cX11_init 18 = .ok (.invokespecial 17, 3) := by decide +kernel
theorem dX11_init_21 : decode cX11_init 21 = .ok (.putfield 18, 3) := by decide +kernel
theorem dX11_init_24 : decode cX11_init 24 = .ok (.aload_n 0, 1) := by decide +kernel
theorem dX11_init_25 : decode cX11_init 25 = .ok (.new 15, 3) := by decide +kernel
theorem dX11_init_28 : decode cX11_init 28 = .ok (.dup, 1) := by decide +kernel
theorem dX11_init_29 : decode cX11_init 29 = .ok (.invokespecial 17, 3) := by decide +kernel
theorem dX11_init_32 : decode cX11_init 32 = .ok (.putfield 22, 3) := by decide +kernel
theorem dX11_init_35 : decode cX11_init 35 = .ok (.aload_n 0, 1) := by decide +kernel
theorem dX11_init_36 : decode cX11_init 36 = .ok (.iconst 2, 1) := by decide +kernel
theorem dX11_init_37 : decode cX11_init 37 = .ok (.anewarray 15, 3) := by decide +kernel
theorem dX11_init_40 : decode cX11_init 40 = .ok (.putfield 25, 3) := by decide +kernel
theorem dX11_init_43 : decode cX11_init 43 = .ok (.aload_n 0, 1) := by decide +kernel
theorem dX11_init_44 : decode cX11_init 44 = .ok (.new 29, 3) := by decide +kernel
theorem dX11_init_47 : decode cX11_init 47 = .ok (.dup, 1) := by decide +kernel
theorem dX11_init_48 : decode cX11_init 48 = .ok (.invokespecial 31, 3) := by decide +kernel
theorem dX11_init_51 : decode cX11_init 51 = .ok (.putfield 32, 3) := by decide +kernel
theorem dX11_init_54 : decode cX11_init 54 = .ok (.aload_n 0, 1) := by decide +kernel
theorem dX11_init_55 : decode cX11_init 55 = .ok (.new 36, 3) := by decide +kernel
theorem dX11_init_58 : decode cX11_init 58 = .ok (.dup, 1) := by decide +kernel
theorem dX11_init_59 : decode cX11_init 59 = .ok (.invokespecial 38, 3) := by decide +kernel
theorem dX11_init_62 : decode cX11_init 62 = .ok (.putfield 39, 3) := by decide +kernel
theorem dX11_init_65 : decode cX11_init 65 = .ok (.aload_n 0, 1) := by decide +kernel
theorem dX11_init_66 : decode cX11_init 66 = .ok (.new 43, 3) := by decide +kernel
theorem dX11_init_69 : decode cX11_init 69 = .ok (.dup, 1) := by decide +kernel
theorem dX11_init_70 : decode cX11_init 70 = .ok (.invokespecial 45, 3) := by decide +kernel
theorem dX11_init_73 : decode cX11_init 73 = .ok (.putfield 46, 3) := by decide +kernel
theorem dX11_init_76 : decode cX11_init 76 = .ok (.aload_n 0, 1) := by decide +kernel
theorem dX11_init_77 : decode cX11_init 77 = .ok (.bipush 16, 2) := by decide +kernel
theorem dX11_init_79 : decode cX11_init 79 = .ok (.newarray .int, 2) := by decide +kernel
theorem dX11_init_81 : decode cX11_init 81 = .ok (.putfield 50, 3) := by decide +kernel
theorem dX11_init_84 : decode cX11_init 84 = .ok (.aload_n 0, 1) := by decide +kernel
theorem dX11_init_85 : decode cX11_init 85 = .ok (.lconst 0, 1) := by decide +kernel
theorem dX11_init_86 : decode cX11_init 86 = .ok (.putfield 54, 3) := by decide +kernel
theorem dX11_init_89 : decode cX11_init 89 = .ok (.aload_n 0, 1) := by decide +kernel
theorem dX11_init_90 : decode cX11_init 90 = .ok (.lconst 1, 1) := by decide +kernel
theorem dX11_init_91 : decode cX11_init 91 = .ok (.putfield 58, 3) := by decide +kernel
theorem dX11_init_94 : decode cX11_init 94 = .ok (.aload_n 0, 1) := by decide +kernel
theorem dX11_init_95 : decode cX11_init 95 = .ok (.iconst 0, 1) := by decide +kernel
theorem dX11_init_96 : decode cX11_init 96 = .ok (.putfield 61, 3) := by decide +kernel
theorem dX11_init_99 : decode cX11_init 99 = .ok (.aload_n 0, 1) := by decide +kernel
theorem dX11_init_100 : decode cX11_init 100 = .ok (.iconst 0, 1) := by decide +kernel
theorem dX11_init_101 : decode cX11_init 101 = .ok (.putfield 65, 3) := by decide +kernel
theorem dX11_init_104 : decode cX11_init 104 = .ok (.aload_n 0, 1) := by decide +kernel
theorem dX11_init_105 : decode cX11_init 105 = .ok (.iconst 0, 1) := by decide +kernel
theorem dX11_init_106 : decode cX11_init 106 = .ok (.putfield 68, 3) := by decide +kernel
theorem dX11_init_109 : decode cX11_init 109 = .ok (.aload_n 0, 1) := by decide +kernel
theorem dX11_init_110 : decode cX11_init 110 = .ok (.getfield 11, 3) := by decide +kernel
theorem dX11_init_113 : decode cX11_init 113 = .ok (.iconst 0, 1) := by decide +kernel
theorem dX11_init_114 : decode cX11_init 114 = .ok (.new 9, 3) := by decide +kernel
theorem dX11_init_117 : decode cX11_init 117 = .ok (.dup, 1) := by decide +kernel
theorem dX11_init_118 : decode cX11_init 118 = .ok (.invokespecial 71, 3) := by decide +kernel
theorem dX11_init_121 : decode cX11_init 121 = .ok (.aastore, 1) := by decide +kernel
theorem dX11_init_122 : decode cX11_init 122 = .ok (.aload_n 0, 1) := by decide +kernel
theorem dX11_init_123 : decode cX11_init 123 = .ok (.getfield 11, 3) := by decide +kernel
theorem dX11_init_126 : decode cX11_init 126 = .ok (.iconst 1, 1) := by decide +kernel
theorem dX11_init_127 : decode cX11_init 127 = .ok (.new 72, 3) := by decide +kernel
theorem dX11_init_130 : decode cX11_init 130 = .ok (.dup, 1) := by decide +kernel
theorem dX11_init_131 : decode cX11_init 131 = .ok (.invokespecial 74, 3) := by decide +kernel
theorem dX11_init_134 : decode cX11_init 134 = .ok (.aastore, 1) := by decide +kernel
theorem dX11_init_135 : decode cX11_init 135 = .ok (.aload_n 0, 1) := by decide +kernel
theorem dX11_init_136 : decode cX11_init 136 = .ok (.getfield 11, 3) := by decide +kernel
theorem dX11_init_139 : decode cX11_init 139 = .ok (.iconst 2, 1) := by decide +kernel
theorem dX11_init_140 : decode cX11_init 140 = .ok (.new 75, 3) := by decide +kernel
theorem dX11_init_143 : decode cX11_init 143 = .ok (.dup, 1) := by decide +kernel
theorem dX11_init_144 : decode cX11_init 144 = .ok (.invokespecial 77, 3) := by decide +kernel
theorem dX11_init_147 : decode cX11_init 147 = .ok (.aastore, 1) := by decide +kernel
theorem dX11_init_148 : decode cX11_init 148 = .ok (.aload_n 0, 1) := by decide +kernel
theorem dX11_init_149 : decode cX11_init 149 = .ok (.getfield 11, 3) := by decide +kernel
theorem dX11_init_152 : decode cX11_init 152 = .ok (.iconst 3, 1) := by decide +kernel
theorem dX11_init_153 : decode cX11_init 153 = .ok (.new 78, 3) := by decide +kernel
theorem dX11_init_156 : decode cX11_init 156 = .ok (.dup, 1) := by decide +kernel
theorem dX11_init_157 : decode cX11_init 157 = .ok (.invokespecial 80, 3) := by decide +kernel
theorem dX11_init_160 : decode cX11_init 160 = .ok (.aastore, 1) := by decide +kernel
theorem dX11_init_161 : decode cX11_init 161 = .ok (.aload_n 0, 1) := by decide +kernel
theorem dX11_init_162 : decode cX11_init 162 = .ok (.getfield 11, 3) := by decide +kernel
theorem dX11_init_165 : decode cX11_init 165 = .ok (.iconst 4, 1) := by decide +kernel
theorem dX11_init_166 : decode cX11_init 166 = .ok (.new 81, 3) := by decide +kernel
theorem dX11_init_169 : decode cX11_init 169 = .ok (.dup, 1) := by decide +kernel
theorem dX11_init_170 : decode cX11_init 170 = .ok (.invokespecial 83, 3) := by decide +kernel
end
section
theorem dX11_init_173 : decode cX11_init 173 = .ok (.aastore, 1) := by decide +kernel
theorem dX11_init_174 : decode cX11_init 174 = .ok (.aload_n 0, 1) := by decide +kernel
theorem dX11_init_175 : decode cX11_init 175 = .ok (.getfield 11, 3) := by decide +kernel
theorem dX11_init_178 : decode cX11_init 178 = .ok (.iconst 5, 1) := by decide +kernel
theorem dX11_init_179 : decode cX11_init 179 = .ok (.new 84, 3) := by decide +kernel
theorem dX11_init_182 : decode cX11_init 182 = .ok (.dup, 1) := by decide +kernel
theorem dX11_init_183 : decode cX11_init 183 = .ok (.invokespecial 86, 3) := by decide +kernel
theorem dX11_init_186 : decode cX11_init 186 = .ok (.aastore, 1) := by decide +kernel
theorem dX11_init_187 : decode cX11_init 187 = .ok (.return_, 1) := by decide +kernel
theorem dX11_road_0 : decode cX11_road 0 = .ok (.iload_n 1, 1) := by decide +kernel
theorem dX11_road_1 : decode cX11_road 1 = .ok (.iconst 1, 1) := by decide +kernel
theorem dX11_road_2 : decode cX11_road 2 = .ok (.bipush 15, 2) := by decide +kernel
theorem dX11_road_4 : decode cX11_road 4 = .ok (.invokestatic 87, 3) := by decide +kernel
theorem dX11_road_7 : decode cX11_road 7 = .ok (.ifCond .eq 13, 3) := by decide +kernel
theorem dX11_road_10 : decode cX11_road 10 = .ok (.iload_n 2, 1) := by decide +kernel
theorem dX11_road_11 : decode cX11_road 11 = .ok (.iconst 1, 1) := by decide +kernel
theorem dX11_road_12 : decode cX11_road 12 = .ok (.bipush 12, 2) := by decide +kernel
theorem dX11_road_14 : decode cX11_road 14 = .ok (.invokestatic 87, 3) := by decide +kernel
theorem dX11_road_17 : decode cX11_road 17 = .ok (.ifCond .ne 10, 3) := by decide +kernel
theorem dX11_road_20 : decode cX11_road 20 = .ok (.aload_n 0, 1) := by decide +kernel
theorem dX11_road_21 : decode cX11_road 21 = .ok (.bipush (-2), 2) := by decide +kernel
theorem dX11_road_23 : decode cX11_road 23 = .ok (.invokevirtual 91, 3) := by decide +kernel
theorem dX11_road_26 : decode cX11_road 26 = .ok (.ireturn, 1) := by decide +kernel
theorem dX11_road_27 : decode cX11_road 27 = .ok (.aload_n 0, 1) := by decide +kernel
theorem dX11_road_28 : decode cX11_road 28 = .ok (.getfield 18, 3) := by decide +kernel
theorem dX11_road_31 : decode cX11_road 31 = .ok (.getfield 95, 3) := by decide +kernel
theorem dX11_road_34 : decode cX11_road 34 = .ok (.istore_n 3, 1) := by decide +kernel
theorem dX11_road_35 : decode cX11_road 35 = .ok (.aload_n 0, 1) := by decide +kernel
theorem dX11_road_36 : decode cX11_road 36 = .ok (.getfield 18, 3) := by decide +kernel
theorem dX11_road_39 : decode cX11_road 39 = .ok (.iload_n 1, 1) := by decide +kernel
theorem dX11_road_40 : decode cX11_road 40 = .ok (.iload_n 2, 1) := by decide +kernel
theorem dX11_road_41 : decode cX11_road 41 = .ok (.invokevirtual 98, 3) := by decide +kernel
theorem dX11_road_44 : decode cX11_road 44 = .ok (.iload_n 3, 1) := by decide +kernel
theorem dX11_road_45 : decode cX11_road 45 = .ok (.ireturn, 1) := by decide +kernel
theorem dX11_cobble_0 : decode cX11_cobble 0 = .ok (.aload_n 0, 1) := by decide +kernel
theorem dX11_cobble_1 : decode cX11_cobble 1 = .ok (.iload_n 1, 1) := by decide +kernel
theorem dX11_cobble_2 : decode cX11_cobble 2 = .ok (.invokevirtual 102, 3) := by decide +kernel
theorem dX11_cobble_5 : decode cX11_cobble 5 = .ok (.ifCond .eq 13, 3) := by decide +kernel
theorem dX11_cobble_8 : decode cX11_cobble 8 = .ok (.iload_n 2, 1) := by decide +kernel
theorem dX11_cobble_9 : decode cX11_cobble 9 = .ok (.bipush (-4), 2) := by decide +kernel
theorem dX11_cobble_11 : decode cX11_cobble 11 = .ok (.iconst 4, 1) := by decide +kernel
theorem dX11_cobble_12 : decode cX11_cobble 12 = .ok (.invokestatic 87, 3) := by decide +kernel
theorem dX11_cobble_15 : decode cX11_cobble 15 = .ok (.ifCond .ne 10, 3) := by decide +kernel
theorem dX11_cobble_18 : decode cX11_cobble 18 = .ok (.aload_n 0, 1) := by decide +kernel
theorem dX11_cobble_19 : decode cX11_cobble 19 = .ok (.bipush (-10), 2) := by decide +kernel
theorem dX11_cobble_21 : decode cX11_cobble 21 = .ok (.invokevirtual 91, 3) := by decide +kernel
theorem dX11_cobble_24 : decode cX11_cobble 24 = .ok (.ireturn, 1) := by decide +kernel
theorem dX11_cobble_25 : decode cX11_cobble 25 = .ok (.aload_n 0, 1) := by decide +kernel
theorem dX11_cobble_26 : decode cX11_cobble 26 = .ok (.getfield 18, 3) := by decide +kernel
theorem dX11_cobble_29 : decode cX11_cobble 29 = .ok (.getfield 106, 3) := by decide +kernel
theorem dX11_cobble_32 : decode cX11_cobble 32 = .ok (.iload_n 1, 1) := by decide +kernel
theorem dX11_cobble_33 : decode cX11_cobble 33 = .ok (.invokevirtual 110, 3) := by decide +kernel
theorem dX11_cobble_36 : decode cX11_cobble 36 = .ok (.istore_n 3, 1) := by decide +kernel
theorem dX11_cobble_37 : decode cX11_cobble 37 = .ok (.aload_n 0, 1) := by decide +kernel
theorem dX11_cobble_38 : decode cX11_cobble 38 = .ok (.getfield 18, 3) := by decide +kernel
theorem dX11_cobble_41 : decode cX11_cobble 41 = .ok (.getfield 106, 3) := by decide +kernel
theorem dX11_cobble_44 : decode cX11_cobble 44 = .ok (.iload_n 1, 1) := by decide +kernel
theorem dX11_cobble_45 : decode cX11_cobble 45 = .ok (.iload_n 2, 1) := by decide +kernel
theorem dX11_cobble_46 : decode cX11_cobble 46 = .ok (.invokevirtual 115, 3) := by decide +kernel
theorem dX11_cobble_49 : decode cX11_cobble 49 = .ok (.iload_n 3, 1) := by decide +kernel
theorem dX11_cobble_50 : decode cX11_cobble 50 = .ok (.ireturn, 1) := by decide +kernel
theorem dX11_wind_0 : decode cX11_wind 0 = .ok (.iload_n 1, 1) := by decide +kernel
theorem dX11_wind_1 : decode cX11_wind 1 = .ok (.iconst 0, 1) := by decide +kernel
theorem dX11_wind_2 : decode cX11_wind 2 = .ok (.iconst 5, 1) := by decide +kernel
theorem dX11_wind_3 : decode cX11_wind 3 = .ok (.invokestatic 87, 3) := by decide +kernel
theorem dX11_wind_6 : decode cX11_wind 6 = .ok (.ifCond .eq 13, 3) := by decide +kernel
theorem dX11_wind_9 : decode cX11_wind 9 = .ok (.iload_n 2, 1) := by decide +kernel
theorem dX11_wind_10 : decode cX11_wind 10 = .ok (.bipush (-3), 2) := by decide +kernel
theorem dX11_wind_12 : decode cX11_wind 12 = .ok (.iconst 3, 1) := by decide +kernel
theorem dX11_wind_13 : decode cX11_wind 13 = .ok (.invokestatic 87, 3) := by decide +kernel
theorem dX11_wind_16 : decode cX11_wind 16 = .ok (.ifCond .ne 10, 3) := by decide +kernel
theorem dX11_wind_19 : decode cX11_wind 19 = .ok (.aload_n 0, 1) := by decide +kernel
theorem dX11_wind_20 : decode cX11_wind 20 = .ok (.bipush (-10), 2) := by decide +kernel
theorem dX11_wind_22 : decode cX11_wind 22 = .ok (.invokevirtual 91, 3) := by decide +kernel
theorem dX11_wind_25 : decode cX11_wind 25 = .ok (.ireturn, 1) := by decide +kernel
theorem dX11_wind_26 : decode cX11_wind 26 = .ok (.aload_n 0, 1) := by decide +kernel
theorem dX11_wind_27 : decode cX11_wind 27 = .ok (.getfield 18, 3) := by decide +kernel
theorem dX11_wind_30 : decode cX11_wind 30 = .ok (.getfield 106, 3) := by decide +kernel
theorem dX11_wind_33 : decode cX11_wind 33 = .ok (.iload_n 1, 1) := by decide +kernel
theorem dX11_wind_34 : decode cX11_wind 34 = .ok (.invokevirtual 118, 3) := by decide +kernel
theorem dX11_wind_37 : decode cX11_wind 37 = .ok (.istore_n 3, 1) := by decide +kernel
theorem dX11_wind_38 : decode cX11_wind 38 = .ok (.aload_n 0, 1) := by decide +kernel
theorem dX11_wind_39 : decode cX11_wind 39 = .ok (.getfield 18, 3) := by decide +kernel
theorem dX11_wind_42 : decode cX11_wind 42 = .ok (.getfield 106, 3) := by decide +kernel
theorem dX11_wind_45 : decode cX11_wind 45 = .ok (.iload_n 1, 1) := by decide +kernel
theorem dX11_wind_46 : decode cX11_wind 46 = .ok (.iload_n 2, 1) := by decide +kernel
theorem dX11_wind_47 : decode cX11_wind 47 = .ok (.invokevirtual 121, 3) := by decide +kernel
theorem dX11_wind_50 : decode cX11_wind 50 = .ok (.iload_n 3, 1) := by decide +kernel
theorem dX11_wind_51 : decode cX11_wind 51 = .ok (.ireturn, 1) := by decide +kernel
theorem dX11_head_0 : decode cX11_head 0 = .ok (.iload_n 1, 1) := by decide +kernel
theorem dX11_head_1 : decode cX11_head 1 = .ok (.iconst 0, 1) := by decide +kernel
theorem dX11_head_2 : decode cX11_head 2 = .ok (.iconst 5, 1) := by decide +kernel
theorem dX11_head_3 : decode cX11_head 3 = .ok (.invokestatic 87, 3) := by decide +kernel
theorem dX11_head_6 : decode cX11_head 6 = .ok (.ifCond .eq 14, 3) := by decide +kernel
theorem dX11_head_9 : decode cX11_head 9 = .ok (.iload_n 2, 1) := by decide +kernel
theorem dX11_head_10 : decode cX11_head 10 = .ok (.bipush (-12), 2) := by decide +kernel
theorem dX11_head_12 : decode cX11_head 12 = .ok (.bipush 12, 2) := by decide +kernel
theorem dX11_head_14 : decode cX11_head 14 = .ok (.invokestatic 87, 3) := by decide +kernel
theorem dX11_head_17 : decode cX11_head 17 = .ok (.ifCond .ne 10, 3) := by decide +kernel
theorem dX11_head_20 : decode cX11_head 20 = .ok (.aload_n 0, 1) := by decide +kernel
theorem dX11_head_21 : decode cX11_head 21 = .ok (.bipush (-2), 2) := by decide +kernel
theorem dX11_head_23 : decode cX11_head 23 = .ok (.invokevirtual 91, 3) := by decide +kernel
theorem dX11_head_26 : decode cX11_head 26 = .ok (.ireturn, 1) := by decide +kernel
theorem dX11_head_27 : decode cX11_head 27 = .ok (.aload_n 0, 1) := by decide +kernel
theorem dX11_head_28 : decode cX11_head 28 = .ok (.getfield 18, 3) := by decide +kernel
theorem dX11_head_31 : decode cX11_head 31 = .ok (.getfield 95, 3) := by decide +kernel
theorem dX11_head_34 : decode cX11_head 34 = .ok (.iconst 5, 1) := by decide +kernel
theorem dX11_head_35 : decode cX11_head 35 = .ok (.if_icmp .lt 8, 3) := by decide +kernel
theorem dX11_head_38 : decode cX11_head 38 = .ok (.aload_n 0, 1) := by decide +kernel
theorem dX11_head_39 : decode cX11_head 39 = .ok (.invokevirtual 124, 3) := by decide +kernel
theorem dX11_head_42 : decode cX11_head 42 = .ok (.ireturn, 1) := by decide +kernel
theorem dX11_head_43 : decode cX11_head 43 = .ok (.aload_n 0, 1) := by decide +kernel
theorem dX11_head_44 : decode cX11_head 44 = .ok (.getfield 18, 3) := by decide +kernel
theorem dX11_head_47 : decode cX11_head 47 = .ok (.iload_n 1, 1) := by decide +kernel
theorem dX11_head_48 : decode cX11_head 48 = .ok (.iload_n 2, 1) := by decide +kernel
theorem dX11_head_49 : decode cX11_head 49 = .ok (.invokevirtual 128, 3) := by decide +kernel
theorem dX11_head_52 : decode cX11_head 52 = .ok (.aload_n 0, 1) := by decide +kernel
theorem dX11_head_53 : decode cX11_head 53 = .ok (.getfield 18, 3) := by decide +kernel
theorem dX11_head_56 : decode cX11_head 56 = .ok (.getfield 95, 3) := by decide +kernel
theorem dX11_head_59 : decode cX11_head 59 = .ok (.iconst 1, 1) := by decide +kernel
theorem dX11_head_60 : decode cX11_head 60 = .ok (.isub, 1) := by decide +kernel
theorem dX11_head_61 : decode cX11_head 61 = .ok (.ireturn, 1) := by decide +kernel
theorem dX11_type_0 : decode cX11_type 0 = .ok (.iload_n 1, 1) := by decide +kernel
theorem dX11_type_1 : decode cX11_type 1 = .ok (.iconst 0, 1) := by decide +kernel
theorem dX11_type_2 : decode cX11_type 2 = .ok (.bipush 127, 2) := by decide +kernel
theorem dX11_type_4 : decode cX11_type 4 = .ok (.invokestatic 87, 3) := by decide +kernel
theorem dX11_type_7 : decode cX11_type 7 = .ok (.ifCond .ne 10, 3) := by decide +kernel
theorem dX11_type_10 : decode cX11_type 10 = .ok (.aload_n 0, 1) := by decide +kernel
theorem dX11_type_11 : decode cX11_type 11 = .ok (.bipush (-2), 2) := by decide +kernel
theorem dX11_type_13 : decode cX11_type 13 = .ok (.invokevirtual 91, 3) := by decide +kernel
theorem dX11_type_16 : decode cX11_type 16 = .ok (.ireturn, 1) := by decide +kernel
theorem dX11_type_17 : decode cX11_type 17 = .ok (.aload_n 0, 1) := by decide +kernel
theorem dX11_type_18 : decode cX11_type 18 = .ok (.getfield 32, 3) := by decide +kernel
theorem dX11_type_21 : decode cX11_type 21 = .ok (.getfield 131, 3) := by decide +kernel
theorem dX11_type_24 : decode cX11_type 24 = .ok (.sipush 150, 3) := by decide +kernel
theorem dX11_type_27 : decode cX11_type 27 = .ok (.if_icmp .lt 8, 3) := by decide +kernel
theorem dX11_type_30 : decode cX11_type 30 = .ok (.aload_n 0, 1) := by decide +kernel
theorem dX11_type_31 : decode cX11_type 31 = .ok (.invokevirtual 124, 3) := by decide +kernel
theorem dX11_type_34 : decode cX11_type 34 = .ok (.ireturn, 1) := by decide +kernel
theorem dX11_type_35 : decode cX11_type 35 = .ok (.aload_n 0, 1) := by decide +kernel
theorem dX11_type_36 : decode cX11_type 36 = .ok (.getfield 32, 3) := by decide +kernel
theorem dX11_type_39 : decode cX11_type 39 = .ok (.iload_n 1, 1) := by decide +kernel
theorem dX11_type_40 : decode cX11_type 40 = .ok (.invokevirtual 134, 3) := by decide +kernel
theorem dX11_type_43 : decode cX11_type 43 = .ok (.aload_n 0, 1) := by decide +kernel
theorem dX11_type_44 : decode cX11_type 44 = .ok (.getfield 32, 3) := by decide +kernel
theorem dX11_type_47 : decode cX11_type 47 = .ok (.getfield 131, 3) := by decide +kernel
theorem dX11_type_50 : decode cX11_type 50 = .ok (.ireturn, 1) := by decide +kernel
theorem dX11_clear_0 : decode cX11_clear 0 = .ok (.aload_n 0, 1) := by decide +kernel
theorem dX11_clear_1 : decode cX11_clear 1 = .ok (.getfield 32, 3) := by decide +kernel
theorem dX11_clear_4 : decode cX11_clear 4 = .ok (.getfield 131, 3) := by decide +kernel
theorem dX11_clear_7 : decode cX11_clear 7 = .ok (.istore_n 1, 1) := by decide +kernel
theorem dX11_clear_8 : decode cX11_clear 8 = .ok (.aload_n 0, 1) := by decide +kernel
theorem dX11_clear_9 : decode cX11_clear 9 = .ok (.getfield 32, 3) := by decide +kernel
theorem dX11_clear_12 : decode cX11_clear 12 = .ok (.iconst 0, 1) := by decide +kernel
theorem dX11_clear_13 : decode cX11_clear 13 = .ok (.putfield 131, 3) := by decide +kernel
theorem dX11_clear_16 : decode cX11_clear 16 = .ok (.iload_n 1, 1) := by decide +kernel
theorem dX11_clear_17 : decode cX11_clear 17 = .ok (.ireturn, 1) := by decide +kernel
theorem dX11_read_0 : decode cX11_read 0 = .ok (.aload_n 0, 1) := by decide +kernel
theorem dX11_read_1 : decode cX11_read 1 = .ok (.getfield 32, 3) := by decide +kernel
theorem dX11_read_4 : decode cX11_read 4 = .ok (.aload_n 0, 1) := by decide +kernel
theorem dX11_read_5 : decode cX11_read 5 = .ok (.getfield 22, 3) := by decide +kernel
theorem dX11_read_8 : decode cX11_read 8 = .ok (.invokevirtual 138, 3) := by decide +kernel
theorem dX11_read_11 : decode cX11_read 11 = .ok (.istore_n 1, 1) := by decide +kernel
theorem dX11_read_12 : decode cX11_read 12 = .ok (.iload_n 1, 1) := by decide +kernel
theorem dX11_read_13 : decode cX11_read 13 = .ok (.iconst (-1), 1) := by decide +kernel
theorem dX11_read_14 : decode cX11_read 14 = .ok (.if_icmp .ne 14, 3) := by decide +kernel
theorem dX11_read_17 : decode cX11_read 17 = .ok (.bipush (-10), 2) := by decide +kernel
theorem dX11_read_19 : decode cX11_read 19 = .ok (.aload_n 0, 1) := by decide +kernel
theorem dX11_read_20 : decode cX11_read 20 = .ok (.getfield 32, 3) := by decide +kernel
theorem dX11_read_23 : decode cX11_read 23 = .ok (.getfield 142, 3) := by decide +kernel
theorem dX11_read_26 : decode cX11_read 26 = .ok (.isub, 1) := by decide +kernel
theorem dX11_read_27 : decode cX11_read 27 = .ok (.ireturn, 1) := by decide +kernel
theorem dX11_read_28 : decode cX11_read 28 = .ok (.aload_n 0, 1) := by decide +kernel
theorem dX11_read_29 : decode cX11_read 29 = .ok (.getfield 18, 3) := by decide +kernel
theorem dX11_read_32 : decode cX11_read 32 = .ok (.aload_n 0, 1) := by decide +kernel
theorem dX11_read_33 : decode cX11_read 33 = .ok (.getfield 22, 3) := by decide +kernel
theorem dX11_read_36 : decode cX11_read 36 = .ok (.invokevirtual 145, 3) := by decide +kernel
theorem dX11_read_39 : decode cX11_read 39 = .ok (.iload_n 1, 1) := by decide +kernel
theorem dX11_read_40 : decode cX11_read 40 = .ok (.ireturn, 1) := by decide +kernel
theorem dX11_walk_0 : decode cX11_walk 0 = .ok (.aload_n 0, 1) := by decide +kernel
theorem dX11_walk_1 : decode cX11_walk 1 = .ok (.iload_n 1, 1) := by decide +kernel
theorem dX11_walk_2 : decode cX11_walk 2 = .ok (.invokevirtual 149, 3) := by decide +kernel
theorem dX11_walk_5 : decode cX11_walk 5 = .ok (.ifCond .ne 10, 3) := by decide +kernel
theorem dX11_walk_8 : decode cX11_walk 8 = .ok (.aload_n 0, 1) := by decide +kernel
theorem dX11_walk_9 : decode cX11_walk 9 = .ok (.bipush (-2), 2) := by decide +kernel
theorem dX11_walk_11 : decode cX11_walk 11 = .ok (.invokevirtual 91, 3) := by decide +kernel
theorem dX11_walk_14 : decode cX11_walk 14 = .ok (.ireturn, 1) := by decide +kernel
theorem dX11_walk_15 : decode cX11_walk 15 = .ok (.aload_n 0, 1) := by decide +kernel
theorem dX11_walk_16 : decode cX11_walk 16 = .ok (.getfield 18, 3) := by decide +kernel
theorem dX11_walk_19 : decode cX11_walk 19 = .ok (.getfield 152, 3) := by decide +kernel
theorem dX11_walk_22 : decode cX11_walk 22 = .ok (.iload_n 1, 1) := by decide +kernel
theorem dX11_walk_23 : decode cX11_walk 23 = .ok (.iconst 0, 1) := by decide +kernel
theorem dX11_walk_24 : decode cX11_walk 24 = .ok (.aload_n 0, 1) := by decide +kernel
theorem dX11_walk_25 : decode cX11_walk 25 = .ok (.getfield 18, 3) := by decide +kernel
theorem dX11_walk_28 : decode cX11_walk 28 = .ok (.iload_n 1, 1) := by decide +kernel
theorem dX11_walk_29 : decode cX11_walk 29 = .ok (.invokevirtual 155, 3) := by decide +kernel
theorem dX11_walk_32 : decode cX11_walk 32 = .ok (.invokevirtual 158, 3) := by decide +kernel
theorem dX11_walk_35 : decode cX11_walk 35 = .ok (.aload_n 0, 1) := by decide +kernel
theorem dX11_walk_36 : decode cX11_walk 36 = .ok (.getfield 18, 3) := by decide +kernel
theorem dX11_walk_39 : decode cX11_walk 39 = .ok (.getfield 152, 3) := by decide +kernel
theorem dX11_walk_42 : decode cX11_walk 42 = .ok (.aload_n 0, 1) := by decide +kernel
theorem dX11_walk_43 : decode cX11_walk 43 = .ok (.getfield 18, 3) := by decide +kernel
theorem dX11_walk_46 : decode cX11_walk 46 = .ok (.getfield 106, 3) := by decide +kernel
theorem dX11_walk_49 : decode cX11_walk 49 = .ok (.invokevirtual 162, 3) := by decide +kernel
theorem dX11_walk_52 : decode cX11_walk 52 = .ok (.invokestatic 166, 3) := by decide +kernel
theorem dX11_walk_55 : decode cX11_walk 55 = .ok (.ireturn, 1) := by decide +kernel
theorem dX11_step_0 : decode cX11_step 0 = .ok (.iload_n 1, 1) := by decide +kernel
theorem dX11_step_1 : decode cX11_step 1 = .ok (.iconst 1, 1) := by decide +kernel
theorem dX11_step_2 : decode cX11_step 2 = .ok (.iconst 3, 1) := by decide +kernel
theorem dX11_step_3 : decode cX11_step 3 = .ok (.invokestatic 87, 3) := by decide +kernel
theorem dX11_step_6 : decode cX11_step 6 = .ok (.ifCond .ne 10, 3) := by decide +kernel
theorem dX11_step_9 : decode cX11_step 9 = .ok (.aload_n 0, 1) := by decide +kernel
theorem dX11_step_10 : decode cX11_step 10 = .ok (.bipush (-10), 2) := by decide +kernel
theorem dX11_step_12 : decode cX11_step 12 = .ok (.invokevirtual 91, 3) := by decide +kernel
theorem dX11_step_15 : decode cX11_step 15 = .ok (.ireturn, 1) := by decide +kernel
theorem dX11_step_16 : decode cX11_step 16 = .ok (.aload_n 0, 1) := by decide +kernel
theorem dX11_step_17 : decode cX11_step 17 = .ok (.getfield 18, 3) := by decide +kernel
theorem dX11_step_20 : decode cX11_step 20 = .ok (.getfield 152, 3) := by decide +kernel
theorem dX11_step_23 : decode cX11_step 23 = .ok (.astore_n 2, 1) := by decide +kernel
theorem dX11_step_24 : decode cX11_step 24 = .ok (.aload_n 2, 1) := by decide +kernel
theorem dX11_step_25 : decode cX11_step 25 = .ok (.getfield 170, 3) := by decide +kernel
theorem dX11_step_28 : decode cX11_step 28 = .ok (.iconst (-1), 1) := by decide +kernel
theorem dX11_step_29 : decode cX11_step 29 = .ok (.if_icmp .eq 17, 3) := by decide +kernel
theorem dX11_step_32 : decode cX11_step 32 = .ok (.aload_n 2, 1) := by decide +kernel
theorem dX11_step_33 : decode cX11_step 33 = .ok (.aload_n 0, 1) := by decide +kernel
theorem dX11_step_34 : decode cX11_step 34 = .ok (.getfield 18, 3) := by decide +kernel
theorem dX11_step_37 : decode cX11_step 37 = .ok (.getfield 106, 3) := by decide +kernel
theorem dX11_step_40 : decode cX11_step 40 = .ok (.invokevirtual 173, 3) := by decide +kernel
theorem dX11_step_43 : decode cX11_step 43 = .ok (.ifCond .eq 10, 3) := by decide +kernel
theorem dX11_step_46 : decode cX11_step 46 = .ok (.aload_n 0, 1) := by decide +kernel
theorem dX11_step_47 : decode cX11_step 47 = .ok (.bipush (-3), 2) := by decide +kernel
theorem dX11_step_49 : decode cX11_step 49 = .ok (.invokevirtual 176, 3) := by decide +kernel
theorem dX11_step_52 : decode cX11_step 52 = .ok (.ireturn, 1) := by decide +kernel
theorem dX11_step_53 : decode cX11_step 53 = .ok (.aload_n 2, 1) := by decide +kernel
theorem dX11_step_54 : decode cX11_step 54 = .ok (.invokevirtual 179, 3) := by decide +kernel
theorem dX11_step_57 : decode cX11_step 57 = .ok (.aload_n 2, 1) := by decide +kernel
theorem dX11_step_58 : decode cX11_step 58 = .ok (.aload_n 0, 1) := by decide +kernel
theorem dX11_step_59 : decode cX11_step 59 = .ok (.getfield 18, 3) := by decide +kernel
theorem dX11_step_62 : decode cX11_step 62 = .ok (.getfield 106, 3) := by decide +kernel
theorem dX11_step_65 : decode cX11_step 65 = .ok (.aload_n 0, 1) := by decide +kernel
theorem dX11_step_66 : decode cX11_step 66 = .ok (.aload_n 0, 1) := by decide +kernel
theorem dX11_step_67 : decode cX11_step 67 = .ok (.getfield 18, 3) := by decide +kernel
theorem dX11_step_70 : decode cX11_step 70 = .ok (.aload_n 2, 1) := by decide +kernel
theorem dX11_step_71 : decode cX11_step 71 = .ok (.getfield 170, 3) := by decide +kernel
theorem dX11_step_74 : decode cX11_step 74 = .ok (.invokevirtual 182, 3) := by decide +kernel
theorem dX11_step_77 : decode cX11_step 77 = .ok (.invokevirtual 185, 3) := by decide +kernel
theorem dX11_step_80 : decode cX11_step 80 = .ok (.iload_n 1, 1) := by decide +kernel
theorem dX11_step_81 : decode cX11_step 81 = .ok (.iconst 0, 1) := by decide +kernel
theorem dX11_step_82 : decode cX11_step 82 = .ok (.invokevirtual 189, 3) := by decide +kernel
theorem dX11_step_85 : decode cX11_step 85 = .ok (.aload_n 2, 1) := by decide +kernel
theorem dX11_step_86 : decode cX11_step 86 = .ok (.getfield 193, 3) := by decide +kernel
theorem dX11_step_89 : decode cX11_step 89 = .ok (.ireturn, 1) := by decide +kernel
theorem dX11_hand_0 : decode cX11_hand 0 = .ok (.aload_n 0, 1) := by decide +kernel
theorem dX11_hand_1 : decode cX11_hand 1 = .ok (.getfield 18, 3) := by decide +kernel
theorem dX11_hand_4 : decode cX11_hand 4 = .ok (.getfield 152, 3) := by decide +kernel
theorem dX11_hand_7 : decode cX11_hand 7 = .ok (.astore_n 1, 1) := by decide +kernel
theorem dX11_hand_8 : decode cX11_hand 8 = .ok (.aload_n 1, 1) := by decide +kernel
theorem dX11_hand_9 : decode cX11_hand 9 = .ok (.getfield 170, 3) := by decide +kernel
theorem dX11_hand_12 : decode cX11_hand 12 = .ok (.iconst (-1), 1) := by decide +kernel
theorem dX11_hand_13 : decode cX11_hand 13 = .ok (.if_icmp .eq 17, 3) := by decide +kernel
theorem dX11_hand_16 : decode cX11_hand 16 = .ok (.aload_n 1, 1) := by decide +kernel
theorem dX11_hand_17 : decode cX11_hand 17 = .ok (.aload_n 0, 1) := by decide +kernel
theorem dX11_hand_18 : decode cX11_hand 18 = .ok (.getfield 18, 3) := by decide +kernel
theorem dX11_hand_21 : decode cX11_hand 21 = .ok (.getfield 106, 3) := by decide +kernel
theorem dX11_hand_24 : decode cX11_hand 24 = .ok (.invokevirtual 196, 3) := by decide +kernel
theorem dX11_hand_27 : decode cX11_hand 27 = .ok (.ifCond .eq 10, 3) := by decide +kernel
theorem dX11_hand_30 : decode cX11_hand 30 = .ok (.aload_n 0, 1) := by decide +kernel
theorem dX11_hand_31 : decode cX11_hand 31 = .ok (.bipush (-99), 2) := by decide +kernel
theorem dX11_hand_33 : decode cX11_hand 33 = .ok (.invokevirtual 176, 3) := by decide +kernel
theorem dX11_hand_36 : decode cX11_hand 36 = .ok (.ireturn, 1) := by decide +kernel
theorem dX11_hand_37 : decode cX11_hand 37 = .ok (.aload_n 1, 1) := by decide +kernel
theorem dX11_hand_38 : decode cX11_hand 38 = .ok (.invokevirtual 179, 3) := by decide +kernel
theorem dX11_hand_41 : decode cX11_hand 41 = .ok (.aload_n 1, 1) := by decide +kernel
theorem dX11_hand_42 : decode cX11_hand 42 = .ok (.getfield 199, 3) := by decide +kernel
theorem dX11_hand_45 : decode cX11_hand 45 = .ok (.istore_n 2, 1) := by decide +kernel
theorem dX11_hand_46 : decode cX11_hand 46 = .ok (.aload_n 1, 1) := by decide +kernel
theorem dX11_hand_47 : decode cX11_hand 47 = .ok (.iconst 0, 1) := by decide +kernel
theorem dX11_hand_48 : decode cX11_hand 48 = .ok (.putfield 199, 3) := by decide +kernel
theorem dX11_hand_51 : decode cX11_hand 51 = .ok (.iload_n 2, 1) := by decide +kernel
theorem dX11_hand_52 : decode cX11_hand 52 = .ok (.ireturn, 1) := by decide +kernel
theorem dX11_undo_0 : decode cX11_undo 0 = .ok (.aload_n 0, 1) := by decide +kernel
theorem dX11_undo_1 : decode cX11_undo 1 = .ok (.getfield 18, 3) := by decide +kernel
theorem dX11_undo_4 : decode cX11_undo 4 = .ok (.getfield 152, 3) := by decide +kernel
theorem dX11_undo_7 : decode cX11_undo 7 = .ok (.getfield 202, 3) := by decide +kernel
theorem dX11_undo_10 : decode cX11_undo 10 = .ok (.ifCond .gt 10, 3) := by decide +kernel
theorem dX11_undo_13 : decode cX11_undo 13 = .ok (.aload_n 0, 1) := by decide +kernel
theorem dX11_undo_14 : decode cX11_undo 14 = .ok (.bipush (-3), 2) := by decide +kernel
theorem dX11_undo_16 : decode cX11_undo 16 = .ok (.invokevirtual 176, 3) := by decide +kernel
theorem dX11_undo_19 : decode cX11_undo 19 = .ok (.ireturn, 1) := by decide +kernel
theorem dX11_undo_20 : decode cX11_undo 20 = .ok (.aload_n 0, 1) := by decide +kernel
theorem dX11_undo_21 : decode cX11_undo 21 = .ok (.getfield 18, 3) := by decide +kernel
theorem dX11_undo_24 : decode cX11_undo 24 = .ok (.getfield 152, 3) := by decide +kernel
theorem dX11_undo_27 : decode cX11_undo 27 = .ok (.invokevirtual 205, 3) := by decide +kernel
theorem dX11_undo_30 : decode cX11_undo 30 = .ok (.aload_n 0, 1) := by decide +kernel
theorem dX11_undo_31 : decode cX11_undo 31 = .ok (.getfield 18, 3) := by decide +kernel
theorem dX11_undo_34 : decode cX11_undo 34 = .ok (.getfield 152, 3) := by decide +kernel
theorem dX11_undo_37 : decode cX11_undo 37 = .ok (.getfield 193, 3) := by decide +kernel
theorem dX11_undo_40 : decode cX11_undo 40 = .ok (.ireturn, 1) := by decide +kernel
theorem dX11_of_0 : decode cX11_of 0 = .ok (.aload_n 0, 1) := by decide +kernel
theorem dX11_of_1 : decode cX11_of 1 = .ok (.iload_n 1, 1) := by decide +kernel
theorem dX11_of_2 : decode cX11_of 2 = .ok (.invokevirtual 149, 3) := by decide +kernel
theorem dX11_of_5 : decode cX11_of 5 = .ok (.ifCond .eq 12, 3) := by decide +kernel
theorem dX11_of_8 : decode cX11_of 8 = .ok (.iload_n 2, 1) := by decide +kernel
theorem dX11_of_9 : decode cX11_of 9 = .ok (.iconst 0, 1) := by decide +kernel
theorem dX11_of_10 : decode cX11_of 10 = .ok (.iconst 1, 1) := by decide +kernel
theorem dX11_of_11 : decode cX11_of 11 = .ok (.invokestatic 87, 3) := by decide +kernel
theorem dX11_of_14 : decode cX11_of 14 = .ok (.ifCond .ne 10, 3) := by decide +kernel
theorem dX11_of_17 : decode cX11_of 17 = .ok (.aload_n 0, 1) := by decide +kernel
theorem dX11_of_18 : decode cX11_of 18 = .ok (.bipush (-100), 2) := by decide +kernel
theorem dX11_of_20 : decode cX11_of 20 = .ok (.invokevirtual 91, 3) := by decide +kernel
theorem dX11_of_23 : decode cX11_of 23 = .ok (.ireturn, 1) := by decide +kernel
theorem dX11_of_24 : decode cX11_of 24 = .ok (.iload_n 2, 1) := by decide +kernel
theorem dX11_of_25 : decode cX11_of 25 = .ok (.ifCond .ne 14, 3) := by decide +kernel
theorem dX11_of_28 : decode cX11_of 28 = .ok (.aload_n 0, 1) := by decide +kernel
theorem dX11_of_29 : decode cX11_of 29 = .ok (.getfield 18, 3) := by decide +kernel
theorem dX11_of_32 : decode cX11_of 32 = .ok (.iload_n 1, 1) := by decide +kernel
theorem dX11_of_33 : decode cX11_of 33 = .ok (.invokevirtual 182, 3) := by decide +kernel
theorem dX11_of_36 : decode cX11_of 36 = .ok (.goto 11, 3) := by decide +kernel
theorem dX11_of_39 : decode cX11_of 39 = .ok (.aload_n 0, 1) := by decide +kernel
theorem dX11_of_40 : decode cX11_of 40 = .ok (.getfield 18, 3) := by decide +kernel
theorem dX11_of_43 : decode cX11_of 43 = .ok (.iload_n 1, 1) := by decide +kernel
theorem dX11_of_44 : decode cX11_of 44 = .ok (.invokevirtual 155, 3) := by decide +kernel
theorem dX11_of_47 : decode cX11_of 47 = .ok (.ireturn, 1) := by decide +kernel
theorem dX11_now_0 : decode cX11_now 0 = .ok (.iload_n 1, 1) := by decide +kernel
theorem dX11_now_1 : decode cX11_now 1 = .ok (.iconst 0, 1) := by decide +kernel
theorem dX11_now_2 : decode cX11_now 2 = .ok (.iconst 4, 1) := by decide +kernel
theorem dX11_now_3 : decode cX11_now 3 = .ok (.invokestatic 87, 3) := by decide +kernel
theorem dX11_now_6 : decode cX11_now 6 = .ok (.ifCond .ne 10, 3) := by decide +kernel
theorem dX11_now_9 : decode cX11_now 9 = .ok (.aload_n 0, 1) := by decide +kernel
theorem dX11_now_10 : decode cX11_now 10 = .ok (.bipush (-100), 2) := by decide +kernel
theorem dX11_now_12 : decode cX11_now 12 = .ok (.invokevirtual 91, 3) := by decide +kernel
theorem dX11_now_15 : decode cX11_now 15 = .ok (.ireturn, 1) := by decide +kernel
theorem dX11_now_16 : decode cX11_now 16 = .ok (.aload_n 0, 1) := by decide +kernel
theorem dX11_now_17 : decode cX11_now 17 = .ok (.getfield 18, 3) := by decide +kernel
theorem dX11_now_20 : decode cX11_now 20 = .ok (.getfield 152, 3) := by decide +kernel
theorem dX11_now_23 : decode cX11_now 23 = .ok (.astore_n 2, 1) := by decide +kernel
theorem dX11_now_24 : decode cX11_now 24 = .ok (.iload_n 1, 1) := by decide +kernel
theorem dX11_now_25 : decode cX11_now 25 = .ok (.tableswitch 51 0 3 #[31, 36, 41, 46], 31) := by decide +kernel
theorem dX11_now_56 : decode cX11_now 56 = .ok (.aload_n 2, 1) := by decide +kernel
theorem dX11_now_57 : decode cX11_now 57 = .ok (.getfield 170, 3) := by decide +kernel
theorem dX11_now_60 : decode cX11_now 60 = .ok (.ireturn, 1) := by decide +kernel
theorem dX11_now_61 : decode cX11_now 61 = .ok (.aload_n 2, 1) := by decide +kernel
theorem dX11_now_62 : decode cX11_now 62 = .ok (.getfield 193, 3) := by decide +kernel
theorem dX11_now_65 : decode cX11_now 65 = .ok (.ireturn, 1) := by decide +kernel
theorem dX11_now_66 : decode cX11_now 66 = .ok (.aload_n 2, 1) := by decide +kernel
theorem dX11_now_67 : decode cX11_now 67 = .ok (.getfield 208, 3) := by decide +kernel
theorem dX11_now_70 : decode cX11_now 70 = .ok (.ireturn, 1) := by decide +kernel
theorem dX11_now_71 : decode cX11_now 71 = .ok (.aload_n 2, 1) := by decide +kernel
theorem dX11_now_72 : decode cX11_now 72 = .ok (.getfield 199, 3) := by decide +kernel
theorem dX11_now_75 : decode cX11_now 75 = .ok (.ireturn, 1) := by decide +kernel
theorem dX11_now_76 : decode cX11_now 76 = .ok (.aload_n 2, 1) := by decide +kernel
theorem dX11_now_77 : decode cX11_now 77 = .ok (.aload_n 0, 1) := by decide +kernel
theorem dX11_now_78 : decode cX11_now 78 = .ok (.getfield 18, 3) := by decide +kernel
theorem dX11_now_81 : decode cX11_now 81 = .ok (.getfield 106, 3) := by decide +kernel
theorem dX11_now_84 : decode cX11_now 84 = .ok (.invokevirtual 162, 3) := by decide +kernel
theorem dX11_now_87 : decode cX11_now 87 = .ok (.invokestatic 166, 3) := by decide +kernel
theorem dX11_now_90 : decode cX11_now 90 = .ok (.ireturn, 1) := by decide +kernel
theorem dX11_paces_0 : decode cX11_paces 0 = .ok (.aload_n 0, 1) := by decide +kernel
theorem dX11_paces_1 : decode cX11_paces 1 = .ok (.iload_n 1, 1) := by decide +kernel
theorem dX11_paces_2 : decode cX11_paces 2 = .ok (.invokevirtual 149, 3) := by decide +kernel
theorem dX11_paces_5 : decode cX11_paces 5 = .ok (.ifCond .eq 27, 3) := by decide +kernel
theorem dX11_paces_8 : decode cX11_paces 8 = .ok (.iload_n 2, 1) := by decide +kernel
theorem dX11_paces_9 : decode cX11_paces 9 = .ok (.invokestatic 211, 3) := by decide +kernel
theorem dX11_paces_12 : decode cX11_paces 12 = .ok (.ifCond .eq 20, 3) := by decide +kernel
theorem dX11_paces_15 : decode cX11_paces 15 = .ok (.iload_n 3, 1) := by decide +kernel
theorem dX11_paces_16 : decode cX11_paces 16 = .ok (.invokestatic 214, 3) := by decide +kernel
theorem dX11_paces_19 : decode cX11_paces 19 = .ok (.ifCond .eq 13, 3) := by decide +kernel
theorem dX11_paces_22 : decode cX11_paces 22 = .ok (.iload 4, 2) := by decide +kernel
theorem dX11_paces_24 : decode cX11_paces 24 = .ok (.iconst 0, 1) := by decide +kernel
theorem dX11_paces_25 : decode cX11_paces 25 = .ok (.iconst 3, 1) := by decide +kernel
theorem dX11_paces_26 : decode cX11_paces 26 = .ok (.invokestatic 87, 3) := by decide +kernel
theorem dX11_paces_29 : decode cX11_paces 29 = .ok (.ifCond .ne 10, 3) := by decide +kernel
theorem dX11_paces_32 : decode cX11_paces 32 = .ok (.aload_n 0, 1) := by decide +kernel
theorem dX11_paces_33 : decode cX11_paces 33 = .ok (.bipush (-100), 2) := by decide +kernel
theorem dX11_paces_35 : decode cX11_paces 35 = .ok (.invokevirtual 91, 3) := by decide +kernel
theorem dX11_paces_38 : decode cX11_paces 38 = .ok (.ireturn, 1) := by decide +kernel
theorem dX11_paces_39 : decode cX11_paces 39 = .ok (.aload_n 0, 1) := by decide +kernel
theorem dX11_paces_40 : decode cX11_paces 40 = .ok (.aload_n 0, 1) := by decide +kernel
theorem dX11_paces_41 : decode cX11_paces 41 = .ok (.getfield 18, 3) := by decide +kernel
theorem dX11_paces_44 : decode cX11_paces 44 = .ok (.iload_n 1, 1) := by decide +kernel
theorem dX11_paces_45 : decode cX11_paces 45 = .ok (.invokevirtual 182, 3) := by decide +kernel
theorem dX11_paces_48 : decode cX11_paces 48 = .ok (.iload_n 1, 1) := by decide +kernel
theorem dX11_paces_49 : decode cX11_paces 49 = .ok (.iload_n 2, 1) := by decide +kernel
theorem dX11_paces_50 : decode cX11_paces 50 = .ok (.iload_n 3, 1) := by decide +kernel
theorem dX11_paces_51 : decode cX11_paces 51 = .ok (.iconst (-1), 1) := by decide +kernel
theorem dX11_paces_52 : decode cX11_paces 52 = .ok (.iconst 0, 1) := by decide +kernel
theorem dX11_paces_53 : decode cX11_paces 53 = .ok (.invokevirtual 217, 3) := by decide +kernel
theorem dX11_paces_56 : decode cX11_paces 56 = .ok (.iload 4, 2) := by decide +kernel
theorem dX11_paces_58 : decode cX11_paces 58 = .ok (.tableswitch 52 0 2 #[26, 34, 42], 26) := by decide +kernel
theorem dX11_paces_84 : decode cX11_paces 84 = .ok (.aload_n 0, 1) := by decide +kernel
theorem dX11_paces_85 : decode cX11_paces 85 = .ok (.getfield 39, 3) := by decide +kernel
theorem dX11_paces_88 : decode cX11_paces 88 = .ok (.getfield 193, 3) := by decide +kernel
theorem dX11_paces_91 : decode cX11_paces 91 = .ok (.ireturn, 1) := by decide +kernel
theorem dX11_paces_92 : decode cX11_paces 92 = .ok (.aload_n 0, 1) := by decide +kernel
theorem dX11_paces_93 : decode cX11_paces 93 = .ok (.getfield 39, 3) := by decide +kernel
theorem dX11_paces_96 : decode cX11_paces 96 = .ok (.getfield 199, 3) := by decide +kernel
theorem dX11_paces_99 : decode cX11_paces 99 = .ok (.ireturn, 1) := by decide +kernel
theorem dX11_paces_100 : decode cX11_paces 100 = .ok (.aload_n 0, 1) := by decide +kernel
theorem dX11_paces_101 : decode cX11_paces 101 = .ok (.getfield 39, 3) := by decide +kernel
theorem dX11_paces_104 : decode cX11_paces 104 = .ok (.getfield 208, 3) := by decide +kernel
theorem dX11_paces_107 : decode cX11_paces 107 = .ok (.iload_n 2, 1) := by decide +kernel
theorem dX11_paces_108 : decode cX11_paces 108 = .ok (.isub, 1) := by decide +kernel
theorem dX11_paces_109 : decode cX11_paces 109 = .ok (.ireturn, 1) := by decide +kernel
theorem dX11_paces_110 : decode cX11_paces 110 = .ok (.aload_n 0, 1) := by decide +kernel
theorem dX11_paces_111 : decode cX11_paces 111 = .ok (.getfield 39, 3) := by decide +kernel
theorem dX11_paces_114 : decode cX11_paces 114 = .ok (.aload_n 0, 1) := by decide +kernel
theorem dX11_paces_115 : decode cX11_paces 115 = .ok (.getfield 18, 3) := by decide +kernel
theorem dX11_paces_118 : decode cX11_paces 118 = .ok (.getfield 106, 3) := by decide +kernel
theorem dX11_paces_121 : decode cX11_paces 121 = .ok (.invokevirtual 162, 3) := by decide +kernel
theorem dX11_paces_124 : decode cX11_paces 124 = .ok (.invokestatic 166, 3) := by decide +kernel
theorem dX11_paces_127 : decode cX11_paces 127 = .ok (.ireturn, 1) := by decide +kernel
theorem dX11_soonest_0 : decode cX11_soonest 0 = .ok (.aload_n 0, 1) := by decide +kernel
theorem dX11_soonest_1 : decode cX11_soonest 1 = .ok (.iload_n 1, 1) := by decide +kernel
theorem dX11_soonest_2 : decode cX11_soonest 2 = .ok (.invokevirtual 149, 3) := by decide +kernel
theorem dX11_soonest_5 : decode cX11_soonest 5 = .ok (.ifCond .eq 15, 3) := by decide +kernel
theorem dX11_soonest_8 : decode cX11_soonest 8 = .ok (.iload_n 2, 1) := by decide +kernel
theorem dX11_soonest_9 : decode cX11_soonest 9 = .ok (.invokestatic 211, 3) := by decide +kernel
theorem dX11_soonest_12 : decode cX11_soonest 12 = .ok (.ifCond .eq 8, 3) := by decide +kernel
theorem dX11_soonest_15 : decode cX11_soonest 15 = .ok (.iload_n 3, 1) := by decide +kernel
theorem dX11_soonest_16 : decode cX11_soonest 16 = .ok (.iconst (-1), 1) := by decide +kernel
theorem dX11_soonest_17 : decode cX11_soonest 17 = .ok (.if_icmp .ge 10, 3) := by decide +kernel
theorem dX11_soonest_20 : decode cX11_soonest 20 = .ok (.aload_n 0, 1) := by decide +kernel
theorem dX11_soonest_21 : decode cX11_soonest 21 = .ok (.bipush (-10), 2) := by decide +kernel
theorem dX11_soonest_23 : decode cX11_soonest 23 = .ok (.invokevirtual 91, 3) := by decide +kernel
theorem dX11_soonest_26 : decode cX11_soonest 26 = .ok (.ireturn, 1) := by decide +kernel
theorem dX11_soonest_27 : decode cX11_soonest 27 = .ok (.aload_n 0, 1) := by decide +kernel
theorem dX11_soonest_28 : decode cX11_soonest 28 = .ok (.aload_n 0, 1) := by decide +kernel
theorem dX11_soonest_29 : decode cX11_soonest 29 = .ok (.getfield 18, 3) := by decide +kernel
theorem dX11_soonest_32 : decode cX11_soonest 32 = .ok (.iload_n 1, 1) := by decide +kernel
theorem dX11_soonest_33 : decode cX11_soonest 33 = .ok (.invokevirtual 182, 3) := by decide +kernel
theorem dX11_soonest_36 : decode cX11_soonest 36 = .ok (.invokevirtual 185, 3) := by decide +kernel
theorem dX11_soonest_39 : decode cX11_soonest 39 = .ok (.astore 4, 2) := by decide +kernel
theorem dX11_soonest_41 : decode cX11_soonest 41 = .ok (.aload_n 0, 1) := by decide +kernel
theorem dX11_soonest_42 : decode cX11_soonest 42 = .ok (.getfield 46, 3) := by decide +kernel
theorem dX11_soonest_45 : decode cX11_soonest 45 = .ok (.aload_n 0, 1) := by decide +kernel
theorem dX11_soonest_46 : decode cX11_soonest 46 = .ok (.getfield 18, 3) := by decide +kernel
theorem dX11_soonest_49 : decode cX11_soonest 49 = .ok (.getfield 106, 3) := by decide +kernel
theorem dX11_soonest_52 : decode cX11_soonest 52 = .ok (.aload 4, 2) := by decide +kernel
theorem dX11_soonest_54 : decode cX11_soonest 54 = .ok (.iconst 0, 1) := by decide +kernel
theorem dX11_soonest_55 : decode cX11_soonest 55 = .ok (.invokevirtual 221, 3) := by decide +kernel
theorem dX11_soonest_58 : decode cX11_soonest 58 = .ok (.aload_n 0, 1) := by decide +kernel
theorem dX11_soonest_59 : decode cX11_soonest 59 = .ok (.getfield 46, 3) := by decide +kernel
theorem dX11_soonest_62 : decode cX11_soonest 62 = .ok (.aload_n 0, 1) := by decide +kernel
theorem dX11_soonest_63 : decode cX11_soonest 63 = .ok (.getfield 18, 3) := by decide +kernel
theorem dX11_soonest_66 : decode cX11_soonest 66 = .ok (.getfield 106, 3) := by decide +kernel
theorem dX11_soonest_69 : decode cX11_soonest 69 = .ok (.iconst 0, 1) := by decide +kernel
theorem dX11_soonest_70 : decode cX11_soonest 70 = .ok (.iload_n 2, 1) := by decide +kernel
theorem dX11_soonest_71 : decode cX11_soonest 71 = .ok (.aload_n 0, 1) := by decide +kernel
theorem dX11_soonest_72 : decode cX11_soonest 72 = .ok (.getfield 18, 3) := by decide +kernel
theorem dX11_soonest_75 : decode cX11_soonest 75 = .ok (.iload_n 1, 1) := by decide +kernel
theorem dX11_soonest_76 : decode cX11_soonest 76 = .ok (.invokevirtual 155, 3) := by decide +kernel
theorem dX11_soonest_79 : decode cX11_soonest 79 = .ok (.invokevirtual 225, 3) := by decide +kernel
theorem dX11_soonest_82 : decode cX11_soonest 82 = .ok (.istore 5, 2) := by decide +kernel
theorem dX11_soonest_84 : decode cX11_soonest 84 = .ok (.iload 5, 2) := by decide +kernel
theorem dX11_soonest_86 : decode cX11_soonest 86 = .ok (.ldc 229, 2) := by decide +kernel
theorem dX11_soonest_88 : decode cX11_soonest 88 = .ok (.if_icmp .lt 5, 3) := by decide +kernel
theorem dX11_soonest_91 : decode cX11_soonest 91 = .ok (.iconst (-1), 1) := by decide +kernel
theorem dX11_soonest_92 : decode cX11_soonest 92 = .ok (.ireturn, 1) := by decide +kernel
theorem dX11_soonest_93 : decode cX11_soonest 93 = .ok (.iload_n 3, 1) := by decide +kernel
theorem dX11_soonest_94 : decode cX11_soonest 94 = .ok (.iconst (-1), 1) := by decide +kernel
theorem dX11_soonest_95 : decode cX11_soonest 95 = .ok (.if_icmp .ne 6, 3) := by decide +kernel
theorem dX11_soonest_98 : decode cX11_soonest 98 = .ok (.iload 5, 2) := by decide +kernel
theorem dX11_soonest_100 : decode cX11_soonest 100 = .ok (.ireturn, 1) := by decide +kernel
theorem dX11_soonest_101 : decode cX11_soonest 101 = .ok (.iload_n 3, 1) := by decide +kernel
theorem dX11_soonest_102 : decode cX11_soonest 102 = .ok (.iload 5, 2) := by decide +kernel
theorem dX11_soonest_104 : decode cX11_soonest 104 = .ok (.if_icmp .ge 22, 3) := by decide +kernel
theorem dX11_soonest_107 : decode cX11_soonest 107 = .ok (.aload_n 0, 1) := by decide +kernel
theorem dX11_soonest_108 : decode cX11_soonest 108 = .ok (.aload 4, 2) := by decide +kernel
theorem dX11_soonest_110 : decode cX11_soonest 110 = .ok (.aload_n 0, 1) := by decide +kernel
theorem dX11_soonest_111 : decode cX11_soonest 111 = .ok (.getfield 18, 3) := by decide +kernel
theorem dX11_soonest_114 : decode cX11_soonest 114 = .ok (.iload_n 1, 1) := by decide +kernel
theorem dX11_soonest_115 : decode cX11_soonest 115 = .ok (.invokevirtual 155, 3) := by decide +kernel
theorem dX11_soonest_118 : decode cX11_soonest 118 = .ok (.iload_n 2, 1) := by decide +kernel
theorem dX11_soonest_119 : decode cX11_soonest 119 = .ok (.iload_n 3, 1) := by decide +kernel
theorem dX11_soonest_120 : decode cX11_soonest 120 = .ok (.invokevirtual 230, 3) := by decide +kernel
theorem dX11_soonest_123 : decode cX11_soonest 123 = .ok (.goto 5, 3) := by decide +kernel
theorem dX11_soonest_126 : decode cX11_soonest 126 = .ok (.bipush (-5), 2) := by decide +kernel
theorem dX11_soonest_128 : decode cX11_soonest 128 = .ok (.ireturn, 1) := by decide +kernel
theorem dX11_hour_0 : decode cX11_hour 0 = .ok (.aload_n 0, 1) := by decide +kernel
theorem dX11_hour_1 : decode cX11_hour 1 = .ok (.iload_n 1, 1) := by decide +kernel
theorem dX11_hour_2 : decode cX11_hour 2 = .ok (.invokevirtual 149, 3) := by decide +kernel
theorem dX11_hour_5 : decode cX11_hour 5 = .ok (.ifCond .ne 10, 3) := by decide +kernel
theorem dX11_hour_8 : decode cX11_hour 8 = .ok (.aload_n 0, 1) := by decide +kernel
theorem dX11_hour_9 : decode cX11_hour 9 = .ok (.bipush (-2), 2) := by decide +kernel
theorem dX11_hour_11 : decode cX11_hour 11 = .ok (.invokevirtual 91, 3) := by decide +kernel
theorem dX11_hour_14 : decode cX11_hour 14 = .ok (.ireturn, 1) := by decide +kernel
theorem dX11_hour_15 : decode cX11_hour 15 = .ok (.aload_n 0, 1) := by decide +kernel
theorem dX11_hour_16 : decode cX11_hour 16 = .ok (.getfield 46, 3) := by decide +kernel
theorem dX11_hour_19 : decode cX11_hour 19 = .ok (.aload_n 0, 1) := by decide +kernel
theorem dX11_hour_20 : decode cX11_hour 20 = .ok (.getfield 18, 3) := by decide +kernel
theorem dX11_hour_23 : decode cX11_hour 23 = .ok (.getfield 106, 3) := by decide +kernel
theorem dX11_hour_26 : decode cX11_hour 26 = .ok (.aload_n 0, 1) := by decide +kernel
theorem dX11_hour_27 : decode cX11_hour 27 = .ok (.aload_n 0, 1) := by decide +kernel
theorem dX11_hour_28 : decode cX11_hour 28 = .ok (.getfield 18, 3) := by decide +kernel
theorem dX11_hour_31 : decode cX11_hour 31 = .ok (.iload_n 1, 1) := by decide +kernel
theorem dX11_hour_32 : decode cX11_hour 32 = .ok (.invokevirtual 182, 3) := by decide +kernel
theorem dX11_hour_35 : decode cX11_hour 35 = .ok (.invokevirtual 185, 3) := by decide +kernel
theorem dX11_hour_38 : decode cX11_hour 38 = .ok (.iconst 0, 1) := by decide +kernel
theorem dX11_hour_39 : decode cX11_hour 39 = .ok (.invokevirtual 221, 3) := by decide +kernel
theorem dX11_hour_42 : decode cX11_hour 42 = .ok (.ldc 229, 2) := by decide +kernel
theorem dX11_hour_44 : decode cX11_hour 44 = .ok (.istore_n 2, 1) := by decide +kernel
theorem dX11_hour_45 : decode cX11_hour 45 = .ok (.iconst (-1), 1) := by decide +kernel
theorem dX11_hour_46 : decode cX11_hour 46 = .ok (.istore_n 3, 1) := by decide +kernel
theorem dX11_hour_47 : decode cX11_hour 47 = .ok (.iconst 0, 1) := by decide +kernel
theorem dX11_hour_48 : decode cX11_hour 48 = .ok (.istore 4, 2) := by decide +kernel
theorem dX11_hour_50 : decode cX11_hour 50 = .ok (.iload 4, 2) := by decide +kernel
theorem dX11_hour_52 : decode cX11_hour 52 = .ok (.bipush 6, 2) := by decide +kernel
theorem dX11_hour_54 : decode cX11_hour 54 = .ok (.if_icmp .ge 48, 3) := by decide +kernel
theorem dX11_hour_57 : decode cX11_hour 57 = .ok (.aload_n 0, 1) := by decide +kernel
theorem dX11_hour_58 : decode cX11_hour 58 = .ok (.getfield 46, 3) := by decide +kernel
theorem dX11_hour_61 : decode cX11_hour 61 = .ok (.aload_n 0, 1) := by decide +kernel
theorem dX11_hour_62 : decode cX11_hour 62 = .ok (.getfield 18, 3) := by decide +kernel
theorem dX11_hour_65 : decode cX11_hour 65 = .ok (.getfield 106, 3) := by decide +kernel
theorem dX11_hour_68 : decode cX11_hour 68 = .ok (.iconst 0, 1) := by decide +kernel
theorem dX11_hour_69 : decode cX11_hour 69 = .ok (.iload 4, 2) := by decide +kernel
theorem dX11_hour_71 : decode cX11_hour 71 = .ok (.aload_n 0, 1) := by decide +kernel
theorem dX11_hour_72 : decode cX11_hour 72 = .ok (.getfield 18, 3) := by decide +kernel
theorem dX11_hour_75 : decode cX11_hour 75 = .ok (.iload_n 1, 1) := by decide +kernel
theorem dX11_hour_76 : decode cX11_hour 76 = .ok (.invokevirtual 155, 3) := by decide +kernel
theorem dX11_hour_79 : decode cX11_hour 79 = .ok (.invokevirtual 225, 3) := by decide +kernel
theorem dX11_hour_82 : decode cX11_hour 82 = .ok (.istore 5, 2) := by decide +kernel
theorem dX11_hour_84 : decode cX11_hour 84 = .ok (.iload 5, 2) := by decide +kernel
theorem dX11_hour_86 : decode cX11_hour 86 = .ok (.iload_n 2, 1) := by decide +kernel
theorem dX11_hour_87 : decode cX11_hour 87 = .ok (.if_icmp .ge 9, 3) := by decide +kernel
theorem dX11_hour_90 : decode cX11_hour 90 = .ok (.iload 5, 2) := by decide +kernel
theorem dX11_hour_92 : decode cX11_hour 92 = .ok (.istore_n 2, 1) := by decide +kernel
theorem dX11_hour_93 : decode cX11_hour 93 = .ok (.iload 4, 2) := by decide +kernel
theorem dX11_hour_95 : decode cX11_hour 95 = .ok (.istore_n 3, 1) := by decide +kernel
theorem dX11_hour_96 : decode cX11_hour 96 = .ok (.iinc 4 1, 3) := by decide +kernel
theorem dX11_hour_99 : decode cX11_hour 99 = .ok (.goto (-49), 3) := by decide +kernel
theorem dX11_hour_102 : decode cX11_hour 102 = .ok (.iload_n 3, 1) := by decide +kernel
theorem dX11_hour_103 : decode cX11_hour 103 = .ok (.ireturn, 1) := by decide +kernel
theorem dX11_sure_0 : decode cX11_sure 0 = .ok (.aload_n 0, 1) := by decide +kernel
theorem dX11_sure_1 : decode cX11_sure 1 = .ok (.iload_n 1, 1) := by decide +kernel
theorem dX11_sure_2 : decode cX11_sure 2 = .ok (.invokevirtual 149, 3) := by decide +kernel
theorem dX11_sure_5 : decode cX11_sure 5 = .ok (.ifCond .eq 19, 3) := by decide +kernel
theorem dX11_sure_8 : decode cX11_sure 8 = .ok (.iload_n 2, 1) := by decide +kernel
theorem dX11_sure_9 : decode cX11_sure 9 = .ok (.invokestatic 211, 3) := by decide +kernel
theorem dX11_sure_12 : decode cX11_sure 12 = .ok (.ifCond .eq 12, 3) := by decide +kernel
theorem dX11_sure_15 : decode cX11_sure 15 = .ok (.iload_n 3, 1) := by decide +kernel
theorem dX11_sure_16 : decode cX11_sure 16 = .ok (.iconst 0, 1) := by decide +kernel
theorem dX11_sure_17 : decode cX11_sure 17 = .ok (.iconst 3, 1) := by decide +kernel
theorem dX11_sure_18 : decode cX11_sure 18 = .ok (.invokestatic 87, 3) := by decide +kernel
theorem dX11_sure_21 : decode cX11_sure 21 = .ok (.ifCond .ne 10, 3) := by decide +kernel
theorem dX11_sure_24 : decode cX11_sure 24 = .ok (.aload_n 0, 1) := by decide +kernel
theorem dX11_sure_25 : decode cX11_sure 25 = .ok (.bipush (-2), 2) := by decide +kernel
theorem dX11_sure_27 : decode cX11_sure 27 = .ok (.invokevirtual 91, 3) := by decide +kernel
theorem dX11_sure_30 : decode cX11_sure 30 = .ok (.ireturn, 1) := by decide +kernel
theorem dX11_sure_31 : decode cX11_sure 31 = .ok (.aload_n 0, 1) := by decide +kernel
theorem dX11_sure_32 : decode cX11_sure 32 = .ok (.getfield 46, 3) := by decide +kernel
theorem dX11_sure_35 : decode cX11_sure 35 = .ok (.aload_n 0, 1) := by decide +kernel
theorem dX11_sure_36 : decode cX11_sure 36 = .ok (.getfield 18, 3) := by decide +kernel
theorem dX11_sure_39 : decode cX11_sure 39 = .ok (.getfield 106, 3) := by decide +kernel
theorem dX11_sure_42 : decode cX11_sure 42 = .ok (.aload_n 0, 1) := by decide +kernel
theorem dX11_sure_43 : decode cX11_sure 43 = .ok (.aload_n 0, 1) := by decide +kernel
theorem dX11_sure_44 : decode cX11_sure 44 = .ok (.getfield 18, 3) := by decide +kernel
theorem dX11_sure_47 : decode cX11_sure 47 = .ok (.iload_n 1, 1) := by decide +kernel
theorem dX11_sure_48 : decode cX11_sure 48 = .ok (.invokevirtual 182, 3) := by decide +kernel
theorem dX11_sure_51 : decode cX11_sure 51 = .ok (.invokevirtual 185, 3) := by decide +kernel
theorem dX11_sure_54 : decode cX11_sure 54 = .ok (.iload_n 3, 1) := by decide +kernel
theorem dX11_sure_55 : decode cX11_sure 55 = .ok (.invokevirtual 221, 3) := by decide +kernel
theorem dX11_sure_58 : decode cX11_sure 58 = .ok (.aload_n 0, 1) := by decide +kernel
theorem dX11_sure_59 : decode cX11_sure 59 = .ok (.getfield 46, 3) := by decide +kernel
theorem dX11_sure_62 : decode cX11_sure 62 = .ok (.aload_n 0, 1) := by decide +kernel
theorem dX11_sure_63 : decode cX11_sure 63 = .ok (.getfield 18, 3) := by decide +kernel
theorem dX11_sure_66 : decode cX11_sure 66 = .ok (.getfield 106, 3) := by decide +kernel
theorem dX11_sure_69 : decode cX11_sure 69 = .ok (.iconst 0, 1) := by decide +kernel
theorem dX11_sure_70 : decode cX11_sure 70 = .ok (.iload_n 2, 1) := by decide +kernel
theorem dX11_sure_71 : decode cX11_sure 71 = .ok (.aload_n 0, 1) := by decide +kernel
theorem dX11_sure_72 : decode cX11_sure 72 = .ok (.getfield 18, 3) := by decide +kernel
theorem dX11_sure_75 : decode cX11_sure 75 = .ok (.iload_n 1, 1) := by decide +kernel
theorem dX11_sure_76 : decode cX11_sure 76 = .ok (.invokevirtual 155, 3) := by decide +kernel
theorem dX11_sure_79 : decode cX11_sure 79 = .ok (.invokevirtual 225, 3) := by decide +kernel
theorem dX11_sure_82 : decode cX11_sure 82 = .ok (.istore 4, 2) := by decide +kernel
theorem dX11_sure_84 : decode cX11_sure 84 = .ok (.iload 4, 2) := by decide +kernel
theorem dX11_sure_86 : decode cX11_sure 86 = .ok (.ldc 229, 2) := by decide +kernel
theorem dX11_sure_88 : decode cX11_sure 88 = .ok (.if_icmp .ge 8, 3) := by decide +kernel
theorem dX11_sure_91 : decode cX11_sure 91 = .ok (.iload 4, 2) := by decide +kernel
theorem dX11_sure_93 : decode cX11_sure 93 = .ok (.goto 4, 3) := by decide +kernel
theorem dX11_sure_96 : decode cX11_sure 96 = .ok (.iconst (-1), 1) := by decide +kernel
theorem dX11_sure_97 : decode cX11_sure 97 = .ok (.ireturn, 1) := by decide +kernel
theorem dX11_flat_0 : decode cX11_flat 0 = .ok (.aload_n 0, 1) := by decide +kernel
theorem dX11_flat_1 : decode cX11_flat 1 = .ok (.iload_n 1, 1) := by decide +kernel
theorem dX11_flat_2 : decode cX11_flat 2 = .ok (.invokevirtual 149, 3) := by decide +kernel
theorem dX11_flat_5 : decode cX11_flat 5 = .ok (.ifCond .eq 10, 3) := by decide +kernel
theorem dX11_flat_8 : decode cX11_flat 8 = .ok (.iload_n 2, 1) := by decide +kernel
theorem dX11_flat_9 : decode cX11_flat 9 = .ok (.invokestatic 211, 3) := by decide +kernel
theorem dX11_flat_12 : decode cX11_flat 12 = .ok (.ifCond .ne 10, 3) := by decide +kernel
theorem dX11_flat_15 : decode cX11_flat 15 = .ok (.aload_n 0, 1) := by decide +kernel
theorem dX11_flat_16 : decode cX11_flat 16 = .ok (.bipush (-2), 2) := by decide +kernel
theorem dX11_flat_18 : decode cX11_flat 18 = .ok (.invokevirtual 91, 3) := by decide +kernel
theorem dX11_flat_21 : decode cX11_flat 21 = .ok (.ireturn, 1) := by decide +kernel
theorem dX11_flat_22 : decode cX11_flat 22 = .ok (.aload_n 0, 1) := by decide +kernel
theorem dX11_flat_23 : decode cX11_flat 23 = .ok (.getfield 46, 3) := by decide +kernel
theorem dX11_flat_26 : decode cX11_flat 26 = .ok (.aload_n 0, 1) := by decide +kernel
theorem dX11_flat_27 : decode cX11_flat 27 = .ok (.getfield 18, 3) := by decide +kernel
theorem dX11_flat_30 : decode cX11_flat 30 = .ok (.getfield 106, 3) := by decide +kernel
theorem dX11_flat_33 : decode cX11_flat 33 = .ok (.aload_n 0, 1) := by decide +kernel
theorem dX11_flat_34 : decode cX11_flat 34 = .ok (.aload_n 0, 1) := by decide +kernel
theorem dX11_flat_35 : decode cX11_flat 35 = .ok (.getfield 18, 3) := by decide +kernel
theorem dX11_flat_38 : decode cX11_flat 38 = .ok (.iload_n 1, 1) := by decide +kernel
theorem dX11_flat_39 : decode cX11_flat 39 = .ok (.invokevirtual 182, 3) := by decide +kernel
theorem dX11_flat_42 : decode cX11_flat 42 = .ok (.invokevirtual 185, 3) := by decide +kernel
theorem dX11_flat_45 : decode cX11_flat 45 = .ok (.invokevirtual 234, 3) := by decide +kernel
theorem dX11_flat_48 : decode cX11_flat 48 = .ok (.aload_n 0, 1) := by decide +kernel
theorem dX11_flat_49 : decode cX11_flat 49 = .ok (.getfield 46, 3) := by decide +kernel
theorem dX11_flat_52 : decode cX11_flat 52 = .ok (.aload_n 0, 1) := by decide +kernel
theorem dX11_flat_53 : decode cX11_flat 53 = .ok (.getfield 18, 3) := by decide +kernel
theorem dX11_flat_56 : decode cX11_flat 56 = .ok (.getfield 106, 3) := by decide +kernel
theorem dX11_flat_59 : decode cX11_flat 59 = .ok (.iconst 0, 1) := by decide +kernel
theorem dX11_flat_60 : decode cX11_flat 60 = .ok (.iload_n 2, 1) := by decide +kernel
theorem dX11_flat_61 : decode cX11_flat 61 = .ok (.aload_n 0, 1) := by decide +kernel
theorem dX11_flat_62 : decode cX11_flat 62 = .ok (.getfield 18, 3) := by decide +kernel
theorem dX11_flat_65 : decode cX11_flat 65 = .ok (.iload_n 1, 1) := by decide +kernel
theorem dX11_flat_66 : decode cX11_flat 66 = .ok (.invokevirtual 155, 3) := by decide +kernel
theorem dX11_flat_69 : decode cX11_flat 69 = .ok (.invokevirtual 225, 3) := by decide +kernel
theorem dX11_flat_72 : decode cX11_flat 72 = .ok (.istore_n 3, 1) := by decide +kernel
theorem dX11_flat_73 : decode cX11_flat 73 = .ok (.iload_n 3, 1) := by decide +kernel
theorem dX11_flat_74 : decode cX11_flat 74 = .ok (.ldc 238, 2) := by decide +kernel
theorem dX11_flat_76 : decode cX11_flat 76 = .ok (.idiv, 1) := by decide +kernel
theorem dX11_flat_77 : decode cX11_flat 77 = .ok (.iconst 3, 1) := by decide +kernel
theorem dX11_flat_78 : decode cX11_flat 78 = .ok (.if_icmp .le 7, 3) := by decide +kernel
theorem dX11_flat_81 : decode cX11_flat 81 = .ok (.iconst (-1), 1) := by decide +kernel
theorem dX11_flat_82 : decode cX11_flat 82 = .ok (.goto 7, 3) := by decide +kernel
theorem dX11_flat_85 : decode cX11_flat 85 = .ok (.iload_n 3, 1) := by decide +kernel
theorem dX11_flat_86 : decode cX11_flat 86 = .ok (.ldc 238, 2) := by decide +kernel
theorem dX11_flat_88 : decode cX11_flat 88 = .ok (.irem, 1) := by decide +kernel
theorem dX11_flat_89 : decode cX11_flat 89 = .ok (.ireturn, 1) := by decide +kernel
theorem dX11_note_0 : decode cX11_note 0 = .ok (.aload_n 0, 1) := by decide +kernel
theorem dX11_note_1 : decode cX11_note 1 = .ok (.iload_n 1, 1) := by decide +kernel
theorem dX11_note_2 : decode cX11_note 2 = .ok (.invokevirtual 149, 3) := by decide +kernel
theorem dX11_note_5 : decode cX11_note 5 = .ok (.ifCond .eq 17, 3) := by decide +kernel
theorem dX11_note_8 : decode cX11_note 8 = .ok (.iload_n 2, 1) := by decide +kernel
theorem dX11_note_9 : decode cX11_note 9 = .ok (.invokestatic 211, 3) := by decide +kernel
theorem dX11_note_12 : decode cX11_note 12 = .ok (.ifCond .eq 10, 3) := by decide +kernel
theorem dX11_note_15 : decode cX11_note 15 = .ok (.iload_n 3, 1) := by decide +kernel
theorem dX11_note_16 : decode cX11_note 16 = .ok (.invokestatic 214, 3) := by decide +kernel
theorem dX11_note_19 : decode cX11_note 19 = .ok (.ifCond .ne 10, 3) := by decide +kernel
theorem dX11_note_22 : decode cX11_note 22 = .ok (.aload_n 0, 1) := by decide +kernel
theorem dX11_note_23 : decode cX11_note 23 = .ok (.bipush (-2), 2) := by decide +kernel
theorem dX11_note_25 : decode cX11_note 25 = .ok (.invokevirtual 91, 3) := by decide +kernel
theorem dX11_note_28 : decode cX11_note 28 = .ok (.ireturn, 1) := by decide +kernel
theorem dX11_note_29 : decode cX11_note 29 = .ok (.iload 4, 2) := by decide +kernel
theorem dX11_note_31 : decode cX11_note 31 = .ok (.iconst (-1), 1) := by decide +kernel
theorem dX11_note_32 : decode cX11_note 32 = .ok (.if_icmp .eq 19, 3) := by decide +kernel
theorem dX11_note_35 : decode cX11_note 35 = .ok (.aload_n 0, 1) := by decide +kernel
theorem dX11_note_36 : decode cX11_note 36 = .ok (.iload 4, 2) := by decide +kernel
theorem dX11_note_38 : decode cX11_note 38 = .ok (.invokevirtual 102, 3) := by decide +kernel
theorem dX11_note_41 : decode cX11_note 41 = .ok (.ifCond .ne 10, 3) := by decide +kernel
theorem dX11_note_44 : decode cX11_note 44 = .ok (.aload_n 0, 1) := by decide +kernel
theorem dX11_note_45 : decode cX11_note 45 = .ok (.bipush (-2), 2) := by decide +kernel
theorem dX11_note_47 : decode cX11_note 47 = .ok (.invokevirtual 91, 3) := by decide +kernel
theorem dX11_note_50 : decode cX11_note 50 = .ok (.ireturn, 1) := by decide +kernel
theorem dX11_note_51 : decode cX11_note 51 = .ok (.aload_n 0, 1) := by decide +kernel
theorem dX11_note_52 : decode cX11_note 52 = .ok (.getfield 18, 3) := by decide +kernel
theorem dX11_note_55 : decode cX11_note 55 = .ok (.getfield 239, 3) := by decide +kernel
theorem dX11_note_58 : decode cX11_note 58 = .ok (.bipush 6, 2) := by decide +kernel
theorem dX11_note_60 : decode cX11_note 60 = .ok (.if_icmp .lt 8, 3) := by decide +kernel
theorem dX11_note_63 : decode cX11_note 63 = .ok (.aload_n 0, 1) := by decide +kernel
theorem dX11_note_64 : decode cX11_note 64 = .ok (.invokevirtual 124, 3) := by decide +kernel
theorem dX11_note_67 : decode cX11_note 67 = .ok (.ireturn, 1) := by decide +kernel
theorem dX11_note_68 : decode cX11_note 68 = .ok (.aload_n 0, 1) := by decide +kernel
theorem dX11_note_69 : decode cX11_note 69 = .ok (.getfield 18, 3) := by decide +kernel
theorem dX11_note_72 : decode cX11_note 72 = .ok (.iload_n 1, 1) := by decide +kernel
theorem dX11_note_73 : decode cX11_note 73 = .ok (.iload_n 2, 1) := by decide +kernel
theorem dX11_note_74 : decode cX11_note 74 = .ok (.iload_n 3, 1) := by decide +kernel
theorem dX11_note_75 : decode cX11_note 75 = .ok (.iload 4, 2) := by decide +kernel
theorem dX11_note_77 : decode cX11_note 77 = .ok (.invokevirtual 242, 3) := by decide +kernel
theorem dX11_note_80 : decode cX11_note 80 = .ok (.aload_n 0, 1) := by decide +kernel
theorem dX11_note_81 : decode cX11_note 81 = .ok (.getfield 18, 3) := by decide +kernel
theorem dX11_note_84 : decode cX11_note 84 = .ok (.getfield 239, 3) := by decide +kernel
theorem dX11_note_87 : decode cX11_note 87 = .ok (.ireturn, 1) := by decide +kernel
theorem dX11_forget_0 : decode cX11_forget 0 = .ok (.aload_n 0, 1) := by decide +kernel
theorem dX11_forget_1 : decode cX11_forget 1 = .ok (.getfield 18, 3) := by decide +kernel
theorem dX11_forget_4 : decode cX11_forget 4 = .ok (.getfield 239, 3) := by decide +kernel
theorem dX11_forget_7 : decode cX11_forget 7 = .ok (.istore_n 1, 1) := by decide +kernel
theorem dX11_forget_8 : decode cX11_forget 8 = .ok (.aload_n 0, 1) := by decide +kernel
theorem dX11_forget_9 : decode cX11_forget 9 = .ok (.getfield 18, 3) := by decide +kernel
theorem dX11_forget_12 : decode cX11_forget 12 = .ok (.iconst 0, 1) := by decide +kernel
theorem dX11_forget_13 : decode cX11_forget 13 = .ok (.putfield 239, 3) := by decide +kernel
theorem dX11_forget_16 : decode cX11_forget 16 = .ok (.iload_n 1, 1) := by decide +kernel
theorem dX11_forget_17 : decode cX11_forget 17 = .ok (.ireturn, 1) := by decide +kernel
theorem dX11_is_0 : decode cX11_is 0 = .ok (.aload_n 0, 1) := by decide +kernel
theorem dX11_is_1 : decode cX11_is 1 = .ok (.iload_n 1, 1) := by decide +kernel
theorem dX11_is_2 : decode cX11_is 2 = .ok (.invokevirtual 149, 3) := by decide +kernel
theorem dX11_is_5 : decode cX11_is 5 = .ok (.ifCond .eq 11, 3) := by decide +kernel
theorem dX11_is_8 : decode cX11_is 8 = .ok (.aload_n 0, 1) := by decide +kernel
theorem dX11_is_9 : decode cX11_is 9 = .ok (.iload_n 1, 1) := by decide +kernel
theorem dX11_is_10 : decode cX11_is 10 = .ok (.invokevirtual 246, 3) := by decide +kernel
theorem dX11_is_13 : decode cX11_is 13 = .ok (.goto 9, 3) := by decide +kernel
theorem dX11_is_16 : decode cX11_is 16 = .ok (.aload_n 0, 1) := by decide +kernel
theorem dX11_is_17 : decode cX11_is 17 = .ok (.bipush (-2), 2) := by decide +kernel
theorem dX11_is_19 : decode cX11_is 19 = .ok (.invokevirtual 91, 3) := by decide +kernel
theorem dX11_is_22 : decode cX11_is 22 = .ok (.ireturn, 1) := by decide +kernel
theorem dX11_bowl_0 : decode cX11_bowl 0 = .ok (.aload_n 0, 1) := by decide +kernel
theorem dX11_bowl_1 : decode cX11_bowl 1 = .ok (.iload_n 1, 1) := by decide +kernel
theorem dX11_bowl_2 : decode cX11_bowl 2 = .ok (.invokevirtual 149, 3) := by decide +kernel
theorem dX11_bowl_5 : decode cX11_bowl 5 = .ok (.ifCond .ne 10, 3) := by decide +kernel
theorem dX11_bowl_8 : decode cX11_bowl 8 = .ok (.aload_n 0, 1) := by decide +kernel
theorem dX11_bowl_9 : decode cX11_bowl 9 = .ok (.bipush (-2), 2) := by decide +kernel
theorem dX11_bowl_11 : decode cX11_bowl 11 = .ok (.invokevirtual 91, 3) := by decide +kernel
theorem dX11_bowl_14 : decode cX11_bowl 14 = .ok (.ireturn, 1) := by decide +kernel
theorem dX11_bowl_15 : decode cX11_bowl 15 = .ok (.aload_n 0, 1) := by decide +kernel
theorem dX11_bowl_16 : decode cX11_bowl 16 = .ok (.iload_n 1, 1) := by decide +kernel
theorem dX11_bowl_17 : decode cX11_bowl 17 = .ok (.invokevirtual 246, 3) := by decide +kernel
theorem dX11_bowl_20 : decode cX11_bowl 20 = .ok (.istore_n 2, 1) := by decide +kernel
theorem dX11_bowl_21 : decode cX11_bowl 21 = .ok (.iload_n 2, 1) := by decide +kernel
theorem dX11_bowl_22 : decode cX11_bowl 22 = .ok (.ifCond .ne 5, 3) := by decide +kernel
theorem dX11_bowl_25 : decode cX11_bowl 25 = .ok (.iconst (-1), 1) := by decide +kernel
theorem dX11_bowl_26 : decode cX11_bowl 26 = .ok (.ireturn, 1) := by decide +kernel
theorem dX11_bowl_27 : decode cX11_bowl 27 = .ok (.iconst (-1), 1) := by decide +kernel
theorem dX11_bowl_28 : decode cX11_bowl 28 = .ok (.istore_n 3, 1) := by decide +kernel
theorem dX11_bowl_29 : decode cX11_bowl 29 = .ok (.bipush 7, 2) := by decide +kernel
theorem dX11_bowl_31 : decode cX11_bowl 31 = .ok (.istore 4, 2) := by decide +kernel
theorem dX11_bowl_33 : decode cX11_bowl 33 = .ok (.iconst 1, 1) := by decide +kernel
theorem dX11_bowl_34 : decode cX11_bowl 34 = .ok (.istore 5, 2) := by decide +kernel
theorem dX11_bowl_36 : decode cX11_bowl 36 = .ok (.iload 5, 2) := by decide +kernel
theorem dX11_bowl_38 : decode cX11_bowl 38 = .ok (.iconst 3, 1) := by decide +kernel
theorem dX11_bowl_39 : decode cX11_bowl 39 = .ok (.if_icmp .gt 33, 3) := by decide +kernel
theorem dX11_bowl_42 : decode cX11_bowl 42 = .ok (.aload_n 0, 1) := by decide +kernel
theorem dX11_bowl_43 : decode cX11_bowl 43 = .ok (.iload_n 1, 1) := by decide +kernel
theorem dX11_bowl_44 : decode cX11_bowl 44 = .ok (.iload_n 2, 1) := by decide +kernel
theorem dX11_bowl_45 : decode cX11_bowl 45 = .ok (.iload 5, 2) := by decide +kernel
theorem dX11_bowl_47 : decode cX11_bowl 47 = .ok (.invokevirtual 249, 3) := by decide +kernel
theorem dX11_bowl_50 : decode cX11_bowl 50 = .ok (.istore 6, 2) := by decide +kernel
theorem dX11_bowl_52 : decode cX11_bowl 52 = .ok (.iload 6, 2) := by decide +kernel
theorem dX11_bowl_54 : decode cX11_bowl 54 = .ok (.iload 4, 2) := by decide +kernel
theorem dX11_bowl_56 : decode cX11_bowl 56 = .ok (.if_icmp .ge 10, 3) := by decide +kernel
theorem dX11_bowl_59 : decode cX11_bowl 59 = .ok (.iload 6, 2) := by decide +kernel
theorem dX11_bowl_61 : decode cX11_bowl 61 = .ok (.istore 4, 2) := by decide +kernel
theorem dX11_bowl_63 : decode cX11_bowl 63 = .ok (.iload 5, 2) := by decide +kernel
theorem dX11_bowl_65 : decode cX11_bowl 65 = .ok (.istore_n 3, 1) := by decide +kernel
theorem dX11_bowl_66 : decode cX11_bowl 66 = .ok (.iinc 5 1, 3) := by decide +kernel
theorem dX11_bowl_69 : decode cX11_bowl 69 = .ok (.goto (-33), 3) := by decide +kernel
theorem dX11_bowl_72 : decode cX11_bowl 72 = .ok (.iload_n 3, 1) := by decide +kernel
theorem dX11_bowl_73 : decode cX11_bowl 73 = .ok (.ireturn, 1) := by decide +kernel
theorem dX11_bowed_0 : decode cX11_bowed 0 = .ok (.aload_n 0, 1) := by decide +kernel
theorem dX11_bowed_1 : decode cX11_bowed 1 = .ok (.iload_n 1, 1) := by decide +kernel
theorem dX11_bowed_2 : decode cX11_bowed 2 = .ok (.invokevirtual 149, 3) := by decide +kernel
theorem dX11_bowed_5 : decode cX11_bowed 5 = .ok (.ifCond .eq 17, 3) := by decide +kernel
theorem dX11_bowed_8 : decode cX11_bowed 8 = .ok (.iload_n 2, 1) := by decide +kernel
theorem dX11_bowed_9 : decode cX11_bowed 9 = .ok (.invokestatic 211, 3) := by decide +kernel
theorem dX11_bowed_12 : decode cX11_bowed 12 = .ok (.ifCond .eq 10, 3) := by decide +kernel
theorem dX11_bowed_15 : decode cX11_bowed 15 = .ok (.iload_n 3, 1) := by decide +kernel
theorem dX11_bowed_16 : decode cX11_bowed 16 = .ok (.invokestatic 214, 3) := by decide +kernel
theorem dX11_bowed_19 : decode cX11_bowed 19 = .ok (.ifCond .ne 10, 3) := by decide +kernel
theorem dX11_bowed_22 : decode cX11_bowed 22 = .ok (.aload_n 0, 1) := by decide +kernel
theorem dX11_bowed_23 : decode cX11_bowed 23 = .ok (.bipush (-2), 2) := by decide +kernel
theorem dX11_bowed_25 : decode cX11_bowed 25 = .ok (.invokevirtual 91, 3) := by decide +kernel
theorem dX11_bowed_28 : decode cX11_bowed 28 = .ok (.ireturn, 1) := by decide +kernel
theorem dX11_bowed_29 : decode cX11_bowed 29 = .ok (.iload 4, 2) := by decide +kernel
theorem dX11_bowed_31 : decode cX11_bowed 31 = .ok (.bipush (-3), 2) := by decide +kernel
theorem dX11_bowed_33 : decode cX11_bowed 33 = .ok (.iconst 3, 1) := by decide +kernel
theorem dX11_bowed_34 : decode cX11_bowed 34 = .ok (.invokestatic 87, 3) := by decide +kernel
theorem dX11_bowed_37 : decode cX11_bowed 37 = .ok (.ifCond .eq 12, 3) := by decide +kernel
theorem dX11_bowed_40 : decode cX11_bowed 40 = .ok (.aload_n 0, 1) := by decide +kernel
theorem dX11_bowed_41 : decode cX11_bowed 41 = .ok (.iload 5, 2) := by decide +kernel
theorem dX11_bowed_43 : decode cX11_bowed 43 = .ok (.invokevirtual 102, 3) := by decide +kernel
theorem dX11_bowed_46 : decode cX11_bowed 46 = .ok (.ifCond .ne 10, 3) := by decide +kernel
theorem dX11_bowed_49 : decode cX11_bowed 49 = .ok (.aload_n 0, 1) := by decide +kernel
theorem dX11_bowed_50 : decode cX11_bowed 50 = .ok (.bipush (-2), 2) := by decide +kernel
theorem dX11_bowed_52 : decode cX11_bowed 52 = .ok (.invokevirtual 91, 3) := by decide +kernel
theorem dX11_bowed_55 : decode cX11_bowed 55 = .ok (.ireturn, 1) := by decide +kernel
theorem dX11_bowed_56 : decode cX11_bowed 56 = .ok (.iload_n 3, 1) := by decide +kernel
theorem dX11_bowed_57 : decode cX11_bowed 57 = .ok (.invokestatic 253, 3) := by decide +kernel
theorem dX11_bowed_60 : decode cX11_bowed 60 = .ok (.istore 6, 2) := by decide +kernel
theorem dX11_bowed_62 : decode cX11_bowed 62 = .ok (.iconst 0, 1) := by decide +kernel
theorem dX11_bowed_63 : decode cX11_bowed 63 = .ok (.istore 7, 2) := by decide +kernel
theorem dX11_bowed_65 : decode cX11_bowed 65 = .ok (.iconst 0, 1) := by decide +kernel
theorem dX11_bowed_66 : decode cX11_bowed 66 = .ok (.istore 8, 2) := by decide +kernel
theorem dX11_bowed_68 : decode cX11_bowed 68 = .ok (.iconst 0, 1) := by decide +kernel
theorem dX11_bowed_69 : decode cX11_bowed 69 = .ok (.istore 9, 2) := by decide +kernel
theorem dX11_bowed_71 : decode cX11_bowed 71 = .ok (.iload 9, 2) := by decide +kernel
theorem dX11_bowed_73 : decode cX11_bowed 73 = .ok (.iload 6, 2) := by decide +kernel
theorem dX11_bowed_75 : decode cX11_bowed 75 = .ok (.if_icmp .ge 107, 3) := by decide +kernel
theorem dX11_bowed_78 : decode cX11_bowed 78 = .ok (.aload_n 0, 1) := by decide +kernel
theorem dX11_bowed_79 : decode cX11_bowed 79 = .ok (.getfield 18, 3) := by decide +kernel
theorem dX11_bowed_82 : decode cX11_bowed 82 = .ok (.getfield 106, 3) := by decide +kernel
theorem dX11_bowed_85 : decode cX11_bowed 85 = .ok (.iload 8, 2) := by decide +kernel
theorem dX11_bowed_87 : decode cX11_bowed 87 = .ok (.iload_n 3, 1) := by decide +kernel
theorem dX11_bowed_88 : decode cX11_bowed 88 = .ok (.iload 6, 2) := by decide +kernel
theorem dX11_bowed_90 : decode cX11_bowed 90 = .ok (.iconst 1, 1) := by decide +kernel
theorem dX11_bowed_91 : decode cX11_bowed 91 = .ok (.isub, 1) := by decide +kernel
theorem dX11_bowed_92 : decode cX11_bowed 92 = .ok (.iload 9, 2) := by decide +kernel
theorem dX11_bowed_94 : decode cX11_bowed 94 = .ok (.isub, 1) := by decide +kernel
theorem dX11_bowed_95 : decode cX11_bowed 95 = .ok (.invokestatic 256, 3) := by decide +kernel
theorem dX11_bowed_98 : decode cX11_bowed 98 = .ok (.invokevirtual 260, 3) := by decide +kernel
theorem dX11_bowed_101 : decode cX11_bowed 101 = .ok (.istore 8, 2) := by decide +kernel
theorem dX11_bowed_103 : decode cX11_bowed 103 = .ok (.aload_n 0, 1) := by decide +kernel
theorem dX11_bowed_104 : decode cX11_bowed 104 = .ok (.aload_n 0, 1) := by decide +kernel
theorem dX11_bowed_105 : decode cX11_bowed 105 = .ok (.getfield 18, 3) := by decide +kernel
theorem dX11_bowed_108 : decode cX11_bowed 108 = .ok (.iload_n 1, 1) := by decide +kernel
theorem dX11_bowed_109 : decode cX11_bowed 109 = .ok (.invokevirtual 182, 3) := by decide +kernel
theorem dX11_bowed_112 : decode cX11_bowed 112 = .ok (.iload_n 1, 1) := by decide +kernel
theorem dX11_bowed_113 : decode cX11_bowed 113 = .ok (.iload_n 2, 1) := by decide +kernel
theorem dX11_bowed_114 : decode cX11_bowed 114 = .ok (.iload_n 3, 1) := by decide +kernel
theorem dX11_bowed_115 : decode cX11_bowed 115 = .ok (.iload 9, 2) := by decide +kernel
theorem dX11_bowed_117 : decode cX11_bowed 117 = .ok (.iload 4, 2) := by decide +kernel
theorem dX11_bowed_119 : decode cX11_bowed 119 = .ok (.invokevirtual 217, 3) := by decide +kernel
theorem dX11_bowed_122 : decode cX11_bowed 122 = .ok (.aload_n 0, 1) := by decide +kernel
theorem dX11_bowed_123 : decode cX11_bowed 123 = .ok (.getfield 39, 3) := by decide +kernel
theorem dX11_bowed_126 : decode cX11_bowed 126 = .ok (.getfield 208, 3) := by decide +kernel
theorem dX11_bowed_129 : decode cX11_bowed 129 = .ok (.iload_n 2, 1) := by decide +kernel
theorem dX11_bowed_130 : decode cX11_bowed 130 = .ok (.isub, 1) := by decide +kernel
theorem dX11_bowed_131 : decode cX11_bowed 131 = .ok (.iload 9, 2) := by decide +kernel
theorem dX11_bowed_133 : decode cX11_bowed 133 = .ok (.if_icmp .le 7, 3) := by decide +kernel
theorem dX11_bowed_136 : decode cX11_bowed 136 = .ok (.iconst 1, 1) := by decide +kernel
theorem dX11_bowed_137 : decode cX11_bowed 137 = .ok (.goto 4, 3) := by decide +kernel
theorem dX11_bowed_140 : decode cX11_bowed 140 = .ok (.iconst 0, 1) := by decide +kernel
theorem dX11_bowed_141 : decode cX11_bowed 141 = .ok (.istore 10, 2) := by decide +kernel
theorem dX11_bowed_143 : decode cX11_bowed 143 = .ok (.iload 10, 2) := by decide +kernel
theorem dX11_bowed_145 : decode cX11_bowed 145 = .ok (.ifCond .eq 31, 3) := by decide +kernel
theorem dX11_bowed_148 : decode cX11_bowed 148 = .ok (.aload_n 0, 1) := by decide +kernel
theorem dX11_bowed_149 : decode cX11_bowed 149 = .ok (.getfield 39, 3) := by decide +kernel
theorem dX11_bowed_152 : decode cX11_bowed 152 = .ok (.aload_n 0, 1) := by decide +kernel
theorem dX11_bowed_153 : decode cX11_bowed 153 = .ok (.getfield 18, 3) := by decide +kernel
theorem dX11_bowed_156 : decode cX11_bowed 156 = .ok (.getfield 106, 3) := by decide +kernel
theorem dX11_bowed_159 : decode cX11_bowed 159 = .ok (.invokevirtual 263, 3) := by decide +kernel
theorem dX11_bowed_162 : decode cX11_bowed 162 = .ok (.iload 5, 2) := by decide +kernel
theorem dX11_bowed_164 : decode cX11_bowed 164 = .ok (.if_icmp .ne 12, 3) := by decide +kernel
theorem dX11_bowed_167 : decode cX11_bowed 167 = .ok (.iload 7, 2) := by decide +kernel
theorem dX11_bowed_169 : decode cX11_bowed 169 = .ok (.iconst 1, 1) := by decide +kernel
theorem dX11_bowed_170 : decode cX11_bowed 170 = .ok (.iload 8, 2) := by decide +kernel
theorem dX11_bowed_172 : decode cX11_bowed 172 = .ok (.ishl, 1) := by decide +kernel
theorem dX11_bowed_173 : decode cX11_bowed 173 = .ok (.ior, 1) := by decide +kernel
theorem dX11_bowed_174 : decode cX11_bowed 174 = .ok (.istore 7, 2) := by decide +kernel
theorem dX11_bowed_176 : decode cX11_bowed 176 = .ok (.iinc 9 1, 3) := by decide +kernel
theorem dX11_bowed_179 : decode cX11_bowed 179 = .ok (.goto (-108), 3) := by decide +kernel
theorem dX11_bowed_182 : decode cX11_bowed 182 = .ok (.iload 7, 2) := by decide +kernel
theorem dX11_bowed_184 : decode cX11_bowed 184 = .ok (.ireturn, 1) := by decide +kernel
theorem dX11_pigeons_0 : decode cX11_pigeons 0 = .ok (.aload_n 0, 1) := by decide +kernel
theorem dX11_pigeons_1 : decode cX11_pigeons 1 = .ok (.iload_n 1, 1) := by decide +kernel
theorem dX11_pigeons_2 : decode cX11_pigeons 2 = .ok (.invokevirtual 149, 3) := by decide +kernel
theorem dX11_pigeons_5 : decode cX11_pigeons 5 = .ok (.ifCond .eq 22, 3) := by decide +kernel
theorem dX11_pigeons_8 : decode cX11_pigeons 8 = .ok (.iload_n 2, 1) := by decide +kernel
theorem dX11_pigeons_9 : decode cX11_pigeons 9 = .ok (.iconst 1, 1) := by decide +kernel
theorem dX11_pigeons_10 : decode cX11_pigeons 10 = .ok (.iconst 3, 1) := by decide +kernel
theorem dX11_pigeons_11 : decode cX11_pigeons 11 = .ok (.invokestatic 87, 3) := by decide +kernel
theorem dX11_pigeons_14 : decode cX11_pigeons 14 = .ok (.ifCond .eq 13, 3) := by decide +kernel
theorem dX11_pigeons_17 : decode cX11_pigeons 17 = .ok (.iload_n 3, 1) := by decide +kernel
theorem dX11_pigeons_18 : decode cX11_pigeons 18 = .ok (.iconst 0, 1) := by decide +kernel
theorem dX11_pigeons_19 : decode cX11_pigeons 19 = .ok (.bipush 10, 2) := by decide +kernel
theorem dX11_pigeons_21 : decode cX11_pigeons 21 = .ok (.invokestatic 87, 3) := by decide +kernel
theorem dX11_pigeons_24 : decode cX11_pigeons 24 = .ok (.ifCond .ne 10, 3) := by decide +kernel
theorem dX11_pigeons_27 : decode cX11_pigeons 27 = .ok (.aload_n 0, 1) := by decide +kernel
theorem dX11_pigeons_28 : decode cX11_pigeons 28 = .ok (.bipush (-2), 2) := by decide +kernel
theorem dX11_pigeons_30 : decode cX11_pigeons 30 = .ok (.invokevirtual 91, 3) := by decide +kernel
theorem dX11_pigeons_33 : decode cX11_pigeons 33 = .ok (.ireturn, 1) := by decide +kernel
theorem dX11_pigeons_34 : decode cX11_pigeons 34 = .ok (.aload_n 0, 1) := by decide +kernel
theorem dX11_pigeons_35 : decode cX11_pigeons 35 = .ok (.aload_n 0, 1) := by decide +kernel
theorem dX11_pigeons_36 : decode cX11_pigeons 36 = .ok (.getfield 18, 3) := by decide +kernel
theorem dX11_pigeons_39 : decode cX11_pigeons 39 = .ok (.iload_n 1, 1) := by decide +kernel
theorem dX11_pigeons_40 : decode cX11_pigeons 40 = .ok (.invokevirtual 182, 3) := by decide +kernel
theorem dX11_pigeons_43 : decode cX11_pigeons 43 = .ok (.invokevirtual 185, 3) := by decide +kernel
theorem dX11_pigeons_46 : decode cX11_pigeons 46 = .ok (.astore 4, 2) := by decide +kernel
theorem dX11_pigeons_48 : decode cX11_pigeons 48 = .ok (.aload_n 0, 1) := by decide +kernel
theorem dX11_pigeons_49 : decode cX11_pigeons 49 = .ok (.aload_n 0, 1) := by decide +kernel
theorem dX11_pigeons_50 : decode cX11_pigeons 50 = .ok (.getfield 46, 3) := by decide +kernel
theorem dX11_pigeons_53 : decode cX11_pigeons 53 = .ok (.aload_n 0, 1) := by decide +kernel
theorem dX11_pigeons_54 : decode cX11_pigeons 54 = .ok (.getfield 18, 3) := by decide +kernel
theorem dX11_pigeons_57 : decode cX11_pigeons 57 = .ok (.getfield 106, 3) := by decide +kernel
theorem dX11_pigeons_60 : decode cX11_pigeons 60 = .ok (.aload 4, 2) := by decide +kernel
theorem dX11_pigeons_62 : decode cX11_pigeons 62 = .ok (.aload_n 0, 1) := by decide +kernel
theorem dX11_pigeons_63 : decode cX11_pigeons 63 = .ok (.getfield 18, 3) := by decide +kernel
theorem dX11_pigeons_66 : decode cX11_pigeons 66 = .ok (.iload_n 1, 1) := by decide +kernel
theorem dX11_pigeons_67 : decode cX11_pigeons 67 = .ok (.invokevirtual 155, 3) := by decide +kernel
theorem dX11_pigeons_70 : decode cX11_pigeons 70 = .ok (.iload_n 2, 1) := by decide +kernel
theorem dX11_pigeons_71 : decode cX11_pigeons 71 = .ok (.iload_n 3, 1) := by decide +kernel
theorem dX11_pigeons_72 : decode cX11_pigeons 72 = .ok (.invokevirtual 267, 3) := by decide +kernel
theorem dX11_pigeons_75 : decode cX11_pigeons 75 = .ok (.putfield 54, 3) := by decide +kernel
theorem dX11_pigeons_78 : decode cX11_pigeons 78 = .ok (.aload_n 0, 1) := by decide +kernel
theorem dX11_pigeons_79 : decode cX11_pigeons 79 = .ok (.lconst 1, 1) := by decide +kernel
theorem dX11_pigeons_80 : decode cX11_pigeons 80 = .ok (.putfield 58, 3) := by decide +kernel
theorem dX11_pigeons_83 : decode cX11_pigeons 83 = .ok (.iconst 0, 1) := by decide +kernel
theorem dX11_pigeons_84 : decode cX11_pigeons 84 = .ok (.istore 5, 2) := by decide +kernel
theorem dX11_pigeons_86 : decode cX11_pigeons 86 = .ok (.iload 5, 2) := by decide +kernel
theorem dX11_pigeons_88 : decode cX11_pigeons 88 = .ok (.aload_n 0, 1) := by decide +kernel
theorem dX11_pigeons_89 : decode cX11_pigeons 89 = .ok (.getfield 18, 3) := by decide +kernel
theorem dX11_pigeons_92 : decode cX11_pigeons 92 = .ok (.getfield 106, 3) := by decide +kernel
theorem dX11_pigeons_95 : decode cX11_pigeons 95 = .ok (.getfield 271, 3) := by decide +kernel
theorem dX11_pigeons_98 : decode cX11_pigeons 98 = .ok (.if_icmp .ge 24, 3) := by decide +kernel
theorem dX11_pigeons_101 : decode cX11_pigeons 101 = .ok (.aload_n 0, 1) := by decide +kernel
theorem dX11_pigeons_102 : decode cX11_pigeons 102 = .ok (.dup, 1) := by decide +kernel
theorem dX11_pigeons_103 : decode cX11_pigeons 103 = .ok (.getfield 58, 3) := by decide +kernel
theorem dX11_pigeons_106 : decode cX11_pigeons 106 = .ok (.ldc2_w 272, 3) := by decide +kernel
theorem dX11_pigeons_109 : decode cX11_pigeons 109 = .ok (.lmul, 1) := by decide +kernel
theorem dX11_pigeons_110 : decode cX11_pigeons 110 = .ok (.putfield 58, 3) := by decide +kernel
theorem dX11_pigeons_113 : decode cX11_pigeons 113 = .ok (.iload 5, 2) := by decide +kernel
theorem dX11_pigeons_115 : decode cX11_pigeons 115 = .ok (.iload_n 2, 1) := by decide +kernel
theorem dX11_pigeons_116 : decode cX11_pigeons 116 = .ok (.iadd, 1) := by decide +kernel
theorem dX11_pigeons_117 : decode cX11_pigeons 117 = .ok (.istore 5, 2) := by decide +kernel
theorem dX11_pigeons_119 : decode cX11_pigeons 119 = .ok (.goto (-33), 3) := by decide +kernel
theorem dX11_pigeons_122 : decode cX11_pigeons 122 = .ok (.aload_n 0, 1) := by decide +kernel
theorem dX11_pigeons_123 : decode cX11_pigeons 123 = .ok (.getfield 54, 3) := by decide +kernel
theorem dX11_pigeons_126 : decode cX11_pigeons 126 = .ok (.aload_n 0, 1) := by decide +kernel
theorem dX11_pigeons_127 : decode cX11_pigeons 127 = .ok (.getfield 58, 3) := by decide +kernel
theorem dX11_pigeons_130 : decode cX11_pigeons 130 = .ok (.invokestatic 274, 3) := by decide +kernel
theorem dX11_pigeons_133 : decode cX11_pigeons 133 = .ok (.lstore 5, 2) := by decide +kernel
theorem dX11_pigeons_135 : decode cX11_pigeons 135 = .ok (.lload 5, 2) := by decide +kernel
theorem dX11_pigeons_137 : decode cX11_pigeons 137 = .ok (.lconst 1, 1) := by decide +kernel
theorem dX11_pigeons_138 : decode cX11_pigeons 138 = .ok (.lcmp, 1) := by decide +kernel
theorem dX11_pigeons_139 : decode cX11_pigeons 139 = .ok (.ifCond .le 25, 3) := by decide +kernel
theorem dX11_pigeons_142 : decode cX11_pigeons 142 = .ok (.aload_n 0, 1) := by decide +kernel
theorem dX11_pigeons_143 : decode cX11_pigeons 143 = .ok (.dup, 1) := by decide +kernel
theorem dX11_pigeons_144 : decode cX11_pigeons 144 = .ok (.getfield 54, 3) := by decide +kernel
theorem dX11_pigeons_147 : decode cX11_pigeons 147 = .ok (.lload 5, 2) := by decide +kernel
theorem dX11_pigeons_149 : decode cX11_pigeons 149 = .ok (.ldiv, 1) := by decide +kernel
theorem dX11_pigeons_150 : decode cX11_pigeons 150 = .ok (.putfield 54, 3) := by decide +kernel
theorem dX11_pigeons_153 : decode cX11_pigeons 153 = .ok (.aload_n 0, 1) := by decide +kernel
theorem dX11_pigeons_154 : decode cX11_pigeons 154 = .ok (.dup, 1) := by decide +kernel
theorem dX11_pigeons_155 : decode cX11_pigeons 155 = .ok (.getfield 58, 3) := by decide +kernel
theorem dX11_pigeons_158 : decode cX11_pigeons 158 = .ok (.lload 5, 2) := by decide +kernel
theorem dX11_pigeons_160 : decode cX11_pigeons 160 = .ok (.ldiv, 1) := by decide +kernel
theorem dX11_pigeons_161 : decode cX11_pigeons 161 = .ok (.putfield 58, 3) := by decide +kernel
theorem dX11_pigeons_164 : decode cX11_pigeons 164 = .ok (.iconst 1, 1) := by decide +kernel
theorem dX11_pigeons_165 : decode cX11_pigeons 165 = .ok (.ireturn, 1) := by decide +kernel
theorem dX11_crowned_0 : decode cX11_crowned 0 = .ok (.aload_n 0, 1) := by decide +kernel
theorem dX11_crowned_1 : decode cX11_crowned 1 = .ok (.iload_n 1, 1) := by decide +kernel
theorem dX11_crowned_2 : decode cX11_crowned 2 = .ok (.invokevirtual 149, 3) := by decide +kernel
theorem dX11_crowned_5 : decode cX11_crowned 5 = .ok (.ifCond .eq 24, 3) := by decide +kernel
theorem dX11_crowned_8 : decode cX11_crowned 8 = .ok (.iload_n 2, 1) := by decide +kernel
theorem dX11_crowned_9 : decode cX11_crowned 9 = .ok (.iconst 0, 1) := by decide +kernel
theorem dX11_crowned_10 : decode cX11_crowned 10 = .ok (.ldc_w 278, 3) := by decide +kernel
theorem dX11_crowned_13 : decode cX11_crowned 13 = .ok (.invokestatic 87, 3) := by decide +kernel
theorem dX11_crowned_16 : decode cX11_crowned 16 = .ok (.ifCond .eq 13, 3) := by decide +kernel
theorem dX11_crowned_19 : decode cX11_crowned 19 = .ok (.iload_n 3, 1) := by decide +kernel
theorem dX11_crowned_20 : decode cX11_crowned 20 = .ok (.iconst 0, 1) := by decide +kernel
theorem dX11_crowned_21 : decode cX11_crowned 21 = .ok (.bipush 60, 2) := by decide +kernel
theorem dX11_crowned_23 : decode cX11_crowned 23 = .ok (.invokestatic 87, 3) := by decide +kernel
theorem dX11_crowned_26 : decode cX11_crowned 26 = .ok (.ifCond .ne 10, 3) := by decide +kernel
theorem dX11_crowned_29 : decode cX11_crowned 29 = .ok (.aload_n 0, 1) := by decide +kernel
theorem dX11_crowned_30 : decode cX11_crowned 30 = .ok (.bipush (-2), 2) := by decide +kernel
theorem dX11_crowned_32 : decode cX11_crowned 32 = .ok (.invokevirtual 91, 3) := by decide +kernel
theorem dX11_crowned_35 : decode cX11_crowned 35 = .ok (.ireturn, 1) := by decide +kernel
theorem dX11_crowned_36 : decode cX11_crowned 36 = .ok (.aload_n 0, 1) := by decide +kernel
theorem dX11_crowned_37 : decode cX11_crowned 37 = .ok (.aload_n 0, 1) := by decide +kernel
theorem dX11_crowned_38 : decode cX11_crowned 38 = .ok (.getfield 18, 3) := by decide +kernel
theorem dX11_crowned_41 : decode cX11_crowned 41 = .ok (.iload_n 1, 1) := by decide +kernel
theorem dX11_crowned_42 : decode cX11_crowned 42 = .ok (.invokevirtual 182, 3) := by decide +kernel
theorem dX11_crowned_45 : decode cX11_crowned 45 = .ok (.invokevirtual 185, 3) := by decide +kernel
theorem dX11_crowned_48 : decode cX11_crowned 48 = .ok (.astore 4, 2) := by decide +kernel
theorem dX11_crowned_50 : decode cX11_crowned 50 = .ok (.iload_n 2, 1) := by decide +kernel
theorem dX11_crowned_51 : decode cX11_crowned 51 = .ok (.i2l, 1) := by decide +kernel
theorem dX11_crowned_52 : decode cX11_crowned 52 = .ok (.lstore 5, 2) := by decide +kernel
theorem dX11_crowned_54 : decode cX11_crowned 54 = .ok (.iconst 0, 1) := by decide +kernel
theorem dX11_crowned_55 : decode cX11_crowned 55 = .ok (.istore 7, 2) := by decide +kernel
theorem dX11_crowned_57 : decode cX11_crowned 57 = .ok (.iconst 0, 1) := by decide +kernel
theorem dX11_crowned_58 : decode cX11_crowned 58 = .ok (.istore 8, 2) := by decide +kernel
theorem dX11_crowned_60 : decode cX11_crowned 60 = .ok (.iload 8, 2) := by decide +kernel
theorem dX11_crowned_62 : decode cX11_crowned 62 = .ok (.iload_n 3, 1) := by decide +kernel
theorem dX11_crowned_63 : decode cX11_crowned 63 = .ok (.if_icmp .ge 127, 3) := by decide +kernel
theorem dX11_crowned_66 : decode cX11_crowned 66 = .ok (.aload_n 0, 1) := by decide +kernel
theorem dX11_crowned_67 : decode cX11_crowned 67 = .ok (.getfield 39, 3) := by decide +kernel
theorem dX11_crowned_70 : decode cX11_crowned 70 = .ok (.iload_n 1, 1) := by decide +kernel
theorem dX11_crowned_71 : decode cX11_crowned 71 = .ok (.iconst 0, 1) := by decide +kernel
theorem dX11_crowned_72 : decode cX11_crowned 72 = .ok (.aload_n 0, 1) := by decide +kernel
theorem dX11_crowned_73 : decode cX11_crowned 73 = .ok (.getfield 18, 3) := by decide +kernel
theorem dX11_crowned_76 : decode cX11_crowned 76 = .ok (.iload_n 1, 1) := by decide +kernel
theorem dX11_crowned_77 : decode cX11_crowned 77 = .ok (.invokevirtual 155, 3) := by decide +kernel
theorem dX11_crowned_80 : decode cX11_crowned 80 = .ok (.invokevirtual 158, 3) := by decide +kernel
theorem dX11_crowned_83 : decode cX11_crowned 83 = .ok (.iconst 0, 1) := by decide +kernel
theorem dX11_crowned_84 : decode cX11_crowned 84 = .ok (.istore 9, 2) := by decide +kernel
theorem dX11_crowned_86 : decode cX11_crowned 86 = .ok (.iload 9, 2) := by decide +kernel
theorem dX11_crowned_88 : decode cX11_crowned 88 = .ok (.bipush 15, 2) := by decide +kernel
theorem dX11_crowned_90 : decode cX11_crowned 90 = .ok (.if_icmp .ge 72, 3) := by decide +kernel
theorem dX11_crowned_93 : decode cX11_crowned 93 = .ok (.aload_n 0, 1) := by decide +kernel
theorem dX11_crowned_94 : decode cX11_crowned 94 = .ok (.getfield 39, 3) := by decide +kernel
theorem dX11_crowned_97 : decode cX11_crowned 97 = .ok (.aload_n 0, 1) := by decide +kernel
theorem dX11_crowned_98 : decode cX11_crowned 98 = .ok (.getfield 18, 3) := by decide +kernel
theorem dX11_crowned_101 : decode cX11_crowned 101 = .ok (.getfield 106, 3) := by decide +kernel
theorem dX11_crowned_104 : decode cX11_crowned 104 = .ok (.invokevirtual 173, 3) := by decide +kernel
theorem dX11_crowned_107 : decode cX11_crowned 107 = .ok (.ifCond .ne 55, 3) := by decide +kernel
theorem dX11_crowned_110 : decode cX11_crowned 110 = .ok (.lload 5, 2) := by decide +kernel
theorem dX11_crowned_112 : decode cX11_crowned 112 = .ok (.ldc2_w 279, 3) := by decide +kernel
theorem dX11_crowned_115 : decode cX11_crowned 115 = .ok (.lmul, 1) := by decide +kernel
theorem dX11_crowned_116 : decode cX11_crowned 116 = .ok (.ldc2_w 281, 3) := by decide +kernel
theorem dX11_crowned_119 : decode cX11_crowned 119 = .ok (.ladd, 1) := by decide +kernel
theorem dX11_crowned_120 : decode cX11_crowned 120 = .ok (.ldc2_w 283, 3) := by decide +kernel
theorem dX11_crowned_123 : decode cX11_crowned 123 = .ok (.lrem, 1) := by decide +kernel
theorem dX11_crowned_124 : decode cX11_crowned 124 = .ok (.lstore 5, 2) := by decide +kernel
theorem dX11_crowned_126 : decode cX11_crowned 126 = .ok (.aload_n 0, 1) := by decide +kernel
theorem dX11_crowned_127 : decode cX11_crowned 127 = .ok (.getfield 39, 3) := by decide +kernel
theorem dX11_crowned_130 : decode cX11_crowned 130 = .ok (.aload_n 0, 1) := by decide +kernel
theorem dX11_crowned_131 : decode cX11_crowned 131 = .ok (.getfield 18, 3) := by decide +kernel
theorem dX11_crowned_134 : decode cX11_crowned 134 = .ok (.getfield 106, 3) := by decide +kernel
theorem dX11_crowned_137 : decode cX11_crowned 137 = .ok (.aload 4, 2) := by decide +kernel
theorem dX11_crowned_139 : decode cX11_crowned 139 = .ok (.lload 5, 2) := by decide +kernel
theorem dX11_crowned_141 : decode cX11_crowned 141 = .ok (.ldc2_w 285, 3) := by decide +kernel
theorem dX11_crowned_144 : decode cX11_crowned 144 = .ok (.ldiv, 1) := by decide +kernel
theorem dX11_crowned_145 : decode cX11_crowned 145 = .ok (.ldc2_w 287, 3) := by decide +kernel
theorem dX11_crowned_148 : decode cX11_crowned 148 = .ok (.lrem, 1) := by decide +kernel
theorem dX11_crowned_149 : decode cX11_crowned 149 = .ok (.l2i, 1) := by decide +kernel
theorem dX11_crowned_150 : decode cX11_crowned 150 = .ok (.iconst 1, 1) := by decide +kernel
theorem dX11_crowned_151 : decode cX11_crowned 151 = .ok (.iadd, 1) := by decide +kernel
theorem dX11_crowned_152 : decode cX11_crowned 152 = .ok (.iconst 0, 1) := by decide +kernel
theorem dX11_crowned_153 : decode cX11_crowned 153 = .ok (.invokevirtual 189, 3) := by decide +kernel
theorem dX11_crowned_156 : decode cX11_crowned 156 = .ok (.iinc 9 1, 3) := by decide +kernel
theorem dX11_crowned_159 : decode cX11_crowned 159 = .ok (.goto (-73), 3) := by decide +kernel
theorem dX11_crowned_162 : decode cX11_crowned 162 = .ok (.iload 7, 2) := by decide +kernel
theorem dX11_crowned_164 : decode cX11_crowned 164 = .ok (.aload_n 0, 1) := by decide +kernel
theorem dX11_crowned_165 : decode cX11_crowned 165 = .ok (.getfield 39, 3) := by decide +kernel
theorem dX11_crowned_168 : decode cX11_crowned 168 = .ok (.aload_n 0, 1) := by decide +kernel
theorem dX11_crowned_169 : decode cX11_crowned 169 = .ok (.getfield 18, 3) := by decide +kernel
theorem dX11_crowned_172 : decode cX11_crowned 172 = .ok (.getfield 106, 3) := by decide +kernel
theorem dX11_crowned_175 : decode cX11_crowned 175 = .ok (.invokevirtual 196, 3) := by decide +kernel
theorem dX11_crowned_178 : decode cX11_crowned 178 = .ok (.invokestatic 166, 3) := by decide +kernel
theorem dX11_crowned_181 : decode cX11_crowned 181 = .ok (.iadd, 1) := by decide +kernel
theorem dX11_crowned_182 : decode cX11_crowned 182 = .ok (.istore 7, 2) := by decide +kernel
theorem dX11_crowned_184 : decode cX11_crowned 184 = .ok (.iinc 8 1, 3) := by decide +kernel
theorem dX11_crowned_187 : decode cX11_crowned 187 = .ok (.goto (-127), 3) := by decide +kernel
theorem dX11_crowned_190 : decode cX11_crowned 190 = .ok (.iload 7, 2) := by decide +kernel
theorem dX11_crowned_192 : decode cX11_crowned 192 = .ok (.ireturn, 1) := by decide +kernel
theorem dX11_part_0 : decode cX11_part 0 = .ok (.iload_n 1, 1) := by decide +kernel
theorem dX11_part_1 : decode cX11_part 1 = .ok (.iconst 0, 1) := by decide +kernel
theorem dX11_part_2 : decode cX11_part 2 = .ok (.iconst 1, 1) := by decide +kernel
theorem dX11_part_3 : decode cX11_part 3 = .ok (.invokestatic 87, 3) := by decide +kernel
theorem dX11_part_6 : decode cX11_part 6 = .ok (.ifCond .ne 11, 3) := by decide +kernel
theorem dX11_part_9 : decode cX11_part 9 = .ok (.aload_n 0, 1) := by decide +kernel
theorem dX11_part_10 : decode cX11_part 10 = .ok (.bipush (-2), 2) := by decide +kernel
theorem dX11_part_12 : decode cX11_part 12 = .ok (.invokevirtual 91, 3) := by decide +kernel
theorem dX11_part_15 : decode cX11_part 15 = .ok (.i2l, 1) := by decide +kernel
theorem dX11_part_16 : decode cX11_part 16 = .ok (.lreturn, 1) := by decide +kernel
theorem dX11_part_17 : decode cX11_part 17 = .ok (.iload_n 1, 1) := by decide +kernel
theorem dX11_part_18 : decode cX11_part 18 = .ok (.ifCond .ne 10, 3) := by decide +kernel
theorem dX11_part_21 : decode cX11_part 21 = .ok (.aload_n 0, 1) := by decide +kernel
theorem dX11_part_22 : decode cX11_part 22 = .ok (.getfield 54, 3) := by decide +kernel
theorem dX11_part_25 : decode cX11_part 25 = .ok (.goto 7, 3) := by decide +kernel
theorem dX11_part_28 : decode cX11_part 28 = .ok (.aload_n 0, 1) := by decide +kernel
theorem dX11_part_29 : decode cX11_part 29 = .ok (.getfield 58, 3) := by decide +kernel
theorem dX11_part_32 : decode cX11_part 32 = .ok (.lreturn, 1) := by decide +kernel
theorem dX11_image_0 : decode cX11_image 0 = .ok (.iload_n 1, 1) := by decide +kernel
theorem dX11_image_1 : decode cX11_image 1 = .ok (.iconst 0, 1) := by decide +kernel
theorem dX11_image_2 : decode cX11_image 2 = .ok (.iconst 1, 1) := by decide +kernel
theorem dX11_image_3 : decode cX11_image 3 = .ok (.invokestatic 87, 3) := by decide +kernel
theorem dX11_image_6 : decode cX11_image 6 = .ok (.ifCond .ne 10, 3) := by decide +kernel
theorem dX11_image_9 : decode cX11_image 9 = .ok (.aload_n 0, 1) := by decide +kernel
theorem dX11_image_10 : decode cX11_image 10 = .ok (.bipush (-2), 2) := by decide +kernel
theorem dX11_image_12 : decode cX11_image 12 = .ok (.invokevirtual 91, 3) := by decide +kernel
theorem dX11_image_15 : decode cX11_image 15 = .ok (.ireturn, 1) := by decide +kernel
theorem dX11_image_16 : decode cX11_image 16 = .ok (.aload_n 0, 1) := by decide +kernel
theorem dX11_image_17 : decode cX11_image 17 = .ok (.getfield 25, 3) := by decide +kernel
theorem dX11_image_20 : decode cX11_image 20 = .ok (.iload_n 1, 1) := by decide +kernel
theorem dX11_image_21 : decode cX11_image 21 = .ok (.aaload, 1) := by decide +kernel
theorem dX11_image_22 : decode cX11_image 22 = .ok (.astore_n 2, 1) := by decide +kernel
theorem dX11_image_23 : decode cX11_image 23 = .ok (.aload_n 2, 1) := by decide +kernel
theorem dX11_image_24 : decode cX11_image 24 = .ok (.ifnonnull 18, 3) := by decide +kernel
theorem dX11_image_27 : decode cX11_image 27 = .ok (.new 15, 3) := by decide +kernel
theorem dX11_image_30 : decode cX11_image 30 = .ok (.dup, 1) := by decide +kernel
theorem dX11_image_31 : decode cX11_image 31 = .ok (.invokespecial 17, 3) := by decide +kernel
theorem dX11_image_34 : decode cX11_image 34 = .ok (.astore_n 2, 1) := by decide +kernel
theorem dX11_image_35 : decode cX11_image 35 = .ok (.aload_n 0, 1) := by decide +kernel
theorem dX11_image_36 : decode cX11_image 36 = .ok (.getfield 25, 3) := by decide +kernel
theorem dX11_image_39 : decode cX11_image 39 = .ok (.iload_n 1, 1) := by decide +kernel
theorem dX11_image_40 : decode cX11_image 40 = .ok (.aload_n 2, 1) := by decide +kernel
theorem dX11_image_41 : decode cX11_image 41 = .ok (.aastore, 1) := by decide +kernel
theorem dX11_image_42 : decode cX11_image 42 = .ok (.aload_n 2, 1) := by decide +kernel
theorem dX11_image_43 : decode cX11_image 43 = .ok (.aload_n 0, 1) := by decide +kernel
theorem dX11_image_44 : decode cX11_image 44 = .ok (.getfield 18, 3) := by decide +kernel
theorem dX11_image_47 : decode cX11_image 47 = .ok (.invokevirtual 145, 3) := by decide +kernel
theorem dX11_image_50 : decode cX11_image 50 = .ok (.iconst 1, 1) := by decide +kernel
theorem dX11_image_51 : decode cX11_image 51 = .ok (.ireturn, 1) := by decide +kernel
theorem dX11_from_0 : decode cX11_from 0 = .ok (.iload_n 1, 1) := by decide +kernel
theorem dX11_from_1 : decode cX11_from 1 = .ok (.iconst 0, 1) := by decide +kernel
theorem dX11_from_2 : decode cX11_from 2 = .ok (.iconst 1, 1) := by decide +kernel
theorem dX11_from_3 : decode cX11_from 3 = .ok (.invokestatic 87, 3) := by decide +kernel
theorem dX11_from_6 : decode cX11_from 6 = .ok (.ifCond .ne 10, 3) := by decide +kernel
theorem dX11_from_9 : decode cX11_from 9 = .ok (.aload_n 0, 1) := by decide +kernel
theorem dX11_from_10 : decode cX11_from 10 = .ok (.bipush (-2), 2) := by decide +kernel
theorem dX11_from_12 : decode cX11_from 12 = .ok (.invokevirtual 91, 3) := by decide +kernel
theorem dX11_from_15 : decode cX11_from 15 = .ok (.ireturn, 1) := by decide +kernel
theorem dX11_from_16 : decode cX11_from 16 = .ok (.aload_n 0, 1) := by decide +kernel
theorem dX11_from_17 : decode cX11_from 17 = .ok (.getfield 25, 3) := by decide +kernel
theorem dX11_from_20 : decode cX11_from 20 = .ok (.iload_n 1, 1) := by decide +kernel
theorem dX11_from_21 : decode cX11_from 21 = .ok (.aaload, 1) := by decide +kernel
theorem dX11_from_22 : decode cX11_from 22 = .ok (.astore_n 2, 1) := by decide +kernel
theorem dX11_from_23 : decode cX11_from 23 = .ok (.aload_n 2, 1) := by decide +kernel
theorem dX11_from_24 : decode cX11_from 24 = .ok (.ifnonnull 10, 3) := by decide +kernel
theorem dX11_from_27 : decode cX11_from 27 = .ok (.aload_n 0, 1) := by decide +kernel
theorem dX11_from_28 : decode cX11_from 28 = .ok (.bipush (-3), 2) := by decide +kernel
theorem dX11_from_30 : decode cX11_from 30 = .ok (.invokevirtual 176, 3) := by decide +kernel
theorem dX11_from_33 : decode cX11_from 33 = .ok (.ireturn, 1) := by decide +kernel
theorem dX11_from_34 : decode cX11_from 34 = .ok (.aload_n 0, 1) := by decide +kernel
theorem dX11_from_35 : decode cX11_from 35 = .ok (.getfield 18, 3) := by decide +kernel
theorem dX11_from_38 : decode cX11_from 38 = .ok (.aload_n 2, 1) := by decide +kernel
theorem dX11_from_39 : decode cX11_from 39 = .ok (.invokevirtual 145, 3) := by decide +kernel
theorem dX11_from_42 : decode cX11_from 42 = .ok (.iconst 1, 1) := by decide +kernel
theorem dX11_from_43 : decode cX11_from 43 = .ok (.ireturn, 1) := by decide +kernel
theorem dX11_status_0 : decode cX11_status 0 = .ok (.iload_n 1, 1) := by decide +kernel
theorem dX11_status_1 : decode cX11_status 1 = .ok (.tableswitch 42 0 2 #[27, 32, 37], 27) := by decide +kernel
theorem dX11_status_28 : decode cX11_status 28 = .ok (.aload_n 0, 1) := by decide +kernel
theorem dX11_status_29 : decode cX11_status 29 = .ok (.getfield 61, 3) := by decide +kernel
theorem dX11_status_32 : decode cX11_status 32 = .ok (.ireturn, 1) := by decide +kernel
theorem dX11_status_33 : decode cX11_status 33 = .ok (.aload_n 0, 1) := by decide +kernel
theorem dX11_status_34 : decode cX11_status 34 = .ok (.getfield 65, 3) := by decide +kernel
theorem dX11_status_37 : decode cX11_status 37 = .ok (.ireturn, 1) := by decide +kernel
theorem dX11_status_38 : decode cX11_status 38 = .ok (.aload_n 0, 1) := by decide +kernel
theorem dX11_status_39 : decode cX11_status 39 = .ok (.getfield 68, 3) := by decide +kernel
theorem dX11_status_42 : decode cX11_status 42 = .ok (.ireturn, 1) := by decide +kernel
theorem dX11_status_43 : decode cX11_status 43 = .ok (.aload_n 0, 1) := by decide +kernel
theorem dX11_status_44 : decode cX11_status 44 = .ok (.iconst (-1), 1) := by decide +kernel
theorem dX11_status_45 : decode cX11_status 45 = .ok (.invokevirtual 91, 3) := by decide +kernel
theorem dX11_status_48 : decode cX11_status 48 = .ok (.ireturn, 1) := by decide +kernel
theorem dX11_count_0 : decode cX11_count 0 = .ok (.iload_n 1, 1) := by decide +kernel
theorem dX11_count_1 : decode cX11_count 1 = .ok (.tableswitch 96 0 5 #[39, 47, 58, 69, 77, 88], 39) := by decide +kernel
theorem dX11_count_40 : decode cX11_count 40 = .ok (.aload_n 0, 1) := by decide +kernel
theorem dX11_count_41 : decode cX11_count 41 = .ok (.getfield 18, 3) := by decide +kernel
theorem dX11_count_44 : decode cX11_count 44 = .ok (.getfield 95, 3) := by decide +kernel
theorem dX11_count_47 : decode cX11_count 47 = .ok (.ireturn, 1) := by decide +kernel
theorem dX11_count_48 : decode cX11_count 48 = .ok (.aload_n 0, 1) := by decide +kernel
theorem dX11_count_49 : decode cX11_count 49 = .ok (.getfield 18, 3) := by decide +kernel
theorem dX11_count_52 : decode cX11_count 52 = .ok (.getfield 106, 3) := by decide +kernel
theorem dX11_count_55 : decode cX11_count 55 = .ok (.getfield 271, 3) := by decide +kernel
theorem dX11_count_58 : decode cX11_count 58 = .ok (.ireturn, 1) := by decide +kernel
theorem dX11_count_59 : decode cX11_count 59 = .ok (.aload_n 0, 1) := by decide +kernel
theorem dX11_count_60 : decode cX11_count 60 = .ok (.getfield 18, 3) := by decide +kernel
theorem dX11_count_63 : decode cX11_count 63 = .ok (.getfield 106, 3) := by decide +kernel
theorem dX11_count_66 : decode cX11_count 66 = .ok (.getfield 289, 3) := by decide +kernel
theorem dX11_count_69 : decode cX11_count 69 = .ok (.ireturn, 1) := by decide +kernel
theorem dX11_count_70 : decode cX11_count 70 = .ok (.aload_n 0, 1) := by decide +kernel
theorem dX11_count_71 : decode cX11_count 71 = .ok (.getfield 18, 3) := by decide +kernel
theorem dX11_count_74 : decode cX11_count 74 = .ok (.getfield 239, 3) := by decide +kernel
theorem dX11_count_77 : decode cX11_count 77 = .ok (.ireturn, 1) := by decide +kernel
theorem dX11_count_78 : decode cX11_count 78 = .ok (.aload_n 0, 1) := by decide +kernel
theorem dX11_count_79 : decode cX11_count 79 = .ok (.getfield 18, 3) := by decide +kernel
theorem dX11_count_82 : decode cX11_count 82 = .ok (.getfield 152, 3) := by decide +kernel
theorem dX11_count_85 : decode cX11_count 85 = .ok (.getfield 202, 3) := by decide +kernel
theorem dX11_count_88 : decode cX11_count 88 = .ok (.ireturn, 1) := by decide +kernel
theorem dX11_count_89 : decode cX11_count 89 = .ok (.aload_n 0, 1) := by decide +kernel
theorem dX11_count_90 : decode cX11_count 90 = .ok (.getfield 32, 3) := by decide +kernel
theorem dX11_count_93 : decode cX11_count 93 = .ok (.getfield 131, 3) := by decide +kernel
theorem dX11_count_96 : decode cX11_count 96 = .ok (.ireturn, 1) := by decide +kernel
theorem dX11_count_97 : decode cX11_count 97 = .ok (.aload_n 0, 1) := by decide +kernel
theorem dX11_count_98 : decode cX11_count 98 = .ok (.bipush (-2), 2) := by decide +kernel
theorem dX11_count_100 : decode cX11_count 100 = .ok (.invokevirtual 91, 3) := by decide +kernel
theorem dX11_count_103 : decode cX11_count 103 = .ok (.ireturn, 1) := by decide +kernel
theorem dX11_digest_0 : decode cX11_digest 0 = .ok (.ldc2_w 292, 3) := by decide +kernel
theorem dX11_digest_3 : decode cX11_digest 3 = .ok (.lstore_n 1, 1) := by decide +kernel
theorem dX11_digest_4 : decode cX11_digest 4 = .ok (.iconst 0, 1) := by decide +kernel
theorem dX11_digest_5 : decode cX11_digest 5 = .ok (.istore_n 3, 1) := by decide +kernel
theorem dX11_digest_6 : decode cX11_digest 6 = .ok (.iload_n 3, 1) := by decide +kernel
theorem dX11_digest_7 : decode cX11_digest 7 = .ok (.bipush 6, 2) := by decide +kernel
theorem dX11_digest_9 : decode cX11_digest 9 = .ok (.if_icmp .ge 22, 3) := by decide +kernel
theorem dX11_digest_12 : decode cX11_digest 12 = .ok (.ldc2_w 294, 3) := by decide +kernel
theorem dX11_digest_15 : decode cX11_digest 15 = .ok (.lload_n 1, 1) := by decide +kernel
theorem dX11_digest_16 : decode cX11_digest 16 = .ok (.lmul, 1) := by decide +kernel
theorem dX11_digest_17 : decode cX11_digest 17 = .ok (.aload_n 0, 1) := by decide +kernel
theorem dX11_digest_18 : decode cX11_digest 18 = .ok (.iload_n 3, 1) := by decide +kernel
theorem dX11_digest_19 : decode cX11_digest 19 = .ok (.invokevirtual 296, 3) := by decide +kernel
theorem dX11_digest_22 : decode cX11_digest 22 = .ok (.i2l, 1) := by decide +kernel
theorem dX11_digest_23 : decode cX11_digest 23 = .ok (.ladd, 1) := by decide +kernel
theorem dX11_digest_24 : decode cX11_digest 24 = .ok (.lstore_n 1, 1) := by decide +kernel
theorem dX11_digest_25 : decode cX11_digest 25 = .ok (.iinc 3 1, 3) := by decide +kernel
theorem dX11_digest_28 : decode cX11_digest 28 = .ok (.goto (-22), 3) := by decide +kernel
theorem dX11_digest_31 : decode cX11_digest 31 = .ok (.aload_n 0, 1) := by decide +kernel
theorem dX11_digest_32 : decode cX11_digest 32 = .ok (.getfield 18, 3) := by decide +kernel
theorem dX11_digest_35 : decode cX11_digest 35 = .ok (.getfield 106, 3) := by decide +kernel
theorem dX11_digest_38 : decode cX11_digest 38 = .ok (.lload_n 1, 1) := by decide +kernel
theorem dX11_digest_39 : decode cX11_digest 39 = .ok (.invokevirtual 299, 3) := by decide +kernel
theorem dX11_digest_42 : decode cX11_digest 42 = .ok (.lstore_n 1, 1) := by decide +kernel
theorem dX11_digest_43 : decode cX11_digest 43 = .ok (.aload_n 0, 1) := by decide +kernel
theorem dX11_digest_44 : decode cX11_digest 44 = .ok (.getfield 18, 3) := by decide +kernel
theorem dX11_digest_47 : decode cX11_digest 47 = .ok (.lload_n 1, 1) := by decide +kernel
theorem dX11_digest_48 : decode cX11_digest 48 = .ok (.invokevirtual 303, 3) := by decide +kernel
theorem dX11_digest_51 : decode cX11_digest 51 = .ok (.lstore_n 1, 1) := by decide +kernel
theorem dX11_digest_52 : decode cX11_digest 52 = .ok (.iconst 0, 1) := by decide +kernel
theorem dX11_digest_53 : decode cX11_digest 53 = .ok (.istore_n 3, 1) := by decide +kernel
theorem dX11_digest_54 : decode cX11_digest 54 = .ok (.iload_n 3, 1) := by decide +kernel
theorem dX11_digest_55 : decode cX11_digest 55 = .ok (.iconst 5, 1) := by decide +kernel
theorem dX11_digest_56 : decode cX11_digest 56 = .ok (.if_icmp .ge 22, 3) := by decide +kernel
theorem dX11_digest_59 : decode cX11_digest 59 = .ok (.ldc2_w 294, 3) := by decide +kernel
theorem dX11_digest_62 : decode cX11_digest 62 = .ok (.lload_n 1, 1) := by decide +kernel
theorem dX11_digest_63 : decode cX11_digest 63 = .ok (.lmul, 1) := by decide +kernel
theorem dX11_digest_64 : decode cX11_digest 64 = .ok (.aload_n 0, 1) := by decide +kernel
theorem dX11_digest_65 : decode cX11_digest 65 = .ok (.iload_n 3, 1) := by decide +kernel
theorem dX11_digest_66 : decode cX11_digest 66 = .ok (.invokevirtual 306, 3) := by decide +kernel
theorem dX11_digest_69 : decode cX11_digest 69 = .ok (.i2l, 1) := by decide +kernel
theorem dX11_digest_70 : decode cX11_digest 70 = .ok (.ladd, 1) := by decide +kernel
theorem dX11_digest_71 : decode cX11_digest 71 = .ok (.lstore_n 1, 1) := by decide +kernel
theorem dX11_digest_72 : decode cX11_digest 72 = .ok (.iinc 3 1, 3) := by decide +kernel
theorem dX11_digest_75 : decode cX11_digest 75 = .ok (.goto (-21), 3) := by decide +kernel
theorem dX11_digest_78 : decode cX11_digest 78 = .ok (.aload_n 0, 1) := by decide +kernel
theorem dX11_digest_79 : decode cX11_digest 79 = .ok (.getfield 18, 3) := by decide +kernel
theorem dX11_digest_82 : decode cX11_digest 82 = .ok (.lload_n 1, 1) := by decide +kernel
theorem dX11_digest_83 : decode cX11_digest 83 = .ok (.invokevirtual 309, 3) := by decide +kernel
theorem dX11_digest_86 : decode cX11_digest 86 = .ok (.lstore_n 1, 1) := by decide +kernel
theorem dX11_digest_87 : decode cX11_digest 87 = .ok (.ldc2_w 294, 3) := by decide +kernel
theorem dX11_digest_90 : decode cX11_digest 90 = .ok (.lload_n 1, 1) := by decide +kernel
theorem dX11_digest_91 : decode cX11_digest 91 = .ok (.lmul, 1) := by decide +kernel
theorem dX11_digest_92 : decode cX11_digest 92 = .ok (.aload_n 0, 1) := by decide +kernel
theorem dX11_digest_93 : decode cX11_digest 93 = .ok (.getfield 54, 3) := by decide +kernel
theorem dX11_digest_96 : decode cX11_digest 96 = .ok (.ladd, 1) := by decide +kernel
theorem dX11_digest_97 : decode cX11_digest 97 = .ok (.lstore_n 1, 1) := by decide +kernel
theorem dX11_digest_98 : decode cX11_digest 98 = .ok (.ldc2_w 294, 3) := by decide +kernel
theorem dX11_digest_101 : decode cX11_digest 101 = .ok (.lload_n 1, 1) := by decide +kernel
theorem dX11_digest_102 : decode cX11_digest 102 = .ok (.lmul, 1) := by decide +kernel
theorem dX11_digest_103 : decode cX11_digest 103 = .ok (.aload_n 0, 1) := by decide +kernel
theorem dX11_digest_104 : decode cX11_digest 104 = .ok (.getfield 58, 3) := by decide +kernel
theorem dX11_digest_107 : decode cX11_digest 107 = .ok (.ladd, 1) := by decide +kernel
theorem dX11_digest_108 : decode cX11_digest 108 = .ok (.lreturn, 1) := by decide +kernel
theorem dX11_bad_0 : decode cX11_bad 0 = .ok (.aload_n 0, 1) := by decide +kernel
theorem dX11_bad_1 : decode cX11_bad 1 = .ok (.dup, 1) := by decide +kernel
theorem dX11_bad_2 : decode cX11_bad 2 = .ok (.getfield 61, 3) := by decide +kernel
theorem dX11_bad_5 : decode cX11_bad 5 = .ok (.iconst 1, 1) := by decide +kernel
theorem dX11_bad_6 : decode cX11_bad 6 = .ok (.iadd, 1) := by decide +kernel
theorem dX11_bad_7 : decode cX11_bad 7 = .ok (.putfield 61, 3) := by decide +kernel
theorem dX11_bad_10 : decode cX11_bad 10 = .ok (.iload_n 1, 1) := by decide +kernel
theorem dX11_bad_11 : decode cX11_bad 11 = .ok (.ireturn, 1) := by decide +kernel
theorem dX11_no_0 : decode cX11_no 0 = .ok (.aload_n 0, 1) := by decide +kernel
theorem dX11_no_1 : decode cX11_no 1 = .ok (.dup, 1) := by decide +kernel
theorem dX11_no_2 : decode cX11_no 2 = .ok (.getfield 65, 3) := by decide +kernel
theorem dX11_no_5 : decode cX11_no 5 = .ok (.iconst 1, 1) := by decide +kernel
theorem dX11_no_6 : decode cX11_no 6 = .ok (.iadd, 1) := by decide +kernel
theorem dX11_no_7 : decode cX11_no 7 = .ok (.putfield 65, 3) := by decide +kernel
theorem dX11_no_10 : decode cX11_no 10 = .ok (.iload_n 1, 1) := by decide +kernel
theorem dX11_no_11 : decode cX11_no 11 = .ok (.ireturn, 1) := by decide +kernel
theorem dX11_full_0 : decode cX11_full 0 = .ok (.aload_n 0, 1) := by decide +kernel
theorem dX11_full_1 : decode cX11_full 1 = .ok (.dup, 1) := by decide +kernel
theorem dX11_full_2 : decode cX11_full 2 = .ok (.getfield 68, 3) := by decide +kernel
theorem dX11_full_5 : decode cX11_full 5 = .ok (.iconst 1, 1) := by decide +kernel
theorem dX11_full_6 : decode cX11_full 6 = .ok (.iadd, 1) := by decide +kernel
theorem dX11_full_7 : decode cX11_full 7 = .ok (.putfield 68, 3) := by decide +kernel
theorem dX11_full_10 : decode cX11_full 10 = .ok (.bipush (-4), 2) := by decide +kernel
theorem dX11_full_12 : decode cX11_full 12 = .ok (.ireturn, 1) := by decide +kernel
theorem dX11_within_0 : decode cX11_within 0 = .ok (.iload_n 0, 1) := by decide +kernel
theorem dX11_within_1 : decode cX11_within 1 = .ok (.iload_n 1, 1) := by decide +kernel
theorem dX11_within_2 : decode cX11_within 2 = .ok (.if_icmp .lt 12, 3) := by decide +kernel
theorem dX11_within_5 : decode cX11_within 5 = .ok (.iload_n 0, 1) := by decide +kernel
theorem dX11_within_6 : decode cX11_within 6 = .ok (.iload_n 2, 1) := by decide +kernel
theorem dX11_within_7 : decode cX11_within 7 = .ok (.if_icmp .gt 7, 3) := by decide +kernel
theorem dX11_within_10 : decode cX11_within 10 = .ok (.iconst 1, 1) := by decide +kernel
theorem dX11_within_11 : decode cX11_within 11 = .ok (.goto 4, 3) := by decide +kernel
theorem dX11_within_14 : decode cX11_within 14 = .ok (.iconst 0, 1) := by decide +kernel
theorem dX11_within_15 : decode cX11_within 15 = .ok (.ireturn, 1) := by decide +kernel
theorem dX11_bit_0 : decode cX11_bit 0 = .ok (.iload_n 0, 1) := by decide +kernel
theorem dX11_bit_1 : decode cX11_bit 1 = .ok (.ifCond .eq 7, 3) := by decide +kernel
theorem dX11_bit_4 : decode cX11_bit 4 = .ok (.iconst 1, 1) := by decide +kernel
theorem dX11_bit_5 : decode cX11_bit 5 = .ok (.goto 4, 3) := by decide +kernel
theorem dX11_bit_8 : decode cX11_bit 8 = .ok (.iconst 0, 1) := by decide +kernel
theorem dX11_bit_9 : decode cX11_bit 9 = .ok (.ireturn, 1) := by decide +kernel
theorem dX11_isHead_0 : decode cX11_isHead 0 = .ok (.iload_n 1, 1) := by decide +kernel
theorem dX11_isHead_1 : decode cX11_isHead 1 = .ok (.iconst 0, 1) := by decide +kernel
theorem dX11_isHead_2 : decode cX11_isHead 2 = .ok (.aload_n 0, 1) := by decide +kernel
theorem dX11_isHead_3 : decode cX11_isHead 3 = .ok (.getfield 18, 3) := by decide +kernel
theorem dX11_isHead_6 : decode cX11_isHead 6 = .ok (.getfield 95, 3) := by decide +kernel
theorem dX11_isHead_9 : decode cX11_isHead 9 = .ok (.iconst 1, 1) := by decide +kernel
theorem dX11_isHead_10 : decode cX11_isHead 10 = .ok (.isub, 1) := by decide +kernel
theorem dX11_isHead_11 : decode cX11_isHead 11 = .ok (.invokestatic 87, 3) := by decide +kernel
theorem dX11_isHead_14 : decode cX11_isHead 14 = .ok (.ireturn, 1) := by decide +kernel
theorem dX11_isCell_0 : decode cX11_isCell 0 = .ok (.iload_n 1, 1) := by decide +kernel
theorem dX11_isCell_1 : decode cX11_isCell 1 = .ok (.iconst 0, 1) := by decide +kernel
theorem dX11_isCell_2 : decode cX11_isCell 2 = .ok (.aload_n 0, 1) := by decide +kernel
theorem dX11_isCell_3 : decode cX11_isCell 3 = .ok (.getfield 18, 3) := by decide +kernel
theorem dX11_isCell_6 : decode cX11_isCell 6 = .ok (.getfield 106, 3) := by decide +kernel
theorem dX11_isCell_9 : decode cX11_isCell 9 = .ok (.getfield 271, 3) := by decide +kernel
theorem dX11_isCell_12 : decode cX11_isCell 12 = .ok (.invokestatic 87, 3) := by decide +kernel
theorem dX11_isCell_15 : decode cX11_isCell 15 = .ok (.ireturn, 1) := by decide +kernel
theorem dX11_isStep_0 : decode cX11_isStep 0 = .ok (.iload_n 0, 1) := by decide +kernel
theorem dX11_isStep_1 : decode cX11_isStep 1 = .ok (.iconst 0, 1) := by decide +kernel
theorem dX11_isStep_2 : decode cX11_isStep 2 = .ok (.iconst 5, 1) := by decide +kernel
theorem dX11_isStep_3 : decode cX11_isStep 3 = .ok (.invokestatic 87, 3) := by decide +kernel
theorem dX11_isStep_6 : decode cX11_isStep 6 = .ok (.ireturn, 1) := by decide +kernel
theorem dX11_kind_0 : decode cX11_kind 0 = .ok (.aload_n 0, 1) := by decide +kernel
theorem dX11_kind_1 : decode cX11_kind 1 = .ok (.getfield 11, 3) := by decide +kernel
theorem dX11_kind_4 : decode cX11_kind 4 = .ok (.iload_n 1, 1) := by decide +kernel
theorem dX11_kind_5 : decode cX11_kind 5 = .ok (.iconst 0, 1) := by decide +kernel
theorem dX11_kind_6 : decode cX11_kind 6 = .ok (.iconst 5, 1) := by decide +kernel
theorem dX11_kind_7 : decode cX11_kind 7 = .ok (.invokestatic 87, 3) := by decide +kernel
theorem dX11_kind_10 : decode cX11_kind 10 = .ok (.ifCond .eq 7, 3) := by decide +kernel
theorem dX11_kind_13 : decode cX11_kind 13 = .ok (.iload_n 1, 1) := by decide +kernel
theorem dX11_kind_14 : decode cX11_kind 14 = .ok (.goto 4, 3) := by decide +kernel
theorem dX11_kind_17 : decode cX11_kind 17 = .ok (.iconst 0, 1) := by decide +kernel
theorem dX11_kind_18 : decode cX11_kind 18 = .ok (.aaload, 1) := by decide +kernel
theorem dX11_kind_19 : decode cX11_kind 19 = .ok (.areturn, 1) := by decide +kernel
theorem dX11_isRow_0 : decode cX11_isRow 0 = .ok (.iload_n 0, 1) := by decide +kernel
theorem dX11_isRow_1 : decode cX11_isRow 1 = .ok (.ifCond .ge 5, 3) := by decide +kernel
theorem dX11_isRow_4 : decode cX11_isRow 4 = .ok (.iconst 0, 1) := by decide +kernel
theorem dX11_isRow_5 : decode cX11_isRow 5 = .ok (.ireturn, 1) := by decide +kernel
theorem dX11_isRow_6 : decode cX11_isRow 6 = .ok (.iload_n 0, 1) := by decide +kernel
theorem dX11_isRow_7 : decode cX11_isRow 7 = .ok (.istore_n 1, 1) := by decide +kernel
theorem dX11_isRow_8 : decode cX11_isRow 8 = .ok (.iconst 0, 1) := by decide +kernel
theorem dX11_isRow_9 : decode cX11_isRow 9 = .ok (.istore_n 2, 1) := by decide +kernel
theorem dX11_isRow_10 : decode cX11_isRow 10 = .ok (.iload_n 2, 1) := by decide +kernel
theorem dX11_isRow_11 : decode cX11_isRow 11 = .ok (.getstatic 312, 3) := by decide +kernel
theorem dX11_isRow_14 : decode cX11_isRow 14 = .ok (.arraylength, 1) := by decide +kernel
theorem dX11_isRow_15 : decode cX11_isRow 15 = .ok (.if_icmp .ge 32, 3) := by decide +kernel
theorem dX11_isRow_18 : decode cX11_isRow 18 = .ok (.iload_n 1, 1) := by decide +kernel
theorem dX11_isRow_19 : decode cX11_isRow 19 = .ok (.ifCond .le 28, 3) := by decide +kernel
theorem dX11_isRow_22 : decode cX11_isRow 22 = .ok (.iload_n 1, 1) := by decide +kernel
theorem dX11_isRow_23 : decode cX11_isRow 23 = .ok (.bipush 10, 2) := by decide +kernel
theorem dX11_isRow_25 : decode cX11_isRow 25 = .ok (.irem, 1) := by decide +kernel
theorem dX11_isRow_26 : decode cX11_isRow 26 = .ok (.iconst 1, 1) := by decide +kernel
theorem dX11_isRow_27 : decode cX11_isRow 27 = .ok (.iconst 3, 1) := by decide +kernel
theorem dX11_isRow_28 : decode cX11_isRow 28 = .ok (.invokestatic 87, 3) := by decide +kernel
theorem dX11_isRow_31 : decode cX11_isRow 31 = .ok (.ifCond .ne 5, 3) := by decide +kernel
theorem dX11_isRow_34 : decode cX11_isRow 34 = .ok (.iconst 0, 1) := by decide +kernel
theorem dX11_isRow_35 : decode cX11_isRow 35 = .ok (.ireturn, 1) := by decide +kernel
theorem dX11_isRow_36 : decode cX11_isRow 36 = .ok (.iload_n 1, 1) := by decide +kernel
theorem dX11_isRow_37 : decode cX11_isRow 37 = .ok (.bipush 10, 2) := by decide +kernel
theorem dX11_isRow_39 : decode cX11_isRow 39 = .ok (.idiv, 1) := by decide +kernel
theorem dX11_isRow_40 : decode cX11_isRow 40 = .ok (.istore_n 1, 1) := by decide +kernel
theorem dX11_isRow_41 : decode cX11_isRow 41 = .ok (.iinc 2 1, 3) := by decide +kernel
theorem dX11_isRow_44 : decode cX11_isRow 44 = .ok (.goto (-34), 3) := by decide +kernel
theorem dX11_isRow_47 : decode cX11_isRow 47 = .ok (.iload_n 1, 1) := by decide +kernel
theorem dX11_isRow_48 : decode cX11_isRow 48 = .ok (.ifCond .ne 7, 3) := by decide +kernel
theorem dX11_isRow_51 : decode cX11_isRow 51 = .ok (.iconst 1, 1) := by decide +kernel
theorem dX11_isRow_52 : decode cX11_isRow 52 = .ok (.goto 4, 3) := by decide +kernel
theorem dX11_isRow_55 : decode cX11_isRow 55 = .ok (.iconst 0, 1) := by decide +kernel
theorem dX11_isRow_56 : decode cX11_isRow 56 = .ok (.ireturn, 1) := by decide +kernel
theorem dX11_figuresOf_0 : decode cX11_figuresOf 0 = .ok (.iconst 0, 1) := by decide +kernel
theorem dX11_figuresOf_1 : decode cX11_figuresOf 1 = .ok (.istore_n 1, 1) := by decide +kernel
theorem dX11_figuresOf_2 : decode cX11_figuresOf 2 = .ok (.iconst 0, 1) := by decide +kernel
theorem dX11_figuresOf_3 : decode cX11_figuresOf 3 = .ok (.istore_n 2, 1) := by decide +kernel
theorem dX11_figuresOf_4 : decode cX11_figuresOf 4 = .ok (.iload_n 2, 1) := by decide +kernel
theorem dX11_figuresOf_5 : decode cX11_figuresOf 5 = .ok (.getstatic 312, 3) := by decide +kernel
theorem dX11_figuresOf_8 : decode cX11_figuresOf 8 = .ok (.arraylength, 1) := by decide +kernel
theorem dX11_figuresOf_9 : decode cX11_figuresOf 9 = .ok (.if_icmp .ge 29, 3) := by decide +kernel
theorem dX11_figuresOf_12 : decode cX11_figuresOf 12 = .ok (.iload_n 1, 1) := by decide +kernel
theorem dX11_figuresOf_13 : decode cX11_figuresOf 13 = .ok (.iload_n 0, 1) := by decide +kernel
theorem dX11_figuresOf_14 : decode cX11_figuresOf 14 = .ok (.getstatic 312, 3) := by decide +kernel
theorem dX11_figuresOf_17 : decode cX11_figuresOf 17 = .ok (.iload_n 2, 1) := by decide +kernel
theorem dX11_figuresOf_18 : decode cX11_figuresOf 18 = .ok (.iaload, 1) := by decide +kernel
theorem dX11_figuresOf_19 : decode cX11_figuresOf 19 = .ok (.if_icmp .lt 7, 3) := by decide +kernel
theorem dX11_figuresOf_22 : decode cX11_figuresOf 22 = .ok (.iconst 1, 1) := by decide +kernel
theorem dX11_figuresOf_23 : decode cX11_figuresOf 23 = .ok (.goto 4, 3) := by decide +kernel
theorem dX11_figuresOf_26 : decode cX11_figuresOf 26 = .ok (.iconst 0, 1) := by decide +kernel
theorem dX11_figuresOf_27 : decode cX11_figuresOf 27 = .ok (.invokestatic 166, 3) := by decide +kernel
theorem dX11_figuresOf_30 : decode cX11_figuresOf 30 = .ok (.iadd, 1) := by decide +kernel
theorem dX11_figuresOf_31 : decode cX11_figuresOf 31 = .ok (.istore_n 1, 1) := by decide +kernel
theorem dX11_figuresOf_32 : decode cX11_figuresOf 32 = .ok (.iinc 2 1, 3) := by decide +kernel
theorem dX11_figuresOf_35 : decode cX11_figuresOf 35 = .ok (.goto (-31), 3) := by decide +kernel
theorem dX11_figuresOf_38 : decode cX11_figuresOf 38 = .ok (.iload_n 1, 1) := by decide +kernel
theorem dX11_figuresOf_39 : decode cX11_figuresOf 39 = .ok (.ireturn, 1) := by decide +kernel
theorem dX11_paceOf_0 : decode cX11_paceOf 0 = .ok (.iload_n 1, 1) := by decide +kernel
theorem dX11_paceOf_1 : decode cX11_paceOf 1 = .ok (.iconst 0, 1) := by decide +kernel
theorem dX11_paceOf_2 : decode cX11_paceOf 2 = .ok (.getstatic 312, 3) := by decide +kernel
theorem dX11_paceOf_5 : decode cX11_paceOf 5 = .ok (.arraylength, 1) := by decide +kernel
theorem dX11_paceOf_6 : decode cX11_paceOf 6 = .ok (.iconst 1, 1) := by decide +kernel
theorem dX11_paceOf_7 : decode cX11_paceOf 7 = .ok (.isub, 1) := by decide +kernel
theorem dX11_paceOf_8 : decode cX11_paceOf 8 = .ok (.invokestatic 87, 3) := by decide +kernel
theorem dX11_paceOf_11 : decode cX11_paceOf 11 = .ok (.ifCond .eq 16, 3) := by decide +kernel
theorem dX11_paceOf_14 : decode cX11_paceOf 14 = .ok (.iload_n 0, 1) := by decide +kernel
theorem dX11_paceOf_15 : decode cX11_paceOf 15 = .ok (.getstatic 312, 3) := by decide +kernel
theorem dX11_paceOf_18 : decode cX11_paceOf 18 = .ok (.iload_n 1, 1) := by decide +kernel
theorem dX11_paceOf_19 : decode cX11_paceOf 19 = .ok (.iaload, 1) := by decide +kernel
theorem dX11_paceOf_20 : decode cX11_paceOf 20 = .ok (.idiv, 1) := by decide +kernel
theorem dX11_paceOf_21 : decode cX11_paceOf 21 = .ok (.bipush 10, 2) := by decide +kernel
theorem dX11_paceOf_23 : decode cX11_paceOf 23 = .ok (.irem, 1) := by decide +kernel
theorem dX11_paceOf_24 : decode cX11_paceOf 24 = .ok (.goto 4, 3) := by decide +kernel
theorem dX11_paceOf_27 : decode cX11_paceOf 27 = .ok (.iconst 0, 1) := by decide +kernel
theorem dX11_paceOf_28 : decode cX11_paceOf 28 = .ok (.ireturn, 1) := by decide +kernel
theorem dX11_tryRow_0 : decode cX11_tryRow 0 = .ok (.iload 4, 2) := by decide +kernel
theorem dX11_tryRow_2 : decode cX11_tryRow 2 = .ok (.invokestatic 253, 3) := by decide +kernel
theorem dX11_tryRow_5 : decode cX11_tryRow 5 = .ok (.istore 7, 2) := by decide +kernel
theorem dX11_tryRow_7 : decode cX11_tryRow 7 = .ok (.aload_n 0, 1) := by decide +kernel
theorem dX11_tryRow_8 : decode cX11_tryRow 8 = .ok (.getfield 39, 3) := by decide +kernel
theorem dX11_tryRow_11 : decode cX11_tryRow 11 = .ok (.iload_n 2, 1) := by decide +kernel
theorem dX11_tryRow_12 : decode cX11_tryRow 12 = .ok (.iload_n 3, 1) := by decide +kernel
theorem dX11_tryRow_13 : decode cX11_tryRow 13 = .ok (.aload_n 0, 1) := by decide +kernel
theorem dX11_tryRow_14 : decode cX11_tryRow 14 = .ok (.getfield 18, 3) := by decide +kernel
theorem dX11_tryRow_17 : decode cX11_tryRow 17 = .ok (.iload_n 2, 1) := by decide +kernel
theorem dX11_tryRow_18 : decode cX11_tryRow 18 = .ok (.invokevirtual 155, 3) := by decide +kernel
theorem dX11_tryRow_21 : decode cX11_tryRow 21 = .ok (.invokevirtual 158, 3) := by decide +kernel
theorem dX11_tryRow_24 : decode cX11_tryRow 24 = .ok (.iconst 0, 1) := by decide +kernel
theorem dX11_tryRow_25 : decode cX11_tryRow 25 = .ok (.istore 8, 2) := by decide +kernel
theorem dX11_tryRow_27 : decode cX11_tryRow 27 = .ok (.iload 8, 2) := by decide +kernel
theorem dX11_tryRow_29 : decode cX11_tryRow 29 = .ok (.iload 7, 2) := by decide +kernel
theorem dX11_tryRow_31 : decode cX11_tryRow 31 = .ok (.if_icmp .ge 74, 3) := by decide +kernel
theorem dX11_tryRow_34 : decode cX11_tryRow 34 = .ok (.aload_n 0, 1) := by decide +kernel
theorem dX11_tryRow_35 : decode cX11_tryRow 35 = .ok (.getfield 39, 3) := by decide +kernel
theorem dX11_tryRow_38 : decode cX11_tryRow 38 = .ok (.aload_n 0, 1) := by decide +kernel
theorem dX11_tryRow_39 : decode cX11_tryRow 39 = .ok (.getfield 18, 3) := by decide +kernel
theorem dX11_tryRow_42 : decode cX11_tryRow 42 = .ok (.getfield 106, 3) := by decide +kernel
theorem dX11_tryRow_45 : decode cX11_tryRow 45 = .ok (.invokevirtual 173, 3) := by decide +kernel
theorem dX11_tryRow_48 : decode cX11_tryRow 48 = .ok (.ifCond .ne 57, 3) := by decide +kernel
theorem dX11_tryRow_51 : decode cX11_tryRow 51 = .ok (.iload 4, 2) := by decide +kernel
theorem dX11_tryRow_53 : decode cX11_tryRow 53 = .ok (.iload 7, 2) := by decide +kernel
theorem dX11_tryRow_55 : decode cX11_tryRow 55 = .ok (.iconst 1, 1) := by decide +kernel
theorem dX11_tryRow_56 : decode cX11_tryRow 56 = .ok (.isub, 1) := by decide +kernel
theorem dX11_tryRow_57 : decode cX11_tryRow 57 = .ok (.iload 8, 2) := by decide +kernel
theorem dX11_tryRow_59 : decode cX11_tryRow 59 = .ok (.isub, 1) := by decide +kernel
theorem dX11_tryRow_60 : decode cX11_tryRow 60 = .ok (.invokestatic 256, 3) := by decide +kernel
theorem dX11_tryRow_63 : decode cX11_tryRow 63 = .ok (.istore 9, 2) := by decide +kernel
theorem dX11_tryRow_65 : decode cX11_tryRow 65 = .ok (.aload_n 0, 1) := by decide +kernel
theorem dX11_tryRow_66 : decode cX11_tryRow 66 = .ok (.getfield 39, 3) := by decide +kernel
theorem dX11_tryRow_69 : decode cX11_tryRow 69 = .ok (.aload_n 0, 1) := by decide +kernel
theorem dX11_tryRow_70 : decode cX11_tryRow 70 = .ok (.getfield 18, 3) := by decide +kernel
theorem dX11_tryRow_73 : decode cX11_tryRow 73 = .ok (.getfield 106, 3) := by decide +kernel
theorem dX11_tryRow_76 : decode cX11_tryRow 76 = .ok (.aload_n 0, 1) := by decide +kernel
theorem dX11_tryRow_77 : decode cX11_tryRow 77 = .ok (.iload_n 1, 1) := by decide +kernel
theorem dX11_tryRow_78 : decode cX11_tryRow 78 = .ok (.invokevirtual 185, 3) := by decide +kernel
theorem dX11_tryRow_81 : decode cX11_tryRow 81 = .ok (.iload 9, 2) := by decide +kernel
theorem dX11_tryRow_83 : decode cX11_tryRow 83 = .ok (.iload 8, 2) := by decide +kernel
theorem dX11_tryRow_85 : decode cX11_tryRow 85 = .ok (.iload 5, 2) := by decide +kernel
theorem dX11_tryRow_87 : decode cX11_tryRow 87 = .ok (.if_icmp .ne 8, 3) := by decide +kernel
theorem dX11_tryRow_90 : decode cX11_tryRow 90 = .ok (.iload 6, 2) := by decide +kernel
theorem dX11_tryRow_92 : decode cX11_tryRow 92 = .ok (.goto 4, 3) := by decide +kernel
theorem dX11_tryRow_95 : decode cX11_tryRow 95 = .ok (.iconst 0, 1) := by decide +kernel
theorem dX11_tryRow_96 : decode cX11_tryRow 96 = .ok (.invokevirtual 189, 3) := by decide +kernel
theorem dX11_tryRow_99 : decode cX11_tryRow 99 = .ok (.iinc 8 1, 3) := by decide +kernel
theorem dX11_tryRow_102 : decode cX11_tryRow 102 = .ok (.goto (-75), 3) := by decide +kernel
theorem dX11_tryRow_105 : decode cX11_tryRow 105 = .ok (.return_, 1) := by decide +kernel
theorem dX11_firstPace_0 : decode cX11_firstPace 0 = .ok (.aload_n 0, 1) := by decide +kernel
theorem dX11_firstPace_1 : decode cX11_firstPace 1 = .ok (.getfield 39, 3) := by decide +kernel
theorem dX11_firstPace_4 : decode cX11_firstPace 4 = .ok (.iconst 0, 1) := by decide +kernel
theorem dX11_firstPace_5 : decode cX11_firstPace 5 = .ok (.iload_n 3, 1) := by decide +kernel
theorem dX11_firstPace_6 : decode cX11_firstPace 6 = .ok (.iload_n 2, 1) := by decide +kernel
theorem dX11_firstPace_7 : decode cX11_firstPace 7 = .ok (.invokevirtual 158, 3) := by decide +kernel
theorem dX11_firstPace_10 : decode cX11_firstPace 10 = .ok (.iconst (-1), 1) := by decide +kernel
theorem dX11_firstPace_11 : decode cX11_firstPace 11 = .ok (.istore 5, 2) := by decide +kernel
theorem dX11_firstPace_13 : decode cX11_firstPace 13 = .ok (.iconst 0, 1) := by decide +kernel
theorem dX11_firstPace_14 : decode cX11_firstPace 14 = .ok (.istore 6, 2) := by decide +kernel
theorem dX11_firstPace_16 : decode cX11_firstPace 16 = .ok (.iload 6, 2) := by decide +kernel
theorem dX11_firstPace_18 : decode cX11_firstPace 18 = .ok (.iload 4, 2) := by decide +kernel
theorem dX11_firstPace_20 : decode cX11_firstPace 20 = .ok (.if_icmp .gt 72, 3) := by decide +kernel
theorem dX11_firstPace_23 : decode cX11_firstPace 23 = .ok (.iload 6, 2) := by decide +kernel
theorem dX11_firstPace_25 : decode cX11_firstPace 25 = .ok (.bipush 15, 2) := by decide +kernel
theorem dX11_firstPace_27 : decode cX11_firstPace 27 = .ok (.if_icmp .ge 65, 3) := by decide +kernel
theorem dX11_firstPace_30 : decode cX11_firstPace 30 = .ok (.aload_n 0, 1) := by decide +kernel
theorem dX11_firstPace_31 : decode cX11_firstPace 31 = .ok (.getfield 46, 3) := by decide +kernel
theorem dX11_firstPace_34 : decode cX11_firstPace 34 = .ok (.aload_n 0, 1) := by decide +kernel
theorem dX11_firstPace_35 : decode cX11_firstPace 35 = .ok (.getfield 18, 3) := by decide +kernel
theorem dX11_firstPace_38 : decode cX11_firstPace 38 = .ok (.getfield 106, 3) := by decide +kernel
theorem dX11_firstPace_41 : decode cX11_firstPace 41 = .ok (.aload_n 1, 1) := by decide +kernel
theorem dX11_firstPace_42 : decode cX11_firstPace 42 = .ok (.aload_n 0, 1) := by decide +kernel
theorem dX11_firstPace_43 : decode cX11_firstPace 43 = .ok (.getfield 39, 3) := by decide +kernel
theorem dX11_firstPace_46 : decode cX11_firstPace 46 = .ok (.getfield 193, 3) := by decide +kernel
theorem dX11_firstPace_49 : decode cX11_firstPace 49 = .ok (.aload_n 0, 1) := by decide +kernel
theorem dX11_firstPace_50 : decode cX11_firstPace 50 = .ok (.getfield 39, 3) := by decide +kernel
theorem dX11_firstPace_53 : decode cX11_firstPace 53 = .ok (.getfield 208, 3) := by decide +kernel
theorem dX11_firstPace_56 : decode cX11_firstPace 56 = .ok (.aload_n 0, 1) := by decide +kernel
theorem dX11_firstPace_57 : decode cX11_firstPace 57 = .ok (.getfield 39, 3) := by decide +kernel
theorem dX11_firstPace_60 : decode cX11_firstPace 60 = .ok (.getfield 199, 3) := by decide +kernel
theorem dX11_firstPace_63 : decode cX11_firstPace 63 = .ok (.invokevirtual 315, 3) := by decide +kernel
theorem dX11_firstPace_66 : decode cX11_firstPace 66 = .ok (.istore 5, 2) := by decide +kernel
theorem dX11_firstPace_68 : decode cX11_firstPace 68 = .ok (.aload_n 0, 1) := by decide +kernel
theorem dX11_firstPace_69 : decode cX11_firstPace 69 = .ok (.getfield 39, 3) := by decide +kernel
theorem dX11_firstPace_72 : decode cX11_firstPace 72 = .ok (.aload_n 0, 1) := by decide +kernel
theorem dX11_firstPace_73 : decode cX11_firstPace 73 = .ok (.getfield 18, 3) := by decide +kernel
theorem dX11_firstPace_76 : decode cX11_firstPace 76 = .ok (.getfield 106, 3) := by decide +kernel
theorem dX11_firstPace_79 : decode cX11_firstPace 79 = .ok (.aload_n 1, 1) := by decide +kernel
theorem dX11_firstPace_80 : decode cX11_firstPace 80 = .ok (.iload 5, 2) := by decide +kernel
theorem dX11_firstPace_82 : decode cX11_firstPace 82 = .ok (.iconst 0, 1) := by decide +kernel
theorem dX11_firstPace_83 : decode cX11_firstPace 83 = .ok (.invokevirtual 189, 3) := by decide +kernel
theorem dX11_firstPace_86 : decode cX11_firstPace 86 = .ok (.iinc 6 1, 3) := by decide +kernel
theorem dX11_firstPace_89 : decode cX11_firstPace 89 = .ok (.goto (-73), 3) := by decide +kernel
theorem dX11_firstPace_92 : decode cX11_firstPace 92 = .ok (.iload 5, 2) := by decide +kernel
theorem dX11_firstPace_94 : decode cX11_firstPace 94 = .ok (.ireturn, 1) := by decide +kernel
theorem dX11_kindsThatFit_0 : decode cX11_kindsThatFit 0 = .ok (.bipush 63, 2) := by decide +kernel
theorem dX11_kindsThatFit_2 : decode cX11_kindsThatFit 2 = .ok (.istore_n 2, 1) := by decide +kernel
theorem dX11_kindsThatFit_3 : decode cX11_kindsThatFit 3 = .ok (.iconst 0, 1) := by decide +kernel
theorem dX11_kindsThatFit_4 : decode cX11_kindsThatFit 4 = .ok (.istore_n 3, 1) := by decide +kernel
theorem dX11_kindsThatFit_5 : decode cX11_kindsThatFit 5 = .ok (.iload_n 3, 1) := by decide +kernel
theorem dX11_kindsThatFit_6 : decode cX11_kindsThatFit 6 = .ok (.aload_n 0, 1) := by decide +kernel
theorem dX11_kindsThatFit_7 : decode cX11_kindsThatFit 7 = .ok (.getfield 18, 3) := by decide +kernel
theorem dX11_kindsThatFit_10 : decode cX11_kindsThatFit 10 = .ok (.getfield 239, 3) := by decide +kernel
theorem dX11_kindsThatFit_13 : decode cX11_kindsThatFit 13 = .ok (.if_icmp .ge 106, 3) := by decide +kernel
theorem dX11_kindsThatFit_16 : decode cX11_kindsThatFit 16 = .ok (.iload_n 3, 1) := by decide +kernel
theorem dX11_kindsThatFit_17 : decode cX11_kindsThatFit 17 = .ok (.bipush 6, 2) := by decide +kernel
theorem dX11_kindsThatFit_19 : decode cX11_kindsThatFit 19 = .ok (.if_icmp .ge 100, 3) := by decide +kernel
theorem dX11_kindsThatFit_22 : decode cX11_kindsThatFit 22 = .ok (.iconst 0, 1) := by decide +kernel
theorem dX11_kindsThatFit_23 : decode cX11_kindsThatFit 23 = .ok (.istore 4, 2) := by decide +kernel
theorem dX11_kindsThatFit_25 : decode cX11_kindsThatFit 25 = .ok (.iload 4, 2) := by decide +kernel
theorem dX11_kindsThatFit_27 : decode cX11_kindsThatFit 27 = .ok (.bipush 6, 2) := by decide +kernel
theorem dX11_kindsThatFit_29 : decode cX11_kindsThatFit 29 = .ok (.if_icmp .ge 84, 3) := by decide +kernel
theorem dX11_kindsThatFit_32 : decode cX11_kindsThatFit 32 = .ok (.aload_n 0, 1) := by decide +kernel
theorem dX11_kindsThatFit_33 : decode cX11_kindsThatFit 33 = .ok (.getfield 18, 3) := by decide +kernel
theorem dX11_kindsThatFit_36 : decode cX11_kindsThatFit 36 = .ok (.getfield 319, 3) := by decide +kernel
theorem dX11_kindsThatFit_39 : decode cX11_kindsThatFit 39 = .ok (.iload_n 3, 1) := by decide +kernel
theorem dX11_kindsThatFit_40 : decode cX11_kindsThatFit 40 = .ok (.iaload, 1) := by decide +kernel
theorem dX11_kindsThatFit_41 : decode cX11_kindsThatFit 41 = .ok (.iload_n 1, 1) := by decide +kernel
theorem dX11_kindsThatFit_42 : decode cX11_kindsThatFit 42 = .ok (.if_icmp .ne 71, 3) := by decide +kernel
theorem dX11_kindsThatFit_45 : decode cX11_kindsThatFit 45 = .ok (.aload_n 0, 1) := by decide +kernel
theorem dX11_kindsThatFit_46 : decode cX11_kindsThatFit 46 = .ok (.iload 4, 2) := by decide +kernel
theorem dX11_kindsThatFit_48 : decode cX11_kindsThatFit 48 = .ok (.iload_n 1, 1) := by decide +kernel
theorem dX11_kindsThatFit_49 : decode cX11_kindsThatFit 49 = .ok (.aload_n 0, 1) := by decide +kernel
theorem dX11_kindsThatFit_50 : decode cX11_kindsThatFit 50 = .ok (.getfield 18, 3) := by decide +kernel
theorem dX11_kindsThatFit_53 : decode cX11_kindsThatFit 53 = .ok (.getfield 322, 3) := by decide +kernel
theorem dX11_kindsThatFit_56 : decode cX11_kindsThatFit 56 = .ok (.iload_n 3, 1) := by decide +kernel
theorem dX11_kindsThatFit_57 : decode cX11_kindsThatFit 57 = .ok (.iaload, 1) := by decide +kernel
theorem dX11_kindsThatFit_58 : decode cX11_kindsThatFit 58 = .ok (.aload_n 0, 1) := by decide +kernel
theorem dX11_kindsThatFit_59 : decode cX11_kindsThatFit 59 = .ok (.getfield 18, 3) := by decide +kernel
theorem dX11_kindsThatFit_62 : decode cX11_kindsThatFit 62 = .ok (.getfield 325, 3) := by decide +kernel
theorem dX11_kindsThatFit_65 : decode cX11_kindsThatFit 65 = .ok (.iload_n 3, 1) := by decide +kernel
theorem dX11_kindsThatFit_66 : decode cX11_kindsThatFit 66 = .ok (.iaload, 1) := by decide +kernel
theorem dX11_kindsThatFit_67 : decode cX11_kindsThatFit 67 = .ok (.iconst (-1), 1) := by decide +kernel
theorem dX11_kindsThatFit_68 : decode cX11_kindsThatFit 68 = .ok (.iconst 0, 1) := by decide +kernel
theorem dX11_kindsThatFit_69 : decode cX11_kindsThatFit 69 = .ok (.invokevirtual 217, 3) := by decide +kernel
theorem dX11_kindsThatFit_72 : decode cX11_kindsThatFit 72 = .ok (.aload_n 0, 1) := by decide +kernel
theorem dX11_kindsThatFit_73 : decode cX11_kindsThatFit 73 = .ok (.getfield 39, 3) := by decide +kernel
theorem dX11_kindsThatFit_76 : decode cX11_kindsThatFit 76 = .ok (.aload_n 0, 1) := by decide +kernel
theorem dX11_kindsThatFit_77 : decode cX11_kindsThatFit 77 = .ok (.getfield 18, 3) := by decide +kernel
theorem dX11_kindsThatFit_80 : decode cX11_kindsThatFit 80 = .ok (.getfield 106, 3) := by decide +kernel
theorem dX11_kindsThatFit_83 : decode cX11_kindsThatFit 83 = .ok (.invokevirtual 263, 3) := by decide +kernel
theorem dX11_kindsThatFit_86 : decode cX11_kindsThatFit 86 = .ok (.aload_n 0, 1) := by decide +kernel
theorem dX11_kindsThatFit_87 : decode cX11_kindsThatFit 87 = .ok (.getfield 18, 3) := by decide +kernel
theorem dX11_kindsThatFit_90 : decode cX11_kindsThatFit 90 = .ok (.getfield 328, 3) := by decide +kernel
theorem dX11_kindsThatFit_93 : decode cX11_kindsThatFit 93 = .ok (.iload_n 3, 1) := by decide +kernel
theorem dX11_kindsThatFit_94 : decode cX11_kindsThatFit 94 = .ok (.iaload, 1) := by decide +kernel
theorem dX11_kindsThatFit_95 : decode cX11_kindsThatFit 95 = .ok (.if_icmp .eq 12, 3) := by decide +kernel
theorem dX11_kindsThatFit_98 : decode cX11_kindsThatFit 98 = .ok (.iload_n 2, 1) := by decide +kernel
theorem dX11_kindsThatFit_99 : decode cX11_kindsThatFit 99 = .ok (.iconst 1, 1) := by decide +kernel
theorem dX11_kindsThatFit_100 : decode cX11_kindsThatFit 100 = .ok (.iload 4, 2) := by decide +kernel
theorem dX11_kindsThatFit_102 : decode cX11_kindsThatFit 102 = .ok (.ishl, 1) := by decide +kernel
theorem dX11_kindsThatFit_103 : decode cX11_kindsThatFit 103 = .ok (.iconst (-1), 1) := by decide +kernel
theorem dX11_kindsThatFit_104 : decode cX11_kindsThatFit 104 = .ok (.ixor, 1) := by decide +kernel
theorem dX11_kindsThatFit_105 : decode cX11_kindsThatFit 105 = .ok (.iand, 1) := by decide +kernel
theorem dX11_kindsThatFit_106 : decode cX11_kindsThatFit 106 = .ok (.istore_n 2, 1) := by decide +kernel
theorem dX11_kindsThatFit_107 : decode cX11_kindsThatFit 107 = .ok (.iinc 4 1, 3) := by decide +kernel
theorem dX11_kindsThatFit_110 : decode cX11_kindsThatFit 110 = .ok (.goto (-85), 3) := by decide +kernel
theorem dX11_kindsThatFit_113 : decode cX11_kindsThatFit 113 = .ok (.iinc 3 1, 3) := by decide +kernel
theorem dX11_kindsThatFit_116 : decode cX11_kindsThatFit 116 = .ok (.goto (-111), 3) := by decide +kernel
theorem dX11_kindsThatFit_119 : decode cX11_kindsThatFit 119 = .ok (.iload_n 2, 1) := by decide +kernel
theorem dX11_kindsThatFit_120 : decode cX11_kindsThatFit 120 = .ok (.ireturn, 1) := by decide +kernel
theorem dX11_mostThatEndAlike_0 : decode cX11_mostThatEndAlike 0 = .ok (.iconst 0, 1) := by decide +kernel
theorem dX11_mostThatEndAlike_1 : decode cX11_mostThatEndAlike 1 = .ok (.istore 4, 2) := by decide +kernel
theorem dX11_mostThatEndAlike_3 : decode cX11_mostThatEndAlike 3 = .ok (.iload 4, 2) := by decide +kernel
theorem dX11_mostThatEndAlike_5 : decode cX11_mostThatEndAlike 5 = .ok (.aload_n 0, 1) := by decide +kernel
theorem dX11_mostThatEndAlike_6 : decode cX11_mostThatEndAlike 6 = .ok (.getfield 50, 3) := by decide +kernel
theorem dX11_mostThatEndAlike_9 : decode cX11_mostThatEndAlike 9 = .ok (.arraylength, 1) := by decide +kernel
theorem dX11_mostThatEndAlike_10 : decode cX11_mostThatEndAlike 10 = .ok (.if_icmp .ge 17, 3) := by decide +kernel
theorem dX11_mostThatEndAlike_13 : decode cX11_mostThatEndAlike 13 = .ok (.aload_n 0, 1) := by decide +kernel
theorem dX11_mostThatEndAlike_14 : decode cX11_mostThatEndAlike 14 = .ok (.getfield 50, 3) := by decide +kernel
theorem dX11_mostThatEndAlike_17 : decode cX11_mostThatEndAlike 17 = .ok (.iload 4, 2) := by decide +kernel
theorem dX11_mostThatEndAlike_19 : decode cX11_mostThatEndAlike 19 = .ok (.iconst 0, 1) := by decide +kernel
theorem dX11_mostThatEndAlike_20 : decode cX11_mostThatEndAlike 20 = .ok (.iastore, 1) := by decide +kernel
theorem dX11_mostThatEndAlike_21 : decode cX11_mostThatEndAlike 21 = .ok (.iinc 4 1, 3) := by decide +kernel
theorem dX11_mostThatEndAlike_24 : decode cX11_mostThatEndAlike 24 = .ok (.goto (-21), 3) := by decide +kernel
theorem dX11_mostThatEndAlike_27 : decode cX11_mostThatEndAlike 27 = .ok (.iconst 0, 1) := by decide +kernel
theorem dX11_mostThatEndAlike_28 : decode cX11_mostThatEndAlike 28 = .ok (.istore 4, 2) := by decide +kernel
theorem dX11_mostThatEndAlike_30 : decode cX11_mostThatEndAlike 30 = .ok (.iconst 0, 1) := by decide +kernel
theorem dX11_mostThatEndAlike_31 : decode cX11_mostThatEndAlike 31 = .ok (.istore 5, 2) := by decide +kernel
theorem dX11_mostThatEndAlike_33 : decode cX11_mostThatEndAlike 33 = .ok (.iload 5, 2) := by decide +kernel
theorem dX11_mostThatEndAlike_35 : decode cX11_mostThatEndAlike 35 = .ok (.bipush 6, 2) := by decide +kernel
theorem dX11_mostThatEndAlike_37 : decode cX11_mostThatEndAlike 37 = .ok (.if_icmp .ge 69, 3) := by decide +kernel
theorem dX11_mostThatEndAlike_40 : decode cX11_mostThatEndAlike 40 = .ok (.iload_n 2, 1) := by decide +kernel
theorem dX11_mostThatEndAlike_41 : decode cX11_mostThatEndAlike 41 = .ok (.iconst 1, 1) := by decide +kernel
theorem dX11_mostThatEndAlike_42 : decode cX11_mostThatEndAlike 42 = .ok (.iload 5, 2) := by decide +kernel
theorem dX11_mostThatEndAlike_44 : decode cX11_mostThatEndAlike 44 = .ok (.ishl, 1) := by decide +kernel
theorem dX11_mostThatEndAlike_45 : decode cX11_mostThatEndAlike 45 = .ok (.iand, 1) := by decide +kernel
theorem dX11_mostThatEndAlike_46 : decode cX11_mostThatEndAlike 46 = .ok (.ifCond .eq 54, 3) := by decide +kernel
theorem dX11_mostThatEndAlike_49 : decode cX11_mostThatEndAlike 49 = .ok (.aload_n 0, 1) := by decide +kernel
theorem dX11_mostThatEndAlike_50 : decode cX11_mostThatEndAlike 50 = .ok (.iload 5, 2) := by decide +kernel
theorem dX11_mostThatEndAlike_52 : decode cX11_mostThatEndAlike 52 = .ok (.iload_n 1, 1) := by decide +kernel
theorem dX11_mostThatEndAlike_53 : decode cX11_mostThatEndAlike 53 = .ok (.iload_n 3, 1) := by decide +kernel
theorem dX11_mostThatEndAlike_54 : decode cX11_mostThatEndAlike 54 = .ok (.invokevirtual 331, 3) := by decide +kernel
theorem dX11_mostThatEndAlike_57 : decode cX11_mostThatEndAlike 57 = .ok (.istore 6, 2) := by decide +kernel
theorem dX11_mostThatEndAlike_59 : decode cX11_mostThatEndAlike 59 = .ok (.iload 6, 2) := by decide +kernel
theorem dX11_mostThatEndAlike_61 : decode cX11_mostThatEndAlike 61 = .ok (.iconst 0, 1) := by decide +kernel
theorem dX11_mostThatEndAlike_62 : decode cX11_mostThatEndAlike 62 = .ok (.aload_n 0, 1) := by decide +kernel
theorem dX11_mostThatEndAlike_63 : decode cX11_mostThatEndAlike 63 = .ok (.getfield 50, 3) := by decide +kernel
theorem dX11_mostThatEndAlike_66 : decode cX11_mostThatEndAlike 66 = .ok (.arraylength, 1) := by decide +kernel
theorem dX11_mostThatEndAlike_67 : decode cX11_mostThatEndAlike 67 = .ok (.iconst 1, 1) := by decide +kernel
theorem dX11_mostThatEndAlike_68 : decode cX11_mostThatEndAlike 68 = .ok (.isub, 1) := by decide +kernel
theorem dX11_mostThatEndAlike_69 : decode cX11_mostThatEndAlike 69 = .ok (.invokestatic 87, 3) := by decide +kernel
theorem dX11_mostThatEndAlike_72 : decode cX11_mostThatEndAlike 72 = .ok (.ifCond .eq 28, 3) := by decide +kernel
theorem dX11_mostThatEndAlike_75 : decode cX11_mostThatEndAlike 75 = .ok (.aload_n 0, 1) := by decide +kernel
theorem dX11_mostThatEndAlike_76 : decode cX11_mostThatEndAlike 76 = .ok (.getfield 50, 3) := by decide +kernel
theorem dX11_mostThatEndAlike_79 : decode cX11_mostThatEndAlike 79 = .ok (.iload 6, 2) := by decide +kernel
theorem dX11_mostThatEndAlike_81 : decode cX11_mostThatEndAlike 81 = .ok (.dup2, 1) := by decide +kernel
theorem dX11_mostThatEndAlike_82 : decode cX11_mostThatEndAlike 82 = .ok (.iaload, 1) := by decide +kernel
theorem dX11_mostThatEndAlike_83 : decode cX11_mostThatEndAlike 83 = .ok (.iconst 1, 1) := by decide +kernel
theorem dX11_mostThatEndAlike_84 : decode cX11_mostThatEndAlike 84 = .ok (.iadd, 1) := by decide +kernel
theorem dX11_mostThatEndAlike_85 : decode cX11_mostThatEndAlike 85 = .ok (.iastore, 1) := by decide +kernel
theorem dX11_mostThatEndAlike_86 : decode cX11_mostThatEndAlike 86 = .ok (.iload 4, 2) := by decide +kernel
theorem dX11_mostThatEndAlike_88 : decode cX11_mostThatEndAlike 88 = .ok (.aload_n 0, 1) := by decide +kernel
theorem dX11_mostThatEndAlike_89 : decode cX11_mostThatEndAlike 89 = .ok (.getfield 50, 3) := by decide +kernel
theorem dX11_mostThatEndAlike_92 : decode cX11_mostThatEndAlike 92 = .ok (.iload 6, 2) := by decide +kernel
theorem dX11_mostThatEndAlike_94 : decode cX11_mostThatEndAlike 94 = .ok (.iaload, 1) := by decide +kernel
theorem dX11_mostThatEndAlike_95 : decode cX11_mostThatEndAlike 95 = .ok (.invokestatic 334, 3) := by decide +kernel
theorem dX11_mostThatEndAlike_98 : decode cX11_mostThatEndAlike 98 = .ok (.istore 4, 2) := by decide +kernel
theorem dX11_mostThatEndAlike_100 : decode cX11_mostThatEndAlike 100 = .ok (.iinc 5 1, 3) := by decide +kernel
theorem dX11_mostThatEndAlike_103 : decode cX11_mostThatEndAlike 103 = .ok (.goto (-70), 3) := by decide +kernel
theorem dX11_mostThatEndAlike_106 : decode cX11_mostThatEndAlike 106 = .ok (.iload 4, 2) := by decide +kernel
theorem dX11_mostThatEndAlike_108 : decode cX11_mostThatEndAlike 108 = .ok (.ireturn, 1) := by decide +kernel
theorem dX11_endOfPace_0 : decode cX11_endOfPace 0 = .ok (.aload_n 0, 1) := by decide +kernel
theorem dX11_endOfPace_1 : decode cX11_endOfPace 1 = .ok (.getfield 39, 3) := by decide +kernel
theorem dX11_endOfPace_4 : decode cX11_endOfPace 4 = .ok (.iload_n 2, 1) := by decide +kernel
theorem dX11_endOfPace_5 : decode cX11_endOfPace 5 = .ok (.iconst 0, 1) := by decide +kernel
theorem dX11_endOfPace_6 : decode cX11_endOfPace 6 = .ok (.aload_n 0, 1) := by decide +kernel
theorem dX11_endOfPace_7 : decode cX11_endOfPace 7 = .ok (.getfield 18, 3) := by decide +kernel
theorem dX11_endOfPace_10 : decode cX11_endOfPace 10 = .ok (.iload_n 2, 1) := by decide +kernel
theorem dX11_endOfPace_11 : decode cX11_endOfPace 11 = .ok (.invokevirtual 155, 3) := by decide +kernel
theorem dX11_endOfPace_14 : decode cX11_endOfPace 14 = .ok (.invokevirtual 158, 3) := by decide +kernel
theorem dX11_endOfPace_17 : decode cX11_endOfPace 17 = .ok (.iconst 0, 1) := by decide +kernel
theorem dX11_endOfPace_18 : decode cX11_endOfPace 18 = .ok (.istore 4, 2) := by decide +kernel
theorem dX11_endOfPace_20 : decode cX11_endOfPace 20 = .ok (.iload 4, 2) := by decide +kernel
theorem dX11_endOfPace_22 : decode cX11_endOfPace 22 = .ok (.bipush 15, 2) := by decide +kernel
theorem dX11_endOfPace_24 : decode cX11_endOfPace 24 = .ok (.if_icmp .ge 47, 3) := by decide +kernel
theorem dX11_endOfPace_27 : decode cX11_endOfPace 27 = .ok (.aload_n 0, 1) := by decide +kernel
theorem dX11_endOfPace_28 : decode cX11_endOfPace 28 = .ok (.getfield 39, 3) := by decide +kernel
theorem dX11_endOfPace_31 : decode cX11_endOfPace 31 = .ok (.aload_n 0, 1) := by decide +kernel
theorem dX11_endOfPace_32 : decode cX11_endOfPace 32 = .ok (.getfield 18, 3) := by decide +kernel
theorem dX11_endOfPace_35 : decode cX11_endOfPace 35 = .ok (.getfield 106, 3) := by decide +kernel
theorem dX11_endOfPace_38 : decode cX11_endOfPace 38 = .ok (.invokevirtual 173, 3) := by decide +kernel
theorem dX11_endOfPace_41 : decode cX11_endOfPace 41 = .ok (.ifCond .ne 30, 3) := by decide +kernel
theorem dX11_endOfPace_44 : decode cX11_endOfPace 44 = .ok (.aload_n 0, 1) := by decide +kernel
theorem dX11_endOfPace_45 : decode cX11_endOfPace 45 = .ok (.getfield 39, 3) := by decide +kernel
theorem dX11_endOfPace_48 : decode cX11_endOfPace 48 = .ok (.aload_n 0, 1) := by decide +kernel
theorem dX11_endOfPace_49 : decode cX11_endOfPace 49 = .ok (.getfield 18, 3) := by decide +kernel
theorem dX11_endOfPace_52 : decode cX11_endOfPace 52 = .ok (.getfield 106, 3) := by decide +kernel
theorem dX11_endOfPace_55 : decode cX11_endOfPace 55 = .ok (.aload_n 0, 1) := by decide +kernel
theorem dX11_endOfPace_56 : decode cX11_endOfPace 56 = .ok (.iload_n 1, 1) := by decide +kernel
theorem dX11_endOfPace_57 : decode cX11_endOfPace 57 = .ok (.invokevirtual 185, 3) := by decide +kernel
theorem dX11_endOfPace_60 : decode cX11_endOfPace 60 = .ok (.iload_n 3, 1) := by decide +kernel
theorem dX11_endOfPace_61 : decode cX11_endOfPace 61 = .ok (.iconst 0, 1) := by decide +kernel
theorem dX11_endOfPace_62 : decode cX11_endOfPace 62 = .ok (.invokevirtual 189, 3) := by decide +kernel
theorem dX11_endOfPace_65 : decode cX11_endOfPace 65 = .ok (.iinc 4 1, 3) := by decide +kernel
theorem dX11_endOfPace_68 : decode cX11_endOfPace 68 = .ok (.goto (-48), 3) := by decide +kernel
theorem dX11_endOfPace_71 : decode cX11_endOfPace 71 = .ok (.aload_n 0, 1) := by decide +kernel
theorem dX11_endOfPace_72 : decode cX11_endOfPace 72 = .ok (.getfield 39, 3) := by decide +kernel
theorem dX11_endOfPace_75 : decode cX11_endOfPace 75 = .ok (.getfield 193, 3) := by decide +kernel
theorem dX11_endOfPace_78 : decode cX11_endOfPace 78 = .ok (.ireturn, 1) := by decide +kernel
theorem dX11_commonDivisor_0 : decode cX11_commonDivisor 0 = .ok (.lload_n 0, 1) := by decide +kernel
theorem dX11_commonDivisor_1 : decode cX11_commonDivisor 1 = .ok (.lstore 4, 2) := by decide +kernel
theorem dX11_commonDivisor_3 : decode cX11_commonDivisor 3 = .ok (.lload_n 2, 1) := by decide +kernel
theorem dX11_commonDivisor_4 : decode cX11_commonDivisor 4 = .ok (.lstore 6, 2) := by decide +kernel
theorem dX11_commonDivisor_6 : decode cX11_commonDivisor 6 = .ok (.iconst 0, 1) := by decide +kernel
theorem dX11_commonDivisor_7 : decode cX11_commonDivisor 7 = .ok (.istore 8, 2) := by decide +kernel
theorem dX11_commonDivisor_9 : decode cX11_commonDivisor 9 = .ok (.iload 8, 2) := by decide +kernel
theorem dX11_commonDivisor_11 : decode cX11_commonDivisor 11 = .ok (.bipush 100, 2) := by decide +kernel
theorem dX11_commonDivisor_13 : decode cX11_commonDivisor 13 = .ok (.if_icmp .ge 31, 3) := by decide +kernel
theorem dX11_commonDivisor_16 : decode cX11_commonDivisor 16 = .ok (.lload 6, 2) := by decide +kernel
theorem dX11_commonDivisor_18 : decode cX11_commonDivisor 18 = .ok (.lconst 0, 1) := by decide +kernel
theorem dX11_commonDivisor_19 : decode cX11_commonDivisor 19 = .ok (.lcmp, 1) := by decide +kernel
theorem dX11_commonDivisor_20 : decode cX11_commonDivisor 20 = .ok (.ifCond .eq 24, 3) := by decide +kernel
theorem dX11_commonDivisor_23 : decode cX11_commonDivisor 23 = .ok (.lload 4, 2) := by decide +kernel
theorem dX11_commonDivisor_25 : decode cX11_commonDivisor 25 = .ok (.lload 6, 2) := by decide +kernel
theorem dX11_commonDivisor_27 : decode cX11_commonDivisor 27 = .ok (.lrem, 1) := by decide +kernel
theorem dX11_commonDivisor_28 : decode cX11_commonDivisor 28 = .ok (.lstore 9, 2) := by decide +kernel
theorem dX11_commonDivisor_30 : decode cX11_commonDivisor 30 = .ok (.lload 6, 2) := by decide +kernel
theorem dX11_commonDivisor_32 : decode cX11_commonDivisor 32 = .ok (.lstore 4, 2) := by decide +kernel
theorem dX11_commonDivisor_34 : decode cX11_commonDivisor 34 = .ok (.lload 9, 2) := by decide +kernel
theorem dX11_commonDivisor_36 : decode cX11_commonDivisor 36 = .ok (.lstore 6, 2) := by decide +kernel
theorem dX11_commonDivisor_38 : decode cX11_commonDivisor 38 = .ok (.iinc 8 1, 3) := by decide +kernel
theorem dX11_commonDivisor_41 : decode cX11_commonDivisor 41 = .ok (.goto (-32), 3) := by decide +kernel
theorem dX11_commonDivisor_44 : decode cX11_commonDivisor 44 = .ok (.lload 4, 2) := by decide +kernel
theorem dX11_commonDivisor_46 : decode cX11_commonDivisor 46 = .ok (.lreturn, 1) := by decide +kernel
theorem dX12_init_0 : decode cX12_init 0 = .ok (.aload_n 0, 1) := by decide +kernel
theorem dX12_init_1 : decode cX12_init 1 = .ok (.invokespecial 1, 3) := by decide +kernel
theorem dX12_init_4 : decode cX12_init 4 = .ok (.aload_n 0, 1) := by decide +kernel
theorem dX12_init_5 : decode cX12_init 5 = .ok (.bipush 98, 2) := by decide +kernel
theorem dX12_init_7 : decode cX12_init 7 = .ok (.newarray .int, 2) := by decide +kernel
theorem dX12_init_9 : decode cX12_init 9 = .ok (.putfield 7, 3) := by decide +kernel
theorem dX12_init_12 : decode cX12_init 12 = .ok (.aload_n 0, 1) := by decide +kernel
theorem dX12_init_13 : decode cX12_init 13 = .ok (.sipush 196, 3) := by decide +kernel
theorem dX12_init_16 : decode cX12_init 16 = .ok (.newarray .int, 2) := by decide +kernel
theorem dX12_init_18 : decode cX12_init 18 = .ok (.putfield 13, 3) := by decide +kernel
theorem dX12_init_21 : decode cX12_init 21 = .ok (.aload_n 0, 1) := by decide +kernel
theorem dX12_init_22 : decode cX12_init 22 = .ok (.iconst 2, 1) := by decide +kernel
theorem dX12_init_23 : decode cX12_init 23 = .ok (.newarray .boolean, 2) := by decide +kernel
theorem dX12_init_25 : decode cX12_init 25 = .ok (.putfield 16, 3) := by decide +kernel
theorem dX12_init_28 : decode cX12_init 28 = .ok (.aload_n 0, 1) := by decide +kernel
theorem dX12_init_29 : decode cX12_init 29 = .ok (.iconst 3, 1) := by decide +kernel
theorem dX12_init_30 : decode cX12_init 30 = .ok (.newarray .int, 2) := by decide +kernel
theorem dX12_init_32 : decode cX12_init 32 = .ok (.putfield 20, 3) := by decide +kernel
theorem dX12_init_35 : decode cX12_init 35 = .ok (.aload_n 0, 1) := by decide +kernel
theorem dX12_init_36 : decode cX12_init 36 = .ok (.lconst 1, 1) := by decide +kernel
theorem dX12_init_37 : decode cX12_init 37 = .ok (.putfield 23, 3) := by decide +kernel
theorem dX12_init_40 : decode cX12_init 40 = .ok (.aload_n 0, 1) := by decide +kernel
theorem dX12_init_41 : decode cX12_init 41 = .ok (.bipush 16, 2) := by decide +kernel
theorem dX12_init_43 : decode cX12_init 43 = .ok (.newarray .int, 2) := by decide +kernel
theorem dX12_init_45 : decode cX12_init 45 = .ok (.putfield 27, 3) := by decide +kernel
theorem dX12_init_48 : decode cX12_init 48 = .ok (.aload_n 0, 1) := by decide +kernel
theorem dX12_init_49 : decode cX12_init 49 = .ok (.sipush 2400, 3) := by decide +kernel
theorem dX12_init_52 : decode cX12_init 52 = .ok (.newarray .int, 2) := by decide +kernel
theorem dX12_init_54 : decode cX12_init 54 = .ok (.putfield 30, 3) := by decide +kernel
theorem dX12_init_57 : decode cX12_init 57 = .ok (.aload_n 0, 1) := by decide +kernel
theorem dX12_init_58 : decode cX12_init 58 = .ok (.bipush 16, 2) := by decide +kernel
theorem dX12_init_60 : decode cX12_init 60 = .ok (.newarray .int, 2) := by decide +kernel
theorem dX12_init_62 : decode cX12_init 62 = .ok (.putfield 33, 3) := by decide +kernel
theorem dX12_init_65 : decode cX12_init 65 = .ok (.aload_n 0, 1) := by decide +kernel
theorem dX12_init_66 : decode cX12_init 66 = .ok (.bipush 25, 2) := by decide +kernel
theorem dX12_init_68 : decode cX12_init 68 = .ok (.newarray .long, 2) := by decide +kernel
theorem dX12_init_70 : decode cX12_init 70 = .ok (.putfield 36, 3) := by decide +kernel
theorem dX12_init_73 : decode cX12_init 73 = .ok (.aload_n 0, 1) := by decide +kernel
theorem dX12_init_74 : decode cX12_init 74 = .ok (.bipush 25, 2) := by decide +kernel
theorem dX12_init_76 : decode cX12_init 76 = .ok (.newarray .long, 2) := by decide +kernel
theorem dX12_init_78 : decode cX12_init 78 = .ok (.putfield 40, 3) := by decide +kernel
theorem dX12_init_81 : decode cX12_init 81 = .ok (.aload_n 0, 1) := by decide +kernel
theorem dX12_init_82 : decode cX12_init 82 = .ok (.sipush 150, 3) := by decide +kernel
theorem dX12_init_85 : decode cX12_init 85 = .ok (.newarray .int, 2) := by decide +kernel
theorem dX12_init_87 : decode cX12_init 87 = .ok (.putfield 43, 3) := by decide +kernel
theorem dX12_init_90 : decode cX12_init 90 = .ok (.aload_n 0, 1) := by decide +kernel
theorem dX12_init_91 : decode cX12_init 91 = .ok (.bipush 66, 2) := by decide +kernel
theorem dX12_init_93 : decode cX12_init 93 = .ok (.newarray .int, 2) := by decide +kernel
theorem dX12_init_95 : decode cX12_init 95 = .ok (.putfield 46, 3) := by decide +kernel
theorem dX12_init_98 : decode cX12_init 98 = .ok (.aload_n 0, 1) := by decide +kernel
theorem dX12_init_99 : decode cX12_init 99 = .ok (.iconst 2, 1) := by decide +kernel
theorem dX12_init_100 : decode cX12_init 100 = .ok (.newarray .int, 2) := by decide +kernel
theorem dX12_init_102 : decode cX12_init 102 = .ok (.putfield 49, 3) := by decide +kernel
theorem dX12_init_105 : decode cX12_init 105 = .ok (.aload_n 0, 1) := by decide +kernel
theorem dX12_init_106 : decode cX12_init 106 = .ok (.getfield 7, 3) := by decide +kernel
theorem dX12_init_109 : decode cX12_init 109 = .ok (.bipush 8, 2) := by decide +kernel
theorem dX12_init_111 : decode cX12_init 111 = .ok (.iconst 5, 1) := by decide +kernel
theorem dX12_init_112 : decode cX12_init 112 = .ok (.invokestatic 52, 3) := by decide +kernel
theorem dX12_init_115 : decode cX12_init 115 = .ok (.return_, 1) := by decide +kernel
theorem dX12_in_0 : decode cX12_in 0 = .ok (.lload_n 0, 1) := by decide +kernel
theorem dX12_in_1 : decode cX12_in 1 = .ok (.lload_n 2, 1) := by decide +kernel
theorem dX12_in_2 : decode cX12_in 2 = .ok (.lcmp, 1) := by decide +kernel
theorem dX12_in_3 : decode cX12_in 3 = .ok (.ifCond .lt 14, 3) := by decide +kernel
theorem dX12_in_6 : decode cX12_in 6 = .ok (.lload_n 0, 1) := by decide +kernel
theorem dX12_in_7 : decode cX12_in 7 = .ok (.lload 4, 2) := by decide +kernel
theorem dX12_in_9 : decode cX12_in 9 = .ok (.lcmp, 1) := by decide +kernel
theorem dX12_in_10 : decode cX12_in 10 = .ok (.ifCond .gt 7, 3) := by decide +kernel
theorem dX12_in_13 : decode cX12_in 13 = .ok (.iconst 1, 1) := by decide +kernel
theorem dX12_in_14 : decode cX12_in 14 = .ok (.goto 4, 3) := by decide +kernel
theorem dX12_in_17 : decode cX12_in 17 = .ok (.iconst 0, 1) := by decide +kernel
theorem dX12_in_18 : decode cX12_in 18 = .ok (.ireturn, 1) := by decide +kernel
theorem dX12_bad_0 : decode cX12_bad 0 = .ok (.aload_n 0, 1) := by decide +kernel
theorem dX12_bad_1 : decode cX12_bad 1 = .ok (.getfield 20, 3) := by decide +kernel
theorem dX12_bad_4 : decode cX12_bad 4 = .ok (.iconst 0, 1) := by decide +kernel
theorem dX12_bad_5 : decode cX12_bad 5 = .ok (.dup2, 1) := by decide +kernel
theorem dX12_bad_6 : decode cX12_bad 6 = .ok (.iaload, 1) := by decide +kernel
theorem dX12_bad_7 : decode cX12_bad 7 = .ok (.iconst 1, 1) := by decide +kernel
theorem dX12_bad_8 : decode cX12_bad 8 = .ok (.iadd, 1) := by decide +kernel
theorem dX12_bad_9 : decode cX12_bad 9 = .ok (.iastore, 1) := by decide +kernel
theorem dX12_bad_10 : decode cX12_bad 10 = .ok (.iload_n 1, 1) := by decide +kernel
theorem dX12_bad_11 : decode cX12_bad 11 = .ok (.ireturn, 1) := by decide +kernel
theorem dX12_no_0 : decode cX12_no 0 = .ok (.aload_n 0, 1) := by decide +kernel
theorem dX12_no_1 : decode cX12_no 1 = .ok (.getfield 20, 3) := by decide +kernel
theorem dX12_no_4 : decode cX12_no 4 = .ok (.iconst 1, 1) := by decide +kernel
theorem dX12_no_5 : decode cX12_no 5 = .ok (.dup2, 1) := by decide +kernel
theorem dX12_no_6 : decode cX12_no 6 = .ok (.iaload, 1) := by decide +kernel
theorem dX12_no_7 : decode cX12_no 7 = .ok (.iconst 1, 1) := by decide +kernel
theorem dX12_no_8 : decode cX12_no 8 = .ok (.iadd, 1) := by decide +kernel
theorem dX12_no_9 : decode cX12_no 9 = .ok (.iastore, 1) := by decide +kernel
theorem dX12_no_10 : decode cX12_no 10 = .ok (.iload_n 1, 1) := by decide +kernel
theorem dX12_no_11 : decode cX12_no 11 = .ok (.ireturn, 1) := by decide +kernel
theorem dX12_full_0 : decode cX12_full 0 = .ok (.aload_n 0, 1) := by decide +kernel
theorem dX12_full_1 : decode cX12_full 1 = .ok (.getfield 20, 3) := by decide +kernel
theorem dX12_full_4 : decode cX12_full 4 = .ok (.iconst 2, 1) := by decide +kernel
theorem dX12_full_5 : decode cX12_full 5 = .ok (.dup2, 1) := by decide +kernel
theorem dX12_full_6 : decode cX12_full 6 = .ok (.iaload, 1) := by decide +kernel
theorem dX12_full_7 : decode cX12_full 7 = .ok (.iconst 1, 1) := by decide +kernel
theorem dX12_full_8 : decode cX12_full 8 = .ok (.iadd, 1) := by decide +kernel
theorem dX12_full_9 : decode cX12_full 9 = .ok (.iastore, 1) := by decide +kernel
theorem dX12_full_10 : decode cX12_full 10 = .ok (.bipush (-4), 2) := by decide +kernel
theorem dX12_full_12 : decode cX12_full 12 = .ok (.ireturn, 1) := by decide +kernel
theorem dX12_bits_0 : decode cX12_bits 0 = .ok (.iconst 0, 1) := by decide +kernel
theorem dX12_bits_1 : decode cX12_bits 1 = .ok (.istore_n 1, 1) := by decide +kernel
theorem dX12_bits_2 : decode cX12_bits 2 = .ok (.iload_n 0, 1) := by decide +kernel
theorem dX12_bits_3 : decode cX12_bits 3 = .ok (.istore_n 2, 1) := by decide +kernel
theorem dX12_bits_4 : decode cX12_bits 4 = .ok (.iload_n 2, 1) := by decide +kernel
theorem dX12_bits_5 : decode cX12_bits 5 = .ok (.ifCond .le 16, 3) := by decide +kernel
theorem dX12_bits_8 : decode cX12_bits 8 = .ok (.iload_n 1, 1) := by decide +kernel
theorem dX12_bits_9 : decode cX12_bits 9 = .ok (.iload_n 2, 1) := by decide +kernel
theorem dX12_bits_10 : decode cX12_bits 10 = .ok (.iconst 1, 1) := by decide +kernel
theorem dX12_bits_11 : decode cX12_bits 11 = .ok (.iand, 1) := by decide +kernel
theorem dX12_bits_12 : decode cX12_bits 12 = .ok (.iadd, 1) := by decide +kernel
theorem dX12_bits_13 : decode cX12_bits 13 = .ok (.istore_n 1, 1) := by decide +kernel
theorem dX12_bits_14 : decode cX12_bits 14 = .ok (.iload_n 2, 1) := by decide +kernel
theorem dX12_bits_15 : decode cX12_bits 15 = .ok (.iconst 1, 1) := by decide +kernel
theorem dX12_bits_16 : decode cX12_bits 16 = .ok (.ishr, 1) := by decide +kernel
theorem dX12_bits_17 : decode cX12_bits 17 = .ok (.istore_n 2, 1) := by decide +kernel
theorem dX12_bits_18 : decode cX12_bits 18 = .ok (.goto (-14), 3) := by decide +kernel
theorem dX12_bits_21 : decode cX12_bits 21 = .ok (.iload_n 1, 1) := by decide +kernel
theorem dX12_bits_22 : decode cX12_bits 22 = .ok (.ireturn, 1) := by decide +kernel
theorem dX12_begin_0 : decode cX12_begin 0 = .ok (.iconst 0, 1) := by decide +kernel
theorem dX12_begin_1 : decode cX12_begin 1 = .ok (.istore_n 3, 1) := by decide +kernel
theorem dX12_begin_2 : decode cX12_begin 2 = .ok (.iload_n 3, 1) := by decide +kernel
theorem dX12_begin_3 : decode cX12_begin 3 = .ok (.bipush 66, 2) := by decide +kernel
theorem dX12_begin_5 : decode cX12_begin 5 = .ok (.if_icmp .ge 13, 3) := by decide +kernel
theorem dX12_begin_8 : decode cX12_begin 8 = .ok (.aload_n 0, 1) := by decide +kernel
theorem dX12_begin_9 : decode cX12_begin 9 = .ok (.iload_n 3, 1) := by decide +kernel
theorem dX12_begin_10 : decode cX12_begin 10 = .ok (.iconst 0, 1) := by decide +kernel
theorem dX12_begin_11 : decode cX12_begin 11 = .ok (.iastore, 1) := by decide +kernel
theorem dX12_begin_12 : decode cX12_begin 12 = .ok (.iinc 3 1, 3) := by decide +kernel
theorem dX12_begin_15 : decode cX12_begin 15 = .ok (.goto (-13), 3) := by decide +kernel
theorem dX12_begin_18 : decode cX12_begin 18 = .ok (.aload_n 0, 1) := by decide +kernel
theorem dX12_begin_19 : decode cX12_begin 19 = .ok (.iconst 0, 1) := by decide +kernel
theorem dX12_begin_20 : decode cX12_begin 20 = .ok (.iload_n 1, 1) := by decide +kernel
theorem dX12_begin_21 : decode cX12_begin 21 = .ok (.iastore, 1) := by decide +kernel
theorem dX12_begin_22 : decode cX12_begin 22 = .ok (.aload_n 0, 1) := by decide +kernel
theorem dX12_begin_23 : decode cX12_begin 23 = .ok (.iconst 1, 1) := by decide +kernel
theorem dX12_begin_24 : decode cX12_begin 24 = .ok (.iload_n 2, 1) := by decide +kernel
theorem dX12_begin_25 : decode cX12_begin 25 = .ok (.iastore, 1) := by decide +kernel
theorem dX12_begin_26 : decode cX12_begin 26 = .ok (.aload_n 0, 1) := by decide +kernel
theorem dX12_begin_27 : decode cX12_begin 27 = .ok (.bipush 37, 2) := by decide +kernel
theorem dX12_begin_29 : decode cX12_begin 29 = .ok (.iconst (-1), 1) := by decide +kernel
theorem dX12_begin_30 : decode cX12_begin 30 = .ok (.iastore, 1) := by decide +kernel
theorem dX12_begin_31 : decode cX12_begin 31 = .ok (.return_, 1) := by decide +kernel
theorem dX12_fountain_0 : decode cX12_fountain 0 = .ok (.aload_n 0, 1) := by decide +kernel
theorem dX12_fountain_1 : decode cX12_fountain 1 = .ok (.getfield 7, 3) := by decide +kernel
theorem dX12_fountain_4 : decode cX12_fountain 4 = .ok (.iconst 0, 1) := by decide +kernel
theorem dX12_fountain_5 : decode cX12_fountain 5 = .ok (.iaload, 1) := by decide +kernel
theorem dX12_fountain_6 : decode cX12_fountain 6 = .ok (.ireturn, 1) := by decide +kernel
theorem dX12_isHead_0 : decode cX12_isHead 0 = .ok (.iload_n 1, 1) := by decide +kernel
theorem dX12_isHead_1 : decode cX12_isHead 1 = .ok (.i2l, 1) := by decide +kernel
theorem dX12_isHead_2 : decode cX12_isHead 2 = .ok (.lconst 0, 1) := by decide +kernel
theorem dX12_isHead_3 : decode cX12_isHead 3 = .ok (.aload_n 0, 1) := by decide +kernel
theorem dX12_isHead_4 : decode cX12_isHead 4 = .ok (.getfield 7, 3) := by decide +kernel
theorem dX12_isHead_7 : decode cX12_isHead 7 = .ok (.iconst 2, 1) := by decide +kernel
theorem dX12_isHead_8 : decode cX12_isHead 8 = .ok (.iaload, 1) := by decide +kernel
theorem dX12_isHead_9 : decode cX12_isHead 9 = .ok (.iconst 1, 1) := by decide +kernel
theorem dX12_isHead_10 : decode cX12_isHead 10 = .ok (.isub, 1) := by decide +kernel
theorem dX12_isHead_11 : decode cX12_isHead 11 = .ok (.i2l, 1) := by decide +kernel
theorem dX12_isHead_12 : decode cX12_isHead 12 = .ok (.invokestatic 56, 3) := by decide +kernel
theorem dX12_isHead_15 : decode cX12_isHead 15 = .ok (.ireturn, 1) := by decide +kernel
theorem dX12_isCell_0 : decode cX12_isCell 0 = .ok (.iload_n 1, 1) := by decide +kernel
theorem dX12_isCell_1 : decode cX12_isCell 1 = .ok (.i2l, 1) := by decide +kernel
theorem dX12_isCell_2 : decode cX12_isCell 2 = .ok (.lconst 0, 1) := by decide +kernel
theorem dX12_isCell_3 : decode cX12_isCell 3 = .ok (.aload_n 0, 1) := by decide +kernel
theorem dX12_isCell_4 : decode cX12_isCell 4 = .ok (.invokevirtual 60, 3) := by decide +kernel
theorem dX12_isCell_7 : decode cX12_isCell 7 = .ok (.i2l, 1) := by decide +kernel
theorem dX12_isCell_8 : decode cX12_isCell 8 = .ok (.invokestatic 56, 3) := by decide +kernel
theorem dX12_isCell_11 : decode cX12_isCell 11 = .ok (.ireturn, 1) := by decide +kernel
theorem dX12_isStep_0 : decode cX12_isStep 0 = .ok (.iload_n 0, 1) := by decide +kernel
theorem dX12_isStep_1 : decode cX12_isStep 1 = .ok (.i2l, 1) := by decide +kernel
theorem dX12_isStep_2 : decode cX12_isStep 2 = .ok (.lconst 0, 1) := by decide +kernel
theorem dX12_isStep_3 : decode cX12_isStep 3 = .ok (.ldc2_w 64, 3) := by decide +kernel
theorem dX12_isStep_6 : decode cX12_isStep 6 = .ok (.invokestatic 56, 3) := by decide +kernel
theorem dX12_isStep_9 : decode cX12_isStep 9 = .ok (.ireturn, 1) := by decide +kernel
theorem dX12_isPace_0 : decode cX12_isPace 0 = .ok (.iload_n 0, 1) := by decide +kernel
theorem dX12_isPace_1 : decode cX12_isPace 1 = .ok (.i2l, 1) := by decide +kernel
theorem dX12_isPace_2 : decode cX12_isPace 2 = .ok (.lconst 1, 1) := by decide +kernel
theorem dX12_isPace_3 : decode cX12_isPace 3 = .ok (.ldc2_w 66, 3) := by decide +kernel
theorem dX12_isPace_6 : decode cX12_isPace 6 = .ok (.invokestatic 56, 3) := by decide +kernel
theorem dX12_isPace_9 : decode cX12_isPace 9 = .ok (.ireturn, 1) := by decide +kernel
theorem dX12_isRoad_0 : decode cX12_isRoad 0 = .ok (.iload_n 0, 1) := by decide +kernel
theorem dX12_isRoad_1 : decode cX12_isRoad 1 = .ok (.i2l, 1) := by decide +kernel
theorem dX12_isRoad_2 : decode cX12_isRoad 2 = .ok (.lconst 1, 1) := by decide +kernel
theorem dX12_isRoad_3 : decode cX12_isRoad 3 = .ok (.ldc2_w 68, 3) := by decide +kernel
theorem dX12_isRoad_6 : decode cX12_isRoad 6 = .ok (.invokestatic 56, 3) := by decide +kernel
theorem dX12_isRoad_9 : decode cX12_isRoad 9 = .ok (.ifCond .eq 19, 3) := by decide +kernel
theorem dX12_isRoad_12 : decode cX12_isRoad 12 = .ok (.iload_n 1, 1) := by decide +kernel
theorem dX12_isRoad_13 : decode cX12_isRoad 13 = .ok (.i2l, 1) := by decide +kernel
theorem dX12_isRoad_14 : decode cX12_isRoad 14 = .ok (.lconst 1, 1) := by decide +kernel
theorem dX12_isRoad_15 : decode cX12_isRoad 15 = .ok (.ldc2_w 70, 3) := by decide +kernel
theorem dX12_isRoad_18 : decode cX12_isRoad 18 = .ok (.invokestatic 56, 3) := by decide +kernel
theorem dX12_isRoad_21 : decode cX12_isRoad 21 = .ok (.ifCond .eq 7, 3) := by decide +kernel
theorem dX12_isRoad_24 : decode cX12_isRoad 24 = .ok (.iconst 1, 1) := by decide +kernel
theorem dX12_isRoad_25 : decode cX12_isRoad 25 = .ok (.goto 4, 3) := by decide +kernel
theorem dX12_isRoad_28 : decode cX12_isRoad 28 = .ok (.iconst 0, 1) := by decide +kernel
theorem dX12_isRoad_29 : decode cX12_isRoad 29 = .ok (.ireturn, 1) := by decide +kernel
theorem dX12_road_0 : decode cX12_road 0 = .ok (.iload_n 1, 1) := by decide +kernel
theorem dX12_road_1 : decode cX12_road 1 = .ok (.iload_n 2, 1) := by decide +kernel
theorem dX12_road_2 : decode cX12_road 2 = .ok (.invokestatic 72, 3) := by decide +kernel
theorem dX12_road_5 : decode cX12_road 5 = .ok (.ifCond .ne 10, 3) := by decide +kernel
theorem dX12_road_8 : decode cX12_road 8 = .ok (.aload_n 0, 1) := by decide +kernel
theorem dX12_road_9 : decode cX12_road 9 = .ok (.bipush (-2), 2) := by decide +kernel
theorem dX12_road_11 : decode cX12_road 11 = .ok (.invokevirtual 76, 3) := by decide +kernel
theorem dX12_road_14 : decode cX12_road 14 = .ok (.ireturn, 1) := by decide +kernel
theorem dX12_road_15 : decode cX12_road 15 = .ok (.aload_n 0, 1) := by decide +kernel
theorem dX12_road_16 : decode cX12_road 16 = .ok (.getfield 7, 3) := by decide +kernel
theorem dX12_road_19 : decode cX12_road 19 = .ok (.iconst 2, 1) := by decide +kernel
theorem dX12_road_20 : decode cX12_road 20 = .ok (.iaload, 1) := by decide +kernel
theorem dX12_road_21 : decode cX12_road 21 = .ok (.istore_n 3, 1) := by decide +kernel
theorem dX12_road_22 : decode cX12_road 22 = .ok (.aload_n 0, 1) := by decide +kernel
theorem dX12_road_23 : decode cX12_road 23 = .ok (.getfield 7, 3) := by decide +kernel
theorem dX12_road_26 : decode cX12_road 26 = .ok (.iload_n 1, 1) := by decide +kernel
theorem dX12_road_27 : decode cX12_road 27 = .ok (.iload_n 2, 1) := by decide +kernel
theorem dX12_road_28 : decode cX12_road 28 = .ok (.invokestatic 52, 3) := by decide +kernel
theorem dX12_road_31 : decode cX12_road 31 = .ok (.iload_n 3, 1) := by decide +kernel
theorem dX12_road_32 : decode cX12_road 32 = .ok (.ireturn, 1) := by decide +kernel
theorem dX12_cobble_0 : decode cX12_cobble 0 = .ok (.aload_n 0, 1) := by decide +kernel
theorem dX12_cobble_1 : decode cX12_cobble 1 = .ok (.iload_n 1, 1) := by decide +kernel
theorem dX12_cobble_2 : decode cX12_cobble 2 = .ok (.invokevirtual 80, 3) := by decide +kernel
theorem dX12_cobble_5 : decode cX12_cobble 5 = .ok (.ifCond .eq 17, 3) := by decide +kernel
theorem dX12_cobble_8 : decode cX12_cobble 8 = .ok (.iload_n 2, 1) := by decide +kernel
theorem dX12_cobble_9 : decode cX12_cobble 9 = .ok (.i2l, 1) := by decide +kernel
theorem dX12_cobble_10 : decode cX12_cobble 10 = .ok (.ldc2_w 84, 3) := by decide +kernel
theorem dX12_cobble_13 : decode cX12_cobble 13 = .ok (.ldc2_w 86, 3) := by decide +kernel
theorem dX12_cobble_16 : decode cX12_cobble 16 = .ok (.invokestatic 56, 3) := by decide +kernel
theorem dX12_cobble_19 : decode cX12_cobble 19 = .ok (.ifCond .ne 10, 3) := by decide +kernel
theorem dX12_cobble_22 : decode cX12_cobble 22 = .ok (.aload_n 0, 1) := by decide +kernel
theorem dX12_cobble_23 : decode cX12_cobble 23 = .ok (.bipush (-10), 2) := by decide +kernel
theorem dX12_cobble_25 : decode cX12_cobble 25 = .ok (.invokevirtual 76, 3) := by decide +kernel
theorem dX12_cobble_28 : decode cX12_cobble 28 = .ok (.ireturn, 1) := by decide +kernel
theorem dX12_cobble_29 : decode cX12_cobble 29 = .ok (.aload_n 0, 1) := by decide +kernel
theorem dX12_cobble_30 : decode cX12_cobble 30 = .ok (.getfield 7, 3) := by decide +kernel
theorem dX12_cobble_33 : decode cX12_cobble 33 = .ok (.iconst 5, 1) := by decide +kernel
theorem dX12_cobble_34 : decode cX12_cobble 34 = .ok (.iload_n 1, 1) := by decide +kernel
theorem dX12_cobble_35 : decode cX12_cobble 35 = .ok (.iadd, 1) := by decide +kernel
theorem dX12_cobble_36 : decode cX12_cobble 36 = .ok (.iaload, 1) := by decide +kernel
theorem dX12_cobble_37 : decode cX12_cobble 37 = .ok (.istore_n 3, 1) := by decide +kernel
theorem dX12_cobble_38 : decode cX12_cobble 38 = .ok (.aload_n 0, 1) := by decide +kernel
theorem dX12_cobble_39 : decode cX12_cobble 39 = .ok (.getfield 7, 3) := by decide +kernel
theorem dX12_cobble_42 : decode cX12_cobble 42 = .ok (.iconst 5, 1) := by decide +kernel
theorem dX12_cobble_43 : decode cX12_cobble 43 = .ok (.iload_n 1, 1) := by decide +kernel
theorem dX12_cobble_44 : decode cX12_cobble 44 = .ok (.iadd, 1) := by decide +kernel
theorem dX12_cobble_45 : decode cX12_cobble 45 = .ok (.iload_n 2, 1) := by decide +kernel
theorem dX12_cobble_46 : decode cX12_cobble 46 = .ok (.iastore, 1) := by decide +kernel
theorem dX12_cobble_47 : decode cX12_cobble 47 = .ok (.iload_n 3, 1) := by decide +kernel
theorem dX12_cobble_48 : decode cX12_cobble 48 = .ok (.ireturn, 1) := by decide +kernel
theorem dX12_wind_0 : decode cX12_wind 0 = .ok (.iload_n 1, 1) := by decide +kernel
theorem dX12_wind_1 : decode cX12_wind 1 = .ok (.i2l, 1) := by decide +kernel
theorem dX12_wind_2 : decode cX12_wind 2 = .ok (.lconst 0, 1) := by decide +kernel
theorem dX12_wind_3 : decode cX12_wind 3 = .ok (.ldc2_w 64, 3) := by decide +kernel
theorem dX12_wind_6 : decode cX12_wind 6 = .ok (.invokestatic 56, 3) := by decide +kernel
theorem dX12_wind_9 : decode cX12_wind 9 = .ok (.ifCond .eq 17, 3) := by decide +kernel
theorem dX12_wind_12 : decode cX12_wind 12 = .ok (.iload_n 2, 1) := by decide +kernel
theorem dX12_wind_13 : decode cX12_wind 13 = .ok (.i2l, 1) := by decide +kernel
theorem dX12_wind_14 : decode cX12_wind 14 = .ok (.ldc2_w 88, 3) := by decide +kernel
theorem dX12_wind_17 : decode cX12_wind 17 = .ok (.ldc2_w 66, 3) := by decide +kernel
theorem dX12_wind_20 : decode cX12_wind 20 = .ok (.invokestatic 56, 3) := by decide +kernel
theorem dX12_wind_23 : decode cX12_wind 23 = .ok (.ifCond .ne 10, 3) := by decide +kernel
theorem dX12_wind_26 : decode cX12_wind 26 = .ok (.aload_n 0, 1) := by decide +kernel
theorem dX12_wind_27 : decode cX12_wind 27 = .ok (.bipush (-10), 2) := by decide +kernel
theorem dX12_wind_29 : decode cX12_wind 29 = .ok (.invokevirtual 76, 3) := by decide +kernel
theorem dX12_wind_32 : decode cX12_wind 32 = .ok (.ireturn, 1) := by decide +kernel
end
section
theorem dX12_wind_33 : decode cX12_wind 33 = .ok (.aload_n 0, 1) := by decide +kernel
theorem dX12_wind_34 : decode cX12_wind 34 = .ok (.getfield 7, 3) := by decide +kernel
theorem dX12_wind_37 : decode cX12_wind 37 = .ok (.bipush 21, 2) := by decide +kernel
theorem dX12_wind_39 : decode cX12_wind 39 = .ok (.iload_n 1, 1) := by decide +kernel
theorem dX12_wind_40 : decode cX12_wind 40 = .ok (.iadd, 1) := by decide +kernel
theorem dX12_wind_41 : decode cX12_wind 41 = .ok (.iaload, 1) := by decide +kernel
theorem dX12_wind_42 : decode cX12_wind 42 = .ok (.istore_n 3, 1) := by decide +kernel
theorem dX12_wind_43 : decode cX12_wind 43 = .ok (.aload_n 0, 1) := by decide +kernel
theorem dX12_wind_44 : decode cX12_wind 44 = .ok (.getfield 7, 3) := by decide +kernel
theorem dX12_wind_47 : decode cX12_wind 47 = .ok (.bipush 21, 2) := by decide +kernel
theorem dX12_wind_49 : decode cX12_wind 49 = .ok (.iload_n 1, 1) := by decide +kernel
theorem dX12_wind_50 : decode cX12_wind 50 = .ok (.iadd, 1) := by decide +kernel
theorem dX12_wind_51 : decode cX12_wind 51 = .ok (.iload_n 2, 1) := by decide +kernel
theorem dX12_wind_52 : decode cX12_wind 52 = .ok (.iastore, 1) := by decide +kernel
theorem dX12_wind_53 : decode cX12_wind 53 = .ok (.iload_n 3, 1) := by decide +kernel
theorem dX12_wind_54 : decode cX12_wind 54 = .ok (.ireturn, 1) := by decide +kernel
theorem dX12_layHead_0 : decode cX12_layHead 0 = .ok (.aload_n 0, 1) := by decide +kernel
theorem dX12_layHead_1 : decode cX12_layHead 1 = .ok (.bipush 27, 2) := by decide +kernel
theorem dX12_layHead_3 : decode cX12_layHead 3 = .ok (.iconst 2, 1) := by decide +kernel
theorem dX12_layHead_4 : decode cX12_layHead 4 = .ok (.aload_n 0, 1) := by decide +kernel
theorem dX12_layHead_5 : decode cX12_layHead 5 = .ok (.iconst 2, 1) := by decide +kernel
theorem dX12_layHead_6 : decode cX12_layHead 6 = .ok (.iaload, 1) := by decide +kernel
theorem dX12_layHead_7 : decode cX12_layHead 7 = .ok (.imul, 1) := by decide +kernel
theorem dX12_layHead_8 : decode cX12_layHead 8 = .ok (.iadd, 1) := by decide +kernel
theorem dX12_layHead_9 : decode cX12_layHead 9 = .ok (.iload_n 1, 1) := by decide +kernel
theorem dX12_layHead_10 : decode cX12_layHead 10 = .ok (.iastore, 1) := by decide +kernel
theorem dX12_layHead_11 : decode cX12_layHead 11 = .ok (.aload_n 0, 1) := by decide +kernel
theorem dX12_layHead_12 : decode cX12_layHead 12 = .ok (.bipush 27, 2) := by decide +kernel
theorem dX12_layHead_14 : decode cX12_layHead 14 = .ok (.iconst 2, 1) := by decide +kernel
theorem dX12_layHead_15 : decode cX12_layHead 15 = .ok (.aload_n 0, 1) := by decide +kernel
theorem dX12_layHead_16 : decode cX12_layHead 16 = .ok (.iconst 2, 1) := by decide +kernel
theorem dX12_layHead_17 : decode cX12_layHead 17 = .ok (.iaload, 1) := by decide +kernel
theorem dX12_layHead_18 : decode cX12_layHead 18 = .ok (.imul, 1) := by decide +kernel
theorem dX12_layHead_19 : decode cX12_layHead 19 = .ok (.iadd, 1) := by decide +kernel
theorem dX12_layHead_20 : decode cX12_layHead 20 = .ok (.iconst 1, 1) := by decide +kernel
theorem dX12_layHead_21 : decode cX12_layHead 21 = .ok (.iadd, 1) := by decide +kernel
theorem dX12_layHead_22 : decode cX12_layHead 22 = .ok (.iload_n 2, 1) := by decide +kernel
theorem dX12_layHead_23 : decode cX12_layHead 23 = .ok (.iastore, 1) := by decide +kernel
theorem dX12_layHead_24 : decode cX12_layHead 24 = .ok (.aload_n 0, 1) := by decide +kernel
theorem dX12_layHead_25 : decode cX12_layHead 25 = .ok (.iconst 2, 1) := by decide +kernel
theorem dX12_layHead_26 : decode cX12_layHead 26 = .ok (.dup2, 1) := by decide +kernel
theorem dX12_layHead_27 : decode cX12_layHead 27 = .ok (.iaload, 1) := by decide +kernel
theorem dX12_layHead_28 : decode cX12_layHead 28 = .ok (.iconst 1, 1) := by decide +kernel
theorem dX12_layHead_29 : decode cX12_layHead 29 = .ok (.iadd, 1) := by decide +kernel
theorem dX12_layHead_30 : decode cX12_layHead 30 = .ok (.iastore, 1) := by decide +kernel
theorem dX12_layHead_31 : decode cX12_layHead 31 = .ok (.return_, 1) := by decide +kernel
theorem dX12_head_0 : decode cX12_head 0 = .ok (.iload_n 1, 1) := by decide +kernel
theorem dX12_head_1 : decode cX12_head 1 = .ok (.i2l, 1) := by decide +kernel
theorem dX12_head_2 : decode cX12_head 2 = .ok (.lconst 0, 1) := by decide +kernel
theorem dX12_head_3 : decode cX12_head 3 = .ok (.ldc2_w 64, 3) := by decide +kernel
theorem dX12_head_6 : decode cX12_head 6 = .ok (.invokestatic 56, 3) := by decide +kernel
theorem dX12_head_9 : decode cX12_head 9 = .ok (.ifCond .eq 17, 3) := by decide +kernel
theorem dX12_head_12 : decode cX12_head 12 = .ok (.iload_n 2, 1) := by decide +kernel
theorem dX12_head_13 : decode cX12_head 13 = .ok (.i2l, 1) := by decide +kernel
theorem dX12_head_14 : decode cX12_head 14 = .ok (.ldc2_w 90, 3) := by decide +kernel
theorem dX12_head_17 : decode cX12_head 17 = .ok (.ldc2_w 70, 3) := by decide +kernel
theorem dX12_head_20 : decode cX12_head 20 = .ok (.invokestatic 56, 3) := by decide +kernel
theorem dX12_head_23 : decode cX12_head 23 = .ok (.ifCond .ne 10, 3) := by decide +kernel
theorem dX12_head_26 : decode cX12_head 26 = .ok (.aload_n 0, 1) := by decide +kernel
theorem dX12_head_27 : decode cX12_head 27 = .ok (.bipush (-2), 2) := by decide +kernel
theorem dX12_head_29 : decode cX12_head 29 = .ok (.invokevirtual 76, 3) := by decide +kernel
theorem dX12_head_32 : decode cX12_head 32 = .ok (.ireturn, 1) := by decide +kernel
theorem dX12_head_33 : decode cX12_head 33 = .ok (.aload_n 0, 1) := by decide +kernel
theorem dX12_head_34 : decode cX12_head 34 = .ok (.getfield 7, 3) := by decide +kernel
theorem dX12_head_37 : decode cX12_head 37 = .ok (.iconst 2, 1) := by decide +kernel
theorem dX12_head_38 : decode cX12_head 38 = .ok (.iaload, 1) := by decide +kernel
theorem dX12_head_39 : decode cX12_head 39 = .ok (.iconst 5, 1) := by decide +kernel
theorem dX12_head_40 : decode cX12_head 40 = .ok (.if_icmp .ne 8, 3) := by decide +kernel
theorem dX12_head_43 : decode cX12_head 43 = .ok (.aload_n 0, 1) := by decide +kernel
theorem dX12_head_44 : decode cX12_head 44 = .ok (.invokevirtual 92, 3) := by decide +kernel
theorem dX12_head_47 : decode cX12_head 47 = .ok (.ireturn, 1) := by decide +kernel
theorem dX12_head_48 : decode cX12_head 48 = .ok (.aload_n 0, 1) := by decide +kernel
theorem dX12_head_49 : decode cX12_head 49 = .ok (.getfield 7, 3) := by decide +kernel
theorem dX12_head_52 : decode cX12_head 52 = .ok (.iload_n 1, 1) := by decide +kernel
theorem dX12_head_53 : decode cX12_head 53 = .ok (.iload_n 2, 1) := by decide +kernel
theorem dX12_head_54 : decode cX12_head 54 = .ok (.invokestatic 95, 3) := by decide +kernel
theorem dX12_head_57 : decode cX12_head 57 = .ok (.aload_n 0, 1) := by decide +kernel
theorem dX12_head_58 : decode cX12_head 58 = .ok (.getfield 7, 3) := by decide +kernel
theorem dX12_head_61 : decode cX12_head 61 = .ok (.iconst 2, 1) := by decide +kernel
theorem dX12_head_62 : decode cX12_head 62 = .ok (.iaload, 1) := by decide +kernel
theorem dX12_head_63 : decode cX12_head 63 = .ok (.iconst 1, 1) := by decide +kernel
theorem dX12_head_64 : decode cX12_head 64 = .ok (.isub, 1) := by decide +kernel
theorem dX12_head_65 : decode cX12_head 65 = .ok (.ireturn, 1) := by decide +kernel
theorem dX12_kindOf_0 : decode cX12_kindOf 0 = .ok (.aload_n 0, 1) := by decide +kernel
theorem dX12_kindOf_1 : decode cX12_kindOf 1 = .ok (.getfield 7, 3) := by decide +kernel
theorem dX12_kindOf_4 : decode cX12_kindOf 4 = .ok (.bipush 27, 2) := by decide +kernel
theorem dX12_kindOf_6 : decode cX12_kindOf 6 = .ok (.iconst 2, 1) := by decide +kernel
theorem dX12_kindOf_7 : decode cX12_kindOf 7 = .ok (.iload_n 1, 1) := by decide +kernel
theorem dX12_kindOf_8 : decode cX12_kindOf 8 = .ok (.imul, 1) := by decide +kernel
theorem dX12_kindOf_9 : decode cX12_kindOf 9 = .ok (.iadd, 1) := by decide +kernel
theorem dX12_kindOf_10 : decode cX12_kindOf 10 = .ok (.iaload, 1) := by decide +kernel
theorem dX12_kindOf_11 : decode cX12_kindOf 11 = .ok (.ireturn, 1) := by decide +kernel
theorem dX12_setOf_0 : decode cX12_setOf 0 = .ok (.aload_n 0, 1) := by decide +kernel
theorem dX12_setOf_1 : decode cX12_setOf 1 = .ok (.getfield 7, 3) := by decide +kernel
theorem dX12_setOf_4 : decode cX12_setOf 4 = .ok (.bipush 27, 2) := by decide +kernel
theorem dX12_setOf_6 : decode cX12_setOf 6 = .ok (.iconst 2, 1) := by decide +kernel
theorem dX12_setOf_7 : decode cX12_setOf 7 = .ok (.iload_n 1, 1) := by decide +kernel
theorem dX12_setOf_8 : decode cX12_setOf 8 = .ok (.imul, 1) := by decide +kernel
theorem dX12_setOf_9 : decode cX12_setOf 9 = .ok (.iadd, 1) := by decide +kernel
theorem dX12_setOf_10 : decode cX12_setOf 10 = .ok (.iconst 1, 1) := by decide +kernel
theorem dX12_setOf_11 : decode cX12_setOf 11 = .ok (.iadd, 1) := by decide +kernel
theorem dX12_setOf_12 : decode cX12_setOf 12 = .ok (.iaload, 1) := by decide +kernel
theorem dX12_setOf_13 : decode cX12_setOf 13 = .ok (.ireturn, 1) := by decide +kernel
theorem dX12_of_0 : decode cX12_of 0 = .ok (.aload_n 0, 1) := by decide +kernel
theorem dX12_of_1 : decode cX12_of 1 = .ok (.iload_n 1, 1) := by decide +kernel
theorem dX12_of_2 : decode cX12_of 2 = .ok (.invokevirtual 98, 3) := by decide +kernel
theorem dX12_of_5 : decode cX12_of 5 = .ok (.ifCond .eq 13, 3) := by decide +kernel
theorem dX12_of_8 : decode cX12_of 8 = .ok (.iload_n 2, 1) := by decide +kernel
theorem dX12_of_9 : decode cX12_of 9 = .ok (.i2l, 1) := by decide +kernel
theorem dX12_of_10 : decode cX12_of 10 = .ok (.lconst 0, 1) := by decide +kernel
theorem dX12_of_11 : decode cX12_of 11 = .ok (.lconst 1, 1) := by decide +kernel
theorem dX12_of_12 : decode cX12_of 12 = .ok (.invokestatic 56, 3) := by decide +kernel
theorem dX12_of_15 : decode cX12_of 15 = .ok (.ifCond .ne 12, 3) := by decide +kernel
theorem dX12_of_18 : decode cX12_of 18 = .ok (.aload_n 0, 1) := by decide +kernel
theorem dX12_of_19 : decode cX12_of 19 = .ok (.bipush (-100), 2) := by decide +kernel
theorem dX12_of_21 : decode cX12_of 21 = .ok (.invokevirtual 76, 3) := by decide +kernel
theorem dX12_of_24 : decode cX12_of 24 = .ok (.goto 20, 3) := by decide +kernel
theorem dX12_of_27 : decode cX12_of 27 = .ok (.iload_n 2, 1) := by decide +kernel
theorem dX12_of_28 : decode cX12_of 28 = .ok (.ifCond .ne 11, 3) := by decide +kernel
theorem dX12_of_31 : decode cX12_of 31 = .ok (.aload_n 0, 1) := by decide +kernel
theorem dX12_of_32 : decode cX12_of 32 = .ok (.iload_n 1, 1) := by decide +kernel
theorem dX12_of_33 : decode cX12_of 33 = .ok (.invokevirtual 101, 3) := by decide +kernel
theorem dX12_of_36 : decode cX12_of 36 = .ok (.goto 8, 3) := by decide +kernel
theorem dX12_of_39 : decode cX12_of 39 = .ok (.aload_n 0, 1) := by decide +kernel
theorem dX12_of_40 : decode cX12_of 40 = .ok (.iload_n 1, 1) := by decide +kernel
theorem dX12_of_41 : decode cX12_of 41 = .ok (.invokevirtual 104, 3) := by decide +kernel
theorem dX12_of_44 : decode cX12_of 44 = .ok (.ireturn, 1) := by decide +kernel
theorem dX12_falls_0 : decode cX12_falls 0 = .ok (.iload_n 1, 1) := by decide +kernel
theorem dX12_falls_1 : decode cX12_falls 1 = .ok (.i2l, 1) := by decide +kernel
theorem dX12_falls_2 : decode cX12_falls 2 = .ok (.aload_n 0, 1) := by decide +kernel
theorem dX12_falls_3 : decode cX12_falls 3 = .ok (.getfield 7, 3) := by decide +kernel
theorem dX12_falls_6 : decode cX12_falls 6 = .ok (.iconst 1, 1) := by decide +kernel
theorem dX12_falls_7 : decode cX12_falls 7 = .ok (.iaload, 1) := by decide +kernel
theorem dX12_falls_8 : decode cX12_falls 8 = .ok (.ineg, 1) := by decide +kernel
theorem dX12_falls_9 : decode cX12_falls 9 = .ok (.i2l, 1) := by decide +kernel
theorem dX12_falls_10 : decode cX12_falls 10 = .ok (.aload_n 0, 1) := by decide +kernel
theorem dX12_falls_11 : decode cX12_falls 11 = .ok (.getfield 7, 3) := by decide +kernel
theorem dX12_falls_14 : decode cX12_falls 14 = .ok (.iconst 1, 1) := by decide +kernel
theorem dX12_falls_15 : decode cX12_falls 15 = .ok (.iaload, 1) := by decide +kernel
theorem dX12_falls_16 : decode cX12_falls 16 = .ok (.i2l, 1) := by decide +kernel
theorem dX12_falls_17 : decode cX12_falls 17 = .ok (.invokestatic 56, 3) := by decide +kernel
theorem dX12_falls_20 : decode cX12_falls 20 = .ok (.ifCond .ne 7, 3) := by decide +kernel
theorem dX12_falls_23 : decode cX12_falls 23 = .ok (.iconst 1, 1) := by decide +kernel
theorem dX12_falls_24 : decode cX12_falls 24 = .ok (.goto 4, 3) := by decide +kernel
theorem dX12_falls_27 : decode cX12_falls 27 = .ok (.iconst 0, 1) := by decide +kernel
theorem dX12_falls_28 : decode cX12_falls 28 = .ok (.ireturn, 1) := by decide +kernel
theorem dX12_stiff_0 : decode cX12_stiff 0 = .ok (.iload_n 0, 1) := by decide +kernel
theorem dX12_stiff_1 : decode cX12_stiff 1 = .ok (.ifCond .le 9, 3) := by decide +kernel
theorem dX12_stiff_4 : decode cX12_stiff 4 = .ok (.iload_n 0, 1) := by decide +kernel
theorem dX12_stiff_5 : decode cX12_stiff 5 = .ok (.iconst 1, 1) := by decide +kernel
theorem dX12_stiff_6 : decode cX12_stiff 6 = .ok (.isub, 1) := by decide +kernel
theorem dX12_stiff_7 : decode cX12_stiff 7 = .ok (.goto 14, 3) := by decide +kernel
theorem dX12_stiff_10 : decode cX12_stiff 10 = .ok (.iload_n 0, 1) := by decide +kernel
theorem dX12_stiff_11 : decode cX12_stiff 11 = .ok (.ifCond .ge 9, 3) := by decide +kernel
theorem dX12_stiff_14 : decode cX12_stiff 14 = .ok (.iload_n 0, 1) := by decide +kernel
theorem dX12_stiff_15 : decode cX12_stiff 15 = .ok (.iconst 1, 1) := by decide +kernel
theorem dX12_stiff_16 : decode cX12_stiff 16 = .ok (.iadd, 1) := by decide +kernel
theorem dX12_stiff_17 : decode cX12_stiff 17 = .ok (.goto 4, 3) := by decide +kernel
theorem dX12_stiff_20 : decode cX12_stiff 20 = .ok (.iconst 0, 1) := by decide +kernel
theorem dX12_stiff_21 : decode cX12_stiff 21 = .ok (.ireturn, 1) := by decide +kernel
theorem dX12_layStones_0 : decode cX12_layStones 0 = .ok (.iconst 0, 1) := by decide +kernel
theorem dX12_layStones_1 : decode cX12_layStones 1 = .ok (.istore_n 1, 1) := by decide +kernel
theorem dX12_layStones_2 : decode cX12_layStones 2 = .ok (.iload_n 1, 1) := by decide +kernel
theorem dX12_layStones_3 : decode cX12_layStones 3 = .ok (.bipush 16, 2) := by decide +kernel
theorem dX12_layStones_5 : decode cX12_layStones 5 = .ok (.if_icmp .ge 23, 3) := by decide +kernel
theorem dX12_layStones_8 : decode cX12_layStones 8 = .ok (.aload_n 0, 1) := by decide +kernel
theorem dX12_layStones_9 : decode cX12_layStones 9 = .ok (.getfield 27, 3) := by decide +kernel
theorem dX12_layStones_12 : decode cX12_layStones 12 = .ok (.iload_n 1, 1) := by decide +kernel
theorem dX12_layStones_13 : decode cX12_layStones 13 = .ok (.aload_n 0, 1) := by decide +kernel
theorem dX12_layStones_14 : decode cX12_layStones 14 = .ok (.getfield 7, 3) := by decide +kernel
theorem dX12_layStones_17 : decode cX12_layStones 17 = .ok (.iconst 5, 1) := by decide +kernel
theorem dX12_layStones_18 : decode cX12_layStones 18 = .ok (.iload_n 1, 1) := by decide +kernel
theorem dX12_layStones_19 : decode cX12_layStones 19 = .ok (.iadd, 1) := by decide +kernel
theorem dX12_layStones_20 : decode cX12_layStones 20 = .ok (.iaload, 1) := by decide +kernel
theorem dX12_layStones_21 : decode cX12_layStones 21 = .ok (.iastore, 1) := by decide +kernel
theorem dX12_layStones_22 : decode cX12_layStones 22 = .ok (.iinc 1 1, 3) := by decide +kernel
theorem dX12_layStones_25 : decode cX12_layStones 25 = .ok (.goto (-23), 3) := by decide +kernel
theorem dX12_layStones_28 : decode cX12_layStones 28 = .ok (.return_, 1) := by decide +kernel
theorem dX12_leanBy_0 : decode cX12_leanBy 0 = .ok (.iload 4, 2) := by decide +kernel
theorem dX12_leanBy_2 : decode cX12_leanBy 2 = .ok (.iconst 3, 1) := by decide +kernel
theorem dX12_leanBy_3 : decode cX12_leanBy 3 = .ok (.if_icmp .ne 19, 3) := by decide +kernel
theorem dX12_leanBy_6 : decode cX12_leanBy 6 = .ok (.iload_n 0, 1) := by decide +kernel
theorem dX12_leanBy_7 : decode cX12_leanBy 7 = .ok (.iconst 2, 1) := by decide +kernel
theorem dX12_leanBy_8 : decode cX12_leanBy 8 = .ok (.if_icmp .eq 8, 3) := by decide +kernel
theorem dX12_leanBy_11 : decode cX12_leanBy 11 = .ok (.iload_n 0, 1) := by decide +kernel
theorem dX12_leanBy_12 : decode cX12_leanBy 12 = .ok (.iconst 5, 1) := by decide +kernel
theorem dX12_leanBy_13 : decode cX12_leanBy 13 = .ok (.if_icmp .ne 9, 3) := by decide +kernel
theorem dX12_leanBy_16 : decode cX12_leanBy 16 = .ok (.iconst 2, 1) := by decide +kernel
theorem dX12_leanBy_17 : decode cX12_leanBy 17 = .ok (.iload_n 2, 1) := by decide +kernel
theorem dX12_leanBy_18 : decode cX12_leanBy 18 = .ok (.imul, 1) := by decide +kernel
theorem dX12_leanBy_19 : decode cX12_leanBy 19 = .ok (.goto 4, 3) := by decide +kernel
theorem dX12_leanBy_22 : decode cX12_leanBy 22 = .ok (.iload_n 2, 1) := by decide +kernel
theorem dX12_leanBy_23 : decode cX12_leanBy 23 = .ok (.istore 5, 2) := by decide +kernel
theorem dX12_leanBy_25 : decode cX12_leanBy 25 = .ok (.iload_n 1, 1) := by decide +kernel
theorem dX12_leanBy_26 : decode cX12_leanBy 26 = .ok (.iload 5, 2) := by decide +kernel
theorem dX12_leanBy_28 : decode cX12_leanBy 28 = .ok (.iadd, 1) := by decide +kernel
theorem dX12_leanBy_29 : decode cX12_leanBy 29 = .ok (.iload_n 0, 1) := by decide +kernel
theorem dX12_leanBy_30 : decode cX12_leanBy 30 = .ok (.iconst 5, 1) := by decide +kernel
theorem dX12_leanBy_31 : decode cX12_leanBy 31 = .ok (.if_icmp .ne 7, 3) := by decide +kernel
theorem dX12_leanBy_34 : decode cX12_leanBy 34 = .ok (.iconst 0, 1) := by decide +kernel
theorem dX12_leanBy_35 : decode cX12_leanBy 35 = .ok (.goto 4, 3) := by decide +kernel
theorem dX12_leanBy_38 : decode cX12_leanBy 38 = .ok (.iload_n 3, 1) := by decide +kernel
theorem dX12_leanBy_39 : decode cX12_leanBy 39 = .ok (.iadd, 1) := by decide +kernel
theorem dX12_leanBy_40 : decode cX12_leanBy 40 = .ok (.istore 6, 2) := by decide +kernel
theorem dX12_leanBy_42 : decode cX12_leanBy 42 = .ok (.iload_n 0, 1) := by decide +kernel
theorem dX12_leanBy_43 : decode cX12_leanBy 43 = .ok (.tableswitch 64 1 4 #[29, 64, 35, 43], 29) := by decide +kernel
theorem dX12_leanBy_72 : decode cX12_leanBy 72 = .ok (.iload 6, 2) := by decide +kernel
theorem dX12_leanBy_74 : decode cX12_leanBy 74 = .ok (.invokestatic 107, 3) := by decide +kernel
theorem dX12_leanBy_77 : decode cX12_leanBy 77 = .ok (.ireturn, 1) := by decide +kernel
theorem dX12_leanBy_78 : decode cX12_leanBy 78 = .ok (.iload 6, 2) := by decide +kernel
theorem dX12_leanBy_80 : decode cX12_leanBy 80 = .ok (.invokestatic 107, 3) := by decide +kernel
theorem dX12_leanBy_83 : decode cX12_leanBy 83 = .ok (.iconst 1, 1) := by decide +kernel
theorem dX12_leanBy_84 : decode cX12_leanBy 84 = .ok (.iadd, 1) := by decide +kernel
theorem dX12_leanBy_85 : decode cX12_leanBy 85 = .ok (.ireturn, 1) := by decide +kernel
theorem dX12_leanBy_86 : decode cX12_leanBy 86 = .ok (.iload 4, 2) := by decide +kernel
theorem dX12_leanBy_88 : decode cX12_leanBy 88 = .ok (.iconst 2, 1) := by decide +kernel
theorem dX12_leanBy_89 : decode cX12_leanBy 89 = .ok (.if_icmp .ne 12, 3) := by decide +kernel
theorem dX12_leanBy_92 : decode cX12_leanBy 92 = .ok (.iload 6, 2) := by decide +kernel
theorem dX12_leanBy_94 : decode cX12_leanBy 94 = .ok (.invokestatic 107, 3) := by decide +kernel
theorem dX12_leanBy_97 : decode cX12_leanBy 97 = .ok (.ineg, 1) := by decide +kernel
theorem dX12_leanBy_98 : decode cX12_leanBy 98 = .ok (.goto 8, 3) := by decide +kernel
theorem dX12_leanBy_101 : decode cX12_leanBy 101 = .ok (.iload 6, 2) := by decide +kernel
theorem dX12_leanBy_103 : decode cX12_leanBy 103 = .ok (.invokestatic 107, 3) := by decide +kernel
theorem dX12_leanBy_106 : decode cX12_leanBy 106 = .ok (.ireturn, 1) := by decide +kernel
theorem dX12_leanBy_107 : decode cX12_leanBy 107 = .ok (.iload 6, 2) := by decide +kernel
theorem dX12_leanBy_109 : decode cX12_leanBy 109 = .ok (.ireturn, 1) := by decide +kernel
theorem dX12_cellBy_0 : decode cX12_cellBy 0 = .ok (.iload_n 1, 1) := by decide +kernel
theorem dX12_cellBy_1 : decode cX12_cellBy 1 = .ok (.iload_n 2, 1) := by decide +kernel
theorem dX12_cellBy_2 : decode cX12_cellBy 2 = .ok (.iadd, 1) := by decide +kernel
theorem dX12_cellBy_3 : decode cX12_cellBy 3 = .ok (.aload_n 0, 1) := by decide +kernel
theorem dX12_cellBy_4 : decode cX12_cellBy 4 = .ok (.invokevirtual 60, 3) := by decide +kernel
theorem dX12_cellBy_7 : decode cX12_cellBy 7 = .ok (.if_icmp .le 10, 3) := by decide +kernel
theorem dX12_cellBy_10 : decode cX12_cellBy 10 = .ok (.aload_n 0, 1) := by decide +kernel
theorem dX12_cellBy_11 : decode cX12_cellBy 11 = .ok (.invokevirtual 60, 3) := by decide +kernel
theorem dX12_cellBy_14 : decode cX12_cellBy 14 = .ok (.goto 6, 3) := by decide +kernel
theorem dX12_cellBy_17 : decode cX12_cellBy 17 = .ok (.iload_n 1, 1) := by decide +kernel
theorem dX12_cellBy_18 : decode cX12_cellBy 18 = .ok (.iload_n 2, 1) := by decide +kernel
theorem dX12_cellBy_19 : decode cX12_cellBy 19 = .ok (.iadd, 1) := by decide +kernel
theorem dX12_cellBy_20 : decode cX12_cellBy 20 = .ok (.ireturn, 1) := by decide +kernel
theorem dX12_leanBehind_0 : decode cX12_leanBehind 0 = .ok (.iload_n 1, 1) := by decide +kernel
theorem dX12_leanBehind_1 : decode cX12_leanBehind 1 = .ok (.iload_n 3, 1) := by decide +kernel
theorem dX12_leanBehind_2 : decode cX12_leanBehind 2 = .ok (.aload_n 0, 1) := by decide +kernel
theorem dX12_leanBehind_3 : decode cX12_leanBehind 3 = .ok (.getfield 27, 3) := by decide +kernel
theorem dX12_leanBehind_6 : decode cX12_leanBehind 6 = .ok (.aload_n 0, 1) := by decide +kernel
theorem dX12_leanBehind_7 : decode cX12_leanBehind 7 = .ok (.iload_n 2, 1) := by decide +kernel
theorem dX12_leanBehind_8 : decode cX12_leanBehind 8 = .ok (.iload 5, 2) := by decide +kernel
theorem dX12_leanBehind_10 : decode cX12_leanBehind 10 = .ok (.invokevirtual 110, 3) := by decide +kernel
theorem dX12_leanBehind_13 : decode cX12_leanBehind 13 = .ok (.iaload, 1) := by decide +kernel
theorem dX12_leanBehind_14 : decode cX12_leanBehind 14 = .ok (.aload_n 0, 1) := by decide +kernel
theorem dX12_leanBehind_15 : decode cX12_leanBehind 15 = .ok (.getfield 7, 3) := by decide +kernel
theorem dX12_leanBehind_18 : decode cX12_leanBehind 18 = .ok (.bipush 21, 2) := by decide +kernel
theorem dX12_leanBehind_20 : decode cX12_leanBehind 20 = .ok (.iload 4, 2) := by decide +kernel
theorem dX12_leanBehind_22 : decode cX12_leanBehind 22 = .ok (.bipush 6, 2) := by decide +kernel
theorem dX12_leanBehind_24 : decode cX12_leanBehind 24 = .ok (.irem, 1) := by decide +kernel
theorem dX12_leanBehind_25 : decode cX12_leanBehind 25 = .ok (.iadd, 1) := by decide +kernel
theorem dX12_leanBehind_26 : decode cX12_leanBehind 26 = .ok (.iaload, 1) := by decide +kernel
theorem dX12_leanBehind_27 : decode cX12_leanBehind 27 = .ok (.iload 5, 2) := by decide +kernel
theorem dX12_leanBehind_29 : decode cX12_leanBehind 29 = .ok (.invokestatic 114, 3) := by decide +kernel
theorem dX12_leanBehind_32 : decode cX12_leanBehind 32 = .ok (.ireturn, 1) := by decide +kernel
theorem dX12_walk_0 : decode cX12_walk 0 = .ok (.aload_n 0, 1) := by decide +kernel
theorem dX12_walk_1 : decode cX12_walk 1 = .ok (.iload_n 1, 1) := by decide +kernel
theorem dX12_walk_2 : decode cX12_walk 2 = .ok (.invokevirtual 98, 3) := by decide +kernel
theorem dX12_walk_5 : decode cX12_walk 5 = .ok (.ifCond .ne 10, 3) := by decide +kernel
theorem dX12_walk_8 : decode cX12_walk 8 = .ok (.aload_n 0, 1) := by decide +kernel
theorem dX12_walk_9 : decode cX12_walk 9 = .ok (.bipush (-2), 2) := by decide +kernel
theorem dX12_walk_11 : decode cX12_walk 11 = .ok (.invokevirtual 76, 3) := by decide +kernel
theorem dX12_walk_14 : decode cX12_walk 14 = .ok (.ireturn, 1) := by decide +kernel
theorem dX12_walk_15 : decode cX12_walk 15 = .ok (.aload_n 0, 1) := by decide +kernel
theorem dX12_walk_16 : decode cX12_walk 16 = .ok (.getfield 7, 3) := by decide +kernel
theorem dX12_walk_19 : decode cX12_walk 19 = .ok (.bipush 37, 2) := by decide +kernel
theorem dX12_walk_21 : decode cX12_walk 21 = .ok (.iload_n 1, 1) := by decide +kernel
theorem dX12_walk_22 : decode cX12_walk 22 = .ok (.iastore, 1) := by decide +kernel
theorem dX12_walk_23 : decode cX12_walk 23 = .ok (.aload_n 0, 1) := by decide +kernel
theorem dX12_walk_24 : decode cX12_walk 24 = .ok (.getfield 7, 3) := by decide +kernel
theorem dX12_walk_27 : decode cX12_walk 27 = .ok (.bipush 38, 2) := by decide +kernel
theorem dX12_walk_29 : decode cX12_walk 29 = .ok (.iconst 0, 1) := by decide +kernel
theorem dX12_walk_30 : decode cX12_walk 30 = .ok (.iastore, 1) := by decide +kernel
theorem dX12_walk_31 : decode cX12_walk 31 = .ok (.aload_n 0, 1) := by decide +kernel
theorem dX12_walk_32 : decode cX12_walk 32 = .ok (.getfield 7, 3) := by decide +kernel
theorem dX12_walk_35 : decode cX12_walk 35 = .ok (.bipush 39, 2) := by decide +kernel
theorem dX12_walk_37 : decode cX12_walk 37 = .ok (.iconst 0, 1) := by decide +kernel
theorem dX12_walk_38 : decode cX12_walk 38 = .ok (.iastore, 1) := by decide +kernel
theorem dX12_walk_39 : decode cX12_walk 39 = .ok (.aload_n 0, 1) := by decide +kernel
theorem dX12_walk_40 : decode cX12_walk 40 = .ok (.getfield 7, 3) := by decide +kernel
theorem dX12_walk_43 : decode cX12_walk 43 = .ok (.bipush 40, 2) := by decide +kernel
theorem dX12_walk_45 : decode cX12_walk 45 = .ok (.aload_n 0, 1) := by decide +kernel
theorem dX12_walk_46 : decode cX12_walk 46 = .ok (.iload_n 1, 1) := by decide +kernel
theorem dX12_walk_47 : decode cX12_walk 47 = .ok (.invokevirtual 104, 3) := by decide +kernel
theorem dX12_walk_50 : decode cX12_walk 50 = .ok (.iastore, 1) := by decide +kernel
theorem dX12_walk_51 : decode cX12_walk 51 = .ok (.aload_n 0, 1) := by decide +kernel
theorem dX12_walk_52 : decode cX12_walk 52 = .ok (.getfield 7, 3) := by decide +kernel
theorem dX12_walk_55 : decode cX12_walk 55 = .ok (.bipush 41, 2) := by decide +kernel
theorem dX12_walk_57 : decode cX12_walk 57 = .ok (.aload_n 0, 1) := by decide +kernel
theorem dX12_walk_58 : decode cX12_walk 58 = .ok (.aload_n 0, 1) := by decide +kernel
theorem dX12_walk_59 : decode cX12_walk 59 = .ok (.iload_n 1, 1) := by decide +kernel
theorem dX12_walk_60 : decode cX12_walk 60 = .ok (.invokevirtual 104, 3) := by decide +kernel
theorem dX12_walk_63 : decode cX12_walk 63 = .ok (.invokevirtual 118, 3) := by decide +kernel
theorem dX12_walk_66 : decode cX12_walk 66 = .ok (.ifCond .eq 7, 3) := by decide +kernel
theorem dX12_walk_69 : decode cX12_walk 69 = .ok (.iconst 1, 1) := by decide +kernel
theorem dX12_walk_70 : decode cX12_walk 70 = .ok (.goto 4, 3) := by decide +kernel
theorem dX12_walk_73 : decode cX12_walk 73 = .ok (.iconst 0, 1) := by decide +kernel
theorem dX12_walk_74 : decode cX12_walk 74 = .ok (.iastore, 1) := by decide +kernel
theorem dX12_walk_75 : decode cX12_walk 75 = .ok (.aload_n 0, 1) := by decide +kernel
theorem dX12_walk_76 : decode cX12_walk 76 = .ok (.getfield 7, 3) := by decide +kernel
theorem dX12_walk_79 : decode cX12_walk 79 = .ok (.iconst 4, 1) := by decide +kernel
theorem dX12_walk_80 : decode cX12_walk 80 = .ok (.iconst 0, 1) := by decide +kernel
theorem dX12_walk_81 : decode cX12_walk 81 = .ok (.iastore, 1) := by decide +kernel
theorem dX12_walk_82 : decode cX12_walk 82 = .ok (.aload_n 0, 1) := by decide +kernel
theorem dX12_walk_83 : decode cX12_walk 83 = .ok (.getfield 7, 3) := by decide +kernel
theorem dX12_walk_86 : decode cX12_walk 86 = .ok (.bipush 41, 2) := by decide +kernel
theorem dX12_walk_88 : decode cX12_walk 88 = .ok (.iaload, 1) := by decide +kernel
theorem dX12_walk_89 : decode cX12_walk 89 = .ok (.ireturn, 1) := by decide +kernel
theorem dX12_keep_0 : decode cX12_keep 0 = .ok (.aload_n 0, 1) := by decide +kernel
theorem dX12_keep_1 : decode cX12_keep 1 = .ok (.getfield 7, 3) := by decide +kernel
theorem dX12_keep_4 : decode cX12_keep 4 = .ok (.iconst 4, 1) := by decide +kernel
theorem dX12_keep_5 : decode cX12_keep 5 = .ok (.iaload, 1) := by decide +kernel
theorem dX12_keep_6 : decode cX12_keep 6 = .ok (.bipush 8, 2) := by decide +kernel
theorem dX12_keep_8 : decode cX12_keep 8 = .ok (.if_icmp .ne 43, 3) := by decide +kernel
theorem dX12_keep_11 : decode cX12_keep 11 = .ok (.iconst 0, 1) := by decide +kernel
theorem dX12_keep_12 : decode cX12_keep 12 = .ok (.istore_n 1, 1) := by decide +kernel
theorem dX12_keep_13 : decode cX12_keep 13 = .ok (.iload_n 1, 1) := by decide +kernel
theorem dX12_keep_14 : decode cX12_keep 14 = .ok (.bipush 28, 2) := by decide +kernel
theorem dX12_keep_16 : decode cX12_keep 16 = .ok (.if_icmp .ge 27, 3) := by decide +kernel
theorem dX12_keep_19 : decode cX12_keep 19 = .ok (.aload_n 0, 1) := by decide +kernel
theorem dX12_keep_20 : decode cX12_keep 20 = .ok (.getfield 7, 3) := by decide +kernel
theorem dX12_keep_23 : decode cX12_keep 23 = .ok (.bipush 66, 2) := by decide +kernel
theorem dX12_keep_25 : decode cX12_keep 25 = .ok (.iload_n 1, 1) := by decide +kernel
theorem dX12_keep_26 : decode cX12_keep 26 = .ok (.iadd, 1) := by decide +kernel
theorem dX12_keep_27 : decode cX12_keep 27 = .ok (.aload_n 0, 1) := by decide +kernel
theorem dX12_keep_28 : decode cX12_keep 28 = .ok (.getfield 7, 3) := by decide +kernel
theorem dX12_keep_31 : decode cX12_keep 31 = .ok (.bipush 70, 2) := by decide +kernel
theorem dX12_keep_33 : decode cX12_keep 33 = .ok (.iload_n 1, 1) := by decide +kernel
theorem dX12_keep_34 : decode cX12_keep 34 = .ok (.iadd, 1) := by decide +kernel
theorem dX12_keep_35 : decode cX12_keep 35 = .ok (.iaload, 1) := by decide +kernel
theorem dX12_keep_36 : decode cX12_keep 36 = .ok (.iastore, 1) := by decide +kernel
theorem dX12_keep_37 : decode cX12_keep 37 = .ok (.iinc 1 1, 3) := by decide +kernel
theorem dX12_keep_40 : decode cX12_keep 40 = .ok (.goto (-27), 3) := by decide +kernel
theorem dX12_keep_43 : decode cX12_keep 43 = .ok (.aload_n 0, 1) := by decide +kernel
theorem dX12_keep_44 : decode cX12_keep 44 = .ok (.getfield 7, 3) := by decide +kernel
theorem dX12_keep_47 : decode cX12_keep 47 = .ok (.iconst 4, 1) := by decide +kernel
theorem dX12_keep_48 : decode cX12_keep 48 = .ok (.bipush 7, 2) := by decide +kernel
theorem dX12_keep_50 : decode cX12_keep 50 = .ok (.iastore, 1) := by decide +kernel
theorem dX12_keep_51 : decode cX12_keep 51 = .ok (.iconst 0, 1) := by decide +kernel
theorem dX12_keep_52 : decode cX12_keep 52 = .ok (.istore_n 1, 1) := by decide +kernel
theorem dX12_keep_53 : decode cX12_keep 53 = .ok (.iload_n 1, 1) := by decide +kernel
theorem dX12_keep_54 : decode cX12_keep 54 = .ok (.iconst 4, 1) := by decide +kernel
theorem dX12_keep_55 : decode cX12_keep 55 = .ok (.if_icmp .ge 36, 3) := by decide +kernel
theorem dX12_keep_58 : decode cX12_keep 58 = .ok (.aload_n 0, 1) := by decide +kernel
theorem dX12_keep_59 : decode cX12_keep 59 = .ok (.getfield 7, 3) := by decide +kernel
theorem dX12_keep_62 : decode cX12_keep 62 = .ok (.bipush 66, 2) := by decide +kernel
theorem dX12_keep_64 : decode cX12_keep 64 = .ok (.iconst 4, 1) := by decide +kernel
theorem dX12_keep_65 : decode cX12_keep 65 = .ok (.aload_n 0, 1) := by decide +kernel
theorem dX12_keep_66 : decode cX12_keep 66 = .ok (.getfield 7, 3) := by decide +kernel
theorem dX12_keep_69 : decode cX12_keep 69 = .ok (.iconst 4, 1) := by decide +kernel
theorem dX12_keep_70 : decode cX12_keep 70 = .ok (.iaload, 1) := by decide +kernel
theorem dX12_keep_71 : decode cX12_keep 71 = .ok (.imul, 1) := by decide +kernel
theorem dX12_keep_72 : decode cX12_keep 72 = .ok (.iadd, 1) := by decide +kernel
theorem dX12_keep_73 : decode cX12_keep 73 = .ok (.iload_n 1, 1) := by decide +kernel
theorem dX12_keep_74 : decode cX12_keep 74 = .ok (.iadd, 1) := by decide +kernel
theorem dX12_keep_75 : decode cX12_keep 75 = .ok (.aload_n 0, 1) := by decide +kernel
theorem dX12_keep_76 : decode cX12_keep 76 = .ok (.getfield 7, 3) := by decide +kernel
theorem dX12_keep_79 : decode cX12_keep 79 = .ok (.bipush 38, 2) := by decide +kernel
theorem dX12_keep_81 : decode cX12_keep 81 = .ok (.iload_n 1, 1) := by decide +kernel
theorem dX12_keep_82 : decode cX12_keep 82 = .ok (.iadd, 1) := by decide +kernel
theorem dX12_keep_83 : decode cX12_keep 83 = .ok (.iaload, 1) := by decide +kernel
theorem dX12_keep_84 : decode cX12_keep 84 = .ok (.iastore, 1) := by decide +kernel
theorem dX12_keep_85 : decode cX12_keep 85 = .ok (.iinc 1 1, 3) := by decide +kernel
theorem dX12_keep_88 : decode cX12_keep 88 = .ok (.goto (-35), 3) := by decide +kernel
theorem dX12_keep_91 : decode cX12_keep 91 = .ok (.aload_n 0, 1) := by decide +kernel
theorem dX12_keep_92 : decode cX12_keep 92 = .ok (.getfield 7, 3) := by decide +kernel
theorem dX12_keep_95 : decode cX12_keep 95 = .ok (.iconst 4, 1) := by decide +kernel
theorem dX12_keep_96 : decode cX12_keep 96 = .ok (.dup2, 1) := by decide +kernel
theorem dX12_keep_97 : decode cX12_keep 97 = .ok (.iaload, 1) := by decide +kernel
theorem dX12_keep_98 : decode cX12_keep 98 = .ok (.iconst 1, 1) := by decide +kernel
theorem dX12_keep_99 : decode cX12_keep 99 = .ok (.iadd, 1) := by decide +kernel
theorem dX12_keep_100 : decode cX12_keep 100 = .ok (.iastore, 1) := by decide +kernel
theorem dX12_keep_101 : decode cX12_keep 101 = .ok (.return_, 1) := by decide +kernel
theorem dX12_isWalk_0 : decode cX12_isWalk 0 = .ok (.aload_n 0, 1) := by decide +kernel
theorem dX12_isWalk_1 : decode cX12_isWalk 1 = .ok (.getfield 7, 3) := by decide +kernel
theorem dX12_isWalk_4 : decode cX12_isWalk 4 = .ok (.bipush 37, 2) := by decide +kernel
theorem dX12_isWalk_6 : decode cX12_isWalk 6 = .ok (.iaload, 1) := by decide +kernel
theorem dX12_isWalk_7 : decode cX12_isWalk 7 = .ok (.iconst (-1), 1) := by decide +kernel
theorem dX12_isWalk_8 : decode cX12_isWalk 8 = .ok (.if_icmp .eq 7, 3) := by decide +kernel
theorem dX12_isWalk_11 : decode cX12_isWalk 11 = .ok (.iconst 1, 1) := by decide +kernel
theorem dX12_isWalk_12 : decode cX12_isWalk 12 = .ok (.goto 4, 3) := by decide +kernel
theorem dX12_isWalk_15 : decode cX12_isWalk 15 = .ok (.iconst 0, 1) := by decide +kernel
theorem dX12_isWalk_16 : decode cX12_isWalk 16 = .ok (.ireturn, 1) := by decide +kernel
theorem dX12_isThere_0 : decode cX12_isThere 0 = .ok (.aload_n 0, 1) := by decide +kernel
theorem dX12_isThere_1 : decode cX12_isThere 1 = .ok (.getfield 7, 3) := by decide +kernel
theorem dX12_isThere_4 : decode cX12_isThere 4 = .ok (.bipush 38, 2) := by decide +kernel
theorem dX12_isThere_6 : decode cX12_isThere 6 = .ok (.iaload, 1) := by decide +kernel
theorem dX12_isThere_7 : decode cX12_isThere 7 = .ok (.aload_n 0, 1) := by decide +kernel
theorem dX12_isThere_8 : decode cX12_isThere 8 = .ok (.invokevirtual 60, 3) := by decide +kernel
theorem dX12_isThere_11 : decode cX12_isThere 11 = .ok (.if_icmp .ne 7, 3) := by decide +kernel
theorem dX12_isThere_14 : decode cX12_isThere 14 = .ok (.iconst 1, 1) := by decide +kernel
theorem dX12_isThere_15 : decode cX12_isThere 15 = .ok (.goto 4, 3) := by decide +kernel
theorem dX12_isThere_18 : decode cX12_isThere 18 = .ok (.iconst 0, 1) := by decide +kernel
theorem dX12_isThere_19 : decode cX12_isThere 19 = .ok (.ireturn, 1) := by decide +kernel
theorem dX12_step_0 : decode cX12_step 0 = .ok (.iload_n 1, 1) := by decide +kernel
theorem dX12_step_1 : decode cX12_step 1 = .ok (.invokestatic 121, 3) := by decide +kernel
theorem dX12_step_4 : decode cX12_step 4 = .ok (.ifCond .ne 10, 3) := by decide +kernel
theorem dX12_step_7 : decode cX12_step 7 = .ok (.aload_n 0, 1) := by decide +kernel
theorem dX12_step_8 : decode cX12_step 8 = .ok (.bipush (-10), 2) := by decide +kernel
theorem dX12_step_10 : decode cX12_step 10 = .ok (.invokevirtual 76, 3) := by decide +kernel
theorem dX12_step_13 : decode cX12_step 13 = .ok (.ireturn, 1) := by decide +kernel
theorem dX12_step_14 : decode cX12_step 14 = .ok (.aload_n 0, 1) := by decide +kernel
theorem dX12_step_15 : decode cX12_step 15 = .ok (.invokevirtual 124, 3) := by decide +kernel
theorem dX12_step_18 : decode cX12_step 18 = .ok (.ifCond .eq 21, 3) := by decide +kernel
theorem dX12_step_21 : decode cX12_step 21 = .ok (.aload_n 0, 1) := by decide +kernel
theorem dX12_step_22 : decode cX12_step 22 = .ok (.invokevirtual 128, 3) := by decide +kernel
theorem dX12_step_25 : decode cX12_step 25 = .ok (.ifCond .ne 14, 3) := by decide +kernel
theorem dX12_step_28 : decode cX12_step 28 = .ok (.aload_n 0, 1) := by decide +kernel
theorem dX12_step_29 : decode cX12_step 29 = .ok (.getfield 7, 3) := by decide +kernel
theorem dX12_step_32 : decode cX12_step 32 = .ok (.bipush 41, 2) := by decide +kernel
theorem dX12_step_34 : decode cX12_step 34 = .ok (.iaload, 1) := by decide +kernel
theorem dX12_step_35 : decode cX12_step 35 = .ok (.iconst 1, 1) := by decide +kernel
theorem dX12_step_36 : decode cX12_step 36 = .ok (.if_icmp .ne 10, 3) := by decide +kernel
theorem dX12_step_39 : decode cX12_step 39 = .ok (.aload_n 0, 1) := by decide +kernel
theorem dX12_step_40 : decode cX12_step 40 = .ok (.bipush (-3), 2) := by decide +kernel
theorem dX12_step_42 : decode cX12_step 42 = .ok (.invokevirtual 131, 3) := by decide +kernel
theorem dX12_step_45 : decode cX12_step 45 = .ok (.ireturn, 1) := by decide +kernel
theorem dX12_step_46 : decode cX12_step 46 = .ok (.aload_n 0, 1) := by decide +kernel
theorem dX12_step_47 : decode cX12_step 47 = .ok (.invokevirtual 134, 3) := by decide +kernel
theorem dX12_step_50 : decode cX12_step 50 = .ok (.aload_n 0, 1) := by decide +kernel
theorem dX12_step_51 : decode cX12_step 51 = .ok (.invokevirtual 137, 3) := by decide +kernel
theorem dX12_step_54 : decode cX12_step 54 = .ok (.aload_n 0, 1) := by decide +kernel
theorem dX12_step_55 : decode cX12_step 55 = .ok (.aload_n 0, 1) := by decide +kernel
theorem dX12_step_56 : decode cX12_step 56 = .ok (.aload_n 0, 1) := by decide +kernel
theorem dX12_step_57 : decode cX12_step 57 = .ok (.getfield 7, 3) := by decide +kernel
theorem dX12_step_60 : decode cX12_step 60 = .ok (.bipush 37, 2) := by decide +kernel
theorem dX12_step_62 : decode cX12_step 62 = .ok (.iaload, 1) := by decide +kernel
theorem dX12_step_63 : decode cX12_step 63 = .ok (.invokevirtual 101, 3) := by decide +kernel
theorem dX12_step_66 : decode cX12_step 66 = .ok (.aload_n 0, 1) := by decide +kernel
theorem dX12_step_67 : decode cX12_step 67 = .ok (.getfield 7, 3) := by decide +kernel
theorem dX12_step_70 : decode cX12_step 70 = .ok (.bipush 38, 2) := by decide +kernel
theorem dX12_step_72 : decode cX12_step 72 = .ok (.iaload, 1) := by decide +kernel
theorem dX12_step_73 : decode cX12_step 73 = .ok (.aload_n 0, 1) := by decide +kernel
theorem dX12_step_74 : decode cX12_step 74 = .ok (.getfield 7, 3) := by decide +kernel
theorem dX12_step_77 : decode cX12_step 77 = .ok (.bipush 40, 2) := by decide +kernel
theorem dX12_step_79 : decode cX12_step 79 = .ok (.iaload, 1) := by decide +kernel
theorem dX12_step_80 : decode cX12_step 80 = .ok (.aload_n 0, 1) := by decide +kernel
theorem dX12_step_81 : decode cX12_step 81 = .ok (.getfield 7, 3) := by decide +kernel
theorem dX12_step_84 : decode cX12_step 84 = .ok (.bipush 39, 2) := by decide +kernel
theorem dX12_step_86 : decode cX12_step 86 = .ok (.iaload, 1) := by decide +kernel
theorem dX12_step_87 : decode cX12_step 87 = .ok (.iload_n 1, 1) := by decide +kernel
theorem dX12_step_88 : decode cX12_step 88 = .ok (.invokevirtual 140, 3) := by decide +kernel
theorem dX12_step_91 : decode cX12_step 91 = .ok (.istore_n 2, 1) := by decide +kernel
theorem dX12_step_92 : decode cX12_step 92 = .ok (.aload_n 0, 1) := by decide +kernel
theorem dX12_step_93 : decode cX12_step 93 = .ok (.getfield 7, 3) := by decide +kernel
theorem dX12_step_96 : decode cX12_step 96 = .ok (.bipush 38, 2) := by decide +kernel
theorem dX12_step_98 : decode cX12_step 98 = .ok (.aload_n 0, 1) := by decide +kernel
theorem dX12_step_99 : decode cX12_step 99 = .ok (.aload_n 0, 1) := by decide +kernel
theorem dX12_step_100 : decode cX12_step 100 = .ok (.getfield 7, 3) := by decide +kernel
theorem dX12_step_103 : decode cX12_step 103 = .ok (.bipush 38, 2) := by decide +kernel
theorem dX12_step_105 : decode cX12_step 105 = .ok (.iaload, 1) := by decide +kernel
theorem dX12_step_106 : decode cX12_step 106 = .ok (.iload_n 1, 1) := by decide +kernel
theorem dX12_step_107 : decode cX12_step 107 = .ok (.invokevirtual 110, 3) := by decide +kernel
theorem dX12_step_110 : decode cX12_step 110 = .ok (.iastore, 1) := by decide +kernel
theorem dX12_step_111 : decode cX12_step 111 = .ok (.aload_n 0, 1) := by decide +kernel
theorem dX12_step_112 : decode cX12_step 112 = .ok (.getfield 7, 3) := by decide +kernel
theorem dX12_step_115 : decode cX12_step 115 = .ok (.bipush 39, 2) := by decide +kernel
theorem dX12_step_117 : decode cX12_step 117 = .ok (.dup2, 1) := by decide +kernel
theorem dX12_step_118 : decode cX12_step 118 = .ok (.iaload, 1) := by decide +kernel
theorem dX12_step_119 : decode cX12_step 119 = .ok (.iconst 1, 1) := by decide +kernel
theorem dX12_step_120 : decode cX12_step 120 = .ok (.iadd, 1) := by decide +kernel
theorem dX12_step_121 : decode cX12_step 121 = .ok (.iastore, 1) := by decide +kernel
theorem dX12_step_122 : decode cX12_step 122 = .ok (.aload_n 0, 1) := by decide +kernel
theorem dX12_step_123 : decode cX12_step 123 = .ok (.getfield 7, 3) := by decide +kernel
theorem dX12_step_126 : decode cX12_step 126 = .ok (.bipush 40, 2) := by decide +kernel
theorem dX12_step_128 : decode cX12_step 128 = .ok (.iload_n 2, 1) := by decide +kernel
theorem dX12_step_129 : decode cX12_step 129 = .ok (.iastore, 1) := by decide +kernel
theorem dX12_step_130 : decode cX12_step 130 = .ok (.aload_n 0, 1) := by decide +kernel
theorem dX12_step_131 : decode cX12_step 131 = .ok (.getfield 7, 3) := by decide +kernel
theorem dX12_step_134 : decode cX12_step 134 = .ok (.bipush 41, 2) := by decide +kernel
theorem dX12_step_136 : decode cX12_step 136 = .ok (.aload_n 0, 1) := by decide +kernel
theorem dX12_step_137 : decode cX12_step 137 = .ok (.iload_n 2, 1) := by decide +kernel
theorem dX12_step_138 : decode cX12_step 138 = .ok (.invokevirtual 118, 3) := by decide +kernel
theorem dX12_step_141 : decode cX12_step 141 = .ok (.ifCond .eq 7, 3) := by decide +kernel
theorem dX12_step_144 : decode cX12_step 144 = .ok (.iconst 1, 1) := by decide +kernel
theorem dX12_step_145 : decode cX12_step 145 = .ok (.goto 4, 3) := by decide +kernel
theorem dX12_step_148 : decode cX12_step 148 = .ok (.iconst 0, 1) := by decide +kernel
theorem dX12_step_149 : decode cX12_step 149 = .ok (.iastore, 1) := by decide +kernel
theorem dX12_step_150 : decode cX12_step 150 = .ok (.aload_n 0, 1) := by decide +kernel
theorem dX12_step_151 : decode cX12_step 151 = .ok (.getfield 7, 3) := by decide +kernel
theorem dX12_step_154 : decode cX12_step 154 = .ok (.bipush 38, 2) := by decide +kernel
theorem dX12_step_156 : decode cX12_step 156 = .ok (.iaload, 1) := by decide +kernel
theorem dX12_step_157 : decode cX12_step 157 = .ok (.ireturn, 1) := by decide +kernel
theorem dX12_hand_0 : decode cX12_hand 0 = .ok (.aload_n 0, 1) := by decide +kernel
theorem dX12_hand_1 : decode cX12_hand 1 = .ok (.invokevirtual 124, 3) := by decide +kernel
theorem dX12_hand_4 : decode cX12_hand 4 = .ok (.ifCond .eq 20, 3) := by decide +kernel
theorem dX12_hand_7 : decode cX12_hand 7 = .ok (.aload_n 0, 1) := by decide +kernel
theorem dX12_hand_8 : decode cX12_hand 8 = .ok (.invokevirtual 128, 3) := by decide +kernel
theorem dX12_hand_11 : decode cX12_hand 11 = .ok (.ifCond .eq 20, 3) := by decide +kernel
theorem dX12_hand_14 : decode cX12_hand 14 = .ok (.aload_n 0, 1) := by decide +kernel
theorem dX12_hand_15 : decode cX12_hand 15 = .ok (.getfield 7, 3) := by decide +kernel
theorem dX12_hand_18 : decode cX12_hand 18 = .ok (.bipush 41, 2) := by decide +kernel
theorem dX12_hand_20 : decode cX12_hand 20 = .ok (.iaload, 1) := by decide +kernel
theorem dX12_hand_21 : decode cX12_hand 21 = .ok (.ifCond .ne 10, 3) := by decide +kernel
theorem dX12_hand_24 : decode cX12_hand 24 = .ok (.aload_n 0, 1) := by decide +kernel
theorem dX12_hand_25 : decode cX12_hand 25 = .ok (.bipush (-99), 2) := by decide +kernel
theorem dX12_hand_27 : decode cX12_hand 27 = .ok (.invokevirtual 131, 3) := by decide +kernel
theorem dX12_hand_30 : decode cX12_hand 30 = .ok (.ireturn, 1) := by decide +kernel
theorem dX12_hand_31 : decode cX12_hand 31 = .ok (.aload_n 0, 1) := by decide +kernel
theorem dX12_hand_32 : decode cX12_hand 32 = .ok (.getfield 7, 3) := by decide +kernel
theorem dX12_hand_35 : decode cX12_hand 35 = .ok (.bipush 40, 2) := by decide +kernel
theorem dX12_hand_37 : decode cX12_hand 37 = .ok (.iaload, 1) := by decide +kernel
theorem dX12_hand_38 : decode cX12_hand 38 = .ok (.istore_n 1, 1) := by decide +kernel
theorem dX12_hand_39 : decode cX12_hand 39 = .ok (.aload_n 0, 1) := by decide +kernel
theorem dX12_hand_40 : decode cX12_hand 40 = .ok (.invokevirtual 134, 3) := by decide +kernel
theorem dX12_hand_43 : decode cX12_hand 43 = .ok (.aload_n 0, 1) := by decide +kernel
theorem dX12_hand_44 : decode cX12_hand 44 = .ok (.getfield 7, 3) := by decide +kernel
theorem dX12_hand_47 : decode cX12_hand 47 = .ok (.bipush 40, 2) := by decide +kernel
theorem dX12_hand_49 : decode cX12_hand 49 = .ok (.iconst 0, 1) := by decide +kernel
theorem dX12_hand_50 : decode cX12_hand 50 = .ok (.iastore, 1) := by decide +kernel
theorem dX12_hand_51 : decode cX12_hand 51 = .ok (.aload_n 0, 1) := by decide +kernel
theorem dX12_hand_52 : decode cX12_hand 52 = .ok (.getfield 7, 3) := by decide +kernel
theorem dX12_hand_55 : decode cX12_hand 55 = .ok (.bipush 41, 2) := by decide +kernel
theorem dX12_hand_57 : decode cX12_hand 57 = .ok (.iconst 0, 1) := by decide +kernel
theorem dX12_hand_58 : decode cX12_hand 58 = .ok (.iastore, 1) := by decide +kernel
theorem dX12_hand_59 : decode cX12_hand 59 = .ok (.iload_n 1, 1) := by decide +kernel
theorem dX12_hand_60 : decode cX12_hand 60 = .ok (.ireturn, 1) := by decide +kernel
theorem dX12_undo_0 : decode cX12_undo 0 = .ok (.aload_n 0, 1) := by decide +kernel
theorem dX12_undo_1 : decode cX12_undo 1 = .ok (.getfield 7, 3) := by decide +kernel
theorem dX12_undo_4 : decode cX12_undo 4 = .ok (.iconst 4, 1) := by decide +kernel
theorem dX12_undo_5 : decode cX12_undo 5 = .ok (.iaload, 1) := by decide +kernel
theorem dX12_undo_6 : decode cX12_undo 6 = .ok (.ifCond .ne 10, 3) := by decide +kernel
theorem dX12_undo_9 : decode cX12_undo 9 = .ok (.aload_n 0, 1) := by decide +kernel
theorem dX12_undo_10 : decode cX12_undo 10 = .ok (.bipush (-3), 2) := by decide +kernel
theorem dX12_undo_12 : decode cX12_undo 12 = .ok (.invokevirtual 131, 3) := by decide +kernel
theorem dX12_undo_15 : decode cX12_undo 15 = .ok (.ireturn, 1) := by decide +kernel
theorem dX12_undo_16 : decode cX12_undo 16 = .ok (.aload_n 0, 1) := by decide +kernel
theorem dX12_undo_17 : decode cX12_undo 17 = .ok (.getfield 7, 3) := by decide +kernel
theorem dX12_undo_20 : decode cX12_undo 20 = .ok (.iconst 4, 1) := by decide +kernel
theorem dX12_undo_21 : decode cX12_undo 21 = .ok (.dup2, 1) := by decide +kernel
theorem dX12_undo_22 : decode cX12_undo 22 = .ok (.iaload, 1) := by decide +kernel
theorem dX12_undo_23 : decode cX12_undo 23 = .ok (.iconst 1, 1) := by decide +kernel
theorem dX12_undo_24 : decode cX12_undo 24 = .ok (.isub, 1) := by decide +kernel
theorem dX12_undo_25 : decode cX12_undo 25 = .ok (.iastore, 1) := by decide +kernel
theorem dX12_undo_26 : decode cX12_undo 26 = .ok (.iconst 0, 1) := by decide +kernel
theorem dX12_undo_27 : decode cX12_undo 27 = .ok (.istore_n 1, 1) := by decide +kernel
theorem dX12_undo_28 : decode cX12_undo 28 = .ok (.iload_n 1, 1) := by decide +kernel
theorem dX12_undo_29 : decode cX12_undo 29 = .ok (.iconst 4, 1) := by decide +kernel
theorem dX12_undo_30 : decode cX12_undo 30 = .ok (.if_icmp .ge 36, 3) := by decide +kernel
theorem dX12_undo_33 : decode cX12_undo 33 = .ok (.aload_n 0, 1) := by decide +kernel
theorem dX12_undo_34 : decode cX12_undo 34 = .ok (.getfield 7, 3) := by decide +kernel
theorem dX12_undo_37 : decode cX12_undo 37 = .ok (.bipush 38, 2) := by decide +kernel
theorem dX12_undo_39 : decode cX12_undo 39 = .ok (.iload_n 1, 1) := by decide +kernel
theorem dX12_undo_40 : decode cX12_undo 40 = .ok (.iadd, 1) := by decide +kernel
theorem dX12_undo_41 : decode cX12_undo 41 = .ok (.aload_n 0, 1) := by decide +kernel
theorem dX12_undo_42 : decode cX12_undo 42 = .ok (.getfield 7, 3) := by decide +kernel
theorem dX12_undo_45 : decode cX12_undo 45 = .ok (.bipush 66, 2) := by decide +kernel
theorem dX12_undo_47 : decode cX12_undo 47 = .ok (.iconst 4, 1) := by decide +kernel
theorem dX12_undo_48 : decode cX12_undo 48 = .ok (.aload_n 0, 1) := by decide +kernel
theorem dX12_undo_49 : decode cX12_undo 49 = .ok (.getfield 7, 3) := by decide +kernel
theorem dX12_undo_52 : decode cX12_undo 52 = .ok (.iconst 4, 1) := by decide +kernel
theorem dX12_undo_53 : decode cX12_undo 53 = .ok (.iaload, 1) := by decide +kernel
theorem dX12_undo_54 : decode cX12_undo 54 = .ok (.imul, 1) := by decide +kernel
theorem dX12_undo_55 : decode cX12_undo 55 = .ok (.iadd, 1) := by decide +kernel
theorem dX12_undo_56 : decode cX12_undo 56 = .ok (.iload_n 1, 1) := by decide +kernel
theorem dX12_undo_57 : decode cX12_undo 57 = .ok (.iadd, 1) := by decide +kernel
theorem dX12_undo_58 : decode cX12_undo 58 = .ok (.iaload, 1) := by decide +kernel
theorem dX12_undo_59 : decode cX12_undo 59 = .ok (.iastore, 1) := by decide +kernel
theorem dX12_undo_60 : decode cX12_undo 60 = .ok (.iinc 1 1, 3) := by decide +kernel
theorem dX12_undo_63 : decode cX12_undo 63 = .ok (.goto (-35), 3) := by decide +kernel
theorem dX12_undo_66 : decode cX12_undo 66 = .ok (.aload_n 0, 1) := by decide +kernel
theorem dX12_undo_67 : decode cX12_undo 67 = .ok (.getfield 7, 3) := by decide +kernel
theorem dX12_undo_70 : decode cX12_undo 70 = .ok (.bipush 38, 2) := by decide +kernel
theorem dX12_undo_72 : decode cX12_undo 72 = .ok (.iaload, 1) := by decide +kernel
theorem dX12_undo_73 : decode cX12_undo 73 = .ok (.ireturn, 1) := by decide +kernel
theorem dX12_now_0 : decode cX12_now 0 = .ok (.iload_n 1, 1) := by decide +kernel
theorem dX12_now_1 : decode cX12_now 1 = .ok (.i2l, 1) := by decide +kernel
theorem dX12_now_2 : decode cX12_now 2 = .ok (.lconst 0, 1) := by decide +kernel
theorem dX12_now_3 : decode cX12_now 3 = .ok (.ldc2_w 86, 3) := by decide +kernel
theorem dX12_now_6 : decode cX12_now 6 = .ok (.invokestatic 56, 3) := by decide +kernel
theorem dX12_now_9 : decode cX12_now 9 = .ok (.ifCond .eq 15, 3) := by decide +kernel
theorem dX12_now_12 : decode cX12_now 12 = .ok (.aload_n 0, 1) := by decide +kernel
theorem dX12_now_13 : decode cX12_now 13 = .ok (.getfield 7, 3) := by decide +kernel
theorem dX12_now_16 : decode cX12_now 16 = .ok (.bipush 37, 2) := by decide +kernel
theorem dX12_now_18 : decode cX12_now 18 = .ok (.iload_n 1, 1) := by decide +kernel
theorem dX12_now_19 : decode cX12_now 19 = .ok (.iadd, 1) := by decide +kernel
theorem dX12_now_20 : decode cX12_now 20 = .ok (.iaload, 1) := by decide +kernel
theorem dX12_now_21 : decode cX12_now 21 = .ok (.goto 9, 3) := by decide +kernel
theorem dX12_now_24 : decode cX12_now 24 = .ok (.aload_n 0, 1) := by decide +kernel
theorem dX12_now_25 : decode cX12_now 25 = .ok (.bipush (-100), 2) := by decide +kernel
theorem dX12_now_27 : decode cX12_now 27 = .ok (.invokevirtual 76, 3) := by decide +kernel
theorem dX12_now_30 : decode cX12_now 30 = .ok (.ireturn, 1) := by decide +kernel
theorem dX12_isRow_0 : decode cX12_isRow 0 = .ok (.iload_n 0, 1) := by decide +kernel
theorem dX12_isRow_1 : decode cX12_isRow 1 = .ok (.ifCond .lt 13, 3) := by decide +kernel
theorem dX12_isRow_4 : decode cX12_isRow 4 = .ok (.iload_n 0, 1) := by decide +kernel
theorem dX12_isRow_5 : decode cX12_isRow 5 = .ok (.ldc 143, 2) := by decide +kernel
theorem dX12_isRow_7 : decode cX12_isRow 7 = .ok (.if_icmp .gt 7, 3) := by decide +kernel
theorem dX12_isRow_10 : decode cX12_isRow 10 = .ok (.iconst 1, 1) := by decide +kernel
theorem dX12_isRow_11 : decode cX12_isRow 11 = .ok (.goto 4, 3) := by decide +kernel
theorem dX12_isRow_14 : decode cX12_isRow 14 = .ok (.iconst 0, 1) := by decide +kernel
theorem dX12_isRow_15 : decode cX12_isRow 15 = .ok (.istore_n 1, 1) := by decide +kernel
theorem dX12_isRow_16 : decode cX12_isRow 16 = .ok (.iload_n 0, 1) := by decide +kernel
theorem dX12_isRow_17 : decode cX12_isRow 17 = .ok (.istore_n 2, 1) := by decide +kernel
theorem dX12_isRow_18 : decode cX12_isRow 18 = .ok (.iload_n 2, 1) := by decide +kernel
theorem dX12_isRow_19 : decode cX12_isRow 19 = .ok (.ifCond .le 23, 3) := by decide +kernel
theorem dX12_isRow_22 : decode cX12_isRow 22 = .ok (.iload_n 1, 1) := by decide +kernel
theorem dX12_isRow_23 : decode cX12_isRow 23 = .ok (.ifCond .eq 19, 3) := by decide +kernel
theorem dX12_isRow_26 : decode cX12_isRow 26 = .ok (.iload_n 2, 1) := by decide +kernel
theorem dX12_isRow_27 : decode cX12_isRow 27 = .ok (.bipush 10, 2) := by decide +kernel
theorem dX12_isRow_29 : decode cX12_isRow 29 = .ok (.irem, 1) := by decide +kernel
theorem dX12_isRow_30 : decode cX12_isRow 30 = .ok (.invokestatic 121, 3) := by decide +kernel
theorem dX12_isRow_33 : decode cX12_isRow 33 = .ok (.istore_n 1, 1) := by decide +kernel
theorem dX12_isRow_34 : decode cX12_isRow 34 = .ok (.iload_n 2, 1) := by decide +kernel
theorem dX12_isRow_35 : decode cX12_isRow 35 = .ok (.bipush 10, 2) := by decide +kernel
theorem dX12_isRow_37 : decode cX12_isRow 37 = .ok (.idiv, 1) := by decide +kernel
theorem dX12_isRow_38 : decode cX12_isRow 38 = .ok (.istore_n 2, 1) := by decide +kernel
theorem dX12_isRow_39 : decode cX12_isRow 39 = .ok (.goto (-21), 3) := by decide +kernel
theorem dX12_isRow_42 : decode cX12_isRow 42 = .ok (.iload_n 1, 1) := by decide +kernel
theorem dX12_isRow_43 : decode cX12_isRow 43 = .ok (.ireturn, 1) := by decide +kernel
theorem dX12_manyOf_0 : decode cX12_manyOf 0 = .ok (.iconst 0, 1) := by decide +kernel
theorem dX12_manyOf_1 : decode cX12_manyOf 1 = .ok (.istore_n 1, 1) := by decide +kernel
theorem dX12_manyOf_2 : decode cX12_manyOf 2 = .ok (.iload_n 0, 1) := by decide +kernel
theorem dX12_manyOf_3 : decode cX12_manyOf 3 = .ok (.istore_n 2, 1) := by decide +kernel
theorem dX12_manyOf_4 : decode cX12_manyOf 4 = .ok (.iload_n 2, 1) := by decide +kernel
theorem dX12_manyOf_5 : decode cX12_manyOf 5 = .ok (.ifCond .le 14, 3) := by decide +kernel
theorem dX12_manyOf_8 : decode cX12_manyOf 8 = .ok (.iinc 1 1, 3) := by decide +kernel
theorem dX12_manyOf_11 : decode cX12_manyOf 11 = .ok (.iload_n 2, 1) := by decide +kernel
theorem dX12_manyOf_12 : decode cX12_manyOf 12 = .ok (.bipush 10, 2) := by decide +kernel
theorem dX12_manyOf_14 : decode cX12_manyOf 14 = .ok (.idiv, 1) := by decide +kernel
theorem dX12_manyOf_15 : decode cX12_manyOf 15 = .ok (.istore_n 2, 1) := by decide +kernel
theorem dX12_manyOf_16 : decode cX12_manyOf 16 = .ok (.goto (-12), 3) := by decide +kernel
theorem dX12_manyOf_19 : decode cX12_manyOf 19 = .ok (.iload_n 1, 1) := by decide +kernel
theorem dX12_manyOf_20 : decode cX12_manyOf 20 = .ok (.ireturn, 1) := by decide +kernel
theorem dX12_paceOf_0 : decode cX12_paceOf 0 = .ok (.iload_n 0, 1) := by decide +kernel
theorem dX12_paceOf_1 : decode cX12_paceOf 1 = .ok (.istore_n 2, 1) := by decide +kernel
theorem dX12_paceOf_2 : decode cX12_paceOf 2 = .ok (.iload_n 0, 1) := by decide +kernel
theorem dX12_paceOf_3 : decode cX12_paceOf 3 = .ok (.invokestatic 144, 3) := by decide +kernel
theorem dX12_paceOf_6 : decode cX12_paceOf 6 = .ok (.iconst 1, 1) := by decide +kernel
theorem dX12_paceOf_7 : decode cX12_paceOf 7 = .ok (.isub, 1) := by decide +kernel
theorem dX12_paceOf_8 : decode cX12_paceOf 8 = .ok (.istore_n 3, 1) := by decide +kernel
theorem dX12_paceOf_9 : decode cX12_paceOf 9 = .ok (.iload_n 3, 1) := by decide +kernel
theorem dX12_paceOf_10 : decode cX12_paceOf 10 = .ok (.iload_n 1, 1) := by decide +kernel
theorem dX12_paceOf_11 : decode cX12_paceOf 11 = .ok (.if_icmp .le 14, 3) := by decide +kernel
theorem dX12_paceOf_14 : decode cX12_paceOf 14 = .ok (.iload_n 2, 1) := by decide +kernel
theorem dX12_paceOf_15 : decode cX12_paceOf 15 = .ok (.bipush 10, 2) := by decide +kernel
theorem dX12_paceOf_17 : decode cX12_paceOf 17 = .ok (.idiv, 1) := by decide +kernel
theorem dX12_paceOf_18 : decode cX12_paceOf 18 = .ok (.istore_n 2, 1) := by decide +kernel
theorem dX12_paceOf_19 : decode cX12_paceOf 19 = .ok (.iinc 3 (-1), 3) := by decide +kernel
theorem dX12_paceOf_22 : decode cX12_paceOf 22 = .ok (.goto (-13), 3) := by decide +kernel
theorem dX12_paceOf_25 : decode cX12_paceOf 25 = .ok (.iload_n 2, 1) := by decide +kernel
theorem dX12_paceOf_26 : decode cX12_paceOf 26 = .ok (.bipush 10, 2) := by decide +kernel
theorem dX12_paceOf_28 : decode cX12_paceOf 28 = .ok (.irem, 1) := by decide +kernel
theorem dX12_paceOf_29 : decode cX12_paceOf 29 = .ok (.ireturn, 1) := by decide +kernel
theorem dX12_isOver_0 : decode cX12_isOver 0 = .ok (.aload_n 0, 1) := by decide +kernel
theorem dX12_isOver_1 : decode cX12_isOver 1 = .ok (.aload_n 0, 1) := by decide +kernel
theorem dX12_isOver_2 : decode cX12_isOver 2 = .ok (.getfield 147, 3) := by decide +kernel
theorem dX12_isOver_5 : decode cX12_isOver 5 = .ok (.invokevirtual 118, 3) := by decide +kernel
theorem dX12_isOver_8 : decode cX12_isOver 8 = .ok (.ifCond .ne 14, 3) := by decide +kernel
theorem dX12_isOver_11 : decode cX12_isOver 11 = .ok (.aload_n 0, 1) := by decide +kernel
theorem dX12_isOver_12 : decode cX12_isOver 12 = .ok (.getfield 151, 3) := by decide +kernel
theorem dX12_isOver_15 : decode cX12_isOver 15 = .ok (.aload_n 0, 1) := by decide +kernel
theorem dX12_isOver_16 : decode cX12_isOver 16 = .ok (.invokevirtual 60, 3) := by decide +kernel
theorem dX12_isOver_19 : decode cX12_isOver 19 = .ok (.if_icmp .ne 7, 3) := by decide +kernel
theorem dX12_isOver_22 : decode cX12_isOver 22 = .ok (.iconst 1, 1) := by decide +kernel
theorem dX12_isOver_23 : decode cX12_isOver 23 = .ok (.goto 4, 3) := by decide +kernel
theorem dX12_isOver_26 : decode cX12_isOver 26 = .ok (.iconst 0, 1) := by decide +kernel
theorem dX12_isOver_27 : decode cX12_isOver 27 = .ok (.ireturn, 1) := by decide +kernel
theorem dX12_goStep_0 : decode cX12_goStep 0 = .ok (.aload_n 0, 1) := by decide +kernel
theorem dX12_goStep_1 : decode cX12_goStep 1 = .ok (.aload_n 0, 1) := by decide +kernel
theorem dX12_goStep_2 : decode cX12_goStep 2 = .ok (.iload_n 1, 1) := by decide +kernel
theorem dX12_goStep_3 : decode cX12_goStep 3 = .ok (.aload_n 0, 1) := by decide +kernel
theorem dX12_goStep_4 : decode cX12_goStep 4 = .ok (.getfield 151, 3) := by decide +kernel
theorem dX12_goStep_7 : decode cX12_goStep 7 = .ok (.aload_n 0, 1) := by decide +kernel
theorem dX12_goStep_8 : decode cX12_goStep 8 = .ok (.getfield 147, 3) := by decide +kernel
theorem dX12_goStep_11 : decode cX12_goStep 11 = .ok (.iload_n 2, 1) := by decide +kernel
theorem dX12_goStep_12 : decode cX12_goStep 12 = .ok (.aload_n 0, 1) := by decide +kernel
theorem dX12_goStep_13 : decode cX12_goStep 13 = .ok (.getfield 154, 3) := by decide +kernel
theorem dX12_goStep_16 : decode cX12_goStep 16 = .ok (.iadd, 1) := by decide +kernel
theorem dX12_goStep_17 : decode cX12_goStep 17 = .ok (.iload_n 3, 1) := by decide +kernel
theorem dX12_goStep_18 : decode cX12_goStep 18 = .ok (.invokevirtual 140, 3) := by decide +kernel
theorem dX12_goStep_21 : decode cX12_goStep 21 = .ok (.iload 4, 2) := by decide +kernel
theorem dX12_goStep_23 : decode cX12_goStep 23 = .ok (.iadd, 1) := by decide +kernel
theorem dX12_goStep_24 : decode cX12_goStep 24 = .ok (.putfield 147, 3) := by decide +kernel
theorem dX12_goStep_27 : decode cX12_goStep 27 = .ok (.aload_n 0, 1) := by decide +kernel
theorem dX12_goStep_28 : decode cX12_goStep 28 = .ok (.aload_n 0, 1) := by decide +kernel
theorem dX12_goStep_29 : decode cX12_goStep 29 = .ok (.aload_n 0, 1) := by decide +kernel
theorem dX12_goStep_30 : decode cX12_goStep 30 = .ok (.getfield 151, 3) := by decide +kernel
theorem dX12_goStep_33 : decode cX12_goStep 33 = .ok (.iload_n 3, 1) := by decide +kernel
theorem dX12_goStep_34 : decode cX12_goStep 34 = .ok (.invokevirtual 110, 3) := by decide +kernel
theorem dX12_goStep_37 : decode cX12_goStep 37 = .ok (.putfield 151, 3) := by decide +kernel
theorem dX12_goStep_40 : decode cX12_goStep 40 = .ok (.aload_n 0, 1) := by decide +kernel
theorem dX12_goStep_41 : decode cX12_goStep 41 = .ok (.dup, 1) := by decide +kernel
theorem dX12_goStep_42 : decode cX12_goStep 42 = .ok (.getfield 154, 3) := by decide +kernel
theorem dX12_goStep_45 : decode cX12_goStep 45 = .ok (.iconst 1, 1) := by decide +kernel
theorem dX12_goStep_46 : decode cX12_goStep 46 = .ok (.iadd, 1) := by decide +kernel
theorem dX12_goStep_47 : decode cX12_goStep 47 = .ok (.putfield 154, 3) := by decide +kernel
theorem dX12_goStep_50 : decode cX12_goStep 50 = .ok (.return_, 1) := by decide +kernel
theorem dX12_beginAt_0 : decode cX12_beginAt 0 = .ok (.aload_n 0, 1) := by decide +kernel
theorem dX12_beginAt_1 : decode cX12_beginAt 1 = .ok (.invokevirtual 137, 3) := by decide +kernel
theorem dX12_beginAt_4 : decode cX12_beginAt 4 = .ok (.aload_n 0, 1) := by decide +kernel
theorem dX12_beginAt_5 : decode cX12_beginAt 5 = .ok (.iconst 0, 1) := by decide +kernel
theorem dX12_beginAt_6 : decode cX12_beginAt 6 = .ok (.putfield 151, 3) := by decide +kernel
theorem dX12_beginAt_9 : decode cX12_beginAt 9 = .ok (.aload_n 0, 1) := by decide +kernel
theorem dX12_beginAt_10 : decode cX12_beginAt 10 = .ok (.iload_n 1, 1) := by decide +kernel
theorem dX12_beginAt_11 : decode cX12_beginAt 11 = .ok (.putfield 147, 3) := by decide +kernel
theorem dX12_beginAt_14 : decode cX12_beginAt 14 = .ok (.aload_n 0, 1) := by decide +kernel
theorem dX12_beginAt_15 : decode cX12_beginAt 15 = .ok (.iconst 0, 1) := by decide +kernel
theorem dX12_beginAt_16 : decode cX12_beginAt 16 = .ok (.putfield 154, 3) := by decide +kernel
theorem dX12_beginAt_19 : decode cX12_beginAt 19 = .ok (.return_, 1) := by decide +kernel
theorem dX12_goRow_0 : decode cX12_goRow 0 = .ok (.aload_n 0, 1) := by decide +kernel
theorem dX12_goRow_1 : decode cX12_goRow 1 = .ok (.iload_n 2, 1) := by decide +kernel
theorem dX12_goRow_2 : decode cX12_goRow 2 = .ok (.invokevirtual 157, 3) := by decide +kernel
theorem dX12_goRow_5 : decode cX12_goRow 5 = .ok (.iload 4, 2) := by decide +kernel
theorem dX12_goRow_7 : decode cX12_goRow 7 = .ok (.invokestatic 144, 3) := by decide +kernel
theorem dX12_goRow_10 : decode cX12_goRow 10 = .ok (.istore 7, 2) := by decide +kernel
theorem dX12_goRow_12 : decode cX12_goRow 12 = .ok (.aload_n 0, 1) := by decide +kernel
theorem dX12_goRow_13 : decode cX12_goRow 13 = .ok (.getfield 154, 3) := by decide +kernel
theorem dX12_goRow_16 : decode cX12_goRow 16 = .ok (.iload 7, 2) := by decide +kernel
theorem dX12_goRow_18 : decode cX12_goRow 18 = .ok (.if_icmp .ge 43, 3) := by decide +kernel
theorem dX12_goRow_21 : decode cX12_goRow 21 = .ok (.aload_n 0, 1) := by decide +kernel
theorem dX12_goRow_22 : decode cX12_goRow 22 = .ok (.invokevirtual 161, 3) := by decide +kernel
theorem dX12_goRow_25 : decode cX12_goRow 25 = .ok (.ifCond .ne 36, 3) := by decide +kernel
theorem dX12_goRow_28 : decode cX12_goRow 28 = .ok (.aload_n 0, 1) := by decide +kernel
theorem dX12_goRow_29 : decode cX12_goRow 29 = .ok (.iload_n 1, 1) := by decide +kernel
theorem dX12_goRow_30 : decode cX12_goRow 30 = .ok (.iload_n 3, 1) := by decide +kernel
theorem dX12_goRow_31 : decode cX12_goRow 31 = .ok (.iload 4, 2) := by decide +kernel
theorem dX12_goRow_33 : decode cX12_goRow 33 = .ok (.aload_n 0, 1) := by decide +kernel
theorem dX12_goRow_34 : decode cX12_goRow 34 = .ok (.getfield 154, 3) := by decide +kernel
theorem dX12_goRow_37 : decode cX12_goRow 37 = .ok (.invokestatic 164, 3) := by decide +kernel
theorem dX12_goRow_40 : decode cX12_goRow 40 = .ok (.aload_n 0, 1) := by decide +kernel
theorem dX12_goRow_41 : decode cX12_goRow 41 = .ok (.getfield 154, 3) := by decide +kernel
theorem dX12_goRow_44 : decode cX12_goRow 44 = .ok (.iload 5, 2) := by decide +kernel
theorem dX12_goRow_46 : decode cX12_goRow 46 = .ok (.if_icmp .ne 8, 3) := by decide +kernel
theorem dX12_goRow_49 : decode cX12_goRow 49 = .ok (.iload 6, 2) := by decide +kernel
theorem dX12_goRow_51 : decode cX12_goRow 51 = .ok (.goto 4, 3) := by decide +kernel
theorem dX12_goRow_54 : decode cX12_goRow 54 = .ok (.iconst 0, 1) := by decide +kernel
theorem dX12_goRow_55 : decode cX12_goRow 55 = .ok (.invokevirtual 167, 3) := by decide +kernel
theorem dX12_goRow_58 : decode cX12_goRow 58 = .ok (.goto (-46), 3) := by decide +kernel
theorem dX12_goRow_61 : decode cX12_goRow 61 = .ok (.return_, 1) := by decide +kernel
theorem dX12_paces_0 : decode cX12_paces 0 = .ok (.aload_n 0, 1) := by decide +kernel
theorem dX12_paces_1 : decode cX12_paces 1 = .ok (.iload_n 1, 1) := by decide +kernel
theorem dX12_paces_2 : decode cX12_paces 2 = .ok (.invokevirtual 98, 3) := by decide +kernel
theorem dX12_paces_5 : decode cX12_paces 5 = .ok (.ifCond .eq 30, 3) := by decide +kernel
theorem dX12_paces_8 : decode cX12_paces 8 = .ok (.iload_n 2, 1) := by decide +kernel
theorem dX12_paces_9 : decode cX12_paces 9 = .ok (.invokestatic 171, 3) := by decide +kernel
theorem dX12_paces_12 : decode cX12_paces 12 = .ok (.ifCond .eq 23, 3) := by decide +kernel
theorem dX12_paces_15 : decode cX12_paces 15 = .ok (.iload_n 3, 1) := by decide +kernel
theorem dX12_paces_16 : decode cX12_paces 16 = .ok (.invokestatic 174, 3) := by decide +kernel
theorem dX12_paces_19 : decode cX12_paces 19 = .ok (.ifCond .eq 16, 3) := by decide +kernel
theorem dX12_paces_22 : decode cX12_paces 22 = .ok (.iload 4, 2) := by decide +kernel
theorem dX12_paces_24 : decode cX12_paces 24 = .ok (.i2l, 1) := by decide +kernel
theorem dX12_paces_25 : decode cX12_paces 25 = .ok (.lconst 0, 1) := by decide +kernel
theorem dX12_paces_26 : decode cX12_paces 26 = .ok (.ldc2_w 66, 3) := by decide +kernel
theorem dX12_paces_29 : decode cX12_paces 29 = .ok (.invokestatic 56, 3) := by decide +kernel
theorem dX12_paces_32 : decode cX12_paces 32 = .ok (.ifCond .ne 10, 3) := by decide +kernel
theorem dX12_paces_35 : decode cX12_paces 35 = .ok (.aload_n 0, 1) := by decide +kernel
theorem dX12_paces_36 : decode cX12_paces 36 = .ok (.bipush (-100), 2) := by decide +kernel
theorem dX12_paces_38 : decode cX12_paces 38 = .ok (.invokevirtual 76, 3) := by decide +kernel
theorem dX12_paces_41 : decode cX12_paces 41 = .ok (.ireturn, 1) := by decide +kernel
theorem dX12_paces_42 : decode cX12_paces 42 = .ok (.aload_n 0, 1) := by decide +kernel
theorem dX12_paces_43 : decode cX12_paces 43 = .ok (.aload_n 0, 1) := by decide +kernel
theorem dX12_paces_44 : decode cX12_paces 44 = .ok (.iload_n 1, 1) := by decide +kernel
theorem dX12_paces_45 : decode cX12_paces 45 = .ok (.invokevirtual 101, 3) := by decide +kernel
theorem dX12_paces_48 : decode cX12_paces 48 = .ok (.aload_n 0, 1) := by decide +kernel
theorem dX12_paces_49 : decode cX12_paces 49 = .ok (.iload_n 1, 1) := by decide +kernel
theorem dX12_paces_50 : decode cX12_paces 50 = .ok (.invokevirtual 104, 3) := by decide +kernel
theorem dX12_paces_53 : decode cX12_paces 53 = .ok (.iload_n 2, 1) := by decide +kernel
theorem dX12_paces_54 : decode cX12_paces 54 = .ok (.iload_n 3, 1) := by decide +kernel
theorem dX12_paces_55 : decode cX12_paces 55 = .ok (.iconst (-1), 1) := by decide +kernel
theorem dX12_paces_56 : decode cX12_paces 56 = .ok (.iconst 0, 1) := by decide +kernel
theorem dX12_paces_57 : decode cX12_paces 57 = .ok (.invokevirtual 177, 3) := by decide +kernel
theorem dX12_paces_60 : decode cX12_paces 60 = .ok (.iload 4, 2) := by decide +kernel
theorem dX12_paces_62 : decode cX12_paces 62 = .ok (.ifCond .ne 10, 3) := by decide +kernel
theorem dX12_paces_65 : decode cX12_paces 65 = .ok (.aload_n 0, 1) := by decide +kernel
theorem dX12_paces_66 : decode cX12_paces 66 = .ok (.getfield 151, 3) := by decide +kernel
theorem dX12_paces_69 : decode cX12_paces 69 = .ok (.goto 45, 3) := by decide +kernel
theorem dX12_paces_72 : decode cX12_paces 72 = .ok (.iload 4, 2) := by decide +kernel
theorem dX12_paces_74 : decode cX12_paces 74 = .ok (.iconst 1, 1) := by decide +kernel
theorem dX12_paces_75 : decode cX12_paces 75 = .ok (.if_icmp .ne 10, 3) := by decide +kernel
theorem dX12_paces_78 : decode cX12_paces 78 = .ok (.aload_n 0, 1) := by decide +kernel
theorem dX12_paces_79 : decode cX12_paces 79 = .ok (.getfield 147, 3) := by decide +kernel
theorem dX12_paces_82 : decode cX12_paces 82 = .ok (.goto 32, 3) := by decide +kernel
theorem dX12_paces_85 : decode cX12_paces 85 = .ok (.iload 4, 2) := by decide +kernel
theorem dX12_paces_87 : decode cX12_paces 87 = .ok (.iconst 2, 1) := by decide +kernel
theorem dX12_paces_88 : decode cX12_paces 88 = .ok (.if_icmp .ne 10, 3) := by decide +kernel
theorem dX12_paces_91 : decode cX12_paces 91 = .ok (.aload_n 0, 1) := by decide +kernel
theorem dX12_paces_92 : decode cX12_paces 92 = .ok (.getfield 154, 3) := by decide +kernel
theorem dX12_paces_95 : decode cX12_paces 95 = .ok (.goto 19, 3) := by decide +kernel
theorem dX12_paces_98 : decode cX12_paces 98 = .ok (.aload_n 0, 1) := by decide +kernel
theorem dX12_paces_99 : decode cX12_paces 99 = .ok (.aload_n 0, 1) := by decide +kernel
theorem dX12_paces_100 : decode cX12_paces 100 = .ok (.getfield 147, 3) := by decide +kernel
theorem dX12_paces_103 : decode cX12_paces 103 = .ok (.invokevirtual 118, 3) := by decide +kernel
theorem dX12_paces_106 : decode cX12_paces 106 = .ok (.ifCond .eq 7, 3) := by decide +kernel
theorem dX12_paces_109 : decode cX12_paces 109 = .ok (.iconst 1, 1) := by decide +kernel
theorem dX12_paces_110 : decode cX12_paces 110 = .ok (.goto 4, 3) := by decide +kernel
theorem dX12_paces_113 : decode cX12_paces 113 = .ok (.iconst 0, 1) := by decide +kernel
theorem dX12_paces_114 : decode cX12_paces 114 = .ok (.ireturn, 1) := by decide +kernel
theorem dX12_latestAt_0 : decode cX12_latestAt 0 = .ok (.iload_n 1, 1) := by decide +kernel
theorem dX12_latestAt_1 : decode cX12_latestAt 1 = .ok (.aload_n 0, 1) := by decide +kernel
theorem dX12_latestAt_2 : decode cX12_latestAt 2 = .ok (.invokevirtual 60, 3) := by decide +kernel
theorem dX12_latestAt_5 : decode cX12_latestAt 5 = .ok (.if_icmp .ne 7, 3) := by decide +kernel
theorem dX12_latestAt_8 : decode cX12_latestAt 8 = .ok (.iconst 0, 1) := by decide +kernel
theorem dX12_latestAt_9 : decode cX12_latestAt 9 = .ok (.goto 25, 3) := by decide +kernel
theorem dX12_latestAt_12 : decode cX12_latestAt 12 = .ok (.aload_n 0, 1) := by decide +kernel
theorem dX12_latestAt_13 : decode cX12_latestAt 13 = .ok (.getfield 30, 3) := by decide +kernel
theorem dX12_latestAt_16 : decode cX12_latestAt 16 = .ok (.bipush 25, 2) := by decide +kernel
theorem dX12_latestAt_18 : decode cX12_latestAt 18 = .ok (.bipush 6, 2) := by decide +kernel
theorem dX12_latestAt_20 : decode cX12_latestAt 20 = .ok (.iload_n 1, 1) := by decide +kernel
theorem dX12_latestAt_21 : decode cX12_latestAt 21 = .ok (.imul, 1) := by decide +kernel
theorem dX12_latestAt_22 : decode cX12_latestAt 22 = .ok (.iload_n 3, 1) := by decide +kernel
theorem dX12_latestAt_23 : decode cX12_latestAt 23 = .ok (.bipush 6, 2) := by decide +kernel
theorem dX12_latestAt_25 : decode cX12_latestAt 25 = .ok (.irem, 1) := by decide +kernel
theorem dX12_latestAt_26 : decode cX12_latestAt 26 = .ok (.iadd, 1) := by decide +kernel
theorem dX12_latestAt_27 : decode cX12_latestAt 27 = .ok (.imul, 1) := by decide +kernel
theorem dX12_latestAt_28 : decode cX12_latestAt 28 = .ok (.iload_n 2, 1) := by decide +kernel
theorem dX12_latestAt_29 : decode cX12_latestAt 29 = .ok (.iadd, 1) := by decide +kernel
theorem dX12_latestAt_30 : decode cX12_latestAt 30 = .ok (.bipush 12, 2) := by decide +kernel
theorem dX12_latestAt_32 : decode cX12_latestAt 32 = .ok (.iadd, 1) := by decide +kernel
theorem dX12_latestAt_33 : decode cX12_latestAt 33 = .ok (.iaload, 1) := by decide +kernel
theorem dX12_latestAt_34 : decode cX12_latestAt 34 = .ok (.ireturn, 1) := by decide +kernel
theorem dX12_byPace_0 : decode cX12_byPace 0 = .ok (.aload_n 0, 1) := by decide +kernel
theorem dX12_byPace_1 : decode cX12_byPace 1 = .ok (.iload_n 2, 1) := by decide +kernel
theorem dX12_byPace_2 : decode cX12_byPace 2 = .ok (.iload 5, 2) := by decide +kernel
theorem dX12_byPace_4 : decode cX12_byPace 4 = .ok (.invokevirtual 110, 3) := by decide +kernel
theorem dX12_byPace_7 : decode cX12_byPace 7 = .ok (.istore 7, 2) := by decide +kernel
theorem dX12_byPace_9 : decode cX12_byPace 9 = .ok (.aload_n 0, 1) := by decide +kernel
theorem dX12_byPace_10 : decode cX12_byPace 10 = .ok (.iload_n 1, 1) := by decide +kernel
theorem dX12_byPace_11 : decode cX12_byPace 11 = .ok (.iload_n 2, 1) := by decide +kernel
theorem dX12_byPace_12 : decode cX12_byPace 12 = .ok (.iload_n 3, 1) := by decide +kernel
theorem dX12_byPace_13 : decode cX12_byPace 13 = .ok (.iload 4, 2) := by decide +kernel
theorem dX12_byPace_15 : decode cX12_byPace 15 = .ok (.iload 5, 2) := by decide +kernel
theorem dX12_byPace_17 : decode cX12_byPace 17 = .ok (.invokevirtual 140, 3) := by decide +kernel
theorem dX12_byPace_20 : decode cX12_byPace 20 = .ok (.istore 8, 2) := by decide +kernel
theorem dX12_byPace_22 : decode cX12_byPace 22 = .ok (.iconst 0, 1) := by decide +kernel
theorem dX12_byPace_23 : decode cX12_byPace 23 = .ok (.istore 9, 2) := by decide +kernel
theorem dX12_byPace_25 : decode cX12_byPace 25 = .ok (.iconst (-1), 1) := by decide +kernel
theorem dX12_byPace_26 : decode cX12_byPace 26 = .ok (.istore 10, 2) := by decide +kernel
theorem dX12_byPace_28 : decode cX12_byPace 28 = .ok (.iload 10, 2) := by decide +kernel
theorem dX12_byPace_30 : decode cX12_byPace 30 = .ok (.iconst 2, 1) := by decide +kernel
theorem dX12_byPace_31 : decode cX12_byPace 31 = .ok (.if_icmp .ge 65, 3) := by decide +kernel
theorem dX12_byPace_34 : decode cX12_byPace 34 = .ok (.iload 8, 2) := by decide +kernel
theorem dX12_byPace_36 : decode cX12_byPace 36 = .ok (.iload 10, 2) := by decide +kernel
theorem dX12_byPace_38 : decode cX12_byPace 38 = .ok (.iload 6, 2) := by decide +kernel
theorem dX12_byPace_40 : decode cX12_byPace 40 = .ok (.imul, 1) := by decide +kernel
theorem dX12_byPace_41 : decode cX12_byPace 41 = .ok (.iadd, 1) := by decide +kernel
theorem dX12_byPace_42 : decode cX12_byPace 42 = .ok (.istore 11, 2) := by decide +kernel
theorem dX12_byPace_44 : decode cX12_byPace 44 = .ok (.aload_n 0, 1) := by decide +kernel
theorem dX12_byPace_45 : decode cX12_byPace 45 = .ok (.iload 11, 2) := by decide +kernel
theorem dX12_byPace_47 : decode cX12_byPace 47 = .ok (.invokevirtual 118, 3) := by decide +kernel
theorem dX12_byPace_50 : decode cX12_byPace 50 = .ok (.ifCond .eq 8, 3) := by decide +kernel
theorem dX12_byPace_53 : decode cX12_byPace 53 = .ok (.ldc 181, 2) := by decide +kernel
theorem dX12_byPace_55 : decode cX12_byPace 55 = .ok (.goto 17, 3) := by decide +kernel
theorem dX12_byPace_58 : decode cX12_byPace 58 = .ok (.iconst 1, 1) := by decide +kernel
theorem dX12_byPace_59 : decode cX12_byPace 59 = .ok (.aload_n 0, 1) := by decide +kernel
theorem dX12_byPace_60 : decode cX12_byPace 60 = .ok (.iload 7, 2) := by decide +kernel
theorem dX12_byPace_62 : decode cX12_byPace 62 = .ok (.iload 11, 2) := by decide +kernel
theorem dX12_byPace_64 : decode cX12_byPace 64 = .ok (.iload 4, 2) := by decide +kernel
theorem dX12_byPace_66 : decode cX12_byPace 66 = .ok (.iconst 1, 1) := by decide +kernel
theorem dX12_byPace_67 : decode cX12_byPace 67 = .ok (.iadd, 1) := by decide +kernel
theorem dX12_byPace_68 : decode cX12_byPace 68 = .ok (.invokevirtual 182, 3) := by decide +kernel
theorem dX12_byPace_71 : decode cX12_byPace 71 = .ok (.iadd, 1) := by decide +kernel
theorem dX12_byPace_72 : decode cX12_byPace 72 = .ok (.istore 12, 2) := by decide +kernel
theorem dX12_byPace_74 : decode cX12_byPace 74 = .ok (.iload 12, 2) := by decide +kernel
theorem dX12_byPace_76 : decode cX12_byPace 76 = .ok (.iload 9, 2) := by decide +kernel
theorem dX12_byPace_78 : decode cX12_byPace 78 = .ok (.if_icmp .le 8, 3) := by decide +kernel
theorem dX12_byPace_81 : decode cX12_byPace 81 = .ok (.iload 12, 2) := by decide +kernel
theorem dX12_byPace_83 : decode cX12_byPace 83 = .ok (.goto 5, 3) := by decide +kernel
theorem dX12_byPace_86 : decode cX12_byPace 86 = .ok (.iload 9, 2) := by decide +kernel
theorem dX12_byPace_88 : decode cX12_byPace 88 = .ok (.istore 9, 2) := by decide +kernel
theorem dX12_byPace_90 : decode cX12_byPace 90 = .ok (.iinc 10 1, 3) := by decide +kernel
theorem dX12_byPace_93 : decode cX12_byPace 93 = .ok (.goto (-65), 3) := by decide +kernel
theorem dX12_byPace_96 : decode cX12_byPace 96 = .ok (.iload 9, 2) := by decide +kernel
theorem dX12_byPace_98 : decode cX12_byPace 98 = .ok (.ldc 181, 2) := by decide +kernel
theorem dX12_byPace_100 : decode cX12_byPace 100 = .ok (.if_icmp .le 8, 3) := by decide +kernel
theorem dX12_byPace_103 : decode cX12_byPace 103 = .ok (.ldc 181, 2) := by decide +kernel
theorem dX12_byPace_105 : decode cX12_byPace 105 = .ok (.goto 5, 3) := by decide +kernel
theorem dX12_byPace_108 : decode cX12_byPace 108 = .ok (.iload 9, 2) := by decide +kernel
theorem dX12_byPace_110 : decode cX12_byPace 110 = .ok (.ireturn, 1) := by decide +kernel
theorem dX12_layLatest_0 : decode cX12_layLatest 0 = .ok (.aload_n 0, 1) := by decide +kernel
theorem dX12_layLatest_1 : decode cX12_layLatest 1 = .ok (.invokevirtual 60, 3) := by decide +kernel
theorem dX12_layLatest_4 : decode cX12_layLatest 4 = .ok (.iconst 1, 1) := by decide +kernel
theorem dX12_layLatest_5 : decode cX12_layLatest 5 = .ok (.isub, 1) := by decide +kernel
theorem dX12_layLatest_6 : decode cX12_layLatest 6 = .ok (.istore_n 3, 1) := by decide +kernel
theorem dX12_layLatest_7 : decode cX12_layLatest 7 = .ok (.iload_n 3, 1) := by decide +kernel
theorem dX12_layLatest_8 : decode cX12_layLatest 8 = .ok (.ifCond .lt 124, 3) := by decide +kernel
theorem dX12_layLatest_11 : decode cX12_layLatest 11 = .ok (.iconst 0, 1) := by decide +kernel
theorem dX12_layLatest_12 : decode cX12_layLatest 12 = .ok (.istore 4, 2) := by decide +kernel
theorem dX12_layLatest_14 : decode cX12_layLatest 14 = .ok (.iload 4, 2) := by decide +kernel
theorem dX12_layLatest_16 : decode cX12_layLatest 16 = .ok (.bipush 6, 2) := by decide +kernel
theorem dX12_layLatest_18 : decode cX12_layLatest 18 = .ok (.if_icmp .ge 108, 3) := by decide +kernel
theorem dX12_layLatest_21 : decode cX12_layLatest 21 = .ok (.aload_n 0, 1) := by decide +kernel
theorem dX12_layLatest_22 : decode cX12_layLatest 22 = .ok (.getfield 7, 3) := by decide +kernel
theorem dX12_layLatest_25 : decode cX12_layLatest 25 = .ok (.iconst 1, 1) := by decide +kernel
theorem dX12_layLatest_26 : decode cX12_layLatest 26 = .ok (.iaload, 1) := by decide +kernel
theorem dX12_layLatest_27 : decode cX12_layLatest 27 = .ok (.ineg, 1) := by decide +kernel
theorem dX12_layLatest_28 : decode cX12_layLatest 28 = .ok (.istore 5, 2) := by decide +kernel
theorem dX12_layLatest_30 : decode cX12_layLatest 30 = .ok (.iload 5, 2) := by decide +kernel
theorem dX12_layLatest_32 : decode cX12_layLatest 32 = .ok (.aload_n 0, 1) := by decide +kernel
theorem dX12_layLatest_33 : decode cX12_layLatest 33 = .ok (.getfield 7, 3) := by decide +kernel
theorem dX12_layLatest_36 : decode cX12_layLatest 36 = .ok (.iconst 1, 1) := by decide +kernel
theorem dX12_layLatest_37 : decode cX12_layLatest 37 = .ok (.iaload, 1) := by decide +kernel
theorem dX12_layLatest_38 : decode cX12_layLatest 38 = .ok (.if_icmp .gt 82, 3) := by decide +kernel
theorem dX12_layLatest_41 : decode cX12_layLatest 41 = .ok (.ldc 181, 2) := by decide +kernel
theorem dX12_layLatest_43 : decode cX12_layLatest 43 = .ok (.istore 6, 2) := by decide +kernel
theorem dX12_layLatest_45 : decode cX12_layLatest 45 = .ok (.iconst 1, 1) := by decide +kernel
theorem dX12_layLatest_46 : decode cX12_layLatest 46 = .ok (.istore 7, 2) := by decide +kernel
theorem dX12_layLatest_48 : decode cX12_layLatest 48 = .ok (.iload 7, 2) := by decide +kernel
theorem dX12_layLatest_50 : decode cX12_layLatest 50 = .ok (.iconst 4, 1) := by decide +kernel
theorem dX12_layLatest_51 : decode cX12_layLatest 51 = .ok (.if_icmp .ge 40, 3) := by decide +kernel
theorem dX12_layLatest_54 : decode cX12_layLatest 54 = .ok (.aload_n 0, 1) := by decide +kernel
theorem dX12_layLatest_55 : decode cX12_layLatest 55 = .ok (.iload_n 1, 1) := by decide +kernel
theorem dX12_layLatest_56 : decode cX12_layLatest 56 = .ok (.iload_n 3, 1) := by decide +kernel
theorem dX12_layLatest_57 : decode cX12_layLatest 57 = .ok (.iload 5, 2) := by decide +kernel
theorem dX12_layLatest_59 : decode cX12_layLatest 59 = .ok (.iload 4, 2) := by decide +kernel
theorem dX12_layLatest_61 : decode cX12_layLatest 61 = .ok (.iload 7, 2) := by decide +kernel
theorem dX12_layLatest_63 : decode cX12_layLatest 63 = .ok (.iload_n 2, 1) := by decide +kernel
theorem dX12_layLatest_64 : decode cX12_layLatest 64 = .ok (.invokevirtual 186, 3) := by decide +kernel
theorem dX12_layLatest_67 : decode cX12_layLatest 67 = .ok (.istore 8, 2) := by decide +kernel
theorem dX12_layLatest_69 : decode cX12_layLatest 69 = .ok (.iload 8, 2) := by decide +kernel
theorem dX12_layLatest_71 : decode cX12_layLatest 71 = .ok (.iload 6, 2) := by decide +kernel
theorem dX12_layLatest_73 : decode cX12_layLatest 73 = .ok (.if_icmp .ge 8, 3) := by decide +kernel
theorem dX12_layLatest_76 : decode cX12_layLatest 76 = .ok (.iload 8, 2) := by decide +kernel
theorem dX12_layLatest_78 : decode cX12_layLatest 78 = .ok (.goto 5, 3) := by decide +kernel
theorem dX12_layLatest_81 : decode cX12_layLatest 81 = .ok (.iload 6, 2) := by decide +kernel
theorem dX12_layLatest_83 : decode cX12_layLatest 83 = .ok (.istore 6, 2) := by decide +kernel
theorem dX12_layLatest_85 : decode cX12_layLatest 85 = .ok (.iinc 7 1, 3) := by decide +kernel
theorem dX12_layLatest_88 : decode cX12_layLatest 88 = .ok (.goto (-40), 3) := by decide +kernel
theorem dX12_layLatest_91 : decode cX12_layLatest 91 = .ok (.aload_n 0, 1) := by decide +kernel
theorem dX12_layLatest_92 : decode cX12_layLatest 92 = .ok (.getfield 30, 3) := by decide +kernel
theorem dX12_layLatest_95 : decode cX12_layLatest 95 = .ok (.bipush 25, 2) := by decide +kernel
theorem dX12_layLatest_97 : decode cX12_layLatest 97 = .ok (.bipush 6, 2) := by decide +kernel
theorem dX12_layLatest_99 : decode cX12_layLatest 99 = .ok (.iload_n 3, 1) := by decide +kernel
theorem dX12_layLatest_100 : decode cX12_layLatest 100 = .ok (.imul, 1) := by decide +kernel
theorem dX12_layLatest_101 : decode cX12_layLatest 101 = .ok (.iload 4, 2) := by decide +kernel
theorem dX12_layLatest_103 : decode cX12_layLatest 103 = .ok (.iadd, 1) := by decide +kernel
theorem dX12_layLatest_104 : decode cX12_layLatest 104 = .ok (.imul, 1) := by decide +kernel
theorem dX12_layLatest_105 : decode cX12_layLatest 105 = .ok (.iload 5, 2) := by decide +kernel
theorem dX12_layLatest_107 : decode cX12_layLatest 107 = .ok (.iadd, 1) := by decide +kernel
theorem dX12_layLatest_108 : decode cX12_layLatest 108 = .ok (.bipush 12, 2) := by decide +kernel
theorem dX12_layLatest_110 : decode cX12_layLatest 110 = .ok (.iadd, 1) := by decide +kernel
theorem dX12_layLatest_111 : decode cX12_layLatest 111 = .ok (.iload 6, 2) := by decide +kernel
theorem dX12_layLatest_113 : decode cX12_layLatest 113 = .ok (.iastore, 1) := by decide +kernel
theorem dX12_layLatest_114 : decode cX12_layLatest 114 = .ok (.iinc 5 1, 3) := by decide +kernel
theorem dX12_layLatest_117 : decode cX12_layLatest 117 = .ok (.goto (-87), 3) := by decide +kernel
theorem dX12_layLatest_120 : decode cX12_layLatest 120 = .ok (.iinc 4 1, 3) := by decide +kernel
theorem dX12_layLatest_123 : decode cX12_layLatest 123 = .ok (.goto (-109), 3) := by decide +kernel
theorem dX12_layLatest_126 : decode cX12_layLatest 126 = .ok (.iinc 3 (-1), 3) := by decide +kernel
theorem dX12_layLatest_129 : decode cX12_layLatest 129 = .ok (.goto (-122), 3) := by decide +kernel
theorem dX12_layLatest_132 : decode cX12_layLatest 132 = .ok (.return_, 1) := by decide +kernel
theorem dX12_throughIn_0 : decode cX12_throughIn 0 = .ok (.aload_n 0, 1) := by decide +kernel
theorem dX12_throughIn_1 : decode cX12_throughIn 1 = .ok (.aload_n 0, 1) := by decide +kernel
theorem dX12_throughIn_2 : decode cX12_throughIn 2 = .ok (.iload_n 1, 1) := by decide +kernel
theorem dX12_throughIn_3 : decode cX12_throughIn 3 = .ok (.invokevirtual 104, 3) := by decide +kernel
theorem dX12_throughIn_6 : decode cX12_throughIn 6 = .ok (.invokevirtual 118, 3) := by decide +kernel
theorem dX12_throughIn_9 : decode cX12_throughIn 9 = .ok (.ifCond .eq 8, 3) := by decide +kernel
theorem dX12_throughIn_12 : decode cX12_throughIn 12 = .ok (.ldc 181, 2) := by decide +kernel
theorem dX12_throughIn_14 : decode cX12_throughIn 14 = .ok (.goto 14, 3) := by decide +kernel
theorem dX12_throughIn_17 : decode cX12_throughIn 17 = .ok (.aload_n 0, 1) := by decide +kernel
theorem dX12_throughIn_18 : decode cX12_throughIn 18 = .ok (.iconst 0, 1) := by decide +kernel
theorem dX12_throughIn_19 : decode cX12_throughIn 19 = .ok (.aload_n 0, 1) := by decide +kernel
theorem dX12_throughIn_20 : decode cX12_throughIn 20 = .ok (.iload_n 1, 1) := by decide +kernel
theorem dX12_throughIn_21 : decode cX12_throughIn 21 = .ok (.invokevirtual 104, 3) := by decide +kernel
theorem dX12_throughIn_24 : decode cX12_throughIn 24 = .ok (.iload_n 2, 1) := by decide +kernel
theorem dX12_throughIn_25 : decode cX12_throughIn 25 = .ok (.invokevirtual 182, 3) := by decide +kernel
theorem dX12_throughIn_28 : decode cX12_throughIn 28 = .ok (.ireturn, 1) := by decide +kernel
theorem dX12_soonest_0 : decode cX12_soonest 0 = .ok (.aload_n 0, 1) := by decide +kernel
theorem dX12_soonest_1 : decode cX12_soonest 1 = .ok (.iload_n 1, 1) := by decide +kernel
theorem dX12_soonest_2 : decode cX12_soonest 2 = .ok (.invokevirtual 98, 3) := by decide +kernel
theorem dX12_soonest_5 : decode cX12_soonest 5 = .ok (.ifCond .eq 15, 3) := by decide +kernel
theorem dX12_soonest_8 : decode cX12_soonest 8 = .ok (.iload_n 2, 1) := by decide +kernel
theorem dX12_soonest_9 : decode cX12_soonest 9 = .ok (.invokestatic 171, 3) := by decide +kernel
theorem dX12_soonest_12 : decode cX12_soonest 12 = .ok (.ifCond .eq 8, 3) := by decide +kernel
theorem dX12_soonest_15 : decode cX12_soonest 15 = .ok (.iload_n 3, 1) := by decide +kernel
theorem dX12_soonest_16 : decode cX12_soonest 16 = .ok (.iconst (-1), 1) := by decide +kernel
theorem dX12_soonest_17 : decode cX12_soonest 17 = .ok (.if_icmp .ge 10, 3) := by decide +kernel
theorem dX12_soonest_20 : decode cX12_soonest 20 = .ok (.aload_n 0, 1) := by decide +kernel
theorem dX12_soonest_21 : decode cX12_soonest 21 = .ok (.bipush (-10), 2) := by decide +kernel
theorem dX12_soonest_23 : decode cX12_soonest 23 = .ok (.invokevirtual 76, 3) := by decide +kernel
theorem dX12_soonest_26 : decode cX12_soonest 26 = .ok (.ireturn, 1) := by decide +kernel
theorem dX12_soonest_27 : decode cX12_soonest 27 = .ok (.aload_n 0, 1) := by decide +kernel
theorem dX12_soonest_28 : decode cX12_soonest 28 = .ok (.invokevirtual 137, 3) := by decide +kernel
theorem dX12_soonest_31 : decode cX12_soonest 31 = .ok (.aload_n 0, 1) := by decide +kernel
theorem dX12_soonest_32 : decode cX12_soonest 32 = .ok (.aload_n 0, 1) := by decide +kernel
theorem dX12_soonest_33 : decode cX12_soonest 33 = .ok (.iload_n 1, 1) := by decide +kernel
theorem dX12_soonest_34 : decode cX12_soonest 34 = .ok (.invokevirtual 101, 3) := by decide +kernel
theorem dX12_soonest_37 : decode cX12_soonest 37 = .ok (.iconst 0, 1) := by decide +kernel
theorem dX12_soonest_38 : decode cX12_soonest 38 = .ok (.invokevirtual 190, 3) := by decide +kernel
theorem dX12_soonest_41 : decode cX12_soonest 41 = .ok (.aload_n 0, 1) := by decide +kernel
theorem dX12_soonest_42 : decode cX12_soonest 42 = .ok (.iload_n 1, 1) := by decide +kernel
theorem dX12_soonest_43 : decode cX12_soonest 43 = .ok (.iload_n 2, 1) := by decide +kernel
theorem dX12_soonest_44 : decode cX12_soonest 44 = .ok (.invokevirtual 194, 3) := by decide +kernel
theorem dX12_soonest_47 : decode cX12_soonest 47 = .ok (.istore 4, 2) := by decide +kernel
theorem dX12_soonest_49 : decode cX12_soonest 49 = .ok (.iload 4, 2) := by decide +kernel
theorem dX12_soonest_51 : decode cX12_soonest 51 = .ok (.ldc 181, 2) := by decide +kernel
theorem dX12_soonest_53 : decode cX12_soonest 53 = .ok (.if_icmp .lt 5, 3) := by decide +kernel
theorem dX12_soonest_56 : decode cX12_soonest 56 = .ok (.iconst (-1), 1) := by decide +kernel
theorem dX12_soonest_57 : decode cX12_soonest 57 = .ok (.ireturn, 1) := by decide +kernel
theorem dX12_soonest_58 : decode cX12_soonest 58 = .ok (.iload_n 3, 1) := by decide +kernel
theorem dX12_soonest_59 : decode cX12_soonest 59 = .ok (.iconst (-1), 1) := by decide +kernel
theorem dX12_soonest_60 : decode cX12_soonest 60 = .ok (.if_icmp .eq 9, 3) := by decide +kernel
theorem dX12_soonest_63 : decode cX12_soonest 63 = .ok (.iload_n 3, 1) := by decide +kernel
theorem dX12_soonest_64 : decode cX12_soonest 64 = .ok (.iload 4, 2) := by decide +kernel
theorem dX12_soonest_66 : decode cX12_soonest 66 = .ok (.if_icmp .lt 16, 3) := by decide +kernel
theorem dX12_soonest_69 : decode cX12_soonest 69 = .ok (.iload_n 3, 1) := by decide +kernel
theorem dX12_soonest_70 : decode cX12_soonest 70 = .ok (.iconst (-1), 1) := by decide +kernel
theorem dX12_soonest_71 : decode cX12_soonest 71 = .ok (.if_icmp .ne 8, 3) := by decide +kernel
theorem dX12_soonest_74 : decode cX12_soonest 74 = .ok (.iload 4, 2) := by decide +kernel
theorem dX12_soonest_76 : decode cX12_soonest 76 = .ok (.goto 5, 3) := by decide +kernel
theorem dX12_soonest_79 : decode cX12_soonest 79 = .ok (.bipush (-5), 2) := by decide +kernel
theorem dX12_soonest_81 : decode cX12_soonest 81 = .ok (.ireturn, 1) := by decide +kernel
theorem dX12_soonest_82 : decode cX12_soonest 82 = .ok (.aload_n 0, 1) := by decide +kernel
theorem dX12_soonest_83 : decode cX12_soonest 83 = .ok (.aload_n 0, 1) := by decide +kernel
theorem dX12_soonest_84 : decode cX12_soonest 84 = .ok (.iload_n 1, 1) := by decide +kernel
theorem dX12_soonest_85 : decode cX12_soonest 85 = .ok (.invokevirtual 104, 3) := by decide +kernel
theorem dX12_soonest_88 : decode cX12_soonest 88 = .ok (.invokevirtual 157, 3) := by decide +kernel
theorem dX12_soonest_91 : decode cX12_soonest 91 = .ok (.iconst 0, 1) := by decide +kernel
theorem dX12_soonest_92 : decode cX12_soonest 92 = .ok (.istore 5, 2) := by decide +kernel
theorem dX12_soonest_94 : decode cX12_soonest 94 = .ok (.aload_n 0, 1) := by decide +kernel
theorem dX12_soonest_95 : decode cX12_soonest 95 = .ok (.getfield 154, 3) := by decide +kernel
theorem dX12_soonest_98 : decode cX12_soonest 98 = .ok (.iload_n 3, 1) := by decide +kernel
theorem dX12_soonest_99 : decode cX12_soonest 99 = .ok (.if_icmp .gt 75, 3) := by decide +kernel
theorem dX12_soonest_102 : decode cX12_soonest 102 = .ok (.iconst 1, 1) := by decide +kernel
theorem dX12_soonest_103 : decode cX12_soonest 103 = .ok (.istore 5, 2) := by decide +kernel
theorem dX12_soonest_105 : decode cX12_soonest 105 = .ok (.aload_n 0, 1) := by decide +kernel
theorem dX12_soonest_106 : decode cX12_soonest 106 = .ok (.aload_n 0, 1) := by decide +kernel
theorem dX12_soonest_107 : decode cX12_soonest 107 = .ok (.iload_n 1, 1) := by decide +kernel
theorem dX12_soonest_108 : decode cX12_soonest 108 = .ok (.invokevirtual 101, 3) := by decide +kernel
theorem dX12_soonest_111 : decode cX12_soonest 111 = .ok (.aload_n 0, 1) := by decide +kernel
theorem dX12_soonest_112 : decode cX12_soonest 112 = .ok (.getfield 151, 3) := by decide +kernel
theorem dX12_soonest_115 : decode cX12_soonest 115 = .ok (.aload_n 0, 1) := by decide +kernel
theorem dX12_soonest_116 : decode cX12_soonest 116 = .ok (.getfield 147, 3) := by decide +kernel
theorem dX12_soonest_119 : decode cX12_soonest 119 = .ok (.iload_n 2, 1) := by decide +kernel
theorem dX12_soonest_120 : decode cX12_soonest 120 = .ok (.aload_n 0, 1) := by decide +kernel
theorem dX12_soonest_121 : decode cX12_soonest 121 = .ok (.getfield 154, 3) := by decide +kernel
theorem dX12_soonest_124 : decode cX12_soonest 124 = .ok (.iadd, 1) := by decide +kernel
theorem dX12_soonest_125 : decode cX12_soonest 125 = .ok (.iload 5, 2) := by decide +kernel
theorem dX12_soonest_127 : decode cX12_soonest 127 = .ok (.iconst 0, 1) := by decide +kernel
theorem dX12_soonest_128 : decode cX12_soonest 128 = .ok (.invokevirtual 186, 3) := by decide +kernel
theorem dX12_soonest_131 : decode cX12_soonest 131 = .ok (.aload_n 0, 1) := by decide +kernel
theorem dX12_soonest_132 : decode cX12_soonest 132 = .ok (.aload_n 0, 1) := by decide +kernel
theorem dX12_soonest_133 : decode cX12_soonest 133 = .ok (.getfield 151, 3) := by decide +kernel
theorem dX12_soonest_136 : decode cX12_soonest 136 = .ok (.aload_n 0, 1) := by decide +kernel
theorem dX12_soonest_137 : decode cX12_soonest 137 = .ok (.getfield 147, 3) := by decide +kernel
theorem dX12_soonest_140 : decode cX12_soonest 140 = .ok (.iload_n 2, 1) := by decide +kernel
theorem dX12_soonest_141 : decode cX12_soonest 141 = .ok (.aload_n 0, 1) := by decide +kernel
theorem dX12_soonest_142 : decode cX12_soonest 142 = .ok (.getfield 154, 3) := by decide +kernel
theorem dX12_soonest_145 : decode cX12_soonest 145 = .ok (.iadd, 1) := by decide +kernel
theorem dX12_soonest_146 : decode cX12_soonest 146 = .ok (.invokevirtual 182, 3) := by decide +kernel
theorem dX12_soonest_149 : decode cX12_soonest 149 = .ok (.if_icmp .eq 9, 3) := by decide +kernel
theorem dX12_soonest_152 : decode cX12_soonest 152 = .ok (.iinc 5 1, 3) := by decide +kernel
theorem dX12_soonest_155 : decode cX12_soonest 155 = .ok (.goto (-50), 3) := by decide +kernel
theorem dX12_soonest_158 : decode cX12_soonest 158 = .ok (.aload_n 0, 1) := by decide +kernel
theorem dX12_soonest_159 : decode cX12_soonest 159 = .ok (.aload_n 0, 1) := by decide +kernel
theorem dX12_soonest_160 : decode cX12_soonest 160 = .ok (.iload_n 1, 1) := by decide +kernel
theorem dX12_soonest_161 : decode cX12_soonest 161 = .ok (.invokevirtual 101, 3) := by decide +kernel
theorem dX12_soonest_164 : decode cX12_soonest 164 = .ok (.iload_n 2, 1) := by decide +kernel
theorem dX12_soonest_165 : decode cX12_soonest 165 = .ok (.iload 5, 2) := by decide +kernel
theorem dX12_soonest_167 : decode cX12_soonest 167 = .ok (.iconst 0, 1) := by decide +kernel
theorem dX12_soonest_168 : decode cX12_soonest 168 = .ok (.invokevirtual 167, 3) := by decide +kernel
theorem dX12_soonest_171 : decode cX12_soonest 171 = .ok (.goto (-77), 3) := by decide +kernel
theorem dX12_soonest_174 : decode cX12_soonest 174 = .ok (.iload 5, 2) := by decide +kernel
theorem dX12_soonest_176 : decode cX12_soonest 176 = .ok (.ireturn, 1) := by decide +kernel
theorem dX12_hour_0 : decode cX12_hour 0 = .ok (.aload_n 0, 1) := by decide +kernel
theorem dX12_hour_1 : decode cX12_hour 1 = .ok (.iload_n 1, 1) := by decide +kernel
theorem dX12_hour_2 : decode cX12_hour 2 = .ok (.invokevirtual 98, 3) := by decide +kernel
theorem dX12_hour_5 : decode cX12_hour 5 = .ok (.ifCond .ne 10, 3) := by decide +kernel
theorem dX12_hour_8 : decode cX12_hour 8 = .ok (.aload_n 0, 1) := by decide +kernel
theorem dX12_hour_9 : decode cX12_hour 9 = .ok (.bipush (-2), 2) := by decide +kernel
theorem dX12_hour_11 : decode cX12_hour 11 = .ok (.invokevirtual 76, 3) := by decide +kernel
theorem dX12_hour_14 : decode cX12_hour 14 = .ok (.ireturn, 1) := by decide +kernel
theorem dX12_hour_15 : decode cX12_hour 15 = .ok (.iconst (-1), 1) := by decide +kernel
theorem dX12_hour_16 : decode cX12_hour 16 = .ok (.istore_n 2, 1) := by decide +kernel
theorem dX12_hour_17 : decode cX12_hour 17 = .ok (.ldc 181, 2) := by decide +kernel
theorem dX12_hour_19 : decode cX12_hour 19 = .ok (.istore_n 3, 1) := by decide +kernel
theorem dX12_hour_20 : decode cX12_hour 20 = .ok (.aload_n 0, 1) := by decide +kernel
theorem dX12_hour_21 : decode cX12_hour 21 = .ok (.invokevirtual 137, 3) := by decide +kernel
theorem dX12_hour_24 : decode cX12_hour 24 = .ok (.aload_n 0, 1) := by decide +kernel
theorem dX12_hour_25 : decode cX12_hour 25 = .ok (.aload_n 0, 1) := by decide +kernel
theorem dX12_hour_26 : decode cX12_hour 26 = .ok (.iload_n 1, 1) := by decide +kernel
theorem dX12_hour_27 : decode cX12_hour 27 = .ok (.invokevirtual 101, 3) := by decide +kernel
theorem dX12_hour_30 : decode cX12_hour 30 = .ok (.iconst 0, 1) := by decide +kernel
theorem dX12_hour_31 : decode cX12_hour 31 = .ok (.invokevirtual 190, 3) := by decide +kernel
theorem dX12_hour_34 : decode cX12_hour 34 = .ok (.iconst 0, 1) := by decide +kernel
theorem dX12_hour_35 : decode cX12_hour 35 = .ok (.istore 4, 2) := by decide +kernel
theorem dX12_hour_37 : decode cX12_hour 37 = .ok (.iload 4, 2) := by decide +kernel
theorem dX12_hour_39 : decode cX12_hour 39 = .ok (.bipush 6, 2) := by decide +kernel
theorem dX12_hour_41 : decode cX12_hour 41 = .ok (.if_icmp .ge 44, 3) := by decide +kernel
theorem dX12_hour_44 : decode cX12_hour 44 = .ok (.aload_n 0, 1) := by decide +kernel
theorem dX12_hour_45 : decode cX12_hour 45 = .ok (.iload_n 1, 1) := by decide +kernel
theorem dX12_hour_46 : decode cX12_hour 46 = .ok (.iload 4, 2) := by decide +kernel
theorem dX12_hour_48 : decode cX12_hour 48 = .ok (.invokevirtual 194, 3) := by decide +kernel
theorem dX12_hour_51 : decode cX12_hour 51 = .ok (.istore 5, 2) := by decide +kernel
theorem dX12_hour_53 : decode cX12_hour 53 = .ok (.iload 5, 2) := by decide +kernel
theorem dX12_hour_55 : decode cX12_hour 55 = .ok (.iload_n 3, 1) := by decide +kernel
theorem dX12_hour_56 : decode cX12_hour 56 = .ok (.if_icmp .ge 8, 3) := by decide +kernel
theorem dX12_hour_59 : decode cX12_hour 59 = .ok (.iload 4, 2) := by decide +kernel
theorem dX12_hour_61 : decode cX12_hour 61 = .ok (.goto 4, 3) := by decide +kernel
theorem dX12_hour_64 : decode cX12_hour 64 = .ok (.iload_n 2, 1) := by decide +kernel
theorem dX12_hour_65 : decode cX12_hour 65 = .ok (.istore_n 2, 1) := by decide +kernel
theorem dX12_hour_66 : decode cX12_hour 66 = .ok (.iload 5, 2) := by decide +kernel
theorem dX12_hour_68 : decode cX12_hour 68 = .ok (.iload_n 3, 1) := by decide +kernel
theorem dX12_hour_69 : decode cX12_hour 69 = .ok (.if_icmp .ge 8, 3) := by decide +kernel
theorem dX12_hour_72 : decode cX12_hour 72 = .ok (.iload 5, 2) := by decide +kernel
theorem dX12_hour_74 : decode cX12_hour 74 = .ok (.goto 4, 3) := by decide +kernel
theorem dX12_hour_77 : decode cX12_hour 77 = .ok (.iload_n 3, 1) := by decide +kernel
theorem dX12_hour_78 : decode cX12_hour 78 = .ok (.istore_n 3, 1) := by decide +kernel
theorem dX12_hour_79 : decode cX12_hour 79 = .ok (.iinc 4 1, 3) := by decide +kernel
theorem dX12_hour_82 : decode cX12_hour 82 = .ok (.goto (-45), 3) := by decide +kernel
theorem dX12_hour_85 : decode cX12_hour 85 = .ok (.iload_n 2, 1) := by decide +kernel
theorem dX12_hour_86 : decode cX12_hour 86 = .ok (.ireturn, 1) := by decide +kernel
theorem dX12_sure_0 : decode cX12_sure 0 = .ok (.aload_n 0, 1) := by decide +kernel
theorem dX12_sure_1 : decode cX12_sure 1 = .ok (.iload_n 1, 1) := by decide +kernel
theorem dX12_sure_2 : decode cX12_sure 2 = .ok (.invokevirtual 98, 3) := by decide +kernel
theorem dX12_sure_5 : decode cX12_sure 5 = .ok (.ifCond .eq 22, 3) := by decide +kernel
theorem dX12_sure_8 : decode cX12_sure 8 = .ok (.iload_n 2, 1) := by decide +kernel
theorem dX12_sure_9 : decode cX12_sure 9 = .ok (.invokestatic 171, 3) := by decide +kernel
theorem dX12_sure_12 : decode cX12_sure 12 = .ok (.ifCond .eq 15, 3) := by decide +kernel
theorem dX12_sure_15 : decode cX12_sure 15 = .ok (.iload_n 3, 1) := by decide +kernel
theorem dX12_sure_16 : decode cX12_sure 16 = .ok (.i2l, 1) := by decide +kernel
theorem dX12_sure_17 : decode cX12_sure 17 = .ok (.lconst 0, 1) := by decide +kernel
theorem dX12_sure_18 : decode cX12_sure 18 = .ok (.ldc2_w 66, 3) := by decide +kernel
theorem dX12_sure_21 : decode cX12_sure 21 = .ok (.invokestatic 56, 3) := by decide +kernel
theorem dX12_sure_24 : decode cX12_sure 24 = .ok (.ifCond .ne 10, 3) := by decide +kernel
theorem dX12_sure_27 : decode cX12_sure 27 = .ok (.aload_n 0, 1) := by decide +kernel
theorem dX12_sure_28 : decode cX12_sure 28 = .ok (.bipush (-2), 2) := by decide +kernel
theorem dX12_sure_30 : decode cX12_sure 30 = .ok (.invokevirtual 76, 3) := by decide +kernel
theorem dX12_sure_33 : decode cX12_sure 33 = .ok (.ireturn, 1) := by decide +kernel
theorem dX12_sure_34 : decode cX12_sure 34 = .ok (.aload_n 0, 1) := by decide +kernel
theorem dX12_sure_35 : decode cX12_sure 35 = .ok (.invokevirtual 137, 3) := by decide +kernel
theorem dX12_sure_38 : decode cX12_sure 38 = .ok (.aload_n 0, 1) := by decide +kernel
theorem dX12_sure_39 : decode cX12_sure 39 = .ok (.aload_n 0, 1) := by decide +kernel
theorem dX12_sure_40 : decode cX12_sure 40 = .ok (.iload_n 1, 1) := by decide +kernel
theorem dX12_sure_41 : decode cX12_sure 41 = .ok (.invokevirtual 101, 3) := by decide +kernel
theorem dX12_sure_44 : decode cX12_sure 44 = .ok (.iload_n 3, 1) := by decide +kernel
theorem dX12_sure_45 : decode cX12_sure 45 = .ok (.invokevirtual 190, 3) := by decide +kernel
theorem dX12_sure_48 : decode cX12_sure 48 = .ok (.aload_n 0, 1) := by decide +kernel
theorem dX12_sure_49 : decode cX12_sure 49 = .ok (.iload_n 1, 1) := by decide +kernel
theorem dX12_sure_50 : decode cX12_sure 50 = .ok (.iload_n 2, 1) := by decide +kernel
theorem dX12_sure_51 : decode cX12_sure 51 = .ok (.invokevirtual 194, 3) := by decide +kernel
theorem dX12_sure_54 : decode cX12_sure 54 = .ok (.istore 4, 2) := by decide +kernel
theorem dX12_sure_56 : decode cX12_sure 56 = .ok (.iload 4, 2) := by decide +kernel
theorem dX12_sure_58 : decode cX12_sure 58 = .ok (.ldc 181, 2) := by decide +kernel
theorem dX12_sure_60 : decode cX12_sure 60 = .ok (.if_icmp .lt 7, 3) := by decide +kernel
theorem dX12_sure_63 : decode cX12_sure 63 = .ok (.iconst (-1), 1) := by decide +kernel
theorem dX12_sure_64 : decode cX12_sure 64 = .ok (.goto 5, 3) := by decide +kernel
theorem dX12_sure_67 : decode cX12_sure 67 = .ok (.iload 4, 2) := by decide +kernel
theorem dX12_sure_69 : decode cX12_sure 69 = .ok (.ireturn, 1) := by decide +kernel
theorem dX12_flat_0 : decode cX12_flat 0 = .ok (.aload_n 0, 1) := by decide +kernel
theorem dX12_flat_1 : decode cX12_flat 1 = .ok (.iload_n 1, 1) := by decide +kernel
theorem dX12_flat_2 : decode cX12_flat 2 = .ok (.invokevirtual 98, 3) := by decide +kernel
theorem dX12_flat_5 : decode cX12_flat 5 = .ok (.ifCond .eq 10, 3) := by decide +kernel
theorem dX12_flat_8 : decode cX12_flat 8 = .ok (.iload_n 2, 1) := by decide +kernel
theorem dX12_flat_9 : decode cX12_flat 9 = .ok (.invokestatic 171, 3) := by decide +kernel
theorem dX12_flat_12 : decode cX12_flat 12 = .ok (.ifCond .ne 10, 3) := by decide +kernel
theorem dX12_flat_15 : decode cX12_flat 15 = .ok (.aload_n 0, 1) := by decide +kernel
theorem dX12_flat_16 : decode cX12_flat 16 = .ok (.bipush (-2), 2) := by decide +kernel
theorem dX12_flat_18 : decode cX12_flat 18 = .ok (.invokevirtual 76, 3) := by decide +kernel
theorem dX12_flat_21 : decode cX12_flat 21 = .ok (.ireturn, 1) := by decide +kernel
theorem dX12_flat_22 : decode cX12_flat 22 = .ok (.iconst (-1), 1) := by decide +kernel
theorem dX12_flat_23 : decode cX12_flat 23 = .ok (.istore_n 3, 1) := by decide +kernel
theorem dX12_flat_24 : decode cX12_flat 24 = .ok (.iconst 0, 1) := by decide +kernel
theorem dX12_flat_25 : decode cX12_flat 25 = .ok (.istore 4, 2) := by decide +kernel
theorem dX12_flat_27 : decode cX12_flat 27 = .ok (.iload 4, 2) := by decide +kernel
theorem dX12_flat_29 : decode cX12_flat 29 = .ok (.iconst 1, 1) := by decide +kernel
theorem dX12_flat_30 : decode cX12_flat 30 = .ok (.aload_n 0, 1) := by decide +kernel
theorem dX12_flat_31 : decode cX12_flat 31 = .ok (.invokevirtual 60, 3) := by decide +kernel
theorem dX12_flat_34 : decode cX12_flat 34 = .ok (.iconst 1, 1) := by decide +kernel
theorem dX12_flat_35 : decode cX12_flat 35 = .ok (.iadd, 1) := by decide +kernel
theorem dX12_flat_36 : decode cX12_flat 36 = .ok (.ishl, 1) := by decide +kernel
theorem dX12_flat_37 : decode cX12_flat 37 = .ok (.if_icmp .ge 115, 3) := by decide +kernel
theorem dX12_flat_40 : decode cX12_flat 40 = .ok (.iload 4, 2) := by decide +kernel
theorem dX12_flat_42 : decode cX12_flat 42 = .ok (.invokestatic 197, 3) := by decide +kernel
theorem dX12_flat_45 : decode cX12_flat 45 = .ok (.istore 5, 2) := by decide +kernel
theorem dX12_flat_47 : decode cX12_flat 47 = .ok (.iload 5, 2) := by decide +kernel
theorem dX12_flat_49 : decode cX12_flat 49 = .ok (.iconst 4, 1) := by decide +kernel
theorem dX12_flat_50 : decode cX12_flat 50 = .ok (.if_icmp .ge 96, 3) := by decide +kernel
theorem dX12_flat_53 : decode cX12_flat 53 = .ok (.iload_n 3, 1) := by decide +kernel
theorem dX12_flat_54 : decode cX12_flat 54 = .ok (.iconst (-1), 1) := by decide +kernel
theorem dX12_flat_55 : decode cX12_flat 55 = .ok (.if_icmp .eq 12, 3) := by decide +kernel
theorem dX12_flat_58 : decode cX12_flat 58 = .ok (.iload 5, 2) := by decide +kernel
theorem dX12_flat_60 : decode cX12_flat 60 = .ok (.iload_n 3, 1) := by decide +kernel
theorem dX12_flat_61 : decode cX12_flat 61 = .ok (.invokestatic 197, 3) := by decide +kernel
theorem dX12_flat_64 : decode cX12_flat 64 = .ok (.if_icmp .ge 82, 3) := by decide +kernel
theorem dX12_flat_67 : decode cX12_flat 67 = .ok (.aload_n 0, 1) := by decide +kernel
theorem dX12_flat_68 : decode cX12_flat 68 = .ok (.invokevirtual 137, 3) := by decide +kernel
theorem dX12_flat_71 : decode cX12_flat 71 = .ok (.iconst 1, 1) := by decide +kernel
theorem dX12_flat_72 : decode cX12_flat 72 = .ok (.istore 6, 2) := by decide +kernel
theorem dX12_flat_74 : decode cX12_flat 74 = .ok (.iload 6, 2) := by decide +kernel
theorem dX12_flat_76 : decode cX12_flat 76 = .ok (.aload_n 0, 1) := by decide +kernel
theorem dX12_flat_77 : decode cX12_flat 77 = .ok (.invokevirtual 60, 3) := by decide +kernel
theorem dX12_flat_80 : decode cX12_flat 80 = .ok (.if_icmp .gt 38, 3) := by decide +kernel
theorem dX12_flat_83 : decode cX12_flat 83 = .ok (.aload_n 0, 1) := by decide +kernel
theorem dX12_flat_84 : decode cX12_flat 84 = .ok (.getfield 27, 3) := by decide +kernel
theorem dX12_flat_87 : decode cX12_flat 87 = .ok (.iload 6, 2) := by decide +kernel
theorem dX12_flat_89 : decode cX12_flat 89 = .ok (.iload 4, 2) := by decide +kernel
theorem dX12_flat_91 : decode cX12_flat 91 = .ok (.iload 6, 2) := by decide +kernel
theorem dX12_flat_93 : decode cX12_flat 93 = .ok (.ishr, 1) := by decide +kernel
theorem dX12_flat_94 : decode cX12_flat 94 = .ok (.iconst 1, 1) := by decide +kernel
theorem dX12_flat_95 : decode cX12_flat 95 = .ok (.iand, 1) := by decide +kernel
theorem dX12_flat_96 : decode cX12_flat 96 = .ok (.iconst 1, 1) := by decide +kernel
theorem dX12_flat_97 : decode cX12_flat 97 = .ok (.if_icmp .ne 7, 3) := by decide +kernel
theorem dX12_flat_100 : decode cX12_flat 100 = .ok (.iconst 0, 1) := by decide +kernel
theorem dX12_flat_101 : decode cX12_flat 101 = .ok (.goto 10, 3) := by decide +kernel
theorem dX12_flat_104 : decode cX12_flat 104 = .ok (.aload_n 0, 1) := by decide +kernel
theorem dX12_flat_105 : decode cX12_flat 105 = .ok (.getfield 27, 3) := by decide +kernel
theorem dX12_flat_108 : decode cX12_flat 108 = .ok (.iload 6, 2) := by decide +kernel
theorem dX12_flat_110 : decode cX12_flat 110 = .ok (.iaload, 1) := by decide +kernel
theorem dX12_flat_111 : decode cX12_flat 111 = .ok (.iastore, 1) := by decide +kernel
theorem dX12_flat_112 : decode cX12_flat 112 = .ok (.iinc 6 1, 3) := by decide +kernel
theorem dX12_flat_115 : decode cX12_flat 115 = .ok (.goto (-41), 3) := by decide +kernel
theorem dX12_flat_118 : decode cX12_flat 118 = .ok (.aload_n 0, 1) := by decide +kernel
theorem dX12_flat_119 : decode cX12_flat 119 = .ok (.aload_n 0, 1) := by decide +kernel
theorem dX12_flat_120 : decode cX12_flat 120 = .ok (.iload_n 1, 1) := by decide +kernel
theorem dX12_flat_121 : decode cX12_flat 121 = .ok (.invokevirtual 101, 3) := by decide +kernel
theorem dX12_flat_124 : decode cX12_flat 124 = .ok (.iconst 0, 1) := by decide +kernel
theorem dX12_flat_125 : decode cX12_flat 125 = .ok (.invokevirtual 190, 3) := by decide +kernel
theorem dX12_flat_128 : decode cX12_flat 128 = .ok (.aload_n 0, 1) := by decide +kernel
theorem dX12_flat_129 : decode cX12_flat 129 = .ok (.iload_n 1, 1) := by decide +kernel
theorem dX12_flat_130 : decode cX12_flat 130 = .ok (.iload_n 2, 1) := by decide +kernel
theorem dX12_flat_131 : decode cX12_flat 131 = .ok (.invokevirtual 194, 3) := by decide +kernel
theorem dX12_flat_134 : decode cX12_flat 134 = .ok (.ldc 181, 2) := by decide +kernel
theorem dX12_flat_136 : decode cX12_flat 136 = .ok (.if_icmp .ge 8, 3) := by decide +kernel
theorem dX12_flat_139 : decode cX12_flat 139 = .ok (.iload 4, 2) := by decide +kernel
theorem dX12_flat_141 : decode cX12_flat 141 = .ok (.goto 4, 3) := by decide +kernel
theorem dX12_flat_144 : decode cX12_flat 144 = .ok (.iload_n 3, 1) := by decide +kernel
theorem dX12_flat_145 : decode cX12_flat 145 = .ok (.istore_n 3, 1) := by decide +kernel
theorem dX12_flat_146 : decode cX12_flat 146 = .ok (.iinc 4 2, 3) := by decide +kernel
theorem dX12_flat_149 : decode cX12_flat 149 = .ok (.goto (-122), 3) := by decide +kernel
theorem dX12_flat_152 : decode cX12_flat 152 = .ok (.iload_n 3, 1) := by decide +kernel
theorem dX12_flat_153 : decode cX12_flat 153 = .ok (.ireturn, 1) := by decide +kernel
theorem dX12_note_0 : decode cX12_note 0 = .ok (.aload_n 0, 1) := by decide +kernel
theorem dX12_note_1 : decode cX12_note 1 = .ok (.iload_n 1, 1) := by decide +kernel
theorem dX12_note_2 : decode cX12_note 2 = .ok (.invokevirtual 98, 3) := by decide +kernel
theorem dX12_note_5 : decode cX12_note 5 = .ok (.ifCond .eq 34, 3) := by decide +kernel
theorem dX12_note_8 : decode cX12_note 8 = .ok (.iload_n 2, 1) := by decide +kernel
theorem dX12_note_9 : decode cX12_note 9 = .ok (.invokestatic 171, 3) := by decide +kernel
theorem dX12_note_12 : decode cX12_note 12 = .ok (.ifCond .eq 27, 3) := by decide +kernel
theorem dX12_note_15 : decode cX12_note 15 = .ok (.iload_n 3, 1) := by decide +kernel
theorem dX12_note_16 : decode cX12_note 16 = .ok (.invokestatic 174, 3) := by decide +kernel
theorem dX12_note_19 : decode cX12_note 19 = .ok (.ifCond .eq 20, 3) := by decide +kernel
theorem dX12_note_22 : decode cX12_note 22 = .ok (.iload 4, 2) := by decide +kernel
theorem dX12_note_24 : decode cX12_note 24 = .ok (.i2l, 1) := by decide +kernel
theorem dX12_note_25 : decode cX12_note 25 = .ok (.ldc2_w 200, 3) := by decide +kernel
theorem dX12_note_28 : decode cX12_note 28 = .ok (.aload_n 0, 1) := by decide +kernel
theorem dX12_note_29 : decode cX12_note 29 = .ok (.invokevirtual 60, 3) := by decide +kernel
theorem dX12_note_32 : decode cX12_note 32 = .ok (.i2l, 1) := by decide +kernel
theorem dX12_note_33 : decode cX12_note 33 = .ok (.invokestatic 56, 3) := by decide +kernel
theorem dX12_note_36 : decode cX12_note 36 = .ok (.ifCond .ne 10, 3) := by decide +kernel
theorem dX12_note_39 : decode cX12_note 39 = .ok (.aload_n 0, 1) := by decide +kernel
theorem dX12_note_40 : decode cX12_note 40 = .ok (.bipush (-2), 2) := by decide +kernel
theorem dX12_note_42 : decode cX12_note 42 = .ok (.invokevirtual 76, 3) := by decide +kernel
theorem dX12_note_45 : decode cX12_note 45 = .ok (.ireturn, 1) := by decide +kernel
theorem dX12_note_46 : decode cX12_note 46 = .ok (.aload_n 0, 1) := by decide +kernel
theorem dX12_note_47 : decode cX12_note 47 = .ok (.getfield 7, 3) := by decide +kernel
theorem dX12_note_50 : decode cX12_note 50 = .ok (.iconst 3, 1) := by decide +kernel
theorem dX12_note_51 : decode cX12_note 51 = .ok (.iaload, 1) := by decide +kernel
theorem dX12_note_52 : decode cX12_note 52 = .ok (.bipush 6, 2) := by decide +kernel
theorem dX12_note_54 : decode cX12_note 54 = .ok (.if_icmp .ne 8, 3) := by decide +kernel
theorem dX12_note_57 : decode cX12_note 57 = .ok (.aload_n 0, 1) := by decide +kernel
theorem dX12_note_58 : decode cX12_note 58 = .ok (.invokevirtual 92, 3) := by decide +kernel
theorem dX12_note_61 : decode cX12_note 61 = .ok (.ireturn, 1) := by decide +kernel
theorem dX12_note_62 : decode cX12_note 62 = .ok (.bipush 42, 2) := by decide +kernel
theorem dX12_note_64 : decode cX12_note 64 = .ok (.iconst 4, 1) := by decide +kernel
theorem dX12_note_65 : decode cX12_note 65 = .ok (.aload_n 0, 1) := by decide +kernel
theorem dX12_note_66 : decode cX12_note 66 = .ok (.getfield 7, 3) := by decide +kernel
theorem dX12_note_69 : decode cX12_note 69 = .ok (.iconst 3, 1) := by decide +kernel
theorem dX12_note_70 : decode cX12_note 70 = .ok (.iaload, 1) := by decide +kernel
theorem dX12_note_71 : decode cX12_note 71 = .ok (.imul, 1) := by decide +kernel
theorem dX12_note_72 : decode cX12_note 72 = .ok (.iadd, 1) := by decide +kernel
theorem dX12_note_73 : decode cX12_note 73 = .ok (.istore 5, 2) := by decide +kernel
theorem dX12_note_75 : decode cX12_note 75 = .ok (.aload_n 0, 1) := by decide +kernel
theorem dX12_note_76 : decode cX12_note 76 = .ok (.getfield 7, 3) := by decide +kernel
theorem dX12_note_79 : decode cX12_note 79 = .ok (.iload 5, 2) := by decide +kernel
theorem dX12_note_81 : decode cX12_note 81 = .ok (.iload_n 1, 1) := by decide +kernel
theorem dX12_note_82 : decode cX12_note 82 = .ok (.iastore, 1) := by decide +kernel
theorem dX12_note_83 : decode cX12_note 83 = .ok (.aload_n 0, 1) := by decide +kernel
theorem dX12_note_84 : decode cX12_note 84 = .ok (.getfield 7, 3) := by decide +kernel
theorem dX12_note_87 : decode cX12_note 87 = .ok (.iload 5, 2) := by decide +kernel
theorem dX12_note_89 : decode cX12_note 89 = .ok (.iconst 1, 1) := by decide +kernel
theorem dX12_note_90 : decode cX12_note 90 = .ok (.iadd, 1) := by decide +kernel
theorem dX12_note_91 : decode cX12_note 91 = .ok (.iload_n 2, 1) := by decide +kernel
theorem dX12_note_92 : decode cX12_note 92 = .ok (.iastore, 1) := by decide +kernel
theorem dX12_note_93 : decode cX12_note 93 = .ok (.aload_n 0, 1) := by decide +kernel
theorem dX12_note_94 : decode cX12_note 94 = .ok (.getfield 7, 3) := by decide +kernel
theorem dX12_note_97 : decode cX12_note 97 = .ok (.iload 5, 2) := by decide +kernel
theorem dX12_note_99 : decode cX12_note 99 = .ok (.iconst 2, 1) := by decide +kernel
theorem dX12_note_100 : decode cX12_note 100 = .ok (.iadd, 1) := by decide +kernel
theorem dX12_note_101 : decode cX12_note 101 = .ok (.iload_n 3, 1) := by decide +kernel
theorem dX12_note_102 : decode cX12_note 102 = .ok (.iastore, 1) := by decide +kernel
theorem dX12_note_103 : decode cX12_note 103 = .ok (.aload_n 0, 1) := by decide +kernel
theorem dX12_note_104 : decode cX12_note 104 = .ok (.getfield 7, 3) := by decide +kernel
theorem dX12_note_107 : decode cX12_note 107 = .ok (.iload 5, 2) := by decide +kernel
theorem dX12_note_109 : decode cX12_note 109 = .ok (.iconst 3, 1) := by decide +kernel
theorem dX12_note_110 : decode cX12_note 110 = .ok (.iadd, 1) := by decide +kernel
theorem dX12_note_111 : decode cX12_note 111 = .ok (.iload 4, 2) := by decide +kernel
theorem dX12_note_113 : decode cX12_note 113 = .ok (.iastore, 1) := by decide +kernel
theorem dX12_note_114 : decode cX12_note 114 = .ok (.aload_n 0, 1) := by decide +kernel
theorem dX12_note_115 : decode cX12_note 115 = .ok (.getfield 7, 3) := by decide +kernel
theorem dX12_note_118 : decode cX12_note 118 = .ok (.iconst 3, 1) := by decide +kernel
theorem dX12_note_119 : decode cX12_note 119 = .ok (.dup2, 1) := by decide +kernel
theorem dX12_note_120 : decode cX12_note 120 = .ok (.iaload, 1) := by decide +kernel
theorem dX12_note_121 : decode cX12_note 121 = .ok (.iconst 1, 1) := by decide +kernel
theorem dX12_note_122 : decode cX12_note 122 = .ok (.iadd, 1) := by decide +kernel
theorem dX12_note_123 : decode cX12_note 123 = .ok (.iastore, 1) := by decide +kernel
theorem dX12_note_124 : decode cX12_note 124 = .ok (.aload_n 0, 1) := by decide +kernel
theorem dX12_note_125 : decode cX12_note 125 = .ok (.getfield 7, 3) := by decide +kernel
theorem dX12_note_128 : decode cX12_note 128 = .ok (.iconst 3, 1) := by decide +kernel
theorem dX12_note_129 : decode cX12_note 129 = .ok (.iaload, 1) := by decide +kernel
theorem dX12_note_130 : decode cX12_note 130 = .ok (.ireturn, 1) := by decide +kernel
theorem dX12_forget_0 : decode cX12_forget 0 = .ok (.aload_n 0, 1) := by decide +kernel
theorem dX12_forget_1 : decode cX12_forget 1 = .ok (.getfield 7, 3) := by decide +kernel
theorem dX12_forget_4 : decode cX12_forget 4 = .ok (.iconst 3, 1) := by decide +kernel
theorem dX12_forget_5 : decode cX12_forget 5 = .ok (.iaload, 1) := by decide +kernel
theorem dX12_forget_6 : decode cX12_forget 6 = .ok (.istore_n 1, 1) := by decide +kernel
theorem dX12_forget_7 : decode cX12_forget 7 = .ok (.aload_n 0, 1) := by decide +kernel
theorem dX12_forget_8 : decode cX12_forget 8 = .ok (.getfield 7, 3) := by decide +kernel
theorem dX12_forget_11 : decode cX12_forget 11 = .ok (.iconst 3, 1) := by decide +kernel
theorem dX12_forget_12 : decode cX12_forget 12 = .ok (.iconst 0, 1) := by decide +kernel
theorem dX12_forget_13 : decode cX12_forget 13 = .ok (.iastore, 1) := by decide +kernel
theorem dX12_forget_14 : decode cX12_forget 14 = .ok (.iload_n 1, 1) := by decide +kernel
theorem dX12_forget_15 : decode cX12_forget 15 = .ok (.ireturn, 1) := by decide +kernel
theorem dX12_fellIn_0 : decode cX12_fellIn 0 = .ok (.aload_n 0, 1) := by decide +kernel
theorem dX12_fellIn_1 : decode cX12_fellIn 1 = .ok (.aload_n 0, 1) := by decide +kernel
theorem dX12_fellIn_2 : decode cX12_fellIn 2 = .ok (.getfield 147, 3) := by decide +kernel
theorem dX12_fellIn_5 : decode cX12_fellIn 5 = .ok (.invokevirtual 118, 3) := by decide +kernel
theorem dX12_fellIn_8 : decode cX12_fellIn 8 = .ok (.ifCond .eq 10, 3) := by decide +kernel
theorem dX12_fellIn_11 : decode cX12_fellIn 11 = .ok (.aload_n 0, 1) := by decide +kernel
theorem dX12_fellIn_12 : decode cX12_fellIn 12 = .ok (.getfield 151, 3) := by decide +kernel
theorem dX12_fellIn_15 : decode cX12_fellIn 15 = .ok (.goto 4, 3) := by decide +kernel
theorem dX12_fellIn_18 : decode cX12_fellIn 18 = .ok (.iconst (-1), 1) := by decide +kernel
theorem dX12_fellIn_19 : decode cX12_fellIn 19 = .ok (.ireturn, 1) := by decide +kernel
theorem dX12_canBe_0 : decode cX12_canBe 0 = .ok (.iconst 1, 1) := by decide +kernel
theorem dX12_canBe_1 : decode cX12_canBe 1 = .ok (.istore_n 3, 1) := by decide +kernel
theorem dX12_canBe_2 : decode cX12_canBe 2 = .ok (.iconst 0, 1) := by decide +kernel
theorem dX12_canBe_3 : decode cX12_canBe 3 = .ok (.istore 4, 2) := by decide +kernel
theorem dX12_canBe_5 : decode cX12_canBe 5 = .ok (.iload 4, 2) := by decide +kernel
theorem dX12_canBe_7 : decode cX12_canBe 7 = .ok (.aload_n 0, 1) := by decide +kernel
theorem dX12_canBe_8 : decode cX12_canBe 8 = .ok (.getfield 7, 3) := by decide +kernel
theorem dX12_canBe_11 : decode cX12_canBe 11 = .ok (.iconst 3, 1) := by decide +kernel
theorem dX12_canBe_12 : decode cX12_canBe 12 = .ok (.iaload, 1) := by decide +kernel
theorem dX12_canBe_13 : decode cX12_canBe 13 = .ok (.if_icmp .ge 85, 3) := by decide +kernel
theorem dX12_canBe_16 : decode cX12_canBe 16 = .ok (.bipush 42, 2) := by decide +kernel
theorem dX12_canBe_18 : decode cX12_canBe 18 = .ok (.iconst 4, 1) := by decide +kernel
theorem dX12_canBe_19 : decode cX12_canBe 19 = .ok (.iload 4, 2) := by decide +kernel
theorem dX12_canBe_21 : decode cX12_canBe 21 = .ok (.imul, 1) := by decide +kernel
theorem dX12_canBe_22 : decode cX12_canBe 22 = .ok (.iadd, 1) := by decide +kernel
theorem dX12_canBe_23 : decode cX12_canBe 23 = .ok (.istore 5, 2) := by decide +kernel
theorem dX12_canBe_25 : decode cX12_canBe 25 = .ok (.aload_n 0, 1) := by decide +kernel
theorem dX12_canBe_26 : decode cX12_canBe 26 = .ok (.getfield 7, 3) := by decide +kernel
theorem dX12_canBe_29 : decode cX12_canBe 29 = .ok (.iload 5, 2) := by decide +kernel
theorem dX12_canBe_31 : decode cX12_canBe 31 = .ok (.iaload, 1) := by decide +kernel
theorem dX12_canBe_32 : decode cX12_canBe 32 = .ok (.iload_n 1, 1) := by decide +kernel
theorem dX12_canBe_33 : decode cX12_canBe 33 = .ok (.if_icmp .ne 59, 3) := by decide +kernel
theorem dX12_canBe_36 : decode cX12_canBe 36 = .ok (.aload_n 0, 1) := by decide +kernel
theorem dX12_canBe_37 : decode cX12_canBe 37 = .ok (.iload_n 2, 1) := by decide +kernel
theorem dX12_canBe_38 : decode cX12_canBe 38 = .ok (.aload_n 0, 1) := by decide +kernel
theorem dX12_canBe_39 : decode cX12_canBe 39 = .ok (.iload_n 1, 1) := by decide +kernel
theorem dX12_canBe_40 : decode cX12_canBe 40 = .ok (.invokevirtual 104, 3) := by decide +kernel
theorem dX12_canBe_43 : decode cX12_canBe 43 = .ok (.aload_n 0, 1) := by decide +kernel
theorem dX12_canBe_44 : decode cX12_canBe 44 = .ok (.getfield 7, 3) := by decide +kernel
theorem dX12_canBe_47 : decode cX12_canBe 47 = .ok (.iload 5, 2) := by decide +kernel
theorem dX12_canBe_49 : decode cX12_canBe 49 = .ok (.iconst 1, 1) := by decide +kernel
theorem dX12_canBe_50 : decode cX12_canBe 50 = .ok (.iadd, 1) := by decide +kernel
theorem dX12_canBe_51 : decode cX12_canBe 51 = .ok (.iaload, 1) := by decide +kernel
theorem dX12_canBe_52 : decode cX12_canBe 52 = .ok (.aload_n 0, 1) := by decide +kernel
theorem dX12_canBe_53 : decode cX12_canBe 53 = .ok (.getfield 7, 3) := by decide +kernel
theorem dX12_canBe_56 : decode cX12_canBe 56 = .ok (.iload 5, 2) := by decide +kernel
theorem dX12_canBe_58 : decode cX12_canBe 58 = .ok (.iconst 2, 1) := by decide +kernel
theorem dX12_canBe_59 : decode cX12_canBe 59 = .ok (.iadd, 1) := by decide +kernel
theorem dX12_canBe_60 : decode cX12_canBe 60 = .ok (.iaload, 1) := by decide +kernel
theorem dX12_canBe_61 : decode cX12_canBe 61 = .ok (.iconst (-1), 1) := by decide +kernel
theorem dX12_canBe_62 : decode cX12_canBe 62 = .ok (.iconst 0, 1) := by decide +kernel
theorem dX12_canBe_63 : decode cX12_canBe 63 = .ok (.invokevirtual 177, 3) := by decide +kernel
theorem dX12_canBe_66 : decode cX12_canBe 66 = .ok (.iload_n 3, 1) := by decide +kernel
theorem dX12_canBe_67 : decode cX12_canBe 67 = .ok (.ifCond .eq 23, 3) := by decide +kernel
theorem dX12_canBe_70 : decode cX12_canBe 70 = .ok (.aload_n 0, 1) := by decide +kernel
theorem dX12_canBe_71 : decode cX12_canBe 71 = .ok (.invokevirtual 202, 3) := by decide +kernel
theorem dX12_canBe_74 : decode cX12_canBe 74 = .ok (.aload_n 0, 1) := by decide +kernel
theorem dX12_canBe_75 : decode cX12_canBe 75 = .ok (.getfield 7, 3) := by decide +kernel
theorem dX12_canBe_78 : decode cX12_canBe 78 = .ok (.iload 5, 2) := by decide +kernel
theorem dX12_canBe_80 : decode cX12_canBe 80 = .ok (.iconst 3, 1) := by decide +kernel
theorem dX12_canBe_81 : decode cX12_canBe 81 = .ok (.iadd, 1) := by decide +kernel
theorem dX12_canBe_82 : decode cX12_canBe 82 = .ok (.iaload, 1) := by decide +kernel
theorem dX12_canBe_83 : decode cX12_canBe 83 = .ok (.if_icmp .ne 7, 3) := by decide +kernel
theorem dX12_canBe_86 : decode cX12_canBe 86 = .ok (.iconst 1, 1) := by decide +kernel
theorem dX12_canBe_87 : decode cX12_canBe 87 = .ok (.goto 4, 3) := by decide +kernel
theorem dX12_canBe_90 : decode cX12_canBe 90 = .ok (.iconst 0, 1) := by decide +kernel
theorem dX12_canBe_91 : decode cX12_canBe 91 = .ok (.istore_n 3, 1) := by decide +kernel
theorem dX12_canBe_92 : decode cX12_canBe 92 = .ok (.iinc 4 1, 3) := by decide +kernel
theorem dX12_canBe_95 : decode cX12_canBe 95 = .ok (.goto (-90), 3) := by decide +kernel
theorem dX12_canBe_98 : decode cX12_canBe 98 = .ok (.iload_n 3, 1) := by decide +kernel
theorem dX12_canBe_99 : decode cX12_canBe 99 = .ok (.ireturn, 1) := by decide +kernel
theorem dX12_kindsOf_0 : decode cX12_kindsOf 0 = .ok (.iconst 0, 1) := by decide +kernel
theorem dX12_kindsOf_1 : decode cX12_kindsOf 1 = .ok (.istore_n 2, 1) := by decide +kernel
theorem dX12_kindsOf_2 : decode cX12_kindsOf 2 = .ok (.iconst 0, 1) := by decide +kernel
theorem dX12_kindsOf_3 : decode cX12_kindsOf 3 = .ok (.istore_n 3, 1) := by decide +kernel
theorem dX12_kindsOf_4 : decode cX12_kindsOf 4 = .ok (.iload_n 3, 1) := by decide +kernel
theorem dX12_kindsOf_5 : decode cX12_kindsOf 5 = .ok (.bipush 6, 2) := by decide +kernel
theorem dX12_kindsOf_7 : decode cX12_kindsOf 7 = .ok (.if_icmp .ge 28, 3) := by decide +kernel
theorem dX12_kindsOf_10 : decode cX12_kindsOf 10 = .ok (.iload_n 2, 1) := by decide +kernel
theorem dX12_kindsOf_11 : decode cX12_kindsOf 11 = .ok (.aload_n 0, 1) := by decide +kernel
theorem dX12_kindsOf_12 : decode cX12_kindsOf 12 = .ok (.iload_n 1, 1) := by decide +kernel
theorem dX12_kindsOf_13 : decode cX12_kindsOf 13 = .ok (.iload_n 3, 1) := by decide +kernel
theorem dX12_kindsOf_14 : decode cX12_kindsOf 14 = .ok (.invokevirtual 205, 3) := by decide +kernel
theorem dX12_kindsOf_17 : decode cX12_kindsOf 17 = .ok (.ifCond .eq 9, 3) := by decide +kernel
theorem dX12_kindsOf_20 : decode cX12_kindsOf 20 = .ok (.iconst 1, 1) := by decide +kernel
theorem dX12_kindsOf_21 : decode cX12_kindsOf 21 = .ok (.iload_n 3, 1) := by decide +kernel
theorem dX12_kindsOf_22 : decode cX12_kindsOf 22 = .ok (.ishl, 1) := by decide +kernel
theorem dX12_kindsOf_23 : decode cX12_kindsOf 23 = .ok (.goto 4, 3) := by decide +kernel
theorem dX12_kindsOf_26 : decode cX12_kindsOf 26 = .ok (.iconst 0, 1) := by decide +kernel
theorem dX12_kindsOf_27 : decode cX12_kindsOf 27 = .ok (.ior, 1) := by decide +kernel
theorem dX12_kindsOf_28 : decode cX12_kindsOf 28 = .ok (.istore_n 2, 1) := by decide +kernel
theorem dX12_kindsOf_29 : decode cX12_kindsOf 29 = .ok (.iinc 3 1, 3) := by decide +kernel
theorem dX12_kindsOf_32 : decode cX12_kindsOf 32 = .ok (.goto (-28), 3) := by decide +kernel
theorem dX12_kindsOf_35 : decode cX12_kindsOf 35 = .ok (.iload_n 2, 1) := by decide +kernel
theorem dX12_kindsOf_36 : decode cX12_kindsOf 36 = .ok (.ireturn, 1) := by decide +kernel
theorem dX12_is_0 : decode cX12_is 0 = .ok (.aload_n 0, 1) := by decide +kernel
theorem dX12_is_1 : decode cX12_is 1 = .ok (.iload_n 1, 1) := by decide +kernel
theorem dX12_is_2 : decode cX12_is 2 = .ok (.invokevirtual 98, 3) := by decide +kernel
theorem dX12_is_5 : decode cX12_is 5 = .ok (.ifCond .eq 11, 3) := by decide +kernel
theorem dX12_is_8 : decode cX12_is 8 = .ok (.aload_n 0, 1) := by decide +kernel
theorem dX12_is_9 : decode cX12_is 9 = .ok (.iload_n 1, 1) := by decide +kernel
theorem dX12_is_10 : decode cX12_is 10 = .ok (.invokevirtual 208, 3) := by decide +kernel
theorem dX12_is_13 : decode cX12_is 13 = .ok (.goto 9, 3) := by decide +kernel
theorem dX12_is_16 : decode cX12_is 16 = .ok (.aload_n 0, 1) := by decide +kernel
theorem dX12_is_17 : decode cX12_is 17 = .ok (.bipush (-2), 2) := by decide +kernel
theorem dX12_is_19 : decode cX12_is 19 = .ok (.invokevirtual 76, 3) := by decide +kernel
theorem dX12_is_22 : decode cX12_is 22 = .ok (.ireturn, 1) := by decide +kernel
theorem dX12_bowl_0 : decode cX12_bowl 0 = .ok (.aload_n 0, 1) := by decide +kernel
theorem dX12_bowl_1 : decode cX12_bowl 1 = .ok (.iload_n 1, 1) := by decide +kernel
theorem dX12_bowl_2 : decode cX12_bowl 2 = .ok (.invokevirtual 98, 3) := by decide +kernel
theorem dX12_bowl_5 : decode cX12_bowl 5 = .ok (.ifCond .ne 10, 3) := by decide +kernel
theorem dX12_bowl_8 : decode cX12_bowl 8 = .ok (.aload_n 0, 1) := by decide +kernel
theorem dX12_bowl_9 : decode cX12_bowl 9 = .ok (.bipush (-2), 2) := by decide +kernel
theorem dX12_bowl_11 : decode cX12_bowl 11 = .ok (.invokevirtual 76, 3) := by decide +kernel
theorem dX12_bowl_14 : decode cX12_bowl 14 = .ok (.ireturn, 1) := by decide +kernel
theorem dX12_bowl_15 : decode cX12_bowl 15 = .ok (.aload_n 0, 1) := by decide +kernel
theorem dX12_bowl_16 : decode cX12_bowl 16 = .ok (.iload_n 1, 1) := by decide +kernel
theorem dX12_bowl_17 : decode cX12_bowl 17 = .ok (.invokevirtual 208, 3) := by decide +kernel
theorem dX12_bowl_20 : decode cX12_bowl 20 = .ok (.istore_n 2, 1) := by decide +kernel
theorem dX12_bowl_21 : decode cX12_bowl 21 = .ok (.iconst (-1), 1) := by decide +kernel
theorem dX12_bowl_22 : decode cX12_bowl 22 = .ok (.istore_n 3, 1) := by decide +kernel
theorem dX12_bowl_23 : decode cX12_bowl 23 = .ok (.ldc 181, 2) := by decide +kernel
theorem dX12_bowl_25 : decode cX12_bowl 25 = .ok (.istore 4, 2) := by decide +kernel
theorem dX12_bowl_27 : decode cX12_bowl 27 = .ok (.iconst 1, 1) := by decide +kernel
theorem dX12_bowl_28 : decode cX12_bowl 28 = .ok (.istore 5, 2) := by decide +kernel
theorem dX12_bowl_30 : decode cX12_bowl 30 = .ok (.iload 5, 2) := by decide +kernel
theorem dX12_bowl_32 : decode cX12_bowl 32 = .ok (.iconst 4, 1) := by decide +kernel
theorem dX12_bowl_33 : decode cX12_bowl 33 = .ok (.if_icmp .ge 168, 3) := by decide +kernel
theorem dX12_bowl_36 : decode cX12_bowl 36 = .ok (.iload_n 2, 1) := by decide +kernel
theorem dX12_bowl_37 : decode cX12_bowl 37 = .ok (.ifCond .le 164, 3) := by decide +kernel
theorem dX12_bowl_40 : decode cX12_bowl 40 = .ok (.iconst 0, 1) := by decide +kernel
theorem dX12_bowl_41 : decode cX12_bowl 41 = .ok (.istore 6, 2) := by decide +kernel
theorem dX12_bowl_43 : decode cX12_bowl 43 = .ok (.iconst 0, 1) := by decide +kernel
theorem dX12_bowl_44 : decode cX12_bowl 44 = .ok (.istore 7, 2) := by decide +kernel
theorem dX12_bowl_46 : decode cX12_bowl 46 = .ok (.iload 7, 2) := by decide +kernel
theorem dX12_bowl_48 : decode cX12_bowl 48 = .ok (.bipush 16, 2) := by decide +kernel
theorem dX12_bowl_50 : decode cX12_bowl 50 = .ok (.if_icmp .ge 17, 3) := by decide +kernel
theorem dX12_bowl_53 : decode cX12_bowl 53 = .ok (.aload_n 0, 1) := by decide +kernel
theorem dX12_bowl_54 : decode cX12_bowl 54 = .ok (.getfield 33, 3) := by decide +kernel
theorem dX12_bowl_57 : decode cX12_bowl 57 = .ok (.iload 7, 2) := by decide +kernel
theorem dX12_bowl_59 : decode cX12_bowl 59 = .ok (.iconst 0, 1) := by decide +kernel
theorem dX12_bowl_60 : decode cX12_bowl 60 = .ok (.iastore, 1) := by decide +kernel
theorem dX12_bowl_61 : decode cX12_bowl 61 = .ok (.iinc 7 1, 3) := by decide +kernel
theorem dX12_bowl_64 : decode cX12_bowl 64 = .ok (.goto (-18), 3) := by decide +kernel
theorem dX12_bowl_67 : decode cX12_bowl 67 = .ok (.iconst 0, 1) := by decide +kernel
theorem dX12_bowl_68 : decode cX12_bowl 68 = .ok (.istore 7, 2) := by decide +kernel
theorem dX12_bowl_70 : decode cX12_bowl 70 = .ok (.iload 7, 2) := by decide +kernel
theorem dX12_bowl_72 : decode cX12_bowl 72 = .ok (.bipush 6, 2) := by decide +kernel
theorem dX12_bowl_74 : decode cX12_bowl 74 = .ok (.if_icmp .ge 91, 3) := by decide +kernel
theorem dX12_bowl_77 : decode cX12_bowl 77 = .ok (.iload_n 2, 1) := by decide +kernel
theorem dX12_bowl_78 : decode cX12_bowl 78 = .ok (.iload 7, 2) := by decide +kernel
theorem dX12_bowl_80 : decode cX12_bowl 80 = .ok (.ishr, 1) := by decide +kernel
theorem dX12_bowl_81 : decode cX12_bowl 81 = .ok (.iconst 1, 1) := by decide +kernel
theorem dX12_bowl_82 : decode cX12_bowl 82 = .ok (.iand, 1) := by decide +kernel
theorem dX12_bowl_83 : decode cX12_bowl 83 = .ok (.iconst 1, 1) := by decide +kernel
theorem dX12_bowl_84 : decode cX12_bowl 84 = .ok (.if_icmp .ne 75, 3) := by decide +kernel
theorem dX12_bowl_87 : decode cX12_bowl 87 = .ok (.aload_n 0, 1) := by decide +kernel
theorem dX12_bowl_88 : decode cX12_bowl 88 = .ok (.aload_n 0, 1) := by decide +kernel
theorem dX12_bowl_89 : decode cX12_bowl 89 = .ok (.iload_n 1, 1) := by decide +kernel
theorem dX12_bowl_90 : decode cX12_bowl 90 = .ok (.invokevirtual 104, 3) := by decide +kernel
theorem dX12_bowl_93 : decode cX12_bowl 93 = .ok (.invokevirtual 157, 3) := by decide +kernel
theorem dX12_bowl_96 : decode cX12_bowl 96 = .ok (.aload_n 0, 1) := by decide +kernel
theorem dX12_bowl_97 : decode cX12_bowl 97 = .ok (.invokevirtual 161, 3) := by decide +kernel
theorem dX12_bowl_100 : decode cX12_bowl 100 = .ok (.ifCond .ne 16, 3) := by decide +kernel
theorem dX12_bowl_103 : decode cX12_bowl 103 = .ok (.aload_n 0, 1) := by decide +kernel
theorem dX12_bowl_104 : decode cX12_bowl 104 = .ok (.iload 7, 2) := by decide +kernel
theorem dX12_bowl_106 : decode cX12_bowl 106 = .ok (.iconst 0, 1) := by decide +kernel
theorem dX12_bowl_107 : decode cX12_bowl 107 = .ok (.iload 5, 2) := by decide +kernel
theorem dX12_bowl_109 : decode cX12_bowl 109 = .ok (.iconst 0, 1) := by decide +kernel
theorem dX12_bowl_110 : decode cX12_bowl 110 = .ok (.invokevirtual 167, 3) := by decide +kernel
theorem dX12_bowl_113 : decode cX12_bowl 113 = .ok (.goto (-17), 3) := by decide +kernel
theorem dX12_bowl_116 : decode cX12_bowl 116 = .ok (.aload_n 0, 1) := by decide +kernel
theorem dX12_bowl_117 : decode cX12_bowl 117 = .ok (.getfield 33, 3) := by decide +kernel
theorem dX12_bowl_120 : decode cX12_bowl 120 = .ok (.aload_n 0, 1) := by decide +kernel
theorem dX12_bowl_121 : decode cX12_bowl 121 = .ok (.getfield 151, 3) := by decide +kernel
theorem dX12_bowl_124 : decode cX12_bowl 124 = .ok (.dup2, 1) := by decide +kernel
theorem dX12_bowl_125 : decode cX12_bowl 125 = .ok (.iaload, 1) := by decide +kernel
theorem dX12_bowl_126 : decode cX12_bowl 126 = .ok (.iconst 1, 1) := by decide +kernel
theorem dX12_bowl_127 : decode cX12_bowl 127 = .ok (.iadd, 1) := by decide +kernel
theorem dX12_bowl_128 : decode cX12_bowl 128 = .ok (.iastore, 1) := by decide +kernel
theorem dX12_bowl_129 : decode cX12_bowl 129 = .ok (.aload_n 0, 1) := by decide +kernel
theorem dX12_bowl_130 : decode cX12_bowl 130 = .ok (.getfield 33, 3) := by decide +kernel
theorem dX12_bowl_133 : decode cX12_bowl 133 = .ok (.aload_n 0, 1) := by decide +kernel
theorem dX12_bowl_134 : decode cX12_bowl 134 = .ok (.getfield 151, 3) := by decide +kernel
theorem dX12_bowl_137 : decode cX12_bowl 137 = .ok (.iaload, 1) := by decide +kernel
theorem dX12_bowl_138 : decode cX12_bowl 138 = .ok (.iload 6, 2) := by decide +kernel
theorem dX12_bowl_140 : decode cX12_bowl 140 = .ok (.if_icmp .le 15, 3) := by decide +kernel
theorem dX12_bowl_143 : decode cX12_bowl 143 = .ok (.aload_n 0, 1) := by decide +kernel
theorem dX12_bowl_144 : decode cX12_bowl 144 = .ok (.getfield 33, 3) := by decide +kernel
theorem dX12_bowl_147 : decode cX12_bowl 147 = .ok (.aload_n 0, 1) := by decide +kernel
theorem dX12_bowl_148 : decode cX12_bowl 148 = .ok (.getfield 151, 3) := by decide +kernel
theorem dX12_bowl_151 : decode cX12_bowl 151 = .ok (.iaload, 1) := by decide +kernel
theorem dX12_bowl_152 : decode cX12_bowl 152 = .ok (.goto 5, 3) := by decide +kernel
theorem dX12_bowl_155 : decode cX12_bowl 155 = .ok (.iload 6, 2) := by decide +kernel
theorem dX12_bowl_157 : decode cX12_bowl 157 = .ok (.istore 6, 2) := by decide +kernel
theorem dX12_bowl_159 : decode cX12_bowl 159 = .ok (.iinc 7 1, 3) := by decide +kernel
theorem dX12_bowl_162 : decode cX12_bowl 162 = .ok (.goto (-92), 3) := by decide +kernel
theorem dX12_bowl_165 : decode cX12_bowl 165 = .ok (.iload 6, 2) := by decide +kernel
theorem dX12_bowl_167 : decode cX12_bowl 167 = .ok (.iload 4, 2) := by decide +kernel
theorem dX12_bowl_169 : decode cX12_bowl 169 = .ok (.if_icmp .ge 8, 3) := by decide +kernel
theorem dX12_bowl_172 : decode cX12_bowl 172 = .ok (.iload 5, 2) := by decide +kernel
theorem dX12_bowl_174 : decode cX12_bowl 174 = .ok (.goto 4, 3) := by decide +kernel
theorem dX12_bowl_177 : decode cX12_bowl 177 = .ok (.iload_n 3, 1) := by decide +kernel
theorem dX12_bowl_178 : decode cX12_bowl 178 = .ok (.istore_n 3, 1) := by decide +kernel
theorem dX12_bowl_179 : decode cX12_bowl 179 = .ok (.iload 6, 2) := by decide +kernel
theorem dX12_bowl_181 : decode cX12_bowl 181 = .ok (.iload 4, 2) := by decide +kernel
theorem dX12_bowl_183 : decode cX12_bowl 183 = .ok (.if_icmp .ge 8, 3) := by decide +kernel
theorem dX12_bowl_186 : decode cX12_bowl 186 = .ok (.iload 6, 2) := by decide +kernel
theorem dX12_bowl_188 : decode cX12_bowl 188 = .ok (.goto 5, 3) := by decide +kernel
theorem dX12_bowl_191 : decode cX12_bowl 191 = .ok (.iload 4, 2) := by decide +kernel
theorem dX12_bowl_193 : decode cX12_bowl 193 = .ok (.istore 4, 2) := by decide +kernel
theorem dX12_bowl_195 : decode cX12_bowl 195 = .ok (.iinc 5 1, 3) := by decide +kernel
theorem dX12_bowl_198 : decode cX12_bowl 198 = .ok (.goto (-168), 3) := by decide +kernel
theorem dX12_bowl_201 : decode cX12_bowl 201 = .ok (.iload_n 3, 1) := by decide +kernel
theorem dX12_bowl_202 : decode cX12_bowl 202 = .ok (.ireturn, 1) := by decide +kernel
theorem dX12_bowed_0 : decode cX12_bowed 0 = .ok (.aload_n 0, 1) := by decide +kernel
theorem dX12_bowed_1 : decode cX12_bowed 1 = .ok (.iload_n 1, 1) := by decide +kernel
theorem dX12_bowed_2 : decode cX12_bowed 2 = .ok (.invokevirtual 98, 3) := by decide +kernel
theorem dX12_bowed_5 : decode cX12_bowed 5 = .ok (.ifCond .eq 41, 3) := by decide +kernel
theorem dX12_bowed_8 : decode cX12_bowed 8 = .ok (.iload_n 2, 1) := by decide +kernel
theorem dX12_bowed_9 : decode cX12_bowed 9 = .ok (.invokestatic 171, 3) := by decide +kernel
theorem dX12_bowed_12 : decode cX12_bowed 12 = .ok (.ifCond .eq 34, 3) := by decide +kernel
theorem dX12_bowed_15 : decode cX12_bowed 15 = .ok (.iload_n 3, 1) := by decide +kernel
theorem dX12_bowed_16 : decode cX12_bowed 16 = .ok (.invokestatic 174, 3) := by decide +kernel
theorem dX12_bowed_19 : decode cX12_bowed 19 = .ok (.ifCond .eq 27, 3) := by decide +kernel
theorem dX12_bowed_22 : decode cX12_bowed 22 = .ok (.iload 4, 2) := by decide +kernel
theorem dX12_bowed_24 : decode cX12_bowed 24 = .ok (.i2l, 1) := by decide +kernel
theorem dX12_bowed_25 : decode cX12_bowed 25 = .ok (.ldc2_w 88, 3) := by decide +kernel
theorem dX12_bowed_28 : decode cX12_bowed 28 = .ok (.ldc2_w 66, 3) := by decide +kernel
theorem dX12_bowed_31 : decode cX12_bowed 31 = .ok (.invokestatic 56, 3) := by decide +kernel
theorem dX12_bowed_34 : decode cX12_bowed 34 = .ok (.ifCond .eq 12, 3) := by decide +kernel
theorem dX12_bowed_37 : decode cX12_bowed 37 = .ok (.aload_n 0, 1) := by decide +kernel
theorem dX12_bowed_38 : decode cX12_bowed 38 = .ok (.iload 5, 2) := by decide +kernel
theorem dX12_bowed_40 : decode cX12_bowed 40 = .ok (.invokevirtual 80, 3) := by decide +kernel
theorem dX12_bowed_43 : decode cX12_bowed 43 = .ok (.ifCond .ne 10, 3) := by decide +kernel
theorem dX12_bowed_46 : decode cX12_bowed 46 = .ok (.aload_n 0, 1) := by decide +kernel
theorem dX12_bowed_47 : decode cX12_bowed 47 = .ok (.bipush (-2), 2) := by decide +kernel
theorem dX12_bowed_49 : decode cX12_bowed 49 = .ok (.invokevirtual 76, 3) := by decide +kernel
theorem dX12_bowed_52 : decode cX12_bowed 52 = .ok (.ireturn, 1) := by decide +kernel
theorem dX12_bowed_53 : decode cX12_bowed 53 = .ok (.iconst 0, 1) := by decide +kernel
theorem dX12_bowed_54 : decode cX12_bowed 54 = .ok (.istore 6, 2) := by decide +kernel
theorem dX12_bowed_56 : decode cX12_bowed 56 = .ok (.iconst 0, 1) := by decide +kernel
theorem dX12_bowed_57 : decode cX12_bowed 57 = .ok (.istore 7, 2) := by decide +kernel
theorem dX12_bowed_59 : decode cX12_bowed 59 = .ok (.iload 7, 2) := by decide +kernel
theorem dX12_bowed_61 : decode cX12_bowed 61 = .ok (.iload_n 3, 1) := by decide +kernel
theorem dX12_bowed_62 : decode cX12_bowed 62 = .ok (.invokestatic 144, 3) := by decide +kernel
theorem dX12_bowed_65 : decode cX12_bowed 65 = .ok (.if_icmp .ge 105, 3) := by decide +kernel
theorem dX12_bowed_68 : decode cX12_bowed 68 = .ok (.aload_n 0, 1) := by decide +kernel
theorem dX12_bowed_69 : decode cX12_bowed 69 = .ok (.aload_n 0, 1) := by decide +kernel
theorem dX12_bowed_70 : decode cX12_bowed 70 = .ok (.iload_n 1, 1) := by decide +kernel
theorem dX12_bowed_71 : decode cX12_bowed 71 = .ok (.invokevirtual 101, 3) := by decide +kernel
theorem dX12_bowed_74 : decode cX12_bowed 74 = .ok (.aload_n 0, 1) := by decide +kernel
theorem dX12_bowed_75 : decode cX12_bowed 75 = .ok (.iload_n 1, 1) := by decide +kernel
theorem dX12_bowed_76 : decode cX12_bowed 76 = .ok (.invokevirtual 104, 3) := by decide +kernel
theorem dX12_bowed_79 : decode cX12_bowed 79 = .ok (.iload_n 2, 1) := by decide +kernel
theorem dX12_bowed_80 : decode cX12_bowed 80 = .ok (.iload_n 3, 1) := by decide +kernel
theorem dX12_bowed_81 : decode cX12_bowed 81 = .ok (.iload 7, 2) := by decide +kernel
theorem dX12_bowed_83 : decode cX12_bowed 83 = .ok (.iload 4, 2) := by decide +kernel
theorem dX12_bowed_85 : decode cX12_bowed 85 = .ok (.invokevirtual 177, 3) := by decide +kernel
theorem dX12_bowed_88 : decode cX12_bowed 88 = .ok (.aload_n 0, 1) := by decide +kernel
theorem dX12_bowed_89 : decode cX12_bowed 89 = .ok (.getfield 154, 3) := by decide +kernel
theorem dX12_bowed_92 : decode cX12_bowed 92 = .ok (.iload 7, 2) := by decide +kernel
theorem dX12_bowed_94 : decode cX12_bowed 94 = .ok (.if_icmp .le 16, 3) := by decide +kernel
theorem dX12_bowed_97 : decode cX12_bowed 97 = .ok (.aload_n 0, 1) := by decide +kernel
theorem dX12_bowed_98 : decode cX12_bowed 98 = .ok (.invokevirtual 202, 3) := by decide +kernel
theorem dX12_bowed_101 : decode cX12_bowed 101 = .ok (.iload 5, 2) := by decide +kernel
theorem dX12_bowed_103 : decode cX12_bowed 103 = .ok (.if_icmp .ne 7, 3) := by decide +kernel
theorem dX12_bowed_106 : decode cX12_bowed 106 = .ok (.iconst 1, 1) := by decide +kernel
theorem dX12_bowed_107 : decode cX12_bowed 107 = .ok (.goto 4, 3) := by decide +kernel
theorem dX12_bowed_110 : decode cX12_bowed 110 = .ok (.iconst 0, 1) := by decide +kernel
theorem dX12_bowed_111 : decode cX12_bowed 111 = .ok (.istore 8, 2) := by decide +kernel
theorem dX12_bowed_113 : decode cX12_bowed 113 = .ok (.iconst 0, 1) := by decide +kernel
theorem dX12_bowed_114 : decode cX12_bowed 114 = .ok (.istore 9, 2) := by decide +kernel
theorem dX12_bowed_116 : decode cX12_bowed 116 = .ok (.iconst 0, 1) := by decide +kernel
theorem dX12_bowed_117 : decode cX12_bowed 117 = .ok (.istore 10, 2) := by decide +kernel
theorem dX12_bowed_119 : decode cX12_bowed 119 = .ok (.iload 10, 2) := by decide +kernel
theorem dX12_bowed_121 : decode cX12_bowed 121 = .ok (.iload 7, 2) := by decide +kernel
theorem dX12_bowed_123 : decode cX12_bowed 123 = .ok (.if_icmp .gt 23, 3) := by decide +kernel
theorem dX12_bowed_126 : decode cX12_bowed 126 = .ok (.aload_n 0, 1) := by decide +kernel
theorem dX12_bowed_127 : decode cX12_bowed 127 = .ok (.iload 9, 2) := by decide +kernel
theorem dX12_bowed_129 : decode cX12_bowed 129 = .ok (.iload_n 3, 1) := by decide +kernel
theorem dX12_bowed_130 : decode cX12_bowed 130 = .ok (.iload 10, 2) := by decide +kernel
theorem dX12_bowed_132 : decode cX12_bowed 132 = .ok (.invokestatic 164, 3) := by decide +kernel
theorem dX12_bowed_135 : decode cX12_bowed 135 = .ok (.invokevirtual 110, 3) := by decide +kernel
theorem dX12_bowed_138 : decode cX12_bowed 138 = .ok (.istore 9, 2) := by decide +kernel
theorem dX12_bowed_140 : decode cX12_bowed 140 = .ok (.iinc 10 1, 3) := by decide +kernel
theorem dX12_bowed_143 : decode cX12_bowed 143 = .ok (.goto (-24), 3) := by decide +kernel
theorem dX12_bowed_146 : decode cX12_bowed 146 = .ok (.iload 6, 2) := by decide +kernel
theorem dX12_bowed_148 : decode cX12_bowed 148 = .ok (.iload 8, 2) := by decide +kernel
theorem dX12_bowed_150 : decode cX12_bowed 150 = .ok (.ifCond .eq 10, 3) := by decide +kernel
theorem dX12_bowed_153 : decode cX12_bowed 153 = .ok (.iconst 1, 1) := by decide +kernel
theorem dX12_bowed_154 : decode cX12_bowed 154 = .ok (.iload 9, 2) := by decide +kernel
theorem dX12_bowed_156 : decode cX12_bowed 156 = .ok (.ishl, 1) := by decide +kernel
theorem dX12_bowed_157 : decode cX12_bowed 157 = .ok (.goto 4, 3) := by decide +kernel
theorem dX12_bowed_160 : decode cX12_bowed 160 = .ok (.iconst 0, 1) := by decide +kernel
theorem dX12_bowed_161 : decode cX12_bowed 161 = .ok (.ior, 1) := by decide +kernel
theorem dX12_bowed_162 : decode cX12_bowed 162 = .ok (.istore 6, 2) := by decide +kernel
theorem dX12_bowed_164 : decode cX12_bowed 164 = .ok (.iinc 7 1, 3) := by decide +kernel
theorem dX12_bowed_167 : decode cX12_bowed 167 = .ok (.goto (-108), 3) := by decide +kernel
theorem dX12_bowed_170 : decode cX12_bowed 170 = .ok (.iload 6, 2) := by decide +kernel
theorem dX12_bowed_172 : decode cX12_bowed 172 = .ok (.ireturn, 1) := by decide +kernel
theorem dX12_fraction_0 : decode cX12_fraction 0 = .ok (.lload_n 1, 1) := by decide +kernel
theorem dX12_fraction_1 : decode cX12_fraction 1 = .ok (.lstore 5, 2) := by decide +kernel
theorem dX12_fraction_3 : decode cX12_fraction 3 = .ok (.lload_n 3, 1) := by decide +kernel
theorem dX12_fraction_4 : decode cX12_fraction 4 = .ok (.lstore 7, 2) := by decide +kernel
theorem dX12_fraction_6 : decode cX12_fraction 6 = .ok (.lload 7, 2) := by decide +kernel
theorem dX12_fraction_8 : decode cX12_fraction 8 = .ok (.lconst 0, 1) := by decide +kernel
theorem dX12_fraction_9 : decode cX12_fraction 9 = .ok (.lcmp, 1) := by decide +kernel
theorem dX12_fraction_10 : decode cX12_fraction 10 = .ok (.ifCond .eq 21, 3) := by decide +kernel
theorem dX12_fraction_13 : decode cX12_fraction 13 = .ok (.lload 5, 2) := by decide +kernel
theorem dX12_fraction_15 : decode cX12_fraction 15 = .ok (.lload 7, 2) := by decide +kernel
theorem dX12_fraction_17 : decode cX12_fraction 17 = .ok (.lrem, 1) := by decide +kernel
theorem dX12_fraction_18 : decode cX12_fraction 18 = .ok (.lstore 9, 2) := by decide +kernel
theorem dX12_fraction_20 : decode cX12_fraction 20 = .ok (.lload 7, 2) := by decide +kernel
theorem dX12_fraction_22 : decode cX12_fraction 22 = .ok (.lstore 5, 2) := by decide +kernel
theorem dX12_fraction_24 : decode cX12_fraction 24 = .ok (.lload 9, 2) := by decide +kernel
theorem dX12_fraction_26 : decode cX12_fraction 26 = .ok (.lstore 7, 2) := by decide +kernel
theorem dX12_fraction_28 : decode cX12_fraction 28 = .ok (.goto (-22), 3) := by decide +kernel
theorem dX12_fraction_31 : decode cX12_fraction 31 = .ok (.aload_n 0, 1) := by decide +kernel
theorem dX12_fraction_32 : decode cX12_fraction 32 = .ok (.lload_n 1, 1) := by decide +kernel
theorem dX12_fraction_33 : decode cX12_fraction 33 = .ok (.lload 5, 2) := by decide +kernel
theorem dX12_fraction_35 : decode cX12_fraction 35 = .ok (.ldiv, 1) := by decide +kernel
theorem dX12_fraction_36 : decode cX12_fraction 36 = .ok (.putfield 211, 3) := by decide +kernel
theorem dX12_fraction_39 : decode cX12_fraction 39 = .ok (.aload_n 0, 1) := by decide +kernel
theorem dX12_fraction_40 : decode cX12_fraction 40 = .ok (.lload_n 3, 1) := by decide +kernel
theorem dX12_fraction_41 : decode cX12_fraction 41 = .ok (.lload 5, 2) := by decide +kernel
theorem dX12_fraction_43 : decode cX12_fraction 43 = .ok (.ldiv, 1) := by decide +kernel
theorem dX12_fraction_44 : decode cX12_fraction 44 = .ok (.putfield 23, 3) := by decide +kernel
theorem dX12_fraction_47 : decode cX12_fraction 47 = .ok (.return_, 1) := by decide +kernel
theorem dX12_goCases_0 : decode cX12_goCases 0 = .ok (.iconst 0, 1) := by decide +kernel
theorem dX12_goCases_1 : decode cX12_goCases 1 = .ok (.istore 6, 2) := by decide +kernel
theorem dX12_goCases_3 : decode cX12_goCases 3 = .ok (.iload 6, 2) := by decide +kernel
theorem dX12_goCases_5 : decode cX12_goCases 5 = .ok (.bipush 25, 2) := by decide +kernel
theorem dX12_goCases_7 : decode cX12_goCases 7 = .ok (.if_icmp .ge 17, 3) := by decide +kernel
theorem dX12_goCases_10 : decode cX12_goCases 10 = .ok (.aload_n 0, 1) := by decide +kernel
theorem dX12_goCases_11 : decode cX12_goCases 11 = .ok (.getfield 40, 3) := by decide +kernel
theorem dX12_goCases_14 : decode cX12_goCases 14 = .ok (.iload 6, 2) := by decide +kernel
theorem dX12_goCases_16 : decode cX12_goCases 16 = .ok (.lconst 0, 1) := by decide +kernel
theorem dX12_goCases_17 : decode cX12_goCases 17 = .ok (.lastore, 1) := by decide +kernel
theorem dX12_goCases_18 : decode cX12_goCases 18 = .ok (.iinc 6 1, 3) := by decide +kernel
theorem dX12_goCases_21 : decode cX12_goCases 21 = .ok (.goto (-18), 3) := by decide +kernel
theorem dX12_goCases_24 : decode cX12_goCases 24 = .ok (.aload_n 0, 1) := by decide +kernel
theorem dX12_goCases_25 : decode cX12_goCases 25 = .ok (.getfield 7, 3) := by decide +kernel
theorem dX12_goCases_28 : decode cX12_goCases 28 = .ok (.iconst 1, 1) := by decide +kernel
theorem dX12_goCases_29 : decode cX12_goCases 29 = .ok (.iaload, 1) := by decide +kernel
theorem dX12_goCases_30 : decode cX12_goCases 30 = .ok (.ineg, 1) := by decide +kernel
theorem dX12_goCases_31 : decode cX12_goCases 31 = .ok (.istore 6, 2) := by decide +kernel
theorem dX12_goCases_33 : decode cX12_goCases 33 = .ok (.iload 6, 2) := by decide +kernel
theorem dX12_goCases_35 : decode cX12_goCases 35 = .ok (.aload_n 0, 1) := by decide +kernel
theorem dX12_goCases_36 : decode cX12_goCases 36 = .ok (.getfield 7, 3) := by decide +kernel
theorem dX12_goCases_39 : decode cX12_goCases 39 = .ok (.iconst 1, 1) := by decide +kernel
theorem dX12_goCases_40 : decode cX12_goCases 40 = .ok (.iaload, 1) := by decide +kernel
theorem dX12_goCases_41 : decode cX12_goCases 41 = .ok (.if_icmp .gt 101, 3) := by decide +kernel
theorem dX12_goCases_44 : decode cX12_goCases 44 = .ok (.aload_n 0, 1) := by decide +kernel
theorem dX12_goCases_45 : decode cX12_goCases 45 = .ok (.iload_n 1, 1) := by decide +kernel
theorem dX12_goCases_46 : decode cX12_goCases 46 = .ok (.iload_n 2, 1) := by decide +kernel
theorem dX12_goCases_47 : decode cX12_goCases 47 = .ok (.iload 6, 2) := by decide +kernel
theorem dX12_goCases_49 : decode cX12_goCases 49 = .ok (.iload_n 3, 1) := by decide +kernel
theorem dX12_goCases_50 : decode cX12_goCases 50 = .ok (.iload 4, 2) := by decide +kernel
theorem dX12_goCases_52 : decode cX12_goCases 52 = .ok (.invokevirtual 140, 3) := by decide +kernel
theorem dX12_goCases_55 : decode cX12_goCases 55 = .ok (.istore 7, 2) := by decide +kernel
theorem dX12_goCases_57 : decode cX12_goCases 57 = .ok (.aload_n 0, 1) := by decide +kernel
theorem dX12_goCases_58 : decode cX12_goCases 58 = .ok (.iload 7, 2) := by decide +kernel
theorem dX12_goCases_60 : decode cX12_goCases 60 = .ok (.invokevirtual 118, 3) := by decide +kernel
theorem dX12_goCases_63 : decode cX12_goCases 63 = .ok (.ifCond .ne 33, 3) := by decide +kernel
theorem dX12_goCases_66 : decode cX12_goCases 66 = .ok (.aload_n 0, 1) := by decide +kernel
theorem dX12_goCases_67 : decode cX12_goCases 67 = .ok (.getfield 40, 3) := by decide +kernel
theorem dX12_goCases_70 : decode cX12_goCases 70 = .ok (.iload 7, 2) := by decide +kernel
theorem dX12_goCases_72 : decode cX12_goCases 72 = .ok (.bipush 12, 2) := by decide +kernel
theorem dX12_goCases_74 : decode cX12_goCases 74 = .ok (.iadd, 1) := by decide +kernel
theorem dX12_goCases_75 : decode cX12_goCases 75 = .ok (.dup2, 1) := by decide +kernel
theorem dX12_goCases_76 : decode cX12_goCases 76 = .ok (.laload, 1) := by decide +kernel
theorem dX12_goCases_77 : decode cX12_goCases 77 = .ok (.bipush 10, 2) := by decide +kernel
theorem dX12_goCases_79 : decode cX12_goCases 79 = .ok (.iload 5, 2) := by decide +kernel
theorem dX12_goCases_81 : decode cX12_goCases 81 = .ok (.isub, 1) := by decide +kernel
theorem dX12_goCases_82 : decode cX12_goCases 82 = .ok (.i2l, 1) := by decide +kernel
theorem dX12_goCases_83 : decode cX12_goCases 83 = .ok (.aload_n 0, 1) := by decide +kernel
theorem dX12_goCases_84 : decode cX12_goCases 84 = .ok (.getfield 36, 3) := by decide +kernel
theorem dX12_goCases_87 : decode cX12_goCases 87 = .ok (.iload 6, 2) := by decide +kernel
theorem dX12_goCases_89 : decode cX12_goCases 89 = .ok (.bipush 12, 2) := by decide +kernel
theorem dX12_goCases_91 : decode cX12_goCases 91 = .ok (.iadd, 1) := by decide +kernel
theorem dX12_goCases_92 : decode cX12_goCases 92 = .ok (.laload, 1) := by decide +kernel
theorem dX12_goCases_93 : decode cX12_goCases 93 = .ok (.lmul, 1) := by decide +kernel
theorem dX12_goCases_94 : decode cX12_goCases 94 = .ok (.ladd, 1) := by decide +kernel
theorem dX12_goCases_95 : decode cX12_goCases 95 = .ok (.lastore, 1) := by decide +kernel
theorem dX12_goCases_96 : decode cX12_goCases 96 = .ok (.aload_n 0, 1) := by decide +kernel
theorem dX12_goCases_97 : decode cX12_goCases 97 = .ok (.iload 7, 2) := by decide +kernel
theorem dX12_goCases_99 : decode cX12_goCases 99 = .ok (.iconst 1, 1) := by decide +kernel
theorem dX12_goCases_100 : decode cX12_goCases 100 = .ok (.iadd, 1) := by decide +kernel
theorem dX12_goCases_101 : decode cX12_goCases 101 = .ok (.invokevirtual 118, 3) := by decide +kernel
theorem dX12_goCases_104 : decode cX12_goCases 104 = .ok (.ifCond .ne 32, 3) := by decide +kernel
theorem dX12_goCases_107 : decode cX12_goCases 107 = .ok (.aload_n 0, 1) := by decide +kernel
theorem dX12_goCases_108 : decode cX12_goCases 108 = .ok (.getfield 40, 3) := by decide +kernel
theorem dX12_goCases_111 : decode cX12_goCases 111 = .ok (.iload 7, 2) := by decide +kernel
theorem dX12_goCases_113 : decode cX12_goCases 113 = .ok (.iconst 1, 1) := by decide +kernel
theorem dX12_goCases_114 : decode cX12_goCases 114 = .ok (.iadd, 1) := by decide +kernel
theorem dX12_goCases_115 : decode cX12_goCases 115 = .ok (.bipush 12, 2) := by decide +kernel
theorem dX12_goCases_117 : decode cX12_goCases 117 = .ok (.iadd, 1) := by decide +kernel
theorem dX12_goCases_118 : decode cX12_goCases 118 = .ok (.dup2, 1) := by decide +kernel
theorem dX12_goCases_119 : decode cX12_goCases 119 = .ok (.laload, 1) := by decide +kernel
theorem dX12_goCases_120 : decode cX12_goCases 120 = .ok (.iload 5, 2) := by decide +kernel
theorem dX12_goCases_122 : decode cX12_goCases 122 = .ok (.i2l, 1) := by decide +kernel
theorem dX12_goCases_123 : decode cX12_goCases 123 = .ok (.aload_n 0, 1) := by decide +kernel
theorem dX12_goCases_124 : decode cX12_goCases 124 = .ok (.getfield 36, 3) := by decide +kernel
theorem dX12_goCases_127 : decode cX12_goCases 127 = .ok (.iload 6, 2) := by decide +kernel
theorem dX12_goCases_129 : decode cX12_goCases 129 = .ok (.bipush 12, 2) := by decide +kernel
theorem dX12_goCases_131 : decode cX12_goCases 131 = .ok (.iadd, 1) := by decide +kernel
theorem dX12_goCases_132 : decode cX12_goCases 132 = .ok (.laload, 1) := by decide +kernel
theorem dX12_goCases_133 : decode cX12_goCases 133 = .ok (.lmul, 1) := by decide +kernel
theorem dX12_goCases_134 : decode cX12_goCases 134 = .ok (.ladd, 1) := by decide +kernel
theorem dX12_goCases_135 : decode cX12_goCases 135 = .ok (.lastore, 1) := by decide +kernel
theorem dX12_goCases_136 : decode cX12_goCases 136 = .ok (.iinc 6 1, 3) := by decide +kernel
theorem dX12_goCases_139 : decode cX12_goCases 139 = .ok (.goto (-106), 3) := by decide +kernel
theorem dX12_goCases_142 : decode cX12_goCases 142 = .ok (.iconst 0, 1) := by decide +kernel
theorem dX12_goCases_143 : decode cX12_goCases 143 = .ok (.istore 6, 2) := by decide +kernel
theorem dX12_goCases_145 : decode cX12_goCases 145 = .ok (.iload 6, 2) := by decide +kernel
theorem dX12_goCases_147 : decode cX12_goCases 147 = .ok (.bipush 25, 2) := by decide +kernel
theorem dX12_goCases_149 : decode cX12_goCases 149 = .ok (.if_icmp .ge 23, 3) := by decide +kernel
theorem dX12_goCases_152 : decode cX12_goCases 152 = .ok (.aload_n 0, 1) := by decide +kernel
theorem dX12_goCases_153 : decode cX12_goCases 153 = .ok (.getfield 36, 3) := by decide +kernel
theorem dX12_goCases_156 : decode cX12_goCases 156 = .ok (.iload 6, 2) := by decide +kernel
theorem dX12_goCases_158 : decode cX12_goCases 158 = .ok (.aload_n 0, 1) := by decide +kernel
theorem dX12_goCases_159 : decode cX12_goCases 159 = .ok (.getfield 40, 3) := by decide +kernel
theorem dX12_goCases_162 : decode cX12_goCases 162 = .ok (.iload 6, 2) := by decide +kernel
theorem dX12_goCases_164 : decode cX12_goCases 164 = .ok (.laload, 1) := by decide +kernel
theorem dX12_goCases_165 : decode cX12_goCases 165 = .ok (.lastore, 1) := by decide +kernel
theorem dX12_goCases_166 : decode cX12_goCases 166 = .ok (.iinc 6 1, 3) := by decide +kernel
theorem dX12_goCases_169 : decode cX12_goCases 169 = .ok (.goto (-24), 3) := by decide +kernel
theorem dX12_goCases_172 : decode cX12_goCases 172 = .ok (.return_, 1) := by decide +kernel
theorem dX12_pigeons_0 : decode cX12_pigeons 0 = .ok (.aload_n 0, 1) := by decide +kernel
theorem dX12_pigeons_1 : decode cX12_pigeons 1 = .ok (.iload_n 1, 1) := by decide +kernel
theorem dX12_pigeons_2 : decode cX12_pigeons 2 = .ok (.invokevirtual 98, 3) := by decide +kernel
theorem dX12_pigeons_5 : decode cX12_pigeons 5 = .ok (.ifCond .eq 22, 3) := by decide +kernel
theorem dX12_pigeons_8 : decode cX12_pigeons 8 = .ok (.iload_n 2, 1) := by decide +kernel
theorem dX12_pigeons_9 : decode cX12_pigeons 9 = .ok (.invokestatic 121, 3) := by decide +kernel
theorem dX12_pigeons_12 : decode cX12_pigeons 12 = .ok (.ifCond .eq 15, 3) := by decide +kernel
theorem dX12_pigeons_15 : decode cX12_pigeons 15 = .ok (.iload_n 3, 1) := by decide +kernel
theorem dX12_pigeons_16 : decode cX12_pigeons 16 = .ok (.i2l, 1) := by decide +kernel
theorem dX12_pigeons_17 : decode cX12_pigeons 17 = .ok (.lconst 0, 1) := by decide +kernel
theorem dX12_pigeons_18 : decode cX12_pigeons 18 = .ok (.ldc2_w 214, 3) := by decide +kernel
theorem dX12_pigeons_21 : decode cX12_pigeons 21 = .ok (.invokestatic 56, 3) := by decide +kernel
theorem dX12_pigeons_24 : decode cX12_pigeons 24 = .ok (.ifCond .ne 10, 3) := by decide +kernel
theorem dX12_pigeons_27 : decode cX12_pigeons 27 = .ok (.aload_n 0, 1) := by decide +kernel
theorem dX12_pigeons_28 : decode cX12_pigeons 28 = .ok (.bipush (-2), 2) := by decide +kernel
theorem dX12_pigeons_30 : decode cX12_pigeons 30 = .ok (.invokevirtual 76, 3) := by decide +kernel
theorem dX12_pigeons_33 : decode cX12_pigeons 33 = .ok (.ireturn, 1) := by decide +kernel
theorem dX12_pigeons_34 : decode cX12_pigeons 34 = .ok (.aload_n 0, 1) := by decide +kernel
theorem dX12_pigeons_35 : decode cX12_pigeons 35 = .ok (.invokevirtual 137, 3) := by decide +kernel
theorem dX12_pigeons_38 : decode cX12_pigeons 38 = .ok (.iconst 0, 1) := by decide +kernel
theorem dX12_pigeons_39 : decode cX12_pigeons 39 = .ok (.istore 4, 2) := by decide +kernel
theorem dX12_pigeons_41 : decode cX12_pigeons 41 = .ok (.iload 4, 2) := by decide +kernel
theorem dX12_pigeons_43 : decode cX12_pigeons 43 = .ok (.bipush 25, 2) := by decide +kernel
theorem dX12_pigeons_45 : decode cX12_pigeons 45 = .ok (.if_icmp .ge 46, 3) := by decide +kernel
theorem dX12_pigeons_48 : decode cX12_pigeons 48 = .ok (.aload_n 0, 1) := by decide +kernel
theorem dX12_pigeons_49 : decode cX12_pigeons 49 = .ok (.getfield 36, 3) := by decide +kernel
theorem dX12_pigeons_52 : decode cX12_pigeons 52 = .ok (.iload 4, 2) := by decide +kernel
theorem dX12_pigeons_54 : decode cX12_pigeons 54 = .ok (.iload 4, 2) := by decide +kernel
theorem dX12_pigeons_56 : decode cX12_pigeons 56 = .ok (.bipush 12, 2) := by decide +kernel
theorem dX12_pigeons_58 : decode cX12_pigeons 58 = .ok (.isub, 1) := by decide +kernel
theorem dX12_pigeons_59 : decode cX12_pigeons 59 = .ok (.aload_n 0, 1) := by decide +kernel
theorem dX12_pigeons_60 : decode cX12_pigeons 60 = .ok (.iload_n 1, 1) := by decide +kernel
theorem dX12_pigeons_61 : decode cX12_pigeons 61 = .ok (.invokevirtual 104, 3) := by decide +kernel
theorem dX12_pigeons_64 : decode cX12_pigeons 64 = .ok (.if_icmp .ne 19, 3) := by decide +kernel
theorem dX12_pigeons_67 : decode cX12_pigeons 67 = .ok (.aload_n 0, 1) := by decide +kernel
theorem dX12_pigeons_68 : decode cX12_pigeons 68 = .ok (.aload_n 0, 1) := by decide +kernel
theorem dX12_pigeons_69 : decode cX12_pigeons 69 = .ok (.iload_n 1, 1) := by decide +kernel
theorem dX12_pigeons_70 : decode cX12_pigeons 70 = .ok (.invokevirtual 104, 3) := by decide +kernel
theorem dX12_pigeons_73 : decode cX12_pigeons 73 = .ok (.invokevirtual 118, 3) := by decide +kernel
theorem dX12_pigeons_76 : decode cX12_pigeons 76 = .ok (.ifCond .ne 7, 3) := by decide +kernel
theorem dX12_pigeons_79 : decode cX12_pigeons 79 = .ok (.lconst 1, 1) := by decide +kernel
theorem dX12_pigeons_80 : decode cX12_pigeons 80 = .ok (.goto 4, 3) := by decide +kernel
theorem dX12_pigeons_83 : decode cX12_pigeons 83 = .ok (.lconst 0, 1) := by decide +kernel
theorem dX12_pigeons_84 : decode cX12_pigeons 84 = .ok (.lastore, 1) := by decide +kernel
theorem dX12_pigeons_85 : decode cX12_pigeons 85 = .ok (.iinc 4 1, 3) := by decide +kernel
theorem dX12_pigeons_88 : decode cX12_pigeons 88 = .ok (.goto (-47), 3) := by decide +kernel
theorem dX12_pigeons_91 : decode cX12_pigeons 91 = .ok (.lconst 1, 1) := by decide +kernel
theorem dX12_pigeons_92 : decode cX12_pigeons 92 = .ok (.lstore 4, 2) := by decide +kernel
theorem dX12_pigeons_94 : decode cX12_pigeons 94 = .ok (.iconst 0, 1) := by decide +kernel
theorem dX12_pigeons_95 : decode cX12_pigeons 95 = .ok (.istore 6, 2) := by decide +kernel
theorem dX12_pigeons_97 : decode cX12_pigeons 97 = .ok (.iconst 0, 1) := by decide +kernel
theorem dX12_pigeons_98 : decode cX12_pigeons 98 = .ok (.istore 7, 2) := by decide +kernel
theorem dX12_pigeons_100 : decode cX12_pigeons 100 = .ok (.iload 6, 2) := by decide +kernel
theorem dX12_pigeons_102 : decode cX12_pigeons 102 = .ok (.aload_n 0, 1) := by decide +kernel
theorem dX12_pigeons_103 : decode cX12_pigeons 103 = .ok (.invokevirtual 60, 3) := by decide +kernel
theorem dX12_pigeons_106 : decode cX12_pigeons 106 = .ok (.if_icmp .ge 41, 3) := by decide +kernel
theorem dX12_pigeons_109 : decode cX12_pigeons 109 = .ok (.aload_n 0, 1) := by decide +kernel
theorem dX12_pigeons_110 : decode cX12_pigeons 110 = .ok (.aload_n 0, 1) := by decide +kernel
theorem dX12_pigeons_111 : decode cX12_pigeons 111 = .ok (.iload_n 1, 1) := by decide +kernel
theorem dX12_pigeons_112 : decode cX12_pigeons 112 = .ok (.invokevirtual 101, 3) := by decide +kernel
theorem dX12_pigeons_115 : decode cX12_pigeons 115 = .ok (.iload 6, 2) := by decide +kernel
theorem dX12_pigeons_117 : decode cX12_pigeons 117 = .ok (.iload 7, 2) := by decide +kernel
theorem dX12_pigeons_119 : decode cX12_pigeons 119 = .ok (.iload_n 2, 1) := by decide +kernel
theorem dX12_pigeons_120 : decode cX12_pigeons 120 = .ok (.iload_n 3, 1) := by decide +kernel
theorem dX12_pigeons_121 : decode cX12_pigeons 121 = .ok (.invokevirtual 216, 3) := by decide +kernel
theorem dX12_pigeons_124 : decode cX12_pigeons 124 = .ok (.aload_n 0, 1) := by decide +kernel
theorem dX12_pigeons_125 : decode cX12_pigeons 125 = .ok (.iload 6, 2) := by decide +kernel
theorem dX12_pigeons_127 : decode cX12_pigeons 127 = .ok (.iload_n 2, 1) := by decide +kernel
theorem dX12_pigeons_128 : decode cX12_pigeons 128 = .ok (.invokevirtual 110, 3) := by decide +kernel
theorem dX12_pigeons_131 : decode cX12_pigeons 131 = .ok (.istore 6, 2) := by decide +kernel
theorem dX12_pigeons_133 : decode cX12_pigeons 133 = .ok (.lload 4, 2) := by decide +kernel
theorem dX12_pigeons_135 : decode cX12_pigeons 135 = .ok (.ldc2_w 214, 3) := by decide +kernel
theorem dX12_pigeons_138 : decode cX12_pigeons 138 = .ok (.lmul, 1) := by decide +kernel
theorem dX12_pigeons_139 : decode cX12_pigeons 139 = .ok (.lstore 4, 2) := by decide +kernel
theorem dX12_pigeons_141 : decode cX12_pigeons 141 = .ok (.iinc 7 1, 3) := by decide +kernel
theorem dX12_pigeons_144 : decode cX12_pigeons 144 = .ok (.goto (-44), 3) := by decide +kernel
theorem dX12_pigeons_147 : decode cX12_pigeons 147 = .ok (.lconst 0, 1) := by decide +kernel
theorem dX12_pigeons_148 : decode cX12_pigeons 148 = .ok (.lstore 7, 2) := by decide +kernel
theorem dX12_pigeons_150 : decode cX12_pigeons 150 = .ok (.iconst 0, 1) := by decide +kernel
theorem dX12_pigeons_151 : decode cX12_pigeons 151 = .ok (.istore 9, 2) := by decide +kernel
theorem dX12_pigeons_153 : decode cX12_pigeons 153 = .ok (.iload 9, 2) := by decide +kernel
theorem dX12_pigeons_155 : decode cX12_pigeons 155 = .ok (.bipush 25, 2) := by decide +kernel
theorem dX12_pigeons_157 : decode cX12_pigeons 157 = .ok (.if_icmp .ge 21, 3) := by decide +kernel
theorem dX12_pigeons_160 : decode cX12_pigeons 160 = .ok (.lload 7, 2) := by decide +kernel
theorem dX12_pigeons_162 : decode cX12_pigeons 162 = .ok (.aload_n 0, 1) := by decide +kernel
theorem dX12_pigeons_163 : decode cX12_pigeons 163 = .ok (.getfield 36, 3) := by decide +kernel
theorem dX12_pigeons_166 : decode cX12_pigeons 166 = .ok (.iload 9, 2) := by decide +kernel
theorem dX12_pigeons_168 : decode cX12_pigeons 168 = .ok (.laload, 1) := by decide +kernel
theorem dX12_pigeons_169 : decode cX12_pigeons 169 = .ok (.ladd, 1) := by decide +kernel
theorem dX12_pigeons_170 : decode cX12_pigeons 170 = .ok (.lstore 7, 2) := by decide +kernel
theorem dX12_pigeons_172 : decode cX12_pigeons 172 = .ok (.iinc 9 1, 3) := by decide +kernel
theorem dX12_pigeons_175 : decode cX12_pigeons 175 = .ok (.goto (-22), 3) := by decide +kernel
theorem dX12_pigeons_178 : decode cX12_pigeons 178 = .ok (.aload_n 0, 1) := by decide +kernel
theorem dX12_pigeons_179 : decode cX12_pigeons 179 = .ok (.lload 7, 2) := by decide +kernel
theorem dX12_pigeons_181 : decode cX12_pigeons 181 = .ok (.lload 4, 2) := by decide +kernel
theorem dX12_pigeons_183 : decode cX12_pigeons 183 = .ok (.invokevirtual 220, 3) := by decide +kernel
theorem dX12_pigeons_186 : decode cX12_pigeons 186 = .ok (.iconst 1, 1) := by decide +kernel
theorem dX12_pigeons_187 : decode cX12_pigeons 187 = .ok (.ireturn, 1) := by decide +kernel
theorem dX12_crowned_0 : decode cX12_crowned 0 = .ok (.aload_n 0, 1) := by decide +kernel
theorem dX12_crowned_1 : decode cX12_crowned 1 = .ok (.iload_n 1, 1) := by decide +kernel
theorem dX12_crowned_2 : decode cX12_crowned 2 = .ok (.invokevirtual 98, 3) := by decide +kernel
theorem dX12_crowned_5 : decode cX12_crowned 5 = .ok (.ifCond .eq 27, 3) := by decide +kernel
theorem dX12_crowned_8 : decode cX12_crowned 8 = .ok (.iload_n 2, 1) := by decide +kernel
theorem dX12_crowned_9 : decode cX12_crowned 9 = .ok (.i2l, 1) := by decide +kernel
theorem dX12_crowned_10 : decode cX12_crowned 10 = .ok (.lconst 0, 1) := by decide +kernel
theorem dX12_crowned_11 : decode cX12_crowned 11 = .ok (.ldc2_w 224, 3) := by decide +kernel
theorem dX12_crowned_14 : decode cX12_crowned 14 = .ok (.invokestatic 56, 3) := by decide +kernel
theorem dX12_crowned_17 : decode cX12_crowned 17 = .ok (.ifCond .eq 15, 3) := by decide +kernel
theorem dX12_crowned_20 : decode cX12_crowned 20 = .ok (.iload_n 3, 1) := by decide +kernel
theorem dX12_crowned_21 : decode cX12_crowned 21 = .ok (.i2l, 1) := by decide +kernel
theorem dX12_crowned_22 : decode cX12_crowned 22 = .ok (.lconst 0, 1) := by decide +kernel
theorem dX12_crowned_23 : decode cX12_crowned 23 = .ok (.ldc2_w 226, 3) := by decide +kernel
theorem dX12_crowned_26 : decode cX12_crowned 26 = .ok (.invokestatic 56, 3) := by decide +kernel
theorem dX12_crowned_29 : decode cX12_crowned 29 = .ok (.ifCond .ne 10, 3) := by decide +kernel
theorem dX12_crowned_32 : decode cX12_crowned 32 = .ok (.aload_n 0, 1) := by decide +kernel
theorem dX12_crowned_33 : decode cX12_crowned 33 = .ok (.bipush (-2), 2) := by decide +kernel
theorem dX12_crowned_35 : decode cX12_crowned 35 = .ok (.invokevirtual 76, 3) := by decide +kernel
theorem dX12_crowned_38 : decode cX12_crowned 38 = .ok (.ireturn, 1) := by decide +kernel
theorem dX12_crowned_39 : decode cX12_crowned 39 = .ok (.iload_n 2, 1) := by decide +kernel
theorem dX12_crowned_40 : decode cX12_crowned 40 = .ok (.i2l, 1) := by decide +kernel
theorem dX12_crowned_41 : decode cX12_crowned 41 = .ok (.lstore 4, 2) := by decide +kernel
theorem dX12_crowned_43 : decode cX12_crowned 43 = .ok (.iconst 0, 1) := by decide +kernel
theorem dX12_crowned_44 : decode cX12_crowned 44 = .ok (.istore 6, 2) := by decide +kernel
theorem dX12_crowned_46 : decode cX12_crowned 46 = .ok (.iconst 0, 1) := by decide +kernel
theorem dX12_crowned_47 : decode cX12_crowned 47 = .ok (.istore 7, 2) := by decide +kernel
theorem dX12_crowned_49 : decode cX12_crowned 49 = .ok (.iload 7, 2) := by decide +kernel
theorem dX12_crowned_51 : decode cX12_crowned 51 = .ok (.iload_n 3, 1) := by decide +kernel
theorem dX12_crowned_52 : decode cX12_crowned 52 = .ok (.if_icmp .ge 89, 3) := by decide +kernel
theorem dX12_crowned_55 : decode cX12_crowned 55 = .ok (.aload_n 0, 1) := by decide +kernel
theorem dX12_crowned_56 : decode cX12_crowned 56 = .ok (.aload_n 0, 1) := by decide +kernel
theorem dX12_crowned_57 : decode cX12_crowned 57 = .ok (.iload_n 1, 1) := by decide +kernel
theorem dX12_crowned_58 : decode cX12_crowned 58 = .ok (.invokevirtual 104, 3) := by decide +kernel
theorem dX12_crowned_61 : decode cX12_crowned 61 = .ok (.invokevirtual 157, 3) := by decide +kernel
theorem dX12_crowned_64 : decode cX12_crowned 64 = .ok (.aload_n 0, 1) := by decide +kernel
theorem dX12_crowned_65 : decode cX12_crowned 65 = .ok (.invokevirtual 161, 3) := by decide +kernel
theorem dX12_crowned_68 : decode cX12_crowned 68 = .ok (.ifCond .ne 46, 3) := by decide +kernel
theorem dX12_crowned_71 : decode cX12_crowned 71 = .ok (.lload 4, 2) := by decide +kernel
theorem dX12_crowned_73 : decode cX12_crowned 73 = .ok (.ldc2_w 228, 3) := by decide +kernel
theorem dX12_crowned_76 : decode cX12_crowned 76 = .ok (.lmul, 1) := by decide +kernel
theorem dX12_crowned_77 : decode cX12_crowned 77 = .ok (.ldc2_w 230, 3) := by decide +kernel
theorem dX12_crowned_80 : decode cX12_crowned 80 = .ok (.ladd, 1) := by decide +kernel
theorem dX12_crowned_81 : decode cX12_crowned 81 = .ok (.ldc2_w 232, 3) := by decide +kernel
theorem dX12_crowned_84 : decode cX12_crowned 84 = .ok (.lrem, 1) := by decide +kernel
theorem dX12_crowned_85 : decode cX12_crowned 85 = .ok (.lstore 4, 2) := by decide +kernel
theorem dX12_crowned_87 : decode cX12_crowned 87 = .ok (.aload_n 0, 1) := by decide +kernel
theorem dX12_crowned_88 : decode cX12_crowned 88 = .ok (.aload_n 0, 1) := by decide +kernel
theorem dX12_crowned_89 : decode cX12_crowned 89 = .ok (.iload_n 1, 1) := by decide +kernel
theorem dX12_crowned_90 : decode cX12_crowned 90 = .ok (.invokevirtual 101, 3) := by decide +kernel
theorem dX12_crowned_93 : decode cX12_crowned 93 = .ok (.iconst 0, 1) := by decide +kernel
theorem dX12_crowned_94 : decode cX12_crowned 94 = .ok (.lload 4, 2) := by decide +kernel
theorem dX12_crowned_96 : decode cX12_crowned 96 = .ok (.ldc2_w 234, 3) := by decide +kernel
theorem dX12_crowned_99 : decode cX12_crowned 99 = .ok (.ldiv, 1) := by decide +kernel
theorem dX12_crowned_100 : decode cX12_crowned 100 = .ok (.ldc2_w 66, 3) := by decide +kernel
theorem dX12_crowned_103 : decode cX12_crowned 103 = .ok (.lrem, 1) := by decide +kernel
theorem dX12_crowned_104 : decode cX12_crowned 104 = .ok (.l2i, 1) := by decide +kernel
theorem dX12_crowned_105 : decode cX12_crowned 105 = .ok (.iconst 1, 1) := by decide +kernel
end
section
theorem dX12_crowned_106 : decode cX12_crowned 106 = .ok (.iadd, 1) := by decide +kernel
theorem dX12_crowned_107 : decode cX12_crowned 107 = .ok (.iconst 0, 1) := by decide +kernel
theorem dX12_crowned_108 : decode cX12_crowned 108 = .ok (.invokevirtual 167, 3) := by decide +kernel
theorem dX12_crowned_111 : decode cX12_crowned 111 = .ok (.goto (-47), 3) := by decide +kernel
theorem dX12_crowned_114 : decode cX12_crowned 114 = .ok (.iload 6, 2) := by decide +kernel
theorem dX12_crowned_116 : decode cX12_crowned 116 = .ok (.aload_n 0, 1) := by decide +kernel
theorem dX12_crowned_117 : decode cX12_crowned 117 = .ok (.aload_n 0, 1) := by decide +kernel
theorem dX12_crowned_118 : decode cX12_crowned 118 = .ok (.getfield 147, 3) := by decide +kernel
theorem dX12_crowned_121 : decode cX12_crowned 121 = .ok (.invokevirtual 118, 3) := by decide +kernel
theorem dX12_crowned_124 : decode cX12_crowned 124 = .ok (.ifCond .eq 7, 3) := by decide +kernel
theorem dX12_crowned_127 : decode cX12_crowned 127 = .ok (.iconst 0, 1) := by decide +kernel
theorem dX12_crowned_128 : decode cX12_crowned 128 = .ok (.goto 4, 3) := by decide +kernel
theorem dX12_crowned_131 : decode cX12_crowned 131 = .ok (.iconst 1, 1) := by decide +kernel
theorem dX12_crowned_132 : decode cX12_crowned 132 = .ok (.iadd, 1) := by decide +kernel
theorem dX12_crowned_133 : decode cX12_crowned 133 = .ok (.istore 6, 2) := by decide +kernel
theorem dX12_crowned_135 : decode cX12_crowned 135 = .ok (.iinc 7 1, 3) := by decide +kernel
theorem dX12_crowned_138 : decode cX12_crowned 138 = .ok (.goto (-89), 3) := by decide +kernel
theorem dX12_crowned_141 : decode cX12_crowned 141 = .ok (.iload 6, 2) := by decide +kernel
theorem dX12_crowned_143 : decode cX12_crowned 143 = .ok (.ireturn, 1) := by decide +kernel
theorem dX12_type_0 : decode cX12_type 0 = .ok (.iload_n 1, 1) := by decide +kernel
theorem dX12_type_1 : decode cX12_type 1 = .ok (.i2l, 1) := by decide +kernel
theorem dX12_type_2 : decode cX12_type 2 = .ok (.lconst 0, 1) := by decide +kernel
theorem dX12_type_3 : decode cX12_type 3 = .ok (.ldc2_w 236, 3) := by decide +kernel
theorem dX12_type_6 : decode cX12_type 6 = .ok (.invokestatic 56, 3) := by decide +kernel
theorem dX12_type_9 : decode cX12_type 9 = .ok (.ifCond .ne 10, 3) := by decide +kernel
theorem dX12_type_12 : decode cX12_type 12 = .ok (.aload_n 0, 1) := by decide +kernel
theorem dX12_type_13 : decode cX12_type 13 = .ok (.bipush (-2), 2) := by decide +kernel
theorem dX12_type_15 : decode cX12_type 15 = .ok (.invokevirtual 76, 3) := by decide +kernel
theorem dX12_type_18 : decode cX12_type 18 = .ok (.ireturn, 1) := by decide +kernel
theorem dX12_type_19 : decode cX12_type 19 = .ok (.aload_n 0, 1) := by decide +kernel
theorem dX12_type_20 : decode cX12_type 20 = .ok (.getfield 238, 3) := by decide +kernel
theorem dX12_type_23 : decode cX12_type 23 = .ok (.sipush 150, 3) := by decide +kernel
theorem dX12_type_26 : decode cX12_type 26 = .ok (.if_icmp .ne 8, 3) := by decide +kernel
theorem dX12_type_29 : decode cX12_type 29 = .ok (.aload_n 0, 1) := by decide +kernel
theorem dX12_type_30 : decode cX12_type 30 = .ok (.invokevirtual 92, 3) := by decide +kernel
theorem dX12_type_33 : decode cX12_type 33 = .ok (.ireturn, 1) := by decide +kernel
theorem dX12_type_34 : decode cX12_type 34 = .ok (.aload_n 0, 1) := by decide +kernel
theorem dX12_type_35 : decode cX12_type 35 = .ok (.getfield 43, 3) := by decide +kernel
theorem dX12_type_38 : decode cX12_type 38 = .ok (.aload_n 0, 1) := by decide +kernel
theorem dX12_type_39 : decode cX12_type 39 = .ok (.getfield 238, 3) := by decide +kernel
theorem dX12_type_42 : decode cX12_type 42 = .ok (.iload_n 1, 1) := by decide +kernel
theorem dX12_type_43 : decode cX12_type 43 = .ok (.iastore, 1) := by decide +kernel
theorem dX12_type_44 : decode cX12_type 44 = .ok (.aload_n 0, 1) := by decide +kernel
theorem dX12_type_45 : decode cX12_type 45 = .ok (.dup, 1) := by decide +kernel
theorem dX12_type_46 : decode cX12_type 46 = .ok (.getfield 238, 3) := by decide +kernel
theorem dX12_type_49 : decode cX12_type 49 = .ok (.iconst 1, 1) := by decide +kernel
theorem dX12_type_50 : decode cX12_type 50 = .ok (.iadd, 1) := by decide +kernel
theorem dX12_type_51 : decode cX12_type 51 = .ok (.putfield 238, 3) := by decide +kernel
theorem dX12_type_54 : decode cX12_type 54 = .ok (.aload_n 0, 1) := by decide +kernel
theorem dX12_type_55 : decode cX12_type 55 = .ok (.getfield 238, 3) := by decide +kernel
theorem dX12_type_58 : decode cX12_type 58 = .ok (.ireturn, 1) := by decide +kernel
theorem dX12_clear_0 : decode cX12_clear 0 = .ok (.aload_n 0, 1) := by decide +kernel
theorem dX12_clear_1 : decode cX12_clear 1 = .ok (.getfield 238, 3) := by decide +kernel
theorem dX12_clear_4 : decode cX12_clear 4 = .ok (.istore_n 1, 1) := by decide +kernel
theorem dX12_clear_5 : decode cX12_clear 5 = .ok (.aload_n 0, 1) := by decide +kernel
theorem dX12_clear_6 : decode cX12_clear 6 = .ok (.iconst 0, 1) := by decide +kernel
theorem dX12_clear_7 : decode cX12_clear 7 = .ok (.putfield 238, 3) := by decide +kernel
theorem dX12_clear_10 : decode cX12_clear 10 = .ok (.iload_n 1, 1) := by decide +kernel
theorem dX12_clear_11 : decode cX12_clear 11 = .ok (.ireturn, 1) := by decide +kernel
theorem dX12_isSmall_0 : decode cX12_isSmall 0 = .ok (.iload_n 0, 1) := by decide +kernel
theorem dX12_isSmall_1 : decode cX12_isSmall 1 = .ok (.i2l, 1) := by decide +kernel
theorem dX12_isSmall_2 : decode cX12_isSmall 2 = .ok (.ldc2_w 241, 3) := by decide +kernel
theorem dX12_isSmall_5 : decode cX12_isSmall 5 = .ok (.ldc2_w 243, 3) := by decide +kernel
theorem dX12_isSmall_8 : decode cX12_isSmall 8 = .ok (.invokestatic 56, 3) := by decide +kernel
theorem dX12_isSmall_11 : decode cX12_isSmall 11 = .ok (.ireturn, 1) := by decide +kernel
theorem dX12_isFigure_0 : decode cX12_isFigure 0 = .ok (.iload_n 0, 1) := by decide +kernel
theorem dX12_isFigure_1 : decode cX12_isFigure 1 = .ok (.i2l, 1) := by decide +kernel
theorem dX12_isFigure_2 : decode cX12_isFigure 2 = .ok (.ldc2_w 245, 3) := by decide +kernel
theorem dX12_isFigure_5 : decode cX12_isFigure 5 = .ok (.ldc2_w 247, 3) := by decide +kernel
theorem dX12_isFigure_8 : decode cX12_isFigure 8 = .ok (.invokestatic 56, 3) := by decide +kernel
theorem dX12_isFigure_11 : decode cX12_isFigure 11 = .ok (.ireturn, 1) := by decide +kernel
theorem dX12_lookAt_0 : decode cX12_lookAt 0 = .ok (.aload_n 0, 1) := by decide +kernel
theorem dX12_lookAt_1 : decode cX12_lookAt 1 = .ok (.iload_n 1, 1) := by decide +kernel
theorem dX12_lookAt_2 : decode cX12_lookAt 2 = .ok (.putfield 249, 3) := by decide +kernel
theorem dX12_lookAt_5 : decode cX12_lookAt 5 = .ok (.aload_n 0, 1) := by decide +kernel
theorem dX12_lookAt_6 : decode cX12_lookAt 6 = .ok (.getfield 249, 3) := by decide +kernel
theorem dX12_lookAt_9 : decode cX12_lookAt 9 = .ok (.aload_n 0, 1) := by decide +kernel
theorem dX12_lookAt_10 : decode cX12_lookAt 10 = .ok (.getfield 238, 3) := by decide +kernel
theorem dX12_lookAt_13 : decode cX12_lookAt 13 = .ok (.if_icmp .ge 30, 3) := by decide +kernel
theorem dX12_lookAt_16 : decode cX12_lookAt 16 = .ok (.aload_n 0, 1) := by decide +kernel
theorem dX12_lookAt_17 : decode cX12_lookAt 17 = .ok (.getfield 43, 3) := by decide +kernel
theorem dX12_lookAt_20 : decode cX12_lookAt 20 = .ok (.aload_n 0, 1) := by decide +kernel
theorem dX12_lookAt_21 : decode cX12_lookAt 21 = .ok (.getfield 249, 3) := by decide +kernel
theorem dX12_lookAt_24 : decode cX12_lookAt 24 = .ok (.iaload, 1) := by decide +kernel
theorem dX12_lookAt_25 : decode cX12_lookAt 25 = .ok (.bipush 32, 2) := by decide +kernel
theorem dX12_lookAt_27 : decode cX12_lookAt 27 = .ok (.if_icmp .ne 16, 3) := by decide +kernel
theorem dX12_lookAt_30 : decode cX12_lookAt 30 = .ok (.aload_n 0, 1) := by decide +kernel
theorem dX12_lookAt_31 : decode cX12_lookAt 31 = .ok (.dup, 1) := by decide +kernel
theorem dX12_lookAt_32 : decode cX12_lookAt 32 = .ok (.getfield 249, 3) := by decide +kernel
theorem dX12_lookAt_35 : decode cX12_lookAt 35 = .ok (.iconst 1, 1) := by decide +kernel
theorem dX12_lookAt_36 : decode cX12_lookAt 36 = .ok (.iadd, 1) := by decide +kernel
theorem dX12_lookAt_37 : decode cX12_lookAt 37 = .ok (.putfield 249, 3) := by decide +kernel
theorem dX12_lookAt_40 : decode cX12_lookAt 40 = .ok (.goto (-35), 3) := by decide +kernel
theorem dX12_lookAt_43 : decode cX12_lookAt 43 = .ok (.aload_n 0, 1) := by decide +kernel
theorem dX12_lookAt_44 : decode cX12_lookAt 44 = .ok (.iconst 0, 1) := by decide +kernel
theorem dX12_lookAt_45 : decode cX12_lookAt 45 = .ok (.putfield 252, 3) := by decide +kernel
theorem dX12_lookAt_48 : decode cX12_lookAt 48 = .ok (.aload_n 0, 1) := by decide +kernel
theorem dX12_lookAt_49 : decode cX12_lookAt 49 = .ok (.iconst 0, 1) := by decide +kernel
theorem dX12_lookAt_50 : decode cX12_lookAt 50 = .ok (.putfield 255, 3) := by decide +kernel
theorem dX12_lookAt_53 : decode cX12_lookAt 53 = .ok (.aload_n 0, 1) := by decide +kernel
theorem dX12_lookAt_54 : decode cX12_lookAt 54 = .ok (.iconst 0, 1) := by decide +kernel
theorem dX12_lookAt_55 : decode cX12_lookAt 55 = .ok (.putfield 258, 3) := by decide +kernel
theorem dX12_lookAt_58 : decode cX12_lookAt 58 = .ok (.aload_n 0, 1) := by decide +kernel
theorem dX12_lookAt_59 : decode cX12_lookAt 59 = .ok (.getfield 249, 3) := by decide +kernel
theorem dX12_lookAt_62 : decode cX12_lookAt 62 = .ok (.aload_n 0, 1) := by decide +kernel
theorem dX12_lookAt_63 : decode cX12_lookAt 63 = .ok (.getfield 238, 3) := by decide +kernel
theorem dX12_lookAt_66 : decode cX12_lookAt 66 = .ok (.if_icmp .ne 4, 3) := by decide +kernel
theorem dX12_lookAt_69 : decode cX12_lookAt 69 = .ok (.return_, 1) := by decide +kernel
theorem dX12_lookAt_70 : decode cX12_lookAt 70 = .ok (.aload_n 0, 1) := by decide +kernel
theorem dX12_lookAt_71 : decode cX12_lookAt 71 = .ok (.getfield 43, 3) := by decide +kernel
theorem dX12_lookAt_74 : decode cX12_lookAt 74 = .ok (.aload_n 0, 1) := by decide +kernel
theorem dX12_lookAt_75 : decode cX12_lookAt 75 = .ok (.getfield 249, 3) := by decide +kernel
theorem dX12_lookAt_78 : decode cX12_lookAt 78 = .ok (.iaload, 1) := by decide +kernel
theorem dX12_lookAt_79 : decode cX12_lookAt 79 = .ok (.istore_n 2, 1) := by decide +kernel
theorem dX12_lookAt_80 : decode cX12_lookAt 80 = .ok (.aload_n 0, 1) := by decide +kernel
theorem dX12_lookAt_81 : decode cX12_lookAt 81 = .ok (.iload_n 2, 1) := by decide +kernel
theorem dX12_lookAt_82 : decode cX12_lookAt 82 = .ok (.invokestatic 261, 3) := by decide +kernel
theorem dX12_lookAt_85 : decode cX12_lookAt 85 = .ok (.ifCond .eq 7, 3) := by decide +kernel
theorem dX12_lookAt_88 : decode cX12_lookAt 88 = .ok (.iconst 1, 1) := by decide +kernel
theorem dX12_lookAt_89 : decode cX12_lookAt 89 = .ok (.goto 25, 3) := by decide +kernel
theorem dX12_lookAt_92 : decode cX12_lookAt 92 = .ok (.iload_n 2, 1) := by decide +kernel
theorem dX12_lookAt_93 : decode cX12_lookAt 93 = .ok (.invokestatic 264, 3) := by decide +kernel
theorem dX12_lookAt_96 : decode cX12_lookAt 96 = .ok (.ifCond .eq 7, 3) := by decide +kernel
theorem dX12_lookAt_99 : decode cX12_lookAt 99 = .ok (.iconst 2, 1) := by decide +kernel
theorem dX12_lookAt_100 : decode cX12_lookAt 100 = .ok (.goto 14, 3) := by decide +kernel
theorem dX12_lookAt_103 : decode cX12_lookAt 103 = .ok (.iload_n 2, 1) := by decide +kernel
theorem dX12_lookAt_104 : decode cX12_lookAt 104 = .ok (.bipush 59, 2) := by decide +kernel
theorem dX12_lookAt_106 : decode cX12_lookAt 106 = .ok (.if_icmp .ne 7, 3) := by decide +kernel
theorem dX12_lookAt_109 : decode cX12_lookAt 109 = .ok (.iconst 3, 1) := by decide +kernel
theorem dX12_lookAt_110 : decode cX12_lookAt 110 = .ok (.goto 4, 3) := by decide +kernel
theorem dX12_lookAt_113 : decode cX12_lookAt 113 = .ok (.iconst 4, 1) := by decide +kernel
theorem dX12_lookAt_114 : decode cX12_lookAt 114 = .ok (.putfield 255, 3) := by decide +kernel
theorem dX12_lookAt_117 : decode cX12_lookAt 117 = .ok (.aload_n 0, 1) := by decide +kernel
theorem dX12_lookAt_118 : decode cX12_lookAt 118 = .ok (.iconst 1, 1) := by decide +kernel
theorem dX12_lookAt_119 : decode cX12_lookAt 119 = .ok (.putfield 252, 3) := by decide +kernel
theorem dX12_lookAt_122 : decode cX12_lookAt 122 = .ok (.aload_n 0, 1) := by decide +kernel
theorem dX12_lookAt_123 : decode cX12_lookAt 123 = .ok (.getfield 255, 3) := by decide +kernel
theorem dX12_lookAt_126 : decode cX12_lookAt 126 = .ok (.iconst 3, 1) := by decide +kernel
theorem dX12_lookAt_127 : decode cX12_lookAt 127 = .ok (.if_icmp .ge 7, 3) := by decide +kernel
theorem dX12_lookAt_130 : decode cX12_lookAt 130 = .ok (.iconst 1, 1) := by decide +kernel
theorem dX12_lookAt_131 : decode cX12_lookAt 131 = .ok (.goto 4, 3) := by decide +kernel
theorem dX12_lookAt_134 : decode cX12_lookAt 134 = .ok (.iconst 0, 1) := by decide +kernel
theorem dX12_lookAt_135 : decode cX12_lookAt 135 = .ok (.istore_n 3, 1) := by decide +kernel
theorem dX12_lookAt_136 : decode cX12_lookAt 136 = .ok (.iload_n 3, 1) := by decide +kernel
theorem dX12_lookAt_137 : decode cX12_lookAt 137 = .ok (.ifCond .eq 78, 3) := by decide +kernel
theorem dX12_lookAt_140 : decode cX12_lookAt 140 = .ok (.aload_n 0, 1) := by decide +kernel
theorem dX12_lookAt_141 : decode cX12_lookAt 141 = .ok (.getfield 249, 3) := by decide +kernel
theorem dX12_lookAt_144 : decode cX12_lookAt 144 = .ok (.aload_n 0, 1) := by decide +kernel
theorem dX12_lookAt_145 : decode cX12_lookAt 145 = .ok (.getfield 252, 3) := by decide +kernel
theorem dX12_lookAt_148 : decode cX12_lookAt 148 = .ok (.iadd, 1) := by decide +kernel
theorem dX12_lookAt_149 : decode cX12_lookAt 149 = .ok (.aload_n 0, 1) := by decide +kernel
theorem dX12_lookAt_150 : decode cX12_lookAt 150 = .ok (.getfield 238, 3) := by decide +kernel
theorem dX12_lookAt_153 : decode cX12_lookAt 153 = .ok (.if_icmp .ge 62, 3) := by decide +kernel
theorem dX12_lookAt_156 : decode cX12_lookAt 156 = .ok (.aload_n 0, 1) := by decide +kernel
theorem dX12_lookAt_157 : decode cX12_lookAt 157 = .ok (.getfield 43, 3) := by decide +kernel
theorem dX12_lookAt_160 : decode cX12_lookAt 160 = .ok (.aload_n 0, 1) := by decide +kernel
theorem dX12_lookAt_161 : decode cX12_lookAt 161 = .ok (.getfield 249, 3) := by decide +kernel
theorem dX12_lookAt_164 : decode cX12_lookAt 164 = .ok (.aload_n 0, 1) := by decide +kernel
theorem dX12_lookAt_165 : decode cX12_lookAt 165 = .ok (.getfield 252, 3) := by decide +kernel
theorem dX12_lookAt_168 : decode cX12_lookAt 168 = .ok (.iadd, 1) := by decide +kernel
theorem dX12_lookAt_169 : decode cX12_lookAt 169 = .ok (.iaload, 1) := by decide +kernel
theorem dX12_lookAt_170 : decode cX12_lookAt 170 = .ok (.istore 4, 2) := by decide +kernel
theorem dX12_lookAt_172 : decode cX12_lookAt 172 = .ok (.aload_n 0, 1) := by decide +kernel
theorem dX12_lookAt_173 : decode cX12_lookAt 173 = .ok (.getfield 255, 3) := by decide +kernel
theorem dX12_lookAt_176 : decode cX12_lookAt 176 = .ok (.iconst 1, 1) := by decide +kernel
theorem dX12_lookAt_177 : decode cX12_lookAt 177 = .ok (.if_icmp .ne 11, 3) := by decide +kernel
theorem dX12_lookAt_180 : decode cX12_lookAt 180 = .ok (.iload 4, 2) := by decide +kernel
theorem dX12_lookAt_182 : decode cX12_lookAt 182 = .ok (.invokestatic 261, 3) := by decide +kernel
theorem dX12_lookAt_185 : decode cX12_lookAt 185 = .ok (.goto 8, 3) := by decide +kernel
theorem dX12_lookAt_188 : decode cX12_lookAt 188 = .ok (.iload 4, 2) := by decide +kernel
theorem dX12_lookAt_190 : decode cX12_lookAt 190 = .ok (.invokestatic 264, 3) := by decide +kernel
theorem dX12_lookAt_193 : decode cX12_lookAt 193 = .ok (.istore_n 3, 1) := by decide +kernel
theorem dX12_lookAt_194 : decode cX12_lookAt 194 = .ok (.aload_n 0, 1) := by decide +kernel
theorem dX12_lookAt_195 : decode cX12_lookAt 195 = .ok (.dup, 1) := by decide +kernel
theorem dX12_lookAt_196 : decode cX12_lookAt 196 = .ok (.getfield 252, 3) := by decide +kernel
theorem dX12_lookAt_199 : decode cX12_lookAt 199 = .ok (.iload_n 3, 1) := by decide +kernel
theorem dX12_lookAt_200 : decode cX12_lookAt 200 = .ok (.ifCond .eq 7, 3) := by decide +kernel
theorem dX12_lookAt_203 : decode cX12_lookAt 203 = .ok (.iconst 1, 1) := by decide +kernel
theorem dX12_lookAt_204 : decode cX12_lookAt 204 = .ok (.goto 4, 3) := by decide +kernel
theorem dX12_lookAt_207 : decode cX12_lookAt 207 = .ok (.iconst 0, 1) := by decide +kernel
theorem dX12_lookAt_208 : decode cX12_lookAt 208 = .ok (.iadd, 1) := by decide +kernel
theorem dX12_lookAt_209 : decode cX12_lookAt 209 = .ok (.putfield 252, 3) := by decide +kernel
theorem dX12_lookAt_212 : decode cX12_lookAt 212 = .ok (.goto (-76), 3) := by decide +kernel
theorem dX12_lookAt_215 : decode cX12_lookAt 215 = .ok (.iconst 0, 1) := by decide +kernel
theorem dX12_lookAt_216 : decode cX12_lookAt 216 = .ok (.istore 4, 2) := by decide +kernel
theorem dX12_lookAt_218 : decode cX12_lookAt 218 = .ok (.iload 4, 2) := by decide +kernel
theorem dX12_lookAt_220 : decode cX12_lookAt 220 = .ok (.aload_n 0, 1) := by decide +kernel
theorem dX12_lookAt_221 : decode cX12_lookAt 221 = .ok (.getfield 252, 3) := by decide +kernel
theorem dX12_lookAt_224 : decode cX12_lookAt 224 = .ok (.if_icmp .ge 50, 3) := by decide +kernel
theorem dX12_lookAt_227 : decode cX12_lookAt 227 = .ok (.iload 4, 2) := by decide +kernel
theorem dX12_lookAt_229 : decode cX12_lookAt 229 = .ok (.iconst 2, 1) := by decide +kernel
theorem dX12_lookAt_230 : decode cX12_lookAt 230 = .ok (.if_icmp .ge 44, 3) := by decide +kernel
theorem dX12_lookAt_233 : decode cX12_lookAt 233 = .ok (.aload_n 0, 1) := by decide +kernel
theorem dX12_lookAt_234 : decode cX12_lookAt 234 = .ok (.getfield 255, 3) := by decide +kernel
theorem dX12_lookAt_237 : decode cX12_lookAt 237 = .ok (.iconst 2, 1) := by decide +kernel
theorem dX12_lookAt_238 : decode cX12_lookAt 238 = .ok (.if_icmp .ne 36, 3) := by decide +kernel
theorem dX12_lookAt_241 : decode cX12_lookAt 241 = .ok (.aload_n 0, 1) := by decide +kernel
theorem dX12_lookAt_242 : decode cX12_lookAt 242 = .ok (.bipush 10, 2) := by decide +kernel
theorem dX12_lookAt_244 : decode cX12_lookAt 244 = .ok (.aload_n 0, 1) := by decide +kernel
theorem dX12_lookAt_245 : decode cX12_lookAt 245 = .ok (.getfield 258, 3) := by decide +kernel
theorem dX12_lookAt_248 : decode cX12_lookAt 248 = .ok (.imul, 1) := by decide +kernel
theorem dX12_lookAt_249 : decode cX12_lookAt 249 = .ok (.aload_n 0, 1) := by decide +kernel
theorem dX12_lookAt_250 : decode cX12_lookAt 250 = .ok (.getfield 43, 3) := by decide +kernel
theorem dX12_lookAt_253 : decode cX12_lookAt 253 = .ok (.aload_n 0, 1) := by decide +kernel
theorem dX12_lookAt_254 : decode cX12_lookAt 254 = .ok (.getfield 249, 3) := by decide +kernel
theorem dX12_lookAt_257 : decode cX12_lookAt 257 = .ok (.iload 4, 2) := by decide +kernel
theorem dX12_lookAt_259 : decode cX12_lookAt 259 = .ok (.iadd, 1) := by decide +kernel
theorem dX12_lookAt_260 : decode cX12_lookAt 260 = .ok (.iaload, 1) := by decide +kernel
theorem dX12_lookAt_261 : decode cX12_lookAt 261 = .ok (.iadd, 1) := by decide +kernel
theorem dX12_lookAt_262 : decode cX12_lookAt 262 = .ok (.bipush 48, 2) := by decide +kernel
theorem dX12_lookAt_264 : decode cX12_lookAt 264 = .ok (.isub, 1) := by decide +kernel
theorem dX12_lookAt_265 : decode cX12_lookAt 265 = .ok (.putfield 258, 3) := by decide +kernel
theorem dX12_lookAt_268 : decode cX12_lookAt 268 = .ok (.iinc 4 1, 3) := by decide +kernel
theorem dX12_lookAt_271 : decode cX12_lookAt 271 = .ok (.goto (-53), 3) := by decide +kernel
theorem dX12_lookAt_274 : decode cX12_lookAt 274 = .ok (.aload_n 0, 1) := by decide +kernel
theorem dX12_lookAt_275 : decode cX12_lookAt 275 = .ok (.aload_n 0, 1) := by decide +kernel
theorem dX12_lookAt_276 : decode cX12_lookAt 276 = .ok (.getfield 255, 3) := by decide +kernel
theorem dX12_lookAt_279 : decode cX12_lookAt 279 = .ok (.iconst 2, 1) := by decide +kernel
theorem dX12_lookAt_280 : decode cX12_lookAt 280 = .ok (.if_icmp .ne 15, 3) := by decide +kernel
theorem dX12_lookAt_283 : decode cX12_lookAt 283 = .ok (.aload_n 0, 1) := by decide +kernel
theorem dX12_lookAt_284 : decode cX12_lookAt 284 = .ok (.getfield 252, 3) := by decide +kernel
theorem dX12_lookAt_287 : decode cX12_lookAt 287 = .ok (.iconst 2, 1) := by decide +kernel
theorem dX12_lookAt_288 : decode cX12_lookAt 288 = .ok (.if_icmp .le 7, 3) := by decide +kernel
theorem dX12_lookAt_291 : decode cX12_lookAt 291 = .ok (.iconst 4, 1) := by decide +kernel
theorem dX12_lookAt_292 : decode cX12_lookAt 292 = .ok (.goto 7, 3) := by decide +kernel
theorem dX12_lookAt_295 : decode cX12_lookAt 295 = .ok (.aload_n 0, 1) := by decide +kernel
theorem dX12_lookAt_296 : decode cX12_lookAt 296 = .ok (.getfield 255, 3) := by decide +kernel
theorem dX12_lookAt_299 : decode cX12_lookAt 299 = .ok (.putfield 255, 3) := by decide +kernel
theorem dX12_lookAt_302 : decode cX12_lookAt 302 = .ok (.return_, 1) := by decide +kernel
theorem dX12_goBehind_0 : decode cX12_goBehind 0 = .ok (.aload_n 0, 1) := by decide +kernel
theorem dX12_goBehind_1 : decode cX12_goBehind 1 = .ok (.aload_n 0, 1) := by decide +kernel
theorem dX12_goBehind_2 : decode cX12_goBehind 2 = .ok (.getfield 249, 3) := by decide +kernel
theorem dX12_goBehind_5 : decode cX12_goBehind 5 = .ok (.aload_n 0, 1) := by decide +kernel
theorem dX12_goBehind_6 : decode cX12_goBehind 6 = .ok (.getfield 252, 3) := by decide +kernel
theorem dX12_goBehind_9 : decode cX12_goBehind 9 = .ok (.iadd, 1) := by decide +kernel
theorem dX12_goBehind_10 : decode cX12_goBehind 10 = .ok (.invokevirtual 267, 3) := by decide +kernel
theorem dX12_goBehind_13 : decode cX12_goBehind 13 = .ok (.return_, 1) := by decide +kernel
theorem dX12_isWord_0 : decode cX12_isWord 0 = .ok (.aload_n 0, 1) := by decide +kernel
theorem dX12_isWord_1 : decode cX12_isWord 1 = .ok (.getfield 255, 3) := by decide +kernel
theorem dX12_isWord_4 : decode cX12_isWord 4 = .ok (.iconst 1, 1) := by decide +kernel
theorem dX12_isWord_5 : decode cX12_isWord 5 = .ok (.if_icmp .ne 15, 3) := by decide +kernel
theorem dX12_isWord_8 : decode cX12_isWord 8 = .ok (.aload_n 0, 1) := by decide +kernel
theorem dX12_isWord_9 : decode cX12_isWord 9 = .ok (.getfield 252, 3) := by decide +kernel
theorem dX12_isWord_12 : decode cX12_isWord 12 = .ok (.iload_n 1, 1) := by decide +kernel
theorem dX12_isWord_13 : decode cX12_isWord 13 = .ok (.if_icmp .ne 7, 3) := by decide +kernel
theorem dX12_isWord_16 : decode cX12_isWord 16 = .ok (.iconst 1, 1) := by decide +kernel
theorem dX12_isWord_17 : decode cX12_isWord 17 = .ok (.goto 4, 3) := by decide +kernel
theorem dX12_isWord_20 : decode cX12_isWord 20 = .ok (.iconst 0, 1) := by decide +kernel
theorem dX12_isWord_21 : decode cX12_isWord 21 = .ok (.istore 8, 2) := by decide +kernel
theorem dX12_isWord_23 : decode cX12_isWord 23 = .ok (.iconst 0, 1) := by decide +kernel
theorem dX12_isWord_24 : decode cX12_isWord 24 = .ok (.istore 9, 2) := by decide +kernel
theorem dX12_isWord_26 : decode cX12_isWord 26 = .ok (.iload 9, 2) := by decide +kernel
theorem dX12_isWord_28 : decode cX12_isWord 28 = .ok (.iload_n 1, 1) := by decide +kernel
theorem dX12_isWord_29 : decode cX12_isWord 29 = .ok (.if_icmp .ge 90, 3) := by decide +kernel
theorem dX12_isWord_32 : decode cX12_isWord 32 = .ok (.iload 8, 2) := by decide +kernel
theorem dX12_isWord_34 : decode cX12_isWord 34 = .ok (.ifCond .eq 85, 3) := by decide +kernel
theorem dX12_isWord_37 : decode cX12_isWord 37 = .ok (.aload_n 0, 1) := by decide +kernel
theorem dX12_isWord_38 : decode cX12_isWord 38 = .ok (.getfield 43, 3) := by decide +kernel
theorem dX12_isWord_41 : decode cX12_isWord 41 = .ok (.aload_n 0, 1) := by decide +kernel
theorem dX12_isWord_42 : decode cX12_isWord 42 = .ok (.getfield 249, 3) := by decide +kernel
theorem dX12_isWord_45 : decode cX12_isWord 45 = .ok (.iload 9, 2) := by decide +kernel
theorem dX12_isWord_47 : decode cX12_isWord 47 = .ok (.iadd, 1) := by decide +kernel
theorem dX12_isWord_48 : decode cX12_isWord 48 = .ok (.iaload, 1) := by decide +kernel
theorem dX12_isWord_49 : decode cX12_isWord 49 = .ok (.iload 9, 2) := by decide +kernel
theorem dX12_isWord_51 : decode cX12_isWord 51 = .ok (.ifCond .ne 7, 3) := by decide +kernel
theorem dX12_isWord_54 : decode cX12_isWord 54 = .ok (.iload_n 2, 1) := by decide +kernel
theorem dX12_isWord_55 : decode cX12_isWord 55 = .ok (.goto 48, 3) := by decide +kernel
theorem dX12_isWord_58 : decode cX12_isWord 58 = .ok (.iload 9, 2) := by decide +kernel
theorem dX12_isWord_60 : decode cX12_isWord 60 = .ok (.iconst 1, 1) := by decide +kernel
theorem dX12_isWord_61 : decode cX12_isWord 61 = .ok (.if_icmp .ne 7, 3) := by decide +kernel
theorem dX12_isWord_64 : decode cX12_isWord 64 = .ok (.iload_n 3, 1) := by decide +kernel
theorem dX12_isWord_65 : decode cX12_isWord 65 = .ok (.goto 38, 3) := by decide +kernel
theorem dX12_isWord_68 : decode cX12_isWord 68 = .ok (.iload 9, 2) := by decide +kernel
theorem dX12_isWord_70 : decode cX12_isWord 70 = .ok (.iconst 2, 1) := by decide +kernel
theorem dX12_isWord_71 : decode cX12_isWord 71 = .ok (.if_icmp .ne 8, 3) := by decide +kernel
theorem dX12_isWord_74 : decode cX12_isWord 74 = .ok (.iload 4, 2) := by decide +kernel
theorem dX12_isWord_76 : decode cX12_isWord 76 = .ok (.goto 27, 3) := by decide +kernel
theorem dX12_isWord_79 : decode cX12_isWord 79 = .ok (.iload 9, 2) := by decide +kernel
theorem dX12_isWord_81 : decode cX12_isWord 81 = .ok (.iconst 3, 1) := by decide +kernel
theorem dX12_isWord_82 : decode cX12_isWord 82 = .ok (.if_icmp .ne 8, 3) := by decide +kernel
theorem dX12_isWord_85 : decode cX12_isWord 85 = .ok (.iload 5, 2) := by decide +kernel
theorem dX12_isWord_87 : decode cX12_isWord 87 = .ok (.goto 16, 3) := by decide +kernel
theorem dX12_isWord_90 : decode cX12_isWord 90 = .ok (.iload 9, 2) := by decide +kernel
theorem dX12_isWord_92 : decode cX12_isWord 92 = .ok (.iconst 4, 1) := by decide +kernel
theorem dX12_isWord_93 : decode cX12_isWord 93 = .ok (.if_icmp .ne 8, 3) := by decide +kernel
theorem dX12_isWord_96 : decode cX12_isWord 96 = .ok (.iload 6, 2) := by decide +kernel
theorem dX12_isWord_98 : decode cX12_isWord 98 = .ok (.goto 5, 3) := by decide +kernel
theorem dX12_isWord_101 : decode cX12_isWord 101 = .ok (.iload 7, 2) := by decide +kernel
theorem dX12_isWord_103 : decode cX12_isWord 103 = .ok (.if_icmp .ne 7, 3) := by decide +kernel
theorem dX12_isWord_106 : decode cX12_isWord 106 = .ok (.iconst 1, 1) := by decide +kernel
theorem dX12_isWord_107 : decode cX12_isWord 107 = .ok (.goto 4, 3) := by decide +kernel
theorem dX12_isWord_110 : decode cX12_isWord 110 = .ok (.iconst 0, 1) := by decide +kernel
theorem dX12_isWord_111 : decode cX12_isWord 111 = .ok (.istore 8, 2) := by decide +kernel
theorem dX12_isWord_113 : decode cX12_isWord 113 = .ok (.iinc 9 1, 3) := by decide +kernel
theorem dX12_isWord_116 : decode cX12_isWord 116 = .ok (.goto (-90), 3) := by decide +kernel
theorem dX12_isWord_119 : decode cX12_isWord 119 = .ok (.iload 8, 2) := by decide +kernel
theorem dX12_isWord_121 : decode cX12_isWord 121 = .ok (.ireturn, 1) := by decide +kernel
theorem dX12_takes_0 : decode cX12_takes 0 = .ok (.aload_n 0, 1) := by decide +kernel
theorem dX12_takes_1 : decode cX12_takes 1 = .ok (.getfield 255, 3) := by decide +kernel
theorem dX12_takes_4 : decode cX12_takes 4 = .ok (.iconst 2, 1) := by decide +kernel
theorem dX12_takes_5 : decode cX12_takes 5 = .ok (.if_icmp .ne 18, 3) := by decide +kernel
theorem dX12_takes_8 : decode cX12_takes 8 = .ok (.aload_n 0, 1) := by decide +kernel
theorem dX12_takes_9 : decode cX12_takes 9 = .ok (.getfield 258, 3) := by decide +kernel
theorem dX12_takes_12 : decode cX12_takes 12 = .ok (.i2l, 1) := by decide +kernel
theorem dX12_takes_13 : decode cX12_takes 13 = .ok (.iload_n 2, 1) := by decide +kernel
theorem dX12_takes_14 : decode cX12_takes 14 = .ok (.i2l, 1) := by decide +kernel
theorem dX12_takes_15 : decode cX12_takes 15 = .ok (.iload_n 3, 1) := by decide +kernel
theorem dX12_takes_16 : decode cX12_takes 16 = .ok (.i2l, 1) := by decide +kernel
theorem dX12_takes_17 : decode cX12_takes 17 = .ok (.invokestatic 56, 3) := by decide +kernel
theorem dX12_takes_20 : decode cX12_takes 20 = .ok (.ifCond .ne 5, 3) := by decide +kernel
theorem dX12_takes_23 : decode cX12_takes 23 = .ok (.iconst 0, 1) := by decide +kernel
theorem dX12_takes_24 : decode cX12_takes 24 = .ok (.ireturn, 1) := by decide +kernel
theorem dX12_takes_25 : decode cX12_takes 25 = .ok (.aload_n 0, 1) := by decide +kernel
theorem dX12_takes_26 : decode cX12_takes 26 = .ok (.getfield 49, 3) := by decide +kernel
theorem dX12_takes_29 : decode cX12_takes 29 = .ok (.iload_n 1, 1) := by decide +kernel
theorem dX12_takes_30 : decode cX12_takes 30 = .ok (.aload_n 0, 1) := by decide +kernel
theorem dX12_takes_31 : decode cX12_takes 31 = .ok (.getfield 258, 3) := by decide +kernel
theorem dX12_takes_34 : decode cX12_takes 34 = .ok (.iastore, 1) := by decide +kernel
theorem dX12_takes_35 : decode cX12_takes 35 = .ok (.aload_n 0, 1) := by decide +kernel
theorem dX12_takes_36 : decode cX12_takes 36 = .ok (.invokevirtual 270, 3) := by decide +kernel
theorem dX12_takes_39 : decode cX12_takes 39 = .ok (.iconst 1, 1) := by decide +kernel
theorem dX12_takes_40 : decode cX12_takes 40 = .ok (.ireturn, 1) := by decide +kernel
theorem dX12_takesTwo_0 : decode cX12_takesTwo 0 = .ok (.aload_n 0, 1) := by decide +kernel
theorem dX12_takesTwo_1 : decode cX12_takesTwo 1 = .ok (.invokevirtual 270, 3) := by decide +kernel
theorem dX12_takesTwo_4 : decode cX12_takesTwo 4 = .ok (.aload_n 0, 1) := by decide +kernel
theorem dX12_takesTwo_5 : decode cX12_takesTwo 5 = .ok (.iconst 0, 1) := by decide +kernel
theorem dX12_takesTwo_6 : decode cX12_takesTwo 6 = .ok (.iconst 0, 1) := by decide +kernel
theorem dX12_takesTwo_7 : decode cX12_takesTwo 7 = .ok (.iload_n 1, 1) := by decide +kernel
theorem dX12_takesTwo_8 : decode cX12_takesTwo 8 = .ok (.invokevirtual 273, 3) := by decide +kernel
theorem dX12_takesTwo_11 : decode cX12_takesTwo 11 = .ok (.ifCond .eq 17, 3) := by decide +kernel
theorem dX12_takesTwo_14 : decode cX12_takesTwo 14 = .ok (.aload_n 0, 1) := by decide +kernel
theorem dX12_takesTwo_15 : decode cX12_takesTwo 15 = .ok (.iconst 1, 1) := by decide +kernel
theorem dX12_takesTwo_16 : decode cX12_takesTwo 16 = .ok (.iload_n 2, 1) := by decide +kernel
theorem dX12_takesTwo_17 : decode cX12_takesTwo 17 = .ok (.iload_n 3, 1) := by decide +kernel
theorem dX12_takesTwo_18 : decode cX12_takesTwo 18 = .ok (.invokevirtual 273, 3) := by decide +kernel
theorem dX12_takesTwo_21 : decode cX12_takesTwo 21 = .ok (.ifCond .eq 7, 3) := by decide +kernel
theorem dX12_takesTwo_24 : decode cX12_takesTwo 24 = .ok (.iconst 1, 1) := by decide +kernel
theorem dX12_takesTwo_25 : decode cX12_takesTwo 25 = .ok (.goto 4, 3) := by decide +kernel
theorem dX12_takesTwo_28 : decode cX12_takesTwo 28 = .ok (.iconst 0, 1) := by decide +kernel
theorem dX12_takesTwo_29 : decode cX12_takesTwo 29 = .ok (.ireturn, 1) := by decide +kernel
theorem dX12_takesRoad_0 : decode cX12_takesRoad 0 = .ok (.aload_n 0, 1) := by decide +kernel
theorem dX12_takesRoad_1 : decode cX12_takesRoad 1 = .ok (.iconst 4, 1) := by decide +kernel
theorem dX12_takesRoad_2 : decode cX12_takesRoad 2 = .ok (.bipush 114, 2) := by decide +kernel
theorem dX12_takesRoad_4 : decode cX12_takesRoad 4 = .ok (.bipush 111, 2) := by decide +kernel
theorem dX12_takesRoad_6 : decode cX12_takesRoad 6 = .ok (.bipush 97, 2) := by decide +kernel
theorem dX12_takesRoad_8 : decode cX12_takesRoad 8 = .ok (.bipush 100, 2) := by decide +kernel
theorem dX12_takesRoad_10 : decode cX12_takesRoad 10 = .ok (.iconst 0, 1) := by decide +kernel
theorem dX12_takesRoad_11 : decode cX12_takesRoad 11 = .ok (.iconst 0, 1) := by decide +kernel
theorem dX12_takesRoad_12 : decode cX12_takesRoad 12 = .ok (.invokevirtual 277, 3) := by decide +kernel
theorem dX12_takesRoad_15 : decode cX12_takesRoad 15 = .ok (.ifCond .ne 5, 3) := by decide +kernel
theorem dX12_takesRoad_18 : decode cX12_takesRoad 18 = .ok (.iconst 0, 1) := by decide +kernel
theorem dX12_takesRoad_19 : decode cX12_takesRoad 19 = .ok (.ireturn, 1) := by decide +kernel
theorem dX12_takesRoad_20 : decode cX12_takesRoad 20 = .ok (.aload_n 0, 1) := by decide +kernel
theorem dX12_takesRoad_21 : decode cX12_takesRoad 21 = .ok (.invokevirtual 270, 3) := by decide +kernel
theorem dX12_takesRoad_24 : decode cX12_takesRoad 24 = .ok (.aload_n 0, 1) := by decide +kernel
theorem dX12_takesRoad_25 : decode cX12_takesRoad 25 = .ok (.iconst 0, 1) := by decide +kernel
theorem dX12_takesRoad_26 : decode cX12_takesRoad 26 = .ok (.iconst 1, 1) := by decide +kernel
theorem dX12_takesRoad_27 : decode cX12_takesRoad 27 = .ok (.bipush 15, 2) := by decide +kernel
theorem dX12_takesRoad_29 : decode cX12_takesRoad 29 = .ok (.invokevirtual 273, 3) := by decide +kernel
theorem dX12_takesRoad_32 : decode cX12_takesRoad 32 = .ok (.ifCond .eq 14, 3) := by decide +kernel
theorem dX12_takesRoad_35 : decode cX12_takesRoad 35 = .ok (.aload_n 0, 1) := by decide +kernel
theorem dX12_takesRoad_36 : decode cX12_takesRoad 36 = .ok (.iconst 1, 1) := by decide +kernel
theorem dX12_takesRoad_37 : decode cX12_takesRoad 37 = .ok (.iconst 1, 1) := by decide +kernel
theorem dX12_takesRoad_38 : decode cX12_takesRoad 38 = .ok (.bipush 12, 2) := by decide +kernel
theorem dX12_takesRoad_40 : decode cX12_takesRoad 40 = .ok (.invokevirtual 273, 3) := by decide +kernel
theorem dX12_takesRoad_43 : decode cX12_takesRoad 43 = .ok (.ifCond .ne 5, 3) := by decide +kernel
theorem dX12_takesRoad_46 : decode cX12_takesRoad 46 = .ok (.iconst 0, 1) := by decide +kernel
theorem dX12_takesRoad_47 : decode cX12_takesRoad 47 = .ok (.ireturn, 1) := by decide +kernel
theorem dX12_takesRoad_48 : decode cX12_takesRoad 48 = .ok (.aload_n 0, 1) := by decide +kernel
theorem dX12_takesRoad_49 : decode cX12_takesRoad 49 = .ok (.getfield 46, 3) := by decide +kernel
theorem dX12_takesRoad_52 : decode cX12_takesRoad 52 = .ok (.aload_n 0, 1) := by decide +kernel
theorem dX12_takesRoad_53 : decode cX12_takesRoad 53 = .ok (.getfield 49, 3) := by decide +kernel
theorem dX12_takesRoad_56 : decode cX12_takesRoad 56 = .ok (.iconst 0, 1) := by decide +kernel
theorem dX12_takesRoad_57 : decode cX12_takesRoad 57 = .ok (.iaload, 1) := by decide +kernel
theorem dX12_takesRoad_58 : decode cX12_takesRoad 58 = .ok (.aload_n 0, 1) := by decide +kernel
theorem dX12_takesRoad_59 : decode cX12_takesRoad 59 = .ok (.getfield 49, 3) := by decide +kernel
theorem dX12_takesRoad_62 : decode cX12_takesRoad 62 = .ok (.iconst 1, 1) := by decide +kernel
theorem dX12_takesRoad_63 : decode cX12_takesRoad 63 = .ok (.iaload, 1) := by decide +kernel
theorem dX12_takesRoad_64 : decode cX12_takesRoad 64 = .ok (.invokestatic 52, 3) := by decide +kernel
theorem dX12_takesRoad_67 : decode cX12_takesRoad 67 = .ok (.aload_n 0, 1) := by decide +kernel
theorem dX12_takesRoad_68 : decode cX12_takesRoad 68 = .ok (.getfield 255, 3) := by decide +kernel
theorem dX12_takesRoad_71 : decode cX12_takesRoad 71 = .ok (.iconst 3, 1) := by decide +kernel
theorem dX12_takesRoad_72 : decode cX12_takesRoad 72 = .ok (.if_icmp .ne 7, 3) := by decide +kernel
theorem dX12_takesRoad_75 : decode cX12_takesRoad 75 = .ok (.iconst 1, 1) := by decide +kernel
theorem dX12_takesRoad_76 : decode cX12_takesRoad 76 = .ok (.goto 4, 3) := by decide +kernel
theorem dX12_takesRoad_79 : decode cX12_takesRoad 79 = .ok (.iconst 0, 1) := by decide +kernel
theorem dX12_takesRoad_80 : decode cX12_takesRoad 80 = .ok (.ireturn, 1) := by decide +kernel
theorem dX12_takesCobble_0 : decode cX12_takesCobble 0 = .ok (.aload_n 0, 1) := by decide +kernel
theorem dX12_takesCobble_1 : decode cX12_takesCobble 1 = .ok (.aload_n 0, 1) := by decide +kernel
theorem dX12_takesCobble_2 : decode cX12_takesCobble 2 = .ok (.getfield 46, 3) := by decide +kernel
theorem dX12_takesCobble_5 : decode cX12_takesCobble 5 = .ok (.iconst 0, 1) := by decide +kernel
theorem dX12_takesCobble_6 : decode cX12_takesCobble 6 = .ok (.iaload, 1) := by decide +kernel
theorem dX12_takesCobble_7 : decode cX12_takesCobble 7 = .ok (.iconst 0, 1) := by decide +kernel
theorem dX12_takesCobble_8 : decode cX12_takesCobble 8 = .ok (.iconst 4, 1) := by decide +kernel
theorem dX12_takesCobble_9 : decode cX12_takesCobble 9 = .ok (.invokevirtual 281, 3) := by decide +kernel
theorem dX12_takesCobble_12 : decode cX12_takesCobble 12 = .ok (.ifCond .ne 5, 3) := by decide +kernel
theorem dX12_takesCobble_15 : decode cX12_takesCobble 15 = .ok (.iconst 0, 1) := by decide +kernel
theorem dX12_takesCobble_16 : decode cX12_takesCobble 16 = .ok (.ireturn, 1) := by decide +kernel
theorem dX12_takesCobble_17 : decode cX12_takesCobble 17 = .ok (.aload_n 0, 1) := by decide +kernel
theorem dX12_takesCobble_18 : decode cX12_takesCobble 18 = .ok (.getfield 46, 3) := by decide +kernel
theorem dX12_takesCobble_21 : decode cX12_takesCobble 21 = .ok (.iconst 5, 1) := by decide +kernel
theorem dX12_takesCobble_22 : decode cX12_takesCobble 22 = .ok (.aload_n 0, 1) := by decide +kernel
theorem dX12_takesCobble_23 : decode cX12_takesCobble 23 = .ok (.getfield 49, 3) := by decide +kernel
theorem dX12_takesCobble_26 : decode cX12_takesCobble 26 = .ok (.iconst 0, 1) := by decide +kernel
theorem dX12_takesCobble_27 : decode cX12_takesCobble 27 = .ok (.iaload, 1) := by decide +kernel
theorem dX12_takesCobble_28 : decode cX12_takesCobble 28 = .ok (.iadd, 1) := by decide +kernel
theorem dX12_takesCobble_29 : decode cX12_takesCobble 29 = .ok (.iload_n 1, 1) := by decide +kernel
theorem dX12_takesCobble_30 : decode cX12_takesCobble 30 = .ok (.aload_n 0, 1) := by decide +kernel
theorem dX12_takesCobble_31 : decode cX12_takesCobble 31 = .ok (.getfield 49, 3) := by decide +kernel
theorem dX12_takesCobble_34 : decode cX12_takesCobble 34 = .ok (.iconst 1, 1) := by decide +kernel
theorem dX12_takesCobble_35 : decode cX12_takesCobble 35 = .ok (.iaload, 1) := by decide +kernel
theorem dX12_takesCobble_36 : decode cX12_takesCobble 36 = .ok (.imul, 1) := by decide +kernel
theorem dX12_takesCobble_37 : decode cX12_takesCobble 37 = .ok (.iastore, 1) := by decide +kernel
theorem dX12_takesCobble_38 : decode cX12_takesCobble 38 = .ok (.iconst 1, 1) := by decide +kernel
theorem dX12_takesCobble_39 : decode cX12_takesCobble 39 = .ok (.ireturn, 1) := by decide +kernel
theorem dX12_takesWind_0 : decode cX12_takesWind 0 = .ok (.aload_n 0, 1) := by decide +kernel
theorem dX12_takesWind_1 : decode cX12_takesWind 1 = .ok (.iconst 5, 1) := by decide +kernel
theorem dX12_takesWind_2 : decode cX12_takesWind 2 = .ok (.iconst 0, 1) := by decide +kernel
theorem dX12_takesWind_3 : decode cX12_takesWind 3 = .ok (.iconst 3, 1) := by decide +kernel
theorem dX12_takesWind_4 : decode cX12_takesWind 4 = .ok (.invokevirtual 281, 3) := by decide +kernel
theorem dX12_takesWind_7 : decode cX12_takesWind 7 = .ok (.ifCond .ne 5, 3) := by decide +kernel
theorem dX12_takesWind_10 : decode cX12_takesWind 10 = .ok (.iconst 0, 1) := by decide +kernel
theorem dX12_takesWind_11 : decode cX12_takesWind 11 = .ok (.ireturn, 1) := by decide +kernel
theorem dX12_takesWind_12 : decode cX12_takesWind 12 = .ok (.aload_n 0, 1) := by decide +kernel
theorem dX12_takesWind_13 : decode cX12_takesWind 13 = .ok (.getfield 46, 3) := by decide +kernel
theorem dX12_takesWind_16 : decode cX12_takesWind 16 = .ok (.bipush 21, 2) := by decide +kernel
theorem dX12_takesWind_18 : decode cX12_takesWind 18 = .ok (.aload_n 0, 1) := by decide +kernel
theorem dX12_takesWind_19 : decode cX12_takesWind 19 = .ok (.getfield 49, 3) := by decide +kernel
theorem dX12_takesWind_22 : decode cX12_takesWind 22 = .ok (.iconst 0, 1) := by decide +kernel
theorem dX12_takesWind_23 : decode cX12_takesWind 23 = .ok (.iaload, 1) := by decide +kernel
theorem dX12_takesWind_24 : decode cX12_takesWind 24 = .ok (.iadd, 1) := by decide +kernel
theorem dX12_takesWind_25 : decode cX12_takesWind 25 = .ok (.iload_n 1, 1) := by decide +kernel
theorem dX12_takesWind_26 : decode cX12_takesWind 26 = .ok (.aload_n 0, 1) := by decide +kernel
theorem dX12_takesWind_27 : decode cX12_takesWind 27 = .ok (.getfield 49, 3) := by decide +kernel
theorem dX12_takesWind_30 : decode cX12_takesWind 30 = .ok (.iconst 1, 1) := by decide +kernel
theorem dX12_takesWind_31 : decode cX12_takesWind 31 = .ok (.iaload, 1) := by decide +kernel
theorem dX12_takesWind_32 : decode cX12_takesWind 32 = .ok (.imul, 1) := by decide +kernel
theorem dX12_takesWind_33 : decode cX12_takesWind 33 = .ok (.iastore, 1) := by decide +kernel
theorem dX12_takesWind_34 : decode cX12_takesWind 34 = .ok (.iconst 1, 1) := by decide +kernel
theorem dX12_takesWind_35 : decode cX12_takesWind 35 = .ok (.ireturn, 1) := by decide +kernel
theorem dX12_takesHead_0 : decode cX12_takesHead 0 = .ok (.aload_n 0, 1) := by decide +kernel
theorem dX12_takesHead_1 : decode cX12_takesHead 1 = .ok (.getfield 46, 3) := by decide +kernel
theorem dX12_takesHead_4 : decode cX12_takesHead 4 = .ok (.iconst 2, 1) := by decide +kernel
theorem dX12_takesHead_5 : decode cX12_takesHead 5 = .ok (.iaload, 1) := by decide +kernel
theorem dX12_takesHead_6 : decode cX12_takesHead 6 = .ok (.iconst 5, 1) := by decide +kernel
theorem dX12_takesHead_7 : decode cX12_takesHead 7 = .ok (.if_icmp .eq 14, 3) := by decide +kernel
theorem dX12_takesHead_10 : decode cX12_takesHead 10 = .ok (.aload_n 0, 1) := by decide +kernel
theorem dX12_takesHead_11 : decode cX12_takesHead 11 = .ok (.iconst 5, 1) := by decide +kernel
theorem dX12_takesHead_12 : decode cX12_takesHead 12 = .ok (.iconst 0, 1) := by decide +kernel
theorem dX12_takesHead_13 : decode cX12_takesHead 13 = .ok (.bipush 12, 2) := by decide +kernel
theorem dX12_takesHead_15 : decode cX12_takesHead 15 = .ok (.invokevirtual 281, 3) := by decide +kernel
theorem dX12_takesHead_18 : decode cX12_takesHead 18 = .ok (.ifCond .ne 5, 3) := by decide +kernel
theorem dX12_takesHead_21 : decode cX12_takesHead 21 = .ok (.iconst 0, 1) := by decide +kernel
theorem dX12_takesHead_22 : decode cX12_takesHead 22 = .ok (.ireturn, 1) := by decide +kernel
theorem dX12_takesHead_23 : decode cX12_takesHead 23 = .ok (.aload_n 0, 1) := by decide +kernel
theorem dX12_takesHead_24 : decode cX12_takesHead 24 = .ok (.getfield 46, 3) := by decide +kernel
theorem dX12_takesHead_27 : decode cX12_takesHead 27 = .ok (.aload_n 0, 1) := by decide +kernel
theorem dX12_takesHead_28 : decode cX12_takesHead 28 = .ok (.getfield 49, 3) := by decide +kernel
theorem dX12_takesHead_31 : decode cX12_takesHead 31 = .ok (.iconst 0, 1) := by decide +kernel
theorem dX12_takesHead_32 : decode cX12_takesHead 32 = .ok (.iaload, 1) := by decide +kernel
theorem dX12_takesHead_33 : decode cX12_takesHead 33 = .ok (.iload_n 1, 1) := by decide +kernel
theorem dX12_takesHead_34 : decode cX12_takesHead 34 = .ok (.aload_n 0, 1) := by decide +kernel
theorem dX12_takesHead_35 : decode cX12_takesHead 35 = .ok (.getfield 49, 3) := by decide +kernel
theorem dX12_takesHead_38 : decode cX12_takesHead 38 = .ok (.iconst 1, 1) := by decide +kernel
theorem dX12_takesHead_39 : decode cX12_takesHead 39 = .ok (.iaload, 1) := by decide +kernel
theorem dX12_takesHead_40 : decode cX12_takesHead 40 = .ok (.imul, 1) := by decide +kernel
theorem dX12_takesHead_41 : decode cX12_takesHead 41 = .ok (.invokestatic 95, 3) := by decide +kernel
theorem dX12_takesHead_44 : decode cX12_takesHead 44 = .ok (.iconst 1, 1) := by decide +kernel
theorem dX12_takesHead_45 : decode cX12_takesHead 45 = .ok (.ireturn, 1) := by decide +kernel
theorem dX12_takesItem_0 : decode cX12_takesItem 0 = .ok (.aload_n 0, 1) := by decide +kernel
theorem dX12_takesItem_1 : decode cX12_takesItem 1 = .ok (.bipush 6, 2) := by decide +kernel
theorem dX12_takesItem_3 : decode cX12_takesItem 3 = .ok (.bipush 99, 2) := by decide +kernel
theorem dX12_takesItem_5 : decode cX12_takesItem 5 = .ok (.bipush 111, 2) := by decide +kernel
theorem dX12_takesItem_7 : decode cX12_takesItem 7 = .ok (.bipush 98, 2) := by decide +kernel
theorem dX12_takesItem_9 : decode cX12_takesItem 9 = .ok (.bipush 98, 2) := by decide +kernel
theorem dX12_takesItem_11 : decode cX12_takesItem 11 = .ok (.bipush 108, 2) := by decide +kernel
theorem dX12_takesItem_13 : decode cX12_takesItem 13 = .ok (.bipush 101, 2) := by decide +kernel
theorem dX12_takesItem_15 : decode cX12_takesItem 15 = .ok (.invokevirtual 277, 3) := by decide +kernel
theorem dX12_takesItem_18 : decode cX12_takesItem 18 = .ok (.ifCond .eq 9, 3) := by decide +kernel
theorem dX12_takesItem_21 : decode cX12_takesItem 21 = .ok (.aload_n 0, 1) := by decide +kernel
theorem dX12_takesItem_22 : decode cX12_takesItem 22 = .ok (.iconst 1, 1) := by decide +kernel
theorem dX12_takesItem_23 : decode cX12_takesItem 23 = .ok (.invokevirtual 284, 3) := by decide +kernel
theorem dX12_takesItem_26 : decode cX12_takesItem 26 = .ok (.ireturn, 1) := by decide +kernel
theorem dX12_takesItem_27 : decode cX12_takesItem 27 = .ok (.aload_n 0, 1) := by decide +kernel
theorem dX12_takesItem_28 : decode cX12_takesItem 28 = .ok (.iconst 4, 1) := by decide +kernel
theorem dX12_takesItem_29 : decode cX12_takesItem 29 = .ok (.bipush 104, 2) := by decide +kernel
theorem dX12_takesItem_31 : decode cX12_takesItem 31 = .ok (.bipush 111, 2) := by decide +kernel
theorem dX12_takesItem_33 : decode cX12_takesItem 33 = .ok (.bipush 108, 2) := by decide +kernel
theorem dX12_takesItem_35 : decode cX12_takesItem 35 = .ok (.bipush 101, 2) := by decide +kernel
theorem dX12_takesItem_37 : decode cX12_takesItem 37 = .ok (.iconst 0, 1) := by decide +kernel
theorem dX12_takesItem_38 : decode cX12_takesItem 38 = .ok (.iconst 0, 1) := by decide +kernel
theorem dX12_takesItem_39 : decode cX12_takesItem 39 = .ok (.invokevirtual 277, 3) := by decide +kernel
theorem dX12_takesItem_42 : decode cX12_takesItem 42 = .ok (.ifCond .eq 9, 3) := by decide +kernel
theorem dX12_takesItem_45 : decode cX12_takesItem 45 = .ok (.aload_n 0, 1) := by decide +kernel
theorem dX12_takesItem_46 : decode cX12_takesItem 46 = .ok (.iconst (-1), 1) := by decide +kernel
theorem dX12_takesItem_47 : decode cX12_takesItem 47 = .ok (.invokevirtual 284, 3) := by decide +kernel
theorem dX12_takesItem_50 : decode cX12_takesItem 50 = .ok (.ireturn, 1) := by decide +kernel
theorem dX12_takesItem_51 : decode cX12_takesItem 51 = .ok (.aload_n 0, 1) := by decide +kernel
theorem dX12_takesItem_52 : decode cX12_takesItem 52 = .ok (.iconst 4, 1) := by decide +kernel
theorem dX12_takesItem_53 : decode cX12_takesItem 53 = .ok (.bipush 119, 2) := by decide +kernel
theorem dX12_takesItem_55 : decode cX12_takesItem 55 = .ok (.bipush 105, 2) := by decide +kernel
theorem dX12_takesItem_57 : decode cX12_takesItem 57 = .ok (.bipush 110, 2) := by decide +kernel
theorem dX12_takesItem_59 : decode cX12_takesItem 59 = .ok (.bipush 100, 2) := by decide +kernel
theorem dX12_takesItem_61 : decode cX12_takesItem 61 = .ok (.iconst 0, 1) := by decide +kernel
theorem dX12_takesItem_62 : decode cX12_takesItem 62 = .ok (.iconst 0, 1) := by decide +kernel
theorem dX12_takesItem_63 : decode cX12_takesItem 63 = .ok (.invokevirtual 277, 3) := by decide +kernel
theorem dX12_takesItem_66 : decode cX12_takesItem 66 = .ok (.ifCond .eq 9, 3) := by decide +kernel
theorem dX12_takesItem_69 : decode cX12_takesItem 69 = .ok (.aload_n 0, 1) := by decide +kernel
theorem dX12_takesItem_70 : decode cX12_takesItem 70 = .ok (.iconst 1, 1) := by decide +kernel
theorem dX12_takesItem_71 : decode cX12_takesItem 71 = .ok (.invokevirtual 287, 3) := by decide +kernel
theorem dX12_takesItem_74 : decode cX12_takesItem 74 = .ok (.ireturn, 1) := by decide +kernel
theorem dX12_takesItem_75 : decode cX12_takesItem 75 = .ok (.aload_n 0, 1) := by decide +kernel
theorem dX12_takesItem_76 : decode cX12_takesItem 76 = .ok (.iconst 4, 1) := by decide +kernel
theorem dX12_takesItem_77 : decode cX12_takesItem 77 = .ok (.bipush 108, 2) := by decide +kernel
theorem dX12_takesItem_79 : decode cX12_takesItem 79 = .ok (.bipush 117, 2) := by decide +kernel
theorem dX12_takesItem_81 : decode cX12_takesItem 81 = .ok (.bipush 108, 2) := by decide +kernel
theorem dX12_takesItem_83 : decode cX12_takesItem 83 = .ok (.bipush 108, 2) := by decide +kernel
theorem dX12_takesItem_85 : decode cX12_takesItem 85 = .ok (.iconst 0, 1) := by decide +kernel
theorem dX12_takesItem_86 : decode cX12_takesItem 86 = .ok (.iconst 0, 1) := by decide +kernel
theorem dX12_takesItem_87 : decode cX12_takesItem 87 = .ok (.invokevirtual 277, 3) := by decide +kernel
theorem dX12_takesItem_90 : decode cX12_takesItem 90 = .ok (.ifCond .eq 9, 3) := by decide +kernel
theorem dX12_takesItem_93 : decode cX12_takesItem 93 = .ok (.aload_n 0, 1) := by decide +kernel
theorem dX12_takesItem_94 : decode cX12_takesItem 94 = .ok (.iconst (-1), 1) := by decide +kernel
theorem dX12_takesItem_95 : decode cX12_takesItem 95 = .ok (.invokevirtual 287, 3) := by decide +kernel
theorem dX12_takesItem_98 : decode cX12_takesItem 98 = .ok (.ireturn, 1) := by decide +kernel
theorem dX12_takesItem_99 : decode cX12_takesItem 99 = .ok (.aload_n 0, 1) := by decide +kernel
theorem dX12_takesItem_100 : decode cX12_takesItem 100 = .ok (.iconst 4, 1) := by decide +kernel
theorem dX12_takesItem_101 : decode cX12_takesItem 101 = .ok (.bipush 104, 2) := by decide +kernel
theorem dX12_takesItem_103 : decode cX12_takesItem 103 = .ok (.bipush 101, 2) := by decide +kernel
theorem dX12_takesItem_105 : decode cX12_takesItem 105 = .ok (.bipush 97, 2) := by decide +kernel
theorem dX12_takesItem_107 : decode cX12_takesItem 107 = .ok (.bipush 100, 2) := by decide +kernel
theorem dX12_takesItem_109 : decode cX12_takesItem 109 = .ok (.iconst 0, 1) := by decide +kernel
theorem dX12_takesItem_110 : decode cX12_takesItem 110 = .ok (.iconst 0, 1) := by decide +kernel
theorem dX12_takesItem_111 : decode cX12_takesItem 111 = .ok (.invokevirtual 277, 3) := by decide +kernel
theorem dX12_takesItem_114 : decode cX12_takesItem 114 = .ok (.ifCond .eq 9, 3) := by decide +kernel
theorem dX12_takesItem_117 : decode cX12_takesItem 117 = .ok (.aload_n 0, 1) := by decide +kernel
theorem dX12_takesItem_118 : decode cX12_takesItem 118 = .ok (.iconst 1, 1) := by decide +kernel
theorem dX12_takesItem_119 : decode cX12_takesItem 119 = .ok (.invokevirtual 290, 3) := by decide +kernel
theorem dX12_takesItem_122 : decode cX12_takesItem 122 = .ok (.ireturn, 1) := by decide +kernel
theorem dX12_takesItem_123 : decode cX12_takesItem 123 = .ok (.aload_n 0, 1) := by decide +kernel
theorem dX12_takesItem_124 : decode cX12_takesItem 124 = .ok (.iconst 4, 1) := by decide +kernel
theorem dX12_takesItem_125 : decode cX12_takesItem 125 = .ok (.bipush 98, 2) := by decide +kernel
theorem dX12_takesItem_127 : decode cX12_takesItem 127 = .ok (.bipush 101, 2) := by decide +kernel
theorem dX12_takesItem_129 : decode cX12_takesItem 129 = .ok (.bipush 110, 2) := by decide +kernel
theorem dX12_takesItem_131 : decode cX12_takesItem 131 = .ok (.bipush 116, 2) := by decide +kernel
theorem dX12_takesItem_133 : decode cX12_takesItem 133 = .ok (.iconst 0, 1) := by decide +kernel
theorem dX12_takesItem_134 : decode cX12_takesItem 134 = .ok (.iconst 0, 1) := by decide +kernel
theorem dX12_takesItem_135 : decode cX12_takesItem 135 = .ok (.invokevirtual 277, 3) := by decide +kernel
theorem dX12_takesItem_138 : decode cX12_takesItem 138 = .ok (.ifCond .eq 15, 3) := by decide +kernel
theorem dX12_takesItem_141 : decode cX12_takesItem 141 = .ok (.aload_n 0, 1) := by decide +kernel
theorem dX12_takesItem_142 : decode cX12_takesItem 142 = .ok (.iconst (-1), 1) := by decide +kernel
theorem dX12_takesItem_143 : decode cX12_takesItem 143 = .ok (.invokevirtual 290, 3) := by decide +kernel
theorem dX12_takesItem_146 : decode cX12_takesItem 146 = .ok (.ifCond .eq 7, 3) := by decide +kernel
theorem dX12_takesItem_149 : decode cX12_takesItem 149 = .ok (.iconst 1, 1) := by decide +kernel
theorem dX12_takesItem_150 : decode cX12_takesItem 150 = .ok (.goto 4, 3) := by decide +kernel
theorem dX12_takesItem_153 : decode cX12_takesItem 153 = .ok (.iconst 0, 1) := by decide +kernel
theorem dX12_takesItem_154 : decode cX12_takesItem 154 = .ok (.ireturn, 1) := by decide +kernel
theorem dX12_read_0 : decode cX12_read 0 = .ok (.aload_n 0, 1) := by decide +kernel
theorem dX12_read_1 : decode cX12_read 1 = .ok (.iconst 0, 1) := by decide +kernel
theorem dX12_read_2 : decode cX12_read 2 = .ok (.invokevirtual 267, 3) := by decide +kernel
theorem dX12_read_5 : decode cX12_read 5 = .ok (.aload_n 0, 1) := by decide +kernel
theorem dX12_read_6 : decode cX12_read 6 = .ok (.invokevirtual 293, 3) := by decide +kernel
theorem dX12_read_9 : decode cX12_read 9 = .ok (.ifCond .ne 11, 3) := by decide +kernel
theorem dX12_read_12 : decode cX12_read 12 = .ok (.bipush (-10), 2) := by decide +kernel
theorem dX12_read_14 : decode cX12_read 14 = .ok (.aload_n 0, 1) := by decide +kernel
theorem dX12_read_15 : decode cX12_read 15 = .ok (.getfield 249, 3) := by decide +kernel
theorem dX12_read_18 : decode cX12_read 18 = .ok (.isub, 1) := by decide +kernel
theorem dX12_read_19 : decode cX12_read 19 = .ok (.ireturn, 1) := by decide +kernel
theorem dX12_read_20 : decode cX12_read 20 = .ok (.aload_n 0, 1) := by decide +kernel
theorem dX12_read_21 : decode cX12_read 21 = .ok (.invokevirtual 270, 3) := by decide +kernel
theorem dX12_read_24 : decode cX12_read 24 = .ok (.iconst 1, 1) := by decide +kernel
theorem dX12_read_25 : decode cX12_read 25 = .ok (.istore_n 1, 1) := by decide +kernel
theorem dX12_read_26 : decode cX12_read 26 = .ok (.aload_n 0, 1) := by decide +kernel
theorem dX12_read_27 : decode cX12_read 27 = .ok (.getfield 255, 3) := by decide +kernel
theorem dX12_read_30 : decode cX12_read 30 = .ok (.ifCond .eq 36, 3) := by decide +kernel
theorem dX12_read_33 : decode cX12_read 33 = .ok (.aload_n 0, 1) := by decide +kernel
theorem dX12_read_34 : decode cX12_read 34 = .ok (.invokevirtual 296, 3) := by decide +kernel
theorem dX12_read_37 : decode cX12_read 37 = .ok (.ifCond .eq 11, 3) := by decide +kernel
theorem dX12_read_40 : decode cX12_read 40 = .ok (.aload_n 0, 1) := by decide +kernel
theorem dX12_read_41 : decode cX12_read 41 = .ok (.getfield 255, 3) := by decide +kernel
theorem dX12_read_44 : decode cX12_read 44 = .ok (.iconst 3, 1) := by decide +kernel
theorem dX12_read_45 : decode cX12_read 45 = .ok (.if_icmp .eq 11, 3) := by decide +kernel
theorem dX12_read_48 : decode cX12_read 48 = .ok (.bipush (-10), 2) := by decide +kernel
theorem dX12_read_50 : decode cX12_read 50 = .ok (.aload_n 0, 1) := by decide +kernel
theorem dX12_read_51 : decode cX12_read 51 = .ok (.getfield 249, 3) := by decide +kernel
theorem dX12_read_54 : decode cX12_read 54 = .ok (.isub, 1) := by decide +kernel
theorem dX12_read_55 : decode cX12_read 55 = .ok (.ireturn, 1) := by decide +kernel
theorem dX12_read_56 : decode cX12_read 56 = .ok (.aload_n 0, 1) := by decide +kernel
theorem dX12_read_57 : decode cX12_read 57 = .ok (.invokevirtual 270, 3) := by decide +kernel
theorem dX12_read_60 : decode cX12_read 60 = .ok (.iinc 1 1, 3) := by decide +kernel
theorem dX12_read_63 : decode cX12_read 63 = .ok (.goto (-37), 3) := by decide +kernel
theorem dX12_read_66 : decode cX12_read 66 = .ok (.iconst 0, 1) := by decide +kernel
theorem dX12_read_67 : decode cX12_read 67 = .ok (.istore_n 2, 1) := by decide +kernel
theorem dX12_read_68 : decode cX12_read 68 = .ok (.iload_n 2, 1) := by decide +kernel
theorem dX12_read_69 : decode cX12_read 69 = .ok (.bipush 66, 2) := by decide +kernel
theorem dX12_read_71 : decode cX12_read 71 = .ok (.if_icmp .ge 21, 3) := by decide +kernel
theorem dX12_read_74 : decode cX12_read 74 = .ok (.aload_n 0, 1) := by decide +kernel
theorem dX12_read_75 : decode cX12_read 75 = .ok (.getfield 7, 3) := by decide +kernel
theorem dX12_read_78 : decode cX12_read 78 = .ok (.iload_n 2, 1) := by decide +kernel
theorem dX12_read_79 : decode cX12_read 79 = .ok (.aload_n 0, 1) := by decide +kernel
theorem dX12_read_80 : decode cX12_read 80 = .ok (.getfield 46, 3) := by decide +kernel
theorem dX12_read_83 : decode cX12_read 83 = .ok (.iload_n 2, 1) := by decide +kernel
theorem dX12_read_84 : decode cX12_read 84 = .ok (.iaload, 1) := by decide +kernel
theorem dX12_read_85 : decode cX12_read 85 = .ok (.iastore, 1) := by decide +kernel
theorem dX12_read_86 : decode cX12_read 86 = .ok (.iinc 2 1, 3) := by decide +kernel
theorem dX12_read_89 : decode cX12_read 89 = .ok (.goto (-21), 3) := by decide +kernel
theorem dX12_read_92 : decode cX12_read 92 = .ok (.iload_n 1, 1) := by decide +kernel
theorem dX12_read_93 : decode cX12_read 93 = .ok (.ireturn, 1) := by decide +kernel
theorem dX12_part_0 : decode cX12_part 0 = .ok (.iload_n 1, 1) := by decide +kernel
theorem dX12_part_1 : decode cX12_part 1 = .ok (.ifCond .ne 10, 3) := by decide +kernel
theorem dX12_part_4 : decode cX12_part 4 = .ok (.aload_n 0, 1) := by decide +kernel
theorem dX12_part_5 : decode cX12_part 5 = .ok (.getfield 211, 3) := by decide +kernel
theorem dX12_part_8 : decode cX12_part 8 = .ok (.goto 22, 3) := by decide +kernel
theorem dX12_part_11 : decode cX12_part 11 = .ok (.iload_n 1, 1) := by decide +kernel
theorem dX12_part_12 : decode cX12_part 12 = .ok (.iconst 1, 1) := by decide +kernel
theorem dX12_part_13 : decode cX12_part 13 = .ok (.if_icmp .ne 10, 3) := by decide +kernel
theorem dX12_part_16 : decode cX12_part 16 = .ok (.aload_n 0, 1) := by decide +kernel
theorem dX12_part_17 : decode cX12_part 17 = .ok (.getfield 23, 3) := by decide +kernel
theorem dX12_part_20 : decode cX12_part 20 = .ok (.goto 10, 3) := by decide +kernel
theorem dX12_part_23 : decode cX12_part 23 = .ok (.aload_n 0, 1) := by decide +kernel
theorem dX12_part_24 : decode cX12_part 24 = .ok (.bipush (-2), 2) := by decide +kernel
theorem dX12_part_26 : decode cX12_part 26 = .ok (.invokevirtual 76, 3) := by decide +kernel
theorem dX12_part_29 : decode cX12_part 29 = .ok (.i2l, 1) := by decide +kernel
theorem dX12_part_30 : decode cX12_part 30 = .ok (.lreturn, 1) := by decide +kernel
theorem dX12_image_0 : decode cX12_image 0 = .ok (.iload_n 1, 1) := by decide +kernel
theorem dX12_image_1 : decode cX12_image 1 = .ok (.i2l, 1) := by decide +kernel
theorem dX12_image_2 : decode cX12_image 2 = .ok (.lconst 0, 1) := by decide +kernel
theorem dX12_image_3 : decode cX12_image 3 = .ok (.lconst 1, 1) := by decide +kernel
theorem dX12_image_4 : decode cX12_image 4 = .ok (.invokestatic 56, 3) := by decide +kernel
theorem dX12_image_7 : decode cX12_image 7 = .ok (.ifCond .ne 10, 3) := by decide +kernel
theorem dX12_image_10 : decode cX12_image 10 = .ok (.aload_n 0, 1) := by decide +kernel
theorem dX12_image_11 : decode cX12_image 11 = .ok (.bipush (-2), 2) := by decide +kernel
theorem dX12_image_13 : decode cX12_image 13 = .ok (.invokevirtual 76, 3) := by decide +kernel
theorem dX12_image_16 : decode cX12_image 16 = .ok (.ireturn, 1) := by decide +kernel
theorem dX12_image_17 : decode cX12_image 17 = .ok (.iconst 0, 1) := by decide +kernel
theorem dX12_image_18 : decode cX12_image 18 = .ok (.istore_n 2, 1) := by decide +kernel
theorem dX12_image_19 : decode cX12_image 19 = .ok (.iload_n 2, 1) := by decide +kernel
theorem dX12_image_20 : decode cX12_image 20 = .ok (.bipush 98, 2) := by decide +kernel
theorem dX12_image_22 : decode cX12_image 22 = .ok (.if_icmp .ge 26, 3) := by decide +kernel
theorem dX12_image_25 : decode cX12_image 25 = .ok (.aload_n 0, 1) := by decide +kernel
theorem dX12_image_26 : decode cX12_image 26 = .ok (.getfield 13, 3) := by decide +kernel
theorem dX12_image_29 : decode cX12_image 29 = .ok (.bipush 98, 2) := by decide +kernel
theorem dX12_image_31 : decode cX12_image 31 = .ok (.iload_n 1, 1) := by decide +kernel
theorem dX12_image_32 : decode cX12_image 32 = .ok (.imul, 1) := by decide +kernel
theorem dX12_image_33 : decode cX12_image 33 = .ok (.iload_n 2, 1) := by decide +kernel
theorem dX12_image_34 : decode cX12_image 34 = .ok (.iadd, 1) := by decide +kernel
theorem dX12_image_35 : decode cX12_image 35 = .ok (.aload_n 0, 1) := by decide +kernel
theorem dX12_image_36 : decode cX12_image 36 = .ok (.getfield 7, 3) := by decide +kernel
theorem dX12_image_39 : decode cX12_image 39 = .ok (.iload_n 2, 1) := by decide +kernel
theorem dX12_image_40 : decode cX12_image 40 = .ok (.iaload, 1) := by decide +kernel
theorem dX12_image_41 : decode cX12_image 41 = .ok (.iastore, 1) := by decide +kernel
theorem dX12_image_42 : decode cX12_image 42 = .ok (.iinc 2 1, 3) := by decide +kernel
theorem dX12_image_45 : decode cX12_image 45 = .ok (.goto (-26), 3) := by decide +kernel
theorem dX12_image_48 : decode cX12_image 48 = .ok (.aload_n 0, 1) := by decide +kernel
theorem dX12_image_49 : decode cX12_image 49 = .ok (.getfield 16, 3) := by decide +kernel
theorem dX12_image_52 : decode cX12_image 52 = .ok (.iload_n 1, 1) := by decide +kernel
theorem dX12_image_53 : decode cX12_image 53 = .ok (.iconst 1, 1) := by decide +kernel
theorem dX12_image_54 : decode cX12_image 54 = .ok (.bastore, 1) := by decide +kernel
theorem dX12_image_55 : decode cX12_image 55 = .ok (.iconst 1, 1) := by decide +kernel
theorem dX12_image_56 : decode cX12_image 56 = .ok (.ireturn, 1) := by decide +kernel
theorem dX12_from_0 : decode cX12_from 0 = .ok (.iload_n 1, 1) := by decide +kernel
theorem dX12_from_1 : decode cX12_from 1 = .ok (.i2l, 1) := by decide +kernel
theorem dX12_from_2 : decode cX12_from 2 = .ok (.lconst 0, 1) := by decide +kernel
theorem dX12_from_3 : decode cX12_from 3 = .ok (.lconst 1, 1) := by decide +kernel
theorem dX12_from_4 : decode cX12_from 4 = .ok (.invokestatic 56, 3) := by decide +kernel
theorem dX12_from_7 : decode cX12_from 7 = .ok (.ifCond .ne 10, 3) := by decide +kernel
theorem dX12_from_10 : decode cX12_from 10 = .ok (.aload_n 0, 1) := by decide +kernel
theorem dX12_from_11 : decode cX12_from 11 = .ok (.bipush (-2), 2) := by decide +kernel
theorem dX12_from_13 : decode cX12_from 13 = .ok (.invokevirtual 76, 3) := by decide +kernel
theorem dX12_from_16 : decode cX12_from 16 = .ok (.ireturn, 1) := by decide +kernel
theorem dX12_from_17 : decode cX12_from 17 = .ok (.aload_n 0, 1) := by decide +kernel
theorem dX12_from_18 : decode cX12_from 18 = .ok (.getfield 16, 3) := by decide +kernel
theorem dX12_from_21 : decode cX12_from 21 = .ok (.iload_n 1, 1) := by decide +kernel
theorem dX12_from_22 : decode cX12_from 22 = .ok (.baload, 1) := by decide +kernel
theorem dX12_from_23 : decode cX12_from 23 = .ok (.ifCond .ne 10, 3) := by decide +kernel
theorem dX12_from_26 : decode cX12_from 26 = .ok (.aload_n 0, 1) := by decide +kernel
theorem dX12_from_27 : decode cX12_from 27 = .ok (.bipush (-3), 2) := by decide +kernel
theorem dX12_from_29 : decode cX12_from 29 = .ok (.invokevirtual 131, 3) := by decide +kernel
theorem dX12_from_32 : decode cX12_from 32 = .ok (.ireturn, 1) := by decide +kernel
theorem dX12_from_33 : decode cX12_from 33 = .ok (.iconst 0, 1) := by decide +kernel
theorem dX12_from_34 : decode cX12_from 34 = .ok (.istore_n 2, 1) := by decide +kernel
theorem dX12_from_35 : decode cX12_from 35 = .ok (.iload_n 2, 1) := by decide +kernel
theorem dX12_from_36 : decode cX12_from 36 = .ok (.bipush 98, 2) := by decide +kernel
theorem dX12_from_38 : decode cX12_from 38 = .ok (.if_icmp .ge 26, 3) := by decide +kernel
theorem dX12_from_41 : decode cX12_from 41 = .ok (.aload_n 0, 1) := by decide +kernel
theorem dX12_from_42 : decode cX12_from 42 = .ok (.getfield 7, 3) := by decide +kernel
theorem dX12_from_45 : decode cX12_from 45 = .ok (.iload_n 2, 1) := by decide +kernel
theorem dX12_from_46 : decode cX12_from 46 = .ok (.aload_n 0, 1) := by decide +kernel
theorem dX12_from_47 : decode cX12_from 47 = .ok (.getfield 13, 3) := by decide +kernel
theorem dX12_from_50 : decode cX12_from 50 = .ok (.bipush 98, 2) := by decide +kernel
theorem dX12_from_52 : decode cX12_from 52 = .ok (.iload_n 1, 1) := by decide +kernel
theorem dX12_from_53 : decode cX12_from 53 = .ok (.imul, 1) := by decide +kernel
theorem dX12_from_54 : decode cX12_from 54 = .ok (.iload_n 2, 1) := by decide +kernel
theorem dX12_from_55 : decode cX12_from 55 = .ok (.iadd, 1) := by decide +kernel
theorem dX12_from_56 : decode cX12_from 56 = .ok (.iaload, 1) := by decide +kernel
theorem dX12_from_57 : decode cX12_from 57 = .ok (.iastore, 1) := by decide +kernel
theorem dX12_from_58 : decode cX12_from 58 = .ok (.iinc 2 1, 3) := by decide +kernel
theorem dX12_from_61 : decode cX12_from 61 = .ok (.goto (-26), 3) := by decide +kernel
theorem dX12_from_64 : decode cX12_from 64 = .ok (.iconst 1, 1) := by decide +kernel
theorem dX12_from_65 : decode cX12_from 65 = .ok (.ireturn, 1) := by decide +kernel
theorem dX12_status_0 : decode cX12_status 0 = .ok (.iload_n 1, 1) := by decide +kernel
theorem dX12_status_1 : decode cX12_status 1 = .ok (.i2l, 1) := by decide +kernel
theorem dX12_status_2 : decode cX12_status 2 = .ok (.lconst 0, 1) := by decide +kernel
theorem dX12_status_3 : decode cX12_status 3 = .ok (.ldc2_w 299, 3) := by decide +kernel
theorem dX12_status_6 : decode cX12_status 6 = .ok (.invokestatic 56, 3) := by decide +kernel
theorem dX12_status_9 : decode cX12_status 9 = .ok (.ifCond .eq 12, 3) := by decide +kernel
theorem dX12_status_12 : decode cX12_status 12 = .ok (.aload_n 0, 1) := by decide +kernel
theorem dX12_status_13 : decode cX12_status 13 = .ok (.getfield 20, 3) := by decide +kernel
theorem dX12_status_16 : decode cX12_status 16 = .ok (.iload_n 1, 1) := by decide +kernel
theorem dX12_status_17 : decode cX12_status 17 = .ok (.iaload, 1) := by decide +kernel
theorem dX12_status_18 : decode cX12_status 18 = .ok (.goto 8, 3) := by decide +kernel
theorem dX12_status_21 : decode cX12_status 21 = .ok (.aload_n 0, 1) := by decide +kernel
theorem dX12_status_22 : decode cX12_status 22 = .ok (.iconst (-1), 1) := by decide +kernel
theorem dX12_status_23 : decode cX12_status 23 = .ok (.invokevirtual 76, 3) := by decide +kernel
theorem dX12_status_26 : decode cX12_status 26 = .ok (.ireturn, 1) := by decide +kernel
theorem dX12_counted_0 : decode cX12_counted 0 = .ok (.iload_n 1, 1) := by decide +kernel
theorem dX12_counted_1 : decode cX12_counted 1 = .ok (.tableswitch 70 0 4 #[35, 42, 49, 56, 63], 35) := by decide +kernel
theorem dX12_counted_36 : decode cX12_counted 36 = .ok (.aload_n 0, 1) := by decide +kernel
theorem dX12_counted_37 : decode cX12_counted 37 = .ok (.getfield 7, 3) := by decide +kernel
theorem dX12_counted_40 : decode cX12_counted 40 = .ok (.iconst 2, 1) := by decide +kernel
theorem dX12_counted_41 : decode cX12_counted 41 = .ok (.iaload, 1) := by decide +kernel
theorem dX12_counted_42 : decode cX12_counted 42 = .ok (.ireturn, 1) := by decide +kernel
theorem dX12_counted_43 : decode cX12_counted 43 = .ok (.aload_n 0, 1) := by decide +kernel
theorem dX12_counted_44 : decode cX12_counted 44 = .ok (.getfield 7, 3) := by decide +kernel
theorem dX12_counted_47 : decode cX12_counted 47 = .ok (.iconst 0, 1) := by decide +kernel
theorem dX12_counted_48 : decode cX12_counted 48 = .ok (.iaload, 1) := by decide +kernel
theorem dX12_counted_49 : decode cX12_counted 49 = .ok (.ireturn, 1) := by decide +kernel
theorem dX12_counted_50 : decode cX12_counted 50 = .ok (.aload_n 0, 1) := by decide +kernel
theorem dX12_counted_51 : decode cX12_counted 51 = .ok (.getfield 7, 3) := by decide +kernel
theorem dX12_counted_54 : decode cX12_counted 54 = .ok (.iconst 1, 1) := by decide +kernel
theorem dX12_counted_55 : decode cX12_counted 55 = .ok (.iaload, 1) := by decide +kernel
theorem dX12_counted_56 : decode cX12_counted 56 = .ok (.ireturn, 1) := by decide +kernel
theorem dX12_counted_57 : decode cX12_counted 57 = .ok (.aload_n 0, 1) := by decide +kernel
theorem dX12_counted_58 : decode cX12_counted 58 = .ok (.getfield 7, 3) := by decide +kernel
theorem dX12_counted_61 : decode cX12_counted 61 = .ok (.iconst 3, 1) := by decide +kernel
theorem dX12_counted_62 : decode cX12_counted 62 = .ok (.iaload, 1) := by decide +kernel
theorem dX12_counted_63 : decode cX12_counted 63 = .ok (.ireturn, 1) := by decide +kernel
theorem dX12_counted_64 : decode cX12_counted 64 = .ok (.aload_n 0, 1) := by decide +kernel
theorem dX12_counted_65 : decode cX12_counted 65 = .ok (.getfield 7, 3) := by decide +kernel
theorem dX12_counted_68 : decode cX12_counted 68 = .ok (.iconst 4, 1) := by decide +kernel
theorem dX12_counted_69 : decode cX12_counted 69 = .ok (.iaload, 1) := by decide +kernel
theorem dX12_counted_70 : decode cX12_counted 70 = .ok (.ireturn, 1) := by decide +kernel
theorem dX12_counted_71 : decode cX12_counted 71 = .ok (.aload_n 0, 1) := by decide +kernel
theorem dX12_counted_72 : decode cX12_counted 72 = .ok (.getfield 238, 3) := by decide +kernel
theorem dX12_counted_75 : decode cX12_counted 75 = .ok (.ireturn, 1) := by decide +kernel
theorem dX12_count_0 : decode cX12_count 0 = .ok (.iload_n 1, 1) := by decide +kernel
theorem dX12_count_1 : decode cX12_count 1 = .ok (.i2l, 1) := by decide +kernel
theorem dX12_count_2 : decode cX12_count 2 = .ok (.lconst 0, 1) := by decide +kernel
theorem dX12_count_3 : decode cX12_count 3 = .ok (.ldc2_w 64, 3) := by decide +kernel
theorem dX12_count_6 : decode cX12_count 6 = .ok (.invokestatic 56, 3) := by decide +kernel
theorem dX12_count_9 : decode cX12_count 9 = .ok (.ifCond .eq 11, 3) := by decide +kernel
theorem dX12_count_12 : decode cX12_count 12 = .ok (.aload_n 0, 1) := by decide +kernel
theorem dX12_count_13 : decode cX12_count 13 = .ok (.iload_n 1, 1) := by decide +kernel
theorem dX12_count_14 : decode cX12_count 14 = .ok (.invokevirtual 301, 3) := by decide +kernel
theorem dX12_count_17 : decode cX12_count 17 = .ok (.goto 9, 3) := by decide +kernel
theorem dX12_count_20 : decode cX12_count 20 = .ok (.aload_n 0, 1) := by decide +kernel
theorem dX12_count_21 : decode cX12_count 21 = .ok (.bipush (-2), 2) := by decide +kernel
theorem dX12_count_23 : decode cX12_count 23 = .ok (.invokevirtual 76, 3) := by decide +kernel
theorem dX12_count_26 : decode cX12_count 26 = .ok (.ireturn, 1) := by decide +kernel
theorem dX12_sums_0 : decode cX12_sums 0 = .ok (.lload_n 1, 1) := by decide +kernel
theorem dX12_sums_1 : decode cX12_sums 1 = .ok (.lstore 5, 2) := by decide +kernel
theorem dX12_sums_3 : decode cX12_sums 3 = .ok (.iconst 0, 1) := by decide +kernel
theorem dX12_sums_4 : decode cX12_sums 4 = .ok (.istore 7, 2) := by decide +kernel
theorem dX12_sums_6 : decode cX12_sums 6 = .ok (.iload 7, 2) := by decide +kernel
theorem dX12_sums_8 : decode cX12_sums 8 = .ok (.iload 4, 2) := by decide +kernel
theorem dX12_sums_10 : decode cX12_sums 10 = .ok (.if_icmp .ge 28, 3) := by decide +kernel
theorem dX12_sums_13 : decode cX12_sums 13 = .ok (.ldc2_w 304, 3) := by decide +kernel
theorem dX12_sums_16 : decode cX12_sums 16 = .ok (.lload 5, 2) := by decide +kernel
theorem dX12_sums_18 : decode cX12_sums 18 = .ok (.lmul, 1) := by decide +kernel
theorem dX12_sums_19 : decode cX12_sums 19 = .ok (.aload_n 0, 1) := by decide +kernel
theorem dX12_sums_20 : decode cX12_sums 20 = .ok (.getfield 7, 3) := by decide +kernel
theorem dX12_sums_23 : decode cX12_sums 23 = .ok (.iload_n 3, 1) := by decide +kernel
theorem dX12_sums_24 : decode cX12_sums 24 = .ok (.iload 7, 2) := by decide +kernel
theorem dX12_sums_26 : decode cX12_sums 26 = .ok (.iadd, 1) := by decide +kernel
theorem dX12_sums_27 : decode cX12_sums 27 = .ok (.iaload, 1) := by decide +kernel
theorem dX12_sums_28 : decode cX12_sums 28 = .ok (.i2l, 1) := by decide +kernel
theorem dX12_sums_29 : decode cX12_sums 29 = .ok (.ladd, 1) := by decide +kernel
theorem dX12_sums_30 : decode cX12_sums 30 = .ok (.lstore 5, 2) := by decide +kernel
theorem dX12_sums_32 : decode cX12_sums 32 = .ok (.iinc 7 1, 3) := by decide +kernel
theorem dX12_sums_35 : decode cX12_sums 35 = .ok (.goto (-29), 3) := by decide +kernel
theorem dX12_sums_38 : decode cX12_sums 38 = .ok (.lload 5, 2) := by decide +kernel
theorem dX12_sums_40 : decode cX12_sums 40 = .ok (.lreturn, 1) := by decide +kernel
theorem dX12_digest_0 : decode cX12_digest 0 = .ok (.ldc2_w 306, 3) := by decide +kernel
theorem dX12_digest_3 : decode cX12_digest 3 = .ok (.lstore_n 1, 1) := by decide +kernel
theorem dX12_digest_4 : decode cX12_digest 4 = .ok (.iconst 0, 1) := by decide +kernel
theorem dX12_digest_5 : decode cX12_digest 5 = .ok (.istore_n 3, 1) := by decide +kernel
theorem dX12_digest_6 : decode cX12_digest 6 = .ok (.iload_n 3, 1) := by decide +kernel
theorem dX12_digest_7 : decode cX12_digest 7 = .ok (.bipush 6, 2) := by decide +kernel
theorem dX12_digest_9 : decode cX12_digest 9 = .ok (.if_icmp .ge 22, 3) := by decide +kernel
theorem dX12_digest_12 : decode cX12_digest 12 = .ok (.ldc2_w 304, 3) := by decide +kernel
theorem dX12_digest_15 : decode cX12_digest 15 = .ok (.lload_n 1, 1) := by decide +kernel
theorem dX12_digest_16 : decode cX12_digest 16 = .ok (.lmul, 1) := by decide +kernel
theorem dX12_digest_17 : decode cX12_digest 17 = .ok (.aload_n 0, 1) := by decide +kernel
theorem dX12_digest_18 : decode cX12_digest 18 = .ok (.iload_n 3, 1) := by decide +kernel
theorem dX12_digest_19 : decode cX12_digest 19 = .ok (.invokevirtual 301, 3) := by decide +kernel
theorem dX12_digest_22 : decode cX12_digest 22 = .ok (.i2l, 1) := by decide +kernel
theorem dX12_digest_23 : decode cX12_digest 23 = .ok (.ladd, 1) := by decide +kernel
theorem dX12_digest_24 : decode cX12_digest 24 = .ok (.lstore_n 1, 1) := by decide +kernel
theorem dX12_digest_25 : decode cX12_digest 25 = .ok (.iinc 3 1, 3) := by decide +kernel
theorem dX12_digest_28 : decode cX12_digest 28 = .ok (.goto (-22), 3) := by decide +kernel
theorem dX12_digest_31 : decode cX12_digest 31 = .ok (.aload_n 0, 1) := by decide +kernel
theorem dX12_digest_32 : decode cX12_digest 32 = .ok (.lload_n 1, 1) := by decide +kernel
theorem dX12_digest_33 : decode cX12_digest 33 = .ok (.iconst 5, 1) := by decide +kernel
theorem dX12_digest_34 : decode cX12_digest 34 = .ok (.aload_n 0, 1) := by decide +kernel
theorem dX12_digest_35 : decode cX12_digest 35 = .ok (.invokevirtual 60, 3) := by decide +kernel
theorem dX12_digest_38 : decode cX12_digest 38 = .ok (.iconst 1, 1) := by decide +kernel
theorem dX12_digest_39 : decode cX12_digest 39 = .ok (.iadd, 1) := by decide +kernel
theorem dX12_digest_40 : decode cX12_digest 40 = .ok (.invokevirtual 308, 3) := by decide +kernel
theorem dX12_digest_43 : decode cX12_digest 43 = .ok (.lstore_n 1, 1) := by decide +kernel
theorem dX12_digest_44 : decode cX12_digest 44 = .ok (.aload_n 0, 1) := by decide +kernel
theorem dX12_digest_45 : decode cX12_digest 45 = .ok (.lload_n 1, 1) := by decide +kernel
theorem dX12_digest_46 : decode cX12_digest 46 = .ok (.bipush 21, 2) := by decide +kernel
theorem dX12_digest_48 : decode cX12_digest 48 = .ok (.bipush 6, 2) := by decide +kernel
theorem dX12_digest_50 : decode cX12_digest 50 = .ok (.invokevirtual 308, 3) := by decide +kernel
theorem dX12_digest_53 : decode cX12_digest 53 = .ok (.lstore_n 1, 1) := by decide +kernel
theorem dX12_digest_54 : decode cX12_digest 54 = .ok (.aload_n 0, 1) := by decide +kernel
theorem dX12_digest_55 : decode cX12_digest 55 = .ok (.lload_n 1, 1) := by decide +kernel
theorem dX12_digest_56 : decode cX12_digest 56 = .ok (.bipush 27, 2) := by decide +kernel
theorem dX12_digest_58 : decode cX12_digest 58 = .ok (.iconst 2, 1) := by decide +kernel
theorem dX12_digest_59 : decode cX12_digest 59 = .ok (.aload_n 0, 1) := by decide +kernel
theorem dX12_digest_60 : decode cX12_digest 60 = .ok (.getfield 7, 3) := by decide +kernel
theorem dX12_digest_63 : decode cX12_digest 63 = .ok (.iconst 2, 1) := by decide +kernel
theorem dX12_digest_64 : decode cX12_digest 64 = .ok (.iaload, 1) := by decide +kernel
theorem dX12_digest_65 : decode cX12_digest 65 = .ok (.imul, 1) := by decide +kernel
theorem dX12_digest_66 : decode cX12_digest 66 = .ok (.invokevirtual 308, 3) := by decide +kernel
theorem dX12_digest_69 : decode cX12_digest 69 = .ok (.lstore_n 1, 1) := by decide +kernel
theorem dX12_digest_70 : decode cX12_digest 70 = .ok (.aload_n 0, 1) := by decide +kernel
theorem dX12_digest_71 : decode cX12_digest 71 = .ok (.lload_n 1, 1) := by decide +kernel
theorem dX12_digest_72 : decode cX12_digest 72 = .ok (.bipush 37, 2) := by decide +kernel
theorem dX12_digest_74 : decode cX12_digest 74 = .ok (.iconst 5, 1) := by decide +kernel
theorem dX12_digest_75 : decode cX12_digest 75 = .ok (.invokevirtual 308, 3) := by decide +kernel
theorem dX12_digest_78 : decode cX12_digest 78 = .ok (.lstore_n 1, 1) := by decide +kernel
theorem dX12_digest_79 : decode cX12_digest 79 = .ok (.aload_n 0, 1) := by decide +kernel
theorem dX12_digest_80 : decode cX12_digest 80 = .ok (.lload_n 1, 1) := by decide +kernel
theorem dX12_digest_81 : decode cX12_digest 81 = .ok (.bipush 42, 2) := by decide +kernel
theorem dX12_digest_83 : decode cX12_digest 83 = .ok (.iconst 4, 1) := by decide +kernel
theorem dX12_digest_84 : decode cX12_digest 84 = .ok (.aload_n 0, 1) := by decide +kernel
theorem dX12_digest_85 : decode cX12_digest 85 = .ok (.getfield 7, 3) := by decide +kernel
theorem dX12_digest_88 : decode cX12_digest 88 = .ok (.iconst 3, 1) := by decide +kernel
theorem dX12_digest_89 : decode cX12_digest 89 = .ok (.iaload, 1) := by decide +kernel
theorem dX12_digest_90 : decode cX12_digest 90 = .ok (.imul, 1) := by decide +kernel
theorem dX12_digest_91 : decode cX12_digest 91 = .ok (.invokevirtual 308, 3) := by decide +kernel
theorem dX12_digest_94 : decode cX12_digest 94 = .ok (.lstore_n 1, 1) := by decide +kernel
theorem dX12_digest_95 : decode cX12_digest 95 = .ok (.ldc2_w 304, 3) := by decide +kernel
theorem dX12_digest_98 : decode cX12_digest 98 = .ok (.ldc2_w 304, 3) := by decide +kernel
theorem dX12_digest_101 : decode cX12_digest 101 = .ok (.lload_n 1, 1) := by decide +kernel
theorem dX12_digest_102 : decode cX12_digest 102 = .ok (.lmul, 1) := by decide +kernel
theorem dX12_digest_103 : decode cX12_digest 103 = .ok (.aload_n 0, 1) := by decide +kernel
theorem dX12_digest_104 : decode cX12_digest 104 = .ok (.getfield 211, 3) := by decide +kernel
theorem dX12_digest_107 : decode cX12_digest 107 = .ok (.ladd, 1) := by decide +kernel
theorem dX12_digest_108 : decode cX12_digest 108 = .ok (.lmul, 1) := by decide +kernel
theorem dX12_digest_109 : decode cX12_digest 109 = .ok (.aload_n 0, 1) := by decide +kernel
theorem dX12_digest_110 : decode cX12_digest 110 = .ok (.getfield 23, 3) := by decide +kernel
theorem dX12_digest_113 : decode cX12_digest 113 = .ok (.ladd, 1) := by decide +kernel
theorem dX12_digest_114 : decode cX12_digest 114 = .ok (.lreturn, 1) := by decide +kernel
theorem dJ9_floorMod_7cf53_0 : decode cJ9_floorMod_7cf53 0 = .ok (.iload_n 0, 1) := by decide +kernel
theorem dJ9_floorMod_7cf53_1 : decode cJ9_floorMod_7cf53 1 = .ok (.iload_n 1, 1) := by decide +kernel
theorem dJ9_floorMod_7cf53_2 : decode cJ9_floorMod_7cf53 2 = .ok (.irem, 1) := by decide +kernel
theorem dJ9_floorMod_7cf53_3 : decode cJ9_floorMod_7cf53 3 = .ok (.istore_n 2, 1) := by decide +kernel
theorem dJ9_floorMod_7cf53_4 : decode cJ9_floorMod_7cf53 4 = .ok (.iload_n 0, 1) := by decide +kernel
theorem dJ9_floorMod_7cf53_5 : decode cJ9_floorMod_7cf53 5 = .ok (.iload_n 1, 1) := by decide +kernel
theorem dJ9_floorMod_7cf53_6 : decode cJ9_floorMod_7cf53 6 = .ok (.ixor, 1) := by decide +kernel
theorem dJ9_floorMod_7cf53_7 : decode cJ9_floorMod_7cf53 7 = .ok (.ifCond .ge 11, 3) := by decide +kernel
theorem dJ9_floorMod_7cf53_10 : decode cJ9_floorMod_7cf53 10 = .ok (.iload_n 2, 1) := by decide +kernel
theorem dJ9_floorMod_7cf53_11 : decode cJ9_floorMod_7cf53 11 = .ok (.ifCond .eq 7, 3) := by decide +kernel
theorem dJ9_floorMod_7cf53_14 : decode cJ9_floorMod_7cf53 14 = .ok (.iload_n 2, 1) := by decide +kernel
theorem dJ9_floorMod_7cf53_15 : decode cJ9_floorMod_7cf53 15 = .ok (.iload_n 1, 1) := by decide +kernel
theorem dJ9_floorMod_7cf53_16 : decode cJ9_floorMod_7cf53 16 = .ok (.iadd, 1) := by decide +kernel
theorem dJ9_floorMod_7cf53_17 : decode cJ9_floorMod_7cf53 17 = .ok (.ireturn, 1) := by decide +kernel
theorem dJ9_floorMod_7cf53_18 : decode cJ9_floorMod_7cf53 18 = .ok (.iload_n 2, 1) := by decide +kernel
theorem dJ9_floorMod_7cf53_19 : decode cJ9_floorMod_7cf53 19 = .ok (.ireturn, 1) := by decide +kernel
theorem dJ9_max_7cf53_0 : decode cJ9_max_7cf53 0 = .ok (.iload_n 0, 1) := by decide +kernel
theorem dJ9_max_7cf53_1 : decode cJ9_max_7cf53 1 = .ok (.iload_n 1, 1) := by decide +kernel
theorem dJ9_max_7cf53_2 : decode cJ9_max_7cf53 2 = .ok (.if_icmp .lt 7, 3) := by decide +kernel
theorem dJ9_max_7cf53_5 : decode cJ9_max_7cf53 5 = .ok (.iload_n 0, 1) := by decide +kernel
theorem dJ9_max_7cf53_6 : decode cJ9_max_7cf53 6 = .ok (.goto 4, 3) := by decide +kernel
theorem dJ9_max_7cf53_9 : decode cJ9_max_7cf53 9 = .ok (.iload_n 1, 1) := by decide +kernel
theorem dJ9_max_7cf53_10 : decode cJ9_max_7cf53 10 = .ok (.ireturn, 1) := by decide +kernel
theorem dJ9_min_7cf53_0 : decode cJ9_min_7cf53 0 = .ok (.iload_n 0, 1) := by decide +kernel
theorem dJ9_min_7cf53_1 : decode cJ9_min_7cf53 1 = .ok (.iload_n 1, 1) := by decide +kernel
theorem dJ9_min_7cf53_2 : decode cJ9_min_7cf53 2 = .ok (.if_icmp .gt 7, 3) := by decide +kernel
theorem dJ9_min_7cf53_5 : decode cJ9_min_7cf53 5 = .ok (.iload_n 0, 1) := by decide +kernel
theorem dJ9_min_7cf53_6 : decode cJ9_min_7cf53 6 = .ok (.goto 4, 3) := by decide +kernel
theorem dJ9_min_7cf53_9 : decode cJ9_min_7cf53 9 = .ok (.iload_n 1, 1) := by decide +kernel
theorem dJ9_min_7cf53_10 : decode cJ9_min_7cf53 10 = .ok (.ireturn, 1) := by decide +kernel
theorem dJ0_length_8abf5_0 : decode cJ0_length_8abf5 0 = .ok (.aload_n 0, 1) := by decide +kernel
theorem dJ0_length_8abf5_1 : decode cJ0_length_8abf5 1 = .ok (.getfield 9, 3) := by decide +kernel
theorem dJ0_length_8abf5_4 : decode cJ0_length_8abf5 4 = .ok (.arraylength, 1) := by decide +kernel
theorem dJ0_length_8abf5_5 : decode cJ0_length_8abf5 5 = .ok (.aload_n 0, 1) := by decide +kernel
theorem dJ0_length_8abf5_6 : decode cJ0_length_8abf5 6 = .ok (.invokevirtual 335, 3) := by decide +kernel
theorem dJ0_length_8abf5_9 : decode cJ0_length_8abf5 9 = .ok (.ishr, 1) := by decide +kernel
theorem dJ0_length_8abf5_10 : decode cJ0_length_8abf5 10 = .ok (.ireturn, 1) := by decide +kernel
theorem dJ0_charAt_5068e_0 : decode cJ0_charAt_5068e 0 = .ok (.aload_n 0, 1) := by decide +kernel
theorem dJ0_charAt_5068e_1 : decode cJ0_charAt_5068e 1 = .ok (.invokevirtual 492, 3) := by decide +kernel
theorem dJ0_charAt_5068e_4 : decode cJ0_charAt_5068e 4 = .ok (.ifCond .eq 12, 3) := by decide +kernel
theorem dJ0_charAt_5068e_7 : decode cJ0_charAt_5068e 7 = .ok (.aload_n 0, 1) := by decide +kernel
theorem dJ0_charAt_5068e_8 : decode cJ0_charAt_5068e 8 = .ok (.getfield 9, 3) := by decide +kernel
theorem dJ0_charAt_5068e_11 : decode cJ0_charAt_5068e 11 = .ok (.iload_n 1, 1) := by decide +kernel
theorem dJ0_charAt_5068e_12 : decode cJ0_charAt_5068e 12 = .ok (.invokestatic 495, 3) := by decide +kernel
theorem dJ0_charAt_5068e_15 : decode cJ0_charAt_5068e 15 = .ok (.ireturn, 1) := by decide +kernel
theorem dJ0_charAt_5068e_16 : decode cJ0_charAt_5068e 16 = .ok (.aload_n 0, 1) := by decide +kernel
theorem dJ0_charAt_5068e_17 : decode cJ0_charAt_5068e 17 = .ok (.getfield 9, 3) := by decide +kernel
theorem dJ0_charAt_5068e_20 : decode cJ0_charAt_5068e 20 = .ok (.iload_n 1, 1) := by decide +kernel
theorem dJ0_charAt_5068e_21 : decode cJ0_charAt_5068e 21 = .ok (.invokestatic 498, 3) := by decide +kernel
theorem dJ0_charAt_5068e_24 : decode cJ0_charAt_5068e 24 = .ok (.ireturn, 1) := by decide +kernel
theorem dJ0_coder_7d493_0 : decode cJ0_coder_7d493 0 = .ok (.getstatic 38, 3) := by decide +kernel
theorem dJ0_coder_7d493_3 : decode cJ0_coder_7d493 3 = .ok (.ifCond .eq 10, 3) := by decide +kernel
theorem dJ0_coder_7d493_6 : decode cJ0_coder_7d493 6 = .ok (.aload_n 0, 1) := by decide +kernel
theorem dJ0_coder_7d493_7 : decode cJ0_coder_7d493 7 = .ok (.getfield 15, 3) := by decide +kernel
theorem dJ0_coder_7d493_10 : decode cJ0_coder_7d493 10 = .ok (.goto 4, 3) := by decide +kernel
theorem dJ0_coder_7d493_13 : decode cJ0_coder_7d493 13 = .ok (.iconst 1, 1) := by decide +kernel
theorem dJ0_coder_7d493_14 : decode cJ0_coder_7d493 14 = .ok (.ireturn, 1) := by decide +kernel
theorem dJ0_isLatin1_aae02_0 : decode cJ0_isLatin1_aae02 0 = .ok (.getstatic 38, 3) := by decide +kernel
theorem dJ0_isLatin1_aae02_3 : decode cJ0_isLatin1_aae02 3 = .ok (.ifCond .eq 14, 3) := by decide +kernel
theorem dJ0_isLatin1_aae02_6 : decode cJ0_isLatin1_aae02 6 = .ok (.aload_n 0, 1) := by decide +kernel
theorem dJ0_isLatin1_aae02_7 : decode cJ0_isLatin1_aae02 7 = .ok (.getfield 15, 3) := by decide +kernel
theorem dJ0_isLatin1_aae02_10 : decode cJ0_isLatin1_aae02 10 = .ok (.ifCond .ne 7, 3) := by decide +kernel
theorem dJ0_isLatin1_aae02_13 : decode cJ0_isLatin1_aae02 13 = .ok (.iconst 1, 1) := by decide +kernel
theorem dJ0_isLatin1_aae02_14 : decode cJ0_isLatin1_aae02 14 = .ok (.goto 4, 3) := by decide +kernel
theorem dJ0_isLatin1_aae02_17 : decode cJ0_isLatin1_aae02 17 = .ok (.iconst 0, 1) := by decide +kernel
theorem dJ0_isLatin1_aae02_18 : decode cJ0_isLatin1_aae02 18 = .ok (.ireturn, 1) := by decide +kernel
theorem dJ0_checkIndex_df160_0 : decode cJ0_checkIndex_df160 0 = .ok (.iload_n 0, 1) := by decide +kernel
theorem dJ0_checkIndex_df160_1 : decode cJ0_checkIndex_df160 1 = .ok (.iload_n 1, 1) := by decide +kernel
theorem dJ0_checkIndex_df160_2 : decode cJ0_checkIndex_df160 2 = .ok (.getstatic 1053, 3) := by decide +kernel
theorem dJ0_checkIndex_df160_5 : decode cJ0_checkIndex_df160 5 = .ok (.invokestatic 1059, 3) := by decide +kernel
theorem dJ0_checkIndex_df160_8 : decode cJ0_checkIndex_df160 8 = .ok (.pop, 1) := by decide +kernel
theorem dJ0_checkIndex_df160_9 : decode cJ0_checkIndex_df160 9 = .ok (.return_, 1) := by decide +kernel
theorem dJ1_charAt_3b067_0 : decode cJ1_charAt_3b067 0 = .ok (.iload_n 1, 1) := by decide +kernel
theorem dJ1_charAt_3b067_1 : decode cJ1_charAt_3b067 1 = .ok (.aload_n 0, 1) := by decide +kernel
theorem dJ1_charAt_3b067_2 : decode cJ1_charAt_3b067 2 = .ok (.arraylength, 1) := by decide +kernel
theorem dJ1_charAt_3b067_3 : decode cJ1_charAt_3b067 3 = .ok (.invokestatic 9, 3) := by decide +kernel
theorem dJ1_charAt_3b067_6 : decode cJ1_charAt_3b067 6 = .ok (.aload_n 0, 1) := by decide +kernel
theorem dJ1_charAt_3b067_7 : decode cJ1_charAt_3b067 7 = .ok (.iload_n 1, 1) := by decide +kernel
theorem dJ1_charAt_3b067_8 : decode cJ1_charAt_3b067 8 = .ok (.baload, 1) := by decide +kernel
theorem dJ1_charAt_3b067_9 : decode cJ1_charAt_3b067 9 = .ok (.sipush 255, 3) := by decide +kernel
theorem dJ1_charAt_3b067_12 : decode cJ1_charAt_3b067 12 = .ok (.iand, 1) := by decide +kernel
theorem dJ1_charAt_3b067_13 : decode cJ1_charAt_3b067 13 = .ok (.i2c, 1) := by decide +kernel
theorem dJ1_charAt_3b067_14 : decode cJ1_charAt_3b067 14 = .ok (.ireturn, 1) := by decide +kernel
theorem dJ2_getChar_3b067_0 : decode cJ2_getChar_3b067 0 = .ok (.getstatic 44, 3) := by decide +kernel
theorem dJ2_getChar_3b067_3 : decode cJ2_getChar_3b067 3 = .ok (.ifCond .ne 25, 3) := by decide +kernel
theorem dJ2_getChar_3b067_6 : decode cJ2_getChar_3b067 6 = .ok (.iload_n 1, 1) := by decide +kernel
theorem dJ2_getChar_3b067_7 : decode cJ2_getChar_3b067 7 = .ok (.ifCond .lt 11, 3) := by decide +kernel
theorem dJ2_getChar_3b067_10 : decode cJ2_getChar_3b067 10 = .ok (.iload_n 1, 1) := by decide +kernel
theorem dJ2_getChar_3b067_11 : decode cJ2_getChar_3b067 11 = .ok (.aload_n 0, 1) := by decide +kernel
theorem dJ2_getChar_3b067_12 : decode cJ2_getChar_3b067 12 = .ok (.invokestatic 48, 3) := by decide +kernel
theorem dJ2_getChar_3b067_15 : decode cJ2_getChar_3b067 15 = .ok (.if_icmp .lt 13, 3) := by decide +kernel
theorem dJ2_getChar_3b067_18 : decode cJ2_getChar_3b067 18 = .ok (.new 52, 3) := by decide +kernel
theorem dJ2_getChar_3b067_21 : decode cJ2_getChar_3b067 21 = .ok (.dup, 1) := by decide +kernel
theorem dJ2_getChar_3b067_22 : decode cJ2_getChar_3b067 22 = .ok (.ldc 54, 2) := by decide +kernel
theorem dJ2_getChar_3b067_24 : decode cJ2_getChar_3b067 24 = .ok (.invokespecial 56, 3) := by decide +kernel
theorem dJ2_getChar_3b067_27 : decode cJ2_getChar_3b067 27 = .ok (.athrow, 1) := by decide +kernel
theorem dJ2_getChar_3b067_28 : decode cJ2_getChar_3b067 28 = .ok (.iload_n 1, 1) := by decide +kernel
theorem dJ2_getChar_3b067_29 : decode cJ2_getChar_3b067 29 = .ok (.iconst 1, 1) := by decide +kernel
theorem dJ2_getChar_3b067_30 : decode cJ2_getChar_3b067 30 = .ok (.ishl, 1) := by decide +kernel
theorem dJ2_getChar_3b067_31 : decode cJ2_getChar_3b067 31 = .ok (.istore_n 1, 1) := by decide +kernel
theorem dJ2_getChar_3b067_32 : decode cJ2_getChar_3b067 32 = .ok (.aload_n 0, 1) := by decide +kernel
theorem dJ2_getChar_3b067_33 : decode cJ2_getChar_3b067 33 = .ok (.iload_n 1, 1) := by decide +kernel
theorem dJ2_getChar_3b067_34 : decode cJ2_getChar_3b067 34 = .ok (.iinc 1 1, 3) := by decide +kernel
theorem dJ2_getChar_3b067_37 : decode cJ2_getChar_3b067 37 = .ok (.baload, 1) := by decide +kernel
theorem dJ2_getChar_3b067_38 : decode cJ2_getChar_3b067 38 = .ok (.sipush 255, 3) := by decide +kernel
theorem dJ2_getChar_3b067_41 : decode cJ2_getChar_3b067 41 = .ok (.iand, 1) := by decide +kernel
theorem dJ2_getChar_3b067_42 : decode cJ2_getChar_3b067 42 = .ok (.getstatic 59, 3) := by decide +kernel
theorem dJ2_getChar_3b067_45 : decode cJ2_getChar_3b067 45 = .ok (.ishl, 1) := by decide +kernel
theorem dJ2_getChar_3b067_46 : decode cJ2_getChar_3b067 46 = .ok (.aload_n 0, 1) := by decide +kernel
theorem dJ2_getChar_3b067_47 : decode cJ2_getChar_3b067 47 = .ok (.iload_n 1, 1) := by decide +kernel
theorem dJ2_getChar_3b067_48 : decode cJ2_getChar_3b067 48 = .ok (.baload, 1) := by decide +kernel
theorem dJ2_getChar_3b067_49 : decode cJ2_getChar_3b067 49 = .ok (.sipush 255, 3) := by decide +kernel
theorem dJ2_getChar_3b067_52 : decode cJ2_getChar_3b067 52 = .ok (.iand, 1) := by decide +kernel
theorem dJ2_getChar_3b067_53 : decode cJ2_getChar_3b067 53 = .ok (.getstatic 63, 3) := by decide +kernel
theorem dJ2_getChar_3b067_56 : decode cJ2_getChar_3b067 56 = .ok (.ishl, 1) := by decide +kernel
theorem dJ2_getChar_3b067_57 : decode cJ2_getChar_3b067 57 = .ok (.ior, 1) := by decide +kernel
theorem dJ2_getChar_3b067_58 : decode cJ2_getChar_3b067 58 = .ok (.i2c, 1) := by decide +kernel
theorem dJ2_getChar_3b067_59 : decode cJ2_getChar_3b067 59 = .ok (.ireturn, 1) := by decide +kernel
theorem dJ2_length_9d52b_0 : decode cJ2_length_9d52b 0 = .ok (.aload_n 0, 1) := by decide +kernel
theorem dJ2_length_9d52b_1 : decode cJ2_length_9d52b 1 = .ok (.arraylength, 1) := by decide +kernel
theorem dJ2_length_9d52b_2 : decode cJ2_length_9d52b 2 = .ok (.iconst 1, 1) := by decide +kernel
theorem dJ2_length_9d52b_3 : decode cJ2_length_9d52b 3 = .ok (.ishr, 1) := by decide +kernel
theorem dJ2_length_9d52b_4 : decode cJ2_length_9d52b 4 = .ok (.ireturn, 1) := by decide +kernel
theorem dJ2_charAt_3b067_0 : decode cJ2_charAt_3b067 0 = .ok (.iload_n 1, 1) := by decide +kernel
theorem dJ2_charAt_3b067_1 : decode cJ2_charAt_3b067 1 = .ok (.aload_n 0, 1) := by decide +kernel
theorem dJ2_charAt_3b067_2 : decode cJ2_charAt_3b067 2 = .ok (.invokestatic 67, 3) := by decide +kernel
theorem dJ2_charAt_3b067_5 : decode cJ2_charAt_3b067 5 = .ok (.aload_n 0, 1) := by decide +kernel
theorem dJ2_charAt_3b067_6 : decode cJ2_charAt_3b067 6 = .ok (.iload_n 1, 1) := by decide +kernel
theorem dJ2_charAt_3b067_7 : decode cJ2_charAt_3b067 7 = .ok (.invokestatic 71, 3) := by decide +kernel
theorem dJ2_charAt_3b067_10 : decode cJ2_charAt_3b067 10 = .ok (.ireturn, 1) := by decide +kernel
theorem dJ2_checkIndex_2214a_0 : decode cJ2_checkIndex_2214a 0 = .ok (.iload_n 0, 1) := by decide +kernel
theorem dJ2_checkIndex_2214a_1 : decode cJ2_checkIndex_2214a 1 = .ok (.aload_n 1, 1) := by decide +kernel
theorem dJ2_checkIndex_2214a_2 : decode cJ2_checkIndex_2214a 2 = .ok (.invokestatic 48, 3) := by decide +kernel
theorem dJ2_checkIndex_2214a_5 : decode cJ2_checkIndex_2214a 5 = .ok (.invokestatic 414, 3) := by decide +kernel
theorem dJ2_checkIndex_2214a_8 : decode cJ2_checkIndex_2214a 8 = .ok (.return_, 1) := by decide +kernel
theorem dJ3_checkIndex_8e157_0 : decode cJ3_checkIndex_8e157 0 = .ok (.iload_n 0, 1) := by decide +kernel
theorem dJ3_checkIndex_8e157_1 : decode cJ3_checkIndex_8e157 1 = .ok (.ifCond .lt 8, 3) := by decide +kernel
theorem dJ3_checkIndex_8e157_4 : decode cJ3_checkIndex_8e157 4 = .ok (.iload_n 0, 1) := by decide +kernel
theorem dJ3_checkIndex_8e157_5 : decode cJ3_checkIndex_8e157 5 = .ok (.iload_n 1, 1) := by decide +kernel
theorem dJ3_checkIndex_8e157_6 : decode cJ3_checkIndex_8e157 6 = .ok (.if_icmp .lt 10, 3) := by decide +kernel
theorem dJ3_checkIndex_8e157_9 : decode cJ3_checkIndex_8e157 9 = .ok (.aload_n 2, 1) := by decide +kernel
theorem dJ3_checkIndex_8e157_10 : decode cJ3_checkIndex_8e157 10 = .ok (.iload_n 0, 1) := by decide +kernel
theorem dJ3_checkIndex_8e157_11 : decode cJ3_checkIndex_8e157 11 = .ok (.iload_n 1, 1) := by decide +kernel
theorem dJ3_checkIndex_8e157_12 : decode cJ3_checkIndex_8e157 12 = .ok (.invokestatic 95, 3) := by decide +kernel
theorem dJ3_checkIndex_8e157_15 : decode cJ3_checkIndex_8e157 15 = .ok (.athrow, 1) := by decide +kernel
theorem dJ3_checkIndex_8e157_16 : decode cJ3_checkIndex_8e157 16 = .ok (.iload_n 0, 1) := by decide +kernel
theorem dJ3_checkIndex_8e157_17 : decode cJ3_checkIndex_8e157 17 = .ok (.ireturn, 1) := by decide +kernel
theorem dL_law_0 : decode cL_law 0 = .ok (.new 7, 3) := by decide +kernel
theorem dL_law_3 : decode cL_law 3 = .ok (.dup, 1) := by decide +kernel
theorem dL_law_4 : decode cL_law 4 = .ok (.invokespecial 9, 3) := by decide +kernel
theorem dL_law_7 : decode cL_law 7 = .ok (.astore_n 1, 1) := by decide +kernel
theorem dL_law_8 : decode cL_law 8 = .ok (.new 10, 3) := by decide +kernel
theorem dL_law_11 : decode cL_law 11 = .ok (.dup, 1) := by decide +kernel
theorem dL_law_12 : decode cL_law 12 = .ok (.invokespecial 12, 3) := by decide +kernel
theorem dL_law_15 : decode cL_law 15 = .ok (.astore_n 2, 1) := by decide +kernel
theorem dL_law_16 : decode cL_law 16 = .ok (.iconst 0, 1) := by decide +kernel
theorem dL_law_17 : decode cL_law 17 = .ok (.istore_n 3, 1) := by decide +kernel
theorem dL_law_18 : decode cL_law 18 = .ok (.iload_n 3, 1) := by decide +kernel
theorem dL_law_19 : decode cL_law 19 = .ok (.aload_n 0, 1) := by decide +kernel
theorem dL_law_20 : decode cL_law 20 = .ok (.arraylength, 1) := by decide +kernel
theorem dL_law_21 : decode cL_law 21 = .ok (.bipush 6, 2) := by decide +kernel
theorem dL_law_23 : decode cL_law 23 = .ok (.isub, 1) := by decide +kernel
theorem dL_law_24 : decode cL_law 24 = .ok (.if_icmp .gt 1049, 3) := by decide +kernel
theorem dL_law_27 : decode cL_law 27 = .ok (.aload_n 0, 1) := by decide +kernel
theorem dL_law_28 : decode cL_law 28 = .ok (.iload_n 3, 1) := by decide +kernel
theorem dL_law_29 : decode cL_law 29 = .ok (.iaload, 1) := by decide +kernel
theorem dL_law_30 : decode cL_law 30 = .ok (.bipush 31, 2) := by decide +kernel
theorem dL_law_32 : decode cL_law 32 = .ok (.iand, 1) := by decide +kernel
theorem dL_law_33 : decode cL_law 33 = .ok (.tableswitch 1034 0 30 #[139, 172, 205, 238, 271, 294, 307, 320, 343, 366, 379, 392, 425, 448, 501, 544, 567, 610, 643, 696, 709, 732, 755, 818, 861, 904, 928, 951, 974, 997, 1020], 139) := by decide +kernel
theorem dL_law_172 : decode cL_law 172 = .ok (.aload_n 1, 1) := by decide +kernel
theorem dL_law_173 : decode cL_law 173 = .ok (.aload_n 0, 1) := by decide +kernel
theorem dL_law_174 : decode cL_law 174 = .ok (.iload_n 3, 1) := by decide +kernel
theorem dL_law_175 : decode cL_law 175 = .ok (.iconst 1, 1) := by decide +kernel
theorem dL_law_176 : decode cL_law 176 = .ok (.iadd, 1) := by decide +kernel
theorem dL_law_177 : decode cL_law 177 = .ok (.iaload, 1) := by decide +kernel
theorem dL_law_178 : decode cL_law 178 = .ok (.aload_n 0, 1) := by decide +kernel
theorem dL_law_179 : decode cL_law 179 = .ok (.iload_n 3, 1) := by decide +kernel
theorem dL_law_180 : decode cL_law 180 = .ok (.iconst 2, 1) := by decide +kernel
theorem dL_law_181 : decode cL_law 181 = .ok (.iadd, 1) := by decide +kernel
theorem dL_law_182 : decode cL_law 182 = .ok (.iaload, 1) := by decide +kernel
theorem dL_law_183 : decode cL_law 183 = .ok (.invokevirtual 13, 3) := by decide +kernel
theorem dL_law_186 : decode cL_law 186 = .ok (.aload_n 2, 1) := by decide +kernel
theorem dL_law_187 : decode cL_law 187 = .ok (.aload_n 0, 1) := by decide +kernel
theorem dL_law_188 : decode cL_law 188 = .ok (.iload_n 3, 1) := by decide +kernel
theorem dL_law_189 : decode cL_law 189 = .ok (.iconst 1, 1) := by decide +kernel
theorem dL_law_190 : decode cL_law 190 = .ok (.iadd, 1) := by decide +kernel
theorem dL_law_191 : decode cL_law 191 = .ok (.iaload, 1) := by decide +kernel
theorem dL_law_192 : decode cL_law 192 = .ok (.aload_n 0, 1) := by decide +kernel
theorem dL_law_193 : decode cL_law 193 = .ok (.iload_n 3, 1) := by decide +kernel
theorem dL_law_194 : decode cL_law 194 = .ok (.iconst 2, 1) := by decide +kernel
theorem dL_law_195 : decode cL_law 195 = .ok (.iadd, 1) := by decide +kernel
theorem dL_law_196 : decode cL_law 196 = .ok (.iaload, 1) := by decide +kernel
theorem dL_law_197 : decode cL_law 197 = .ok (.invokevirtual 17, 3) := by decide +kernel
theorem dL_law_200 : decode cL_law 200 = .ok (.if_icmp .eq 867, 3) := by decide +kernel
theorem dL_law_203 : decode cL_law 203 = .ok (.iconst 0, 1) := by decide +kernel
theorem dL_law_204 : decode cL_law 204 = .ok (.ireturn, 1) := by decide +kernel
theorem dL_law_205 : decode cL_law 205 = .ok (.aload_n 1, 1) := by decide +kernel
theorem dL_law_206 : decode cL_law 206 = .ok (.aload_n 0, 1) := by decide +kernel
theorem dL_law_207 : decode cL_law 207 = .ok (.iload_n 3, 1) := by decide +kernel
theorem dL_law_208 : decode cL_law 208 = .ok (.iconst 1, 1) := by decide +kernel
theorem dL_law_209 : decode cL_law 209 = .ok (.iadd, 1) := by decide +kernel
theorem dL_law_210 : decode cL_law 210 = .ok (.iaload, 1) := by decide +kernel
theorem dL_law_211 : decode cL_law 211 = .ok (.aload_n 0, 1) := by decide +kernel
theorem dL_law_212 : decode cL_law 212 = .ok (.iload_n 3, 1) := by decide +kernel
theorem dL_law_213 : decode cL_law 213 = .ok (.iconst 2, 1) := by decide +kernel
theorem dL_law_214 : decode cL_law 214 = .ok (.iadd, 1) := by decide +kernel
theorem dL_law_215 : decode cL_law 215 = .ok (.iaload, 1) := by decide +kernel
theorem dL_law_216 : decode cL_law 216 = .ok (.invokevirtual 18, 3) := by decide +kernel
theorem dL_law_219 : decode cL_law 219 = .ok (.aload_n 2, 1) := by decide +kernel
theorem dL_law_220 : decode cL_law 220 = .ok (.aload_n 0, 1) := by decide +kernel
theorem dL_law_221 : decode cL_law 221 = .ok (.iload_n 3, 1) := by decide +kernel
theorem dL_law_222 : decode cL_law 222 = .ok (.iconst 1, 1) := by decide +kernel
theorem dL_law_223 : decode cL_law 223 = .ok (.iadd, 1) := by decide +kernel
theorem dL_law_224 : decode cL_law 224 = .ok (.iaload, 1) := by decide +kernel
theorem dL_law_225 : decode cL_law 225 = .ok (.aload_n 0, 1) := by decide +kernel
theorem dL_law_226 : decode cL_law 226 = .ok (.iload_n 3, 1) := by decide +kernel
theorem dL_law_227 : decode cL_law 227 = .ok (.iconst 2, 1) := by decide +kernel
theorem dL_law_228 : decode cL_law 228 = .ok (.iadd, 1) := by decide +kernel
theorem dL_law_229 : decode cL_law 229 = .ok (.iaload, 1) := by decide +kernel
theorem dL_law_230 : decode cL_law 230 = .ok (.invokevirtual 21, 3) := by decide +kernel
theorem dL_law_233 : decode cL_law 233 = .ok (.if_icmp .eq 834, 3) := by decide +kernel
theorem dL_law_236 : decode cL_law 236 = .ok (.iconst 0, 1) := by decide +kernel
theorem dL_law_237 : decode cL_law 237 = .ok (.ireturn, 1) := by decide +kernel
theorem dL_law_238 : decode cL_law 238 = .ok (.aload_n 1, 1) := by decide +kernel
theorem dL_law_239 : decode cL_law 239 = .ok (.aload_n 0, 1) := by decide +kernel
theorem dL_law_240 : decode cL_law 240 = .ok (.iload_n 3, 1) := by decide +kernel
theorem dL_law_241 : decode cL_law 241 = .ok (.iconst 1, 1) := by decide +kernel
theorem dL_law_242 : decode cL_law 242 = .ok (.iadd, 1) := by decide +kernel
theorem dL_law_243 : decode cL_law 243 = .ok (.iaload, 1) := by decide +kernel
theorem dL_law_244 : decode cL_law 244 = .ok (.aload_n 0, 1) := by decide +kernel
theorem dL_law_245 : decode cL_law 245 = .ok (.iload_n 3, 1) := by decide +kernel
theorem dL_law_246 : decode cL_law 246 = .ok (.iconst 2, 1) := by decide +kernel
theorem dL_law_247 : decode cL_law 247 = .ok (.iadd, 1) := by decide +kernel
theorem dL_law_248 : decode cL_law 248 = .ok (.iaload, 1) := by decide +kernel
theorem dL_law_249 : decode cL_law 249 = .ok (.invokevirtual 22, 3) := by decide +kernel
theorem dL_law_252 : decode cL_law 252 = .ok (.aload_n 2, 1) := by decide +kernel
theorem dL_law_253 : decode cL_law 253 = .ok (.aload_n 0, 1) := by decide +kernel
theorem dL_law_254 : decode cL_law 254 = .ok (.iload_n 3, 1) := by decide +kernel
theorem dL_law_255 : decode cL_law 255 = .ok (.iconst 1, 1) := by decide +kernel
theorem dL_law_256 : decode cL_law 256 = .ok (.iadd, 1) := by decide +kernel
theorem dL_law_257 : decode cL_law 257 = .ok (.iaload, 1) := by decide +kernel
theorem dL_law_258 : decode cL_law 258 = .ok (.aload_n 0, 1) := by decide +kernel
theorem dL_law_259 : decode cL_law 259 = .ok (.iload_n 3, 1) := by decide +kernel
theorem dL_law_260 : decode cL_law 260 = .ok (.iconst 2, 1) := by decide +kernel
theorem dL_law_261 : decode cL_law 261 = .ok (.iadd, 1) := by decide +kernel
theorem dL_law_262 : decode cL_law 262 = .ok (.iaload, 1) := by decide +kernel
theorem dL_law_263 : decode cL_law 263 = .ok (.invokevirtual 25, 3) := by decide +kernel
theorem dL_law_266 : decode cL_law 266 = .ok (.if_icmp .eq 801, 3) := by decide +kernel
theorem dL_law_269 : decode cL_law 269 = .ok (.iconst 0, 1) := by decide +kernel
theorem dL_law_270 : decode cL_law 270 = .ok (.ireturn, 1) := by decide +kernel
theorem dL_law_271 : decode cL_law 271 = .ok (.aload_n 1, 1) := by decide +kernel
theorem dL_law_272 : decode cL_law 272 = .ok (.aload_n 0, 1) := by decide +kernel
theorem dL_law_273 : decode cL_law 273 = .ok (.iload_n 3, 1) := by decide +kernel
theorem dL_law_274 : decode cL_law 274 = .ok (.iconst 1, 1) := by decide +kernel
theorem dL_law_275 : decode cL_law 275 = .ok (.iadd, 1) := by decide +kernel
theorem dL_law_276 : decode cL_law 276 = .ok (.iaload, 1) := by decide +kernel
theorem dL_law_277 : decode cL_law 277 = .ok (.aload_n 0, 1) := by decide +kernel
theorem dL_law_278 : decode cL_law 278 = .ok (.iload_n 3, 1) := by decide +kernel
theorem dL_law_279 : decode cL_law 279 = .ok (.iconst 2, 1) := by decide +kernel
theorem dL_law_280 : decode cL_law 280 = .ok (.iadd, 1) := by decide +kernel
theorem dL_law_281 : decode cL_law 281 = .ok (.iaload, 1) := by decide +kernel
theorem dL_law_282 : decode cL_law 282 = .ok (.invokevirtual 26, 3) := by decide +kernel
theorem dL_law_285 : decode cL_law 285 = .ok (.aload_n 2, 1) := by decide +kernel
theorem dL_law_286 : decode cL_law 286 = .ok (.aload_n 0, 1) := by decide +kernel
theorem dL_law_287 : decode cL_law 287 = .ok (.iload_n 3, 1) := by decide +kernel
theorem dL_law_288 : decode cL_law 288 = .ok (.iconst 1, 1) := by decide +kernel
theorem dL_law_289 : decode cL_law 289 = .ok (.iadd, 1) := by decide +kernel
theorem dL_law_290 : decode cL_law 290 = .ok (.iaload, 1) := by decide +kernel
theorem dL_law_291 : decode cL_law 291 = .ok (.aload_n 0, 1) := by decide +kernel
theorem dL_law_292 : decode cL_law 292 = .ok (.iload_n 3, 1) := by decide +kernel
theorem dL_law_293 : decode cL_law 293 = .ok (.iconst 2, 1) := by decide +kernel
theorem dL_law_294 : decode cL_law 294 = .ok (.iadd, 1) := by decide +kernel
theorem dL_law_295 : decode cL_law 295 = .ok (.iaload, 1) := by decide +kernel
theorem dL_law_296 : decode cL_law 296 = .ok (.invokevirtual 29, 3) := by decide +kernel
theorem dL_law_299 : decode cL_law 299 = .ok (.if_icmp .eq 768, 3) := by decide +kernel
theorem dL_law_302 : decode cL_law 302 = .ok (.iconst 0, 1) := by decide +kernel
theorem dL_law_303 : decode cL_law 303 = .ok (.ireturn, 1) := by decide +kernel
theorem dL_law_304 : decode cL_law 304 = .ok (.aload_n 1, 1) := by decide +kernel
theorem dL_law_305 : decode cL_law 305 = .ok (.aload_n 0, 1) := by decide +kernel
theorem dL_law_306 : decode cL_law 306 = .ok (.iload_n 3, 1) := by decide +kernel
theorem dL_law_307 : decode cL_law 307 = .ok (.iconst 1, 1) := by decide +kernel
theorem dL_law_308 : decode cL_law 308 = .ok (.iadd, 1) := by decide +kernel
theorem dL_law_309 : decode cL_law 309 = .ok (.iaload, 1) := by decide +kernel
theorem dL_law_310 : decode cL_law 310 = .ok (.invokevirtual 30, 3) := by decide +kernel
theorem dL_law_313 : decode cL_law 313 = .ok (.aload_n 2, 1) := by decide +kernel
theorem dL_law_314 : decode cL_law 314 = .ok (.aload_n 0, 1) := by decide +kernel
theorem dL_law_315 : decode cL_law 315 = .ok (.iload_n 3, 1) := by decide +kernel
theorem dL_law_316 : decode cL_law 316 = .ok (.iconst 1, 1) := by decide +kernel
theorem dL_law_317 : decode cL_law 317 = .ok (.iadd, 1) := by decide +kernel
theorem dL_law_318 : decode cL_law 318 = .ok (.iaload, 1) := by decide +kernel
theorem dL_law_319 : decode cL_law 319 = .ok (.invokevirtual 34, 3) := by decide +kernel
theorem dL_law_322 : decode cL_law 322 = .ok (.if_icmp .eq 745, 3) := by decide +kernel
theorem dL_law_325 : decode cL_law 325 = .ok (.iconst 0, 1) := by decide +kernel
theorem dL_law_326 : decode cL_law 326 = .ok (.ireturn, 1) := by decide +kernel
theorem dL_law_327 : decode cL_law 327 = .ok (.aload_n 1, 1) := by decide +kernel
theorem dL_law_328 : decode cL_law 328 = .ok (.invokevirtual 35, 3) := by decide +kernel
theorem dL_law_331 : decode cL_law 331 = .ok (.aload_n 2, 1) := by decide +kernel
theorem dL_law_332 : decode cL_law 332 = .ok (.invokevirtual 39, 3) := by decide +kernel
theorem dL_law_335 : decode cL_law 335 = .ok (.if_icmp .eq 732, 3) := by decide +kernel
theorem dL_law_338 : decode cL_law 338 = .ok (.iconst 0, 1) := by decide +kernel
theorem dL_law_339 : decode cL_law 339 = .ok (.ireturn, 1) := by decide +kernel
theorem dL_law_340 : decode cL_law 340 = .ok (.aload_n 1, 1) := by decide +kernel
theorem dL_law_341 : decode cL_law 341 = .ok (.invokevirtual 40, 3) := by decide +kernel
theorem dL_law_344 : decode cL_law 344 = .ok (.aload_n 2, 1) := by decide +kernel
theorem dL_law_345 : decode cL_law 345 = .ok (.invokevirtual 43, 3) := by decide +kernel
theorem dL_law_348 : decode cL_law 348 = .ok (.if_icmp .eq 719, 3) := by decide +kernel
theorem dL_law_351 : decode cL_law 351 = .ok (.iconst 0, 1) := by decide +kernel
theorem dL_law_352 : decode cL_law 352 = .ok (.ireturn, 1) := by decide +kernel
theorem dL_law_353 : decode cL_law 353 = .ok (.aload_n 1, 1) := by decide +kernel
theorem dL_law_354 : decode cL_law 354 = .ok (.aload_n 0, 1) := by decide +kernel
theorem dL_law_355 : decode cL_law 355 = .ok (.iload_n 3, 1) := by decide +kernel
theorem dL_law_356 : decode cL_law 356 = .ok (.iconst 1, 1) := by decide +kernel
theorem dL_law_357 : decode cL_law 357 = .ok (.iadd, 1) := by decide +kernel
theorem dL_law_358 : decode cL_law 358 = .ok (.iaload, 1) := by decide +kernel
theorem dL_law_359 : decode cL_law 359 = .ok (.invokevirtual 44, 3) := by decide +kernel
theorem dL_law_362 : decode cL_law 362 = .ok (.aload_n 2, 1) := by decide +kernel
theorem dL_law_363 : decode cL_law 363 = .ok (.aload_n 0, 1) := by decide +kernel
theorem dL_law_364 : decode cL_law 364 = .ok (.iload_n 3, 1) := by decide +kernel
theorem dL_law_365 : decode cL_law 365 = .ok (.iconst 1, 1) := by decide +kernel
theorem dL_law_366 : decode cL_law 366 = .ok (.iadd, 1) := by decide +kernel
theorem dL_law_367 : decode cL_law 367 = .ok (.iaload, 1) := by decide +kernel
theorem dL_law_368 : decode cL_law 368 = .ok (.invokevirtual 47, 3) := by decide +kernel
theorem dL_law_371 : decode cL_law 371 = .ok (.if_icmp .eq 696, 3) := by decide +kernel
theorem dL_law_374 : decode cL_law 374 = .ok (.iconst 0, 1) := by decide +kernel
theorem dL_law_375 : decode cL_law 375 = .ok (.ireturn, 1) := by decide +kernel
theorem dL_law_376 : decode cL_law 376 = .ok (.aload_n 1, 1) := by decide +kernel
theorem dL_law_377 : decode cL_law 377 = .ok (.aload_n 0, 1) := by decide +kernel
theorem dL_law_378 : decode cL_law 378 = .ok (.iload_n 3, 1) := by decide +kernel
theorem dL_law_379 : decode cL_law 379 = .ok (.iconst 1, 1) := by decide +kernel
theorem dL_law_380 : decode cL_law 380 = .ok (.iadd, 1) := by decide +kernel
theorem dL_law_381 : decode cL_law 381 = .ok (.iaload, 1) := by decide +kernel
theorem dL_law_382 : decode cL_law 382 = .ok (.invokevirtual 48, 3) := by decide +kernel
theorem dL_law_385 : decode cL_law 385 = .ok (.aload_n 2, 1) := by decide +kernel
theorem dL_law_386 : decode cL_law 386 = .ok (.aload_n 0, 1) := by decide +kernel
theorem dL_law_387 : decode cL_law 387 = .ok (.iload_n 3, 1) := by decide +kernel
theorem dL_law_388 : decode cL_law 388 = .ok (.iconst 1, 1) := by decide +kernel
theorem dL_law_389 : decode cL_law 389 = .ok (.iadd, 1) := by decide +kernel
theorem dL_law_390 : decode cL_law 390 = .ok (.iaload, 1) := by decide +kernel
theorem dL_law_391 : decode cL_law 391 = .ok (.invokevirtual 51, 3) := by decide +kernel
theorem dL_law_394 : decode cL_law 394 = .ok (.if_icmp .eq 673, 3) := by decide +kernel
theorem dL_law_397 : decode cL_law 397 = .ok (.iconst 0, 1) := by decide +kernel
theorem dL_law_398 : decode cL_law 398 = .ok (.ireturn, 1) := by decide +kernel
theorem dL_law_399 : decode cL_law 399 = .ok (.aload_n 1, 1) := by decide +kernel
theorem dL_law_400 : decode cL_law 400 = .ok (.invokevirtual 52, 3) := by decide +kernel
theorem dL_law_403 : decode cL_law 403 = .ok (.aload_n 2, 1) := by decide +kernel
theorem dL_law_404 : decode cL_law 404 = .ok (.invokevirtual 55, 3) := by decide +kernel
theorem dL_law_407 : decode cL_law 407 = .ok (.if_icmp .eq 660, 3) := by decide +kernel
theorem dL_law_410 : decode cL_law 410 = .ok (.iconst 0, 1) := by decide +kernel
theorem dL_law_411 : decode cL_law 411 = .ok (.ireturn, 1) := by decide +kernel
theorem dL_law_412 : decode cL_law 412 = .ok (.aload_n 1, 1) := by decide +kernel
theorem dL_law_413 : decode cL_law 413 = .ok (.invokevirtual 56, 3) := by decide +kernel
theorem dL_law_416 : decode cL_law 416 = .ok (.aload_n 2, 1) := by decide +kernel
theorem dL_law_417 : decode cL_law 417 = .ok (.invokevirtual 59, 3) := by decide +kernel
theorem dL_law_420 : decode cL_law 420 = .ok (.if_icmp .eq 647, 3) := by decide +kernel
theorem dL_law_423 : decode cL_law 423 = .ok (.iconst 0, 1) := by decide +kernel
theorem dL_law_424 : decode cL_law 424 = .ok (.ireturn, 1) := by decide +kernel
theorem dL_law_425 : decode cL_law 425 = .ok (.aload_n 1, 1) := by decide +kernel
theorem dL_law_426 : decode cL_law 426 = .ok (.aload_n 0, 1) := by decide +kernel
theorem dL_law_427 : decode cL_law 427 = .ok (.iload_n 3, 1) := by decide +kernel
theorem dL_law_428 : decode cL_law 428 = .ok (.iconst 1, 1) := by decide +kernel
theorem dL_law_429 : decode cL_law 429 = .ok (.iadd, 1) := by decide +kernel
theorem dL_law_430 : decode cL_law 430 = .ok (.iaload, 1) := by decide +kernel
theorem dL_law_431 : decode cL_law 431 = .ok (.aload_n 0, 1) := by decide +kernel
theorem dL_law_432 : decode cL_law 432 = .ok (.iload_n 3, 1) := by decide +kernel
theorem dL_law_433 : decode cL_law 433 = .ok (.iconst 2, 1) := by decide +kernel
theorem dL_law_434 : decode cL_law 434 = .ok (.iadd, 1) := by decide +kernel
theorem dL_law_435 : decode cL_law 435 = .ok (.iaload, 1) := by decide +kernel
theorem dL_law_436 : decode cL_law 436 = .ok (.invokevirtual 60, 3) := by decide +kernel
theorem dL_law_439 : decode cL_law 439 = .ok (.aload_n 2, 1) := by decide +kernel
theorem dL_law_440 : decode cL_law 440 = .ok (.aload_n 0, 1) := by decide +kernel
theorem dL_law_441 : decode cL_law 441 = .ok (.iload_n 3, 1) := by decide +kernel
theorem dL_law_442 : decode cL_law 442 = .ok (.iconst 1, 1) := by decide +kernel
theorem dL_law_443 : decode cL_law 443 = .ok (.iadd, 1) := by decide +kernel
theorem dL_law_444 : decode cL_law 444 = .ok (.iaload, 1) := by decide +kernel
theorem dL_law_445 : decode cL_law 445 = .ok (.aload_n 0, 1) := by decide +kernel
theorem dL_law_446 : decode cL_law 446 = .ok (.iload_n 3, 1) := by decide +kernel
theorem dL_law_447 : decode cL_law 447 = .ok (.iconst 2, 1) := by decide +kernel
theorem dL_law_448 : decode cL_law 448 = .ok (.iadd, 1) := by decide +kernel
theorem dL_law_449 : decode cL_law 449 = .ok (.iaload, 1) := by decide +kernel
theorem dL_law_450 : decode cL_law 450 = .ok (.invokevirtual 63, 3) := by decide +kernel
theorem dL_law_453 : decode cL_law 453 = .ok (.if_icmp .eq 614, 3) := by decide +kernel
theorem dL_law_456 : decode cL_law 456 = .ok (.iconst 0, 1) := by decide +kernel
theorem dL_law_457 : decode cL_law 457 = .ok (.ireturn, 1) := by decide +kernel
theorem dL_law_458 : decode cL_law 458 = .ok (.aload_n 1, 1) := by decide +kernel
theorem dL_law_459 : decode cL_law 459 = .ok (.aload_n 0, 1) := by decide +kernel
theorem dL_law_460 : decode cL_law 460 = .ok (.iload_n 3, 1) := by decide +kernel
theorem dL_law_461 : decode cL_law 461 = .ok (.iconst 1, 1) := by decide +kernel
theorem dL_law_462 : decode cL_law 462 = .ok (.iadd, 1) := by decide +kernel
theorem dL_law_463 : decode cL_law 463 = .ok (.iaload, 1) := by decide +kernel
theorem dL_law_464 : decode cL_law 464 = .ok (.invokevirtual 64, 3) := by decide +kernel
theorem dL_law_467 : decode cL_law 467 = .ok (.aload_n 2, 1) := by decide +kernel
theorem dL_law_468 : decode cL_law 468 = .ok (.aload_n 0, 1) := by decide +kernel
theorem dL_law_469 : decode cL_law 469 = .ok (.iload_n 3, 1) := by decide +kernel
theorem dL_law_470 : decode cL_law 470 = .ok (.iconst 1, 1) := by decide +kernel
theorem dL_law_471 : decode cL_law 471 = .ok (.iadd, 1) := by decide +kernel
theorem dL_law_472 : decode cL_law 472 = .ok (.iaload, 1) := by decide +kernel
theorem dL_law_473 : decode cL_law 473 = .ok (.invokevirtual 67, 3) := by decide +kernel
theorem dL_law_476 : decode cL_law 476 = .ok (.if_icmp .eq 591, 3) := by decide +kernel
theorem dL_law_479 : decode cL_law 479 = .ok (.iconst 0, 1) := by decide +kernel
theorem dL_law_480 : decode cL_law 480 = .ok (.ireturn, 1) := by decide +kernel
theorem dL_law_481 : decode cL_law 481 = .ok (.aload_n 1, 1) := by decide +kernel
theorem dL_law_482 : decode cL_law 482 = .ok (.aload_n 0, 1) := by decide +kernel
theorem dL_law_483 : decode cL_law 483 = .ok (.iload_n 3, 1) := by decide +kernel
theorem dL_law_484 : decode cL_law 484 = .ok (.iconst 1, 1) := by decide +kernel
theorem dL_law_485 : decode cL_law 485 = .ok (.iadd, 1) := by decide +kernel
theorem dL_law_486 : decode cL_law 486 = .ok (.iaload, 1) := by decide +kernel
theorem dL_law_487 : decode cL_law 487 = .ok (.aload_n 0, 1) := by decide +kernel
theorem dL_law_488 : decode cL_law 488 = .ok (.iload_n 3, 1) := by decide +kernel
theorem dL_law_489 : decode cL_law 489 = .ok (.iconst 2, 1) := by decide +kernel
theorem dL_law_490 : decode cL_law 490 = .ok (.iadd, 1) := by decide +kernel
theorem dL_law_491 : decode cL_law 491 = .ok (.iaload, 1) := by decide +kernel
theorem dL_law_492 : decode cL_law 492 = .ok (.aload_n 0, 1) := by decide +kernel
theorem dL_law_493 : decode cL_law 493 = .ok (.iload_n 3, 1) := by decide +kernel
theorem dL_law_494 : decode cL_law 494 = .ok (.iconst 3, 1) := by decide +kernel
theorem dL_law_495 : decode cL_law 495 = .ok (.iadd, 1) := by decide +kernel
theorem dL_law_496 : decode cL_law 496 = .ok (.iaload, 1) := by decide +kernel
theorem dL_law_497 : decode cL_law 497 = .ok (.aload_n 0, 1) := by decide +kernel
theorem dL_law_498 : decode cL_law 498 = .ok (.iload_n 3, 1) := by decide +kernel
theorem dL_law_499 : decode cL_law 499 = .ok (.iconst 4, 1) := by decide +kernel
theorem dL_law_500 : decode cL_law 500 = .ok (.iadd, 1) := by decide +kernel
theorem dL_law_501 : decode cL_law 501 = .ok (.iaload, 1) := by decide +kernel
theorem dL_law_502 : decode cL_law 502 = .ok (.invokevirtual 68, 3) := by decide +kernel
theorem dL_law_505 : decode cL_law 505 = .ok (.aload_n 2, 1) := by decide +kernel
theorem dL_law_506 : decode cL_law 506 = .ok (.aload_n 0, 1) := by decide +kernel
theorem dL_law_507 : decode cL_law 507 = .ok (.iload_n 3, 1) := by decide +kernel
theorem dL_law_508 : decode cL_law 508 = .ok (.iconst 1, 1) := by decide +kernel
theorem dL_law_509 : decode cL_law 509 = .ok (.iadd, 1) := by decide +kernel
theorem dL_law_510 : decode cL_law 510 = .ok (.iaload, 1) := by decide +kernel
theorem dL_law_511 : decode cL_law 511 = .ok (.aload_n 0, 1) := by decide +kernel
theorem dL_law_512 : decode cL_law 512 = .ok (.iload_n 3, 1) := by decide +kernel
theorem dL_law_513 : decode cL_law 513 = .ok (.iconst 2, 1) := by decide +kernel
theorem dL_law_514 : decode cL_law 514 = .ok (.iadd, 1) := by decide +kernel
theorem dL_law_515 : decode cL_law 515 = .ok (.iaload, 1) := by decide +kernel
theorem dL_law_516 : decode cL_law 516 = .ok (.aload_n 0, 1) := by decide +kernel
theorem dL_law_517 : decode cL_law 517 = .ok (.iload_n 3, 1) := by decide +kernel
theorem dL_law_518 : decode cL_law 518 = .ok (.iconst 3, 1) := by decide +kernel
theorem dL_law_519 : decode cL_law 519 = .ok (.iadd, 1) := by decide +kernel
theorem dL_law_520 : decode cL_law 520 = .ok (.iaload, 1) := by decide +kernel
theorem dL_law_521 : decode cL_law 521 = .ok (.aload_n 0, 1) := by decide +kernel
theorem dL_law_522 : decode cL_law 522 = .ok (.iload_n 3, 1) := by decide +kernel
theorem dL_law_523 : decode cL_law 523 = .ok (.iconst 4, 1) := by decide +kernel
theorem dL_law_524 : decode cL_law 524 = .ok (.iadd, 1) := by decide +kernel
theorem dL_law_525 : decode cL_law 525 = .ok (.iaload, 1) := by decide +kernel
theorem dL_law_526 : decode cL_law 526 = .ok (.invokevirtual 72, 3) := by decide +kernel
theorem dL_law_529 : decode cL_law 529 = .ok (.if_icmp .eq 538, 3) := by decide +kernel
theorem dL_law_532 : decode cL_law 532 = .ok (.iconst 0, 1) := by decide +kernel
theorem dL_law_533 : decode cL_law 533 = .ok (.ireturn, 1) := by decide +kernel
theorem dL_law_534 : decode cL_law 534 = .ok (.aload_n 1, 1) := by decide +kernel
theorem dL_law_535 : decode cL_law 535 = .ok (.aload_n 0, 1) := by decide +kernel
theorem dL_law_536 : decode cL_law 536 = .ok (.iload_n 3, 1) := by decide +kernel
theorem dL_law_537 : decode cL_law 537 = .ok (.iconst 1, 1) := by decide +kernel
theorem dL_law_538 : decode cL_law 538 = .ok (.iadd, 1) := by decide +kernel
theorem dL_law_539 : decode cL_law 539 = .ok (.iaload, 1) := by decide +kernel
theorem dL_law_540 : decode cL_law 540 = .ok (.aload_n 0, 1) := by decide +kernel
theorem dL_law_541 : decode cL_law 541 = .ok (.iload_n 3, 1) := by decide +kernel
theorem dL_law_542 : decode cL_law 542 = .ok (.iconst 2, 1) := by decide +kernel
theorem dL_law_543 : decode cL_law 543 = .ok (.iadd, 1) := by decide +kernel
theorem dL_law_544 : decode cL_law 544 = .ok (.iaload, 1) := by decide +kernel
theorem dL_law_545 : decode cL_law 545 = .ok (.aload_n 0, 1) := by decide +kernel
theorem dL_law_546 : decode cL_law 546 = .ok (.iload_n 3, 1) := by decide +kernel
theorem dL_law_547 : decode cL_law 547 = .ok (.iconst 3, 1) := by decide +kernel
theorem dL_law_548 : decode cL_law 548 = .ok (.iadd, 1) := by decide +kernel
theorem dL_law_549 : decode cL_law 549 = .ok (.iaload, 1) := by decide +kernel
theorem dL_law_550 : decode cL_law 550 = .ok (.invokevirtual 73, 3) := by decide +kernel
theorem dL_law_553 : decode cL_law 553 = .ok (.aload_n 2, 1) := by decide +kernel
theorem dL_law_554 : decode cL_law 554 = .ok (.aload_n 0, 1) := by decide +kernel
theorem dL_law_555 : decode cL_law 555 = .ok (.iload_n 3, 1) := by decide +kernel
theorem dL_law_556 : decode cL_law 556 = .ok (.iconst 1, 1) := by decide +kernel
theorem dL_law_557 : decode cL_law 557 = .ok (.iadd, 1) := by decide +kernel
theorem dL_law_558 : decode cL_law 558 = .ok (.iaload, 1) := by decide +kernel
theorem dL_law_559 : decode cL_law 559 = .ok (.aload_n 0, 1) := by decide +kernel
theorem dL_law_560 : decode cL_law 560 = .ok (.iload_n 3, 1) := by decide +kernel
theorem dL_law_561 : decode cL_law 561 = .ok (.iconst 2, 1) := by decide +kernel
theorem dL_law_562 : decode cL_law 562 = .ok (.iadd, 1) := by decide +kernel
theorem dL_law_563 : decode cL_law 563 = .ok (.iaload, 1) := by decide +kernel
theorem dL_law_564 : decode cL_law 564 = .ok (.aload_n 0, 1) := by decide +kernel
theorem dL_law_565 : decode cL_law 565 = .ok (.iload_n 3, 1) := by decide +kernel
theorem dL_law_566 : decode cL_law 566 = .ok (.iconst 3, 1) := by decide +kernel
theorem dL_law_567 : decode cL_law 567 = .ok (.iadd, 1) := by decide +kernel
theorem dL_law_568 : decode cL_law 568 = .ok (.iaload, 1) := by decide +kernel
theorem dL_law_569 : decode cL_law 569 = .ok (.invokevirtual 77, 3) := by decide +kernel
theorem dL_law_572 : decode cL_law 572 = .ok (.if_icmp .eq 495, 3) := by decide +kernel
theorem dL_law_575 : decode cL_law 575 = .ok (.iconst 0, 1) := by decide +kernel
theorem dL_law_576 : decode cL_law 576 = .ok (.ireturn, 1) := by decide +kernel
theorem dL_law_577 : decode cL_law 577 = .ok (.aload_n 1, 1) := by decide +kernel
theorem dL_law_578 : decode cL_law 578 = .ok (.aload_n 0, 1) := by decide +kernel
theorem dL_law_579 : decode cL_law 579 = .ok (.iload_n 3, 1) := by decide +kernel
theorem dL_law_580 : decode cL_law 580 = .ok (.iconst 1, 1) := by decide +kernel
theorem dL_law_581 : decode cL_law 581 = .ok (.iadd, 1) := by decide +kernel
theorem dL_law_582 : decode cL_law 582 = .ok (.iaload, 1) := by decide +kernel
theorem dL_law_583 : decode cL_law 583 = .ok (.invokevirtual 78, 3) := by decide +kernel
theorem dL_law_586 : decode cL_law 586 = .ok (.aload_n 2, 1) := by decide +kernel
theorem dL_law_587 : decode cL_law 587 = .ok (.aload_n 0, 1) := by decide +kernel
theorem dL_law_588 : decode cL_law 588 = .ok (.iload_n 3, 1) := by decide +kernel
theorem dL_law_589 : decode cL_law 589 = .ok (.iconst 1, 1) := by decide +kernel
theorem dL_law_590 : decode cL_law 590 = .ok (.iadd, 1) := by decide +kernel
theorem dL_law_591 : decode cL_law 591 = .ok (.iaload, 1) := by decide +kernel
theorem dL_law_592 : decode cL_law 592 = .ok (.invokevirtual 81, 3) := by decide +kernel
theorem dL_law_595 : decode cL_law 595 = .ok (.if_icmp .eq 472, 3) := by decide +kernel
theorem dL_law_598 : decode cL_law 598 = .ok (.iconst 0, 1) := by decide +kernel
theorem dL_law_599 : decode cL_law 599 = .ok (.ireturn, 1) := by decide +kernel
theorem dL_law_600 : decode cL_law 600 = .ok (.aload_n 1, 1) := by decide +kernel
theorem dL_law_601 : decode cL_law 601 = .ok (.aload_n 0, 1) := by decide +kernel
theorem dL_law_602 : decode cL_law 602 = .ok (.iload_n 3, 1) := by decide +kernel
theorem dL_law_603 : decode cL_law 603 = .ok (.iconst 1, 1) := by decide +kernel
theorem dL_law_604 : decode cL_law 604 = .ok (.iadd, 1) := by decide +kernel
theorem dL_law_605 : decode cL_law 605 = .ok (.iaload, 1) := by decide +kernel
theorem dL_law_606 : decode cL_law 606 = .ok (.aload_n 0, 1) := by decide +kernel
theorem dL_law_607 : decode cL_law 607 = .ok (.iload_n 3, 1) := by decide +kernel
theorem dL_law_608 : decode cL_law 608 = .ok (.iconst 2, 1) := by decide +kernel
theorem dL_law_609 : decode cL_law 609 = .ok (.iadd, 1) := by decide +kernel
theorem dL_law_610 : decode cL_law 610 = .ok (.iaload, 1) := by decide +kernel
theorem dL_law_611 : decode cL_law 611 = .ok (.aload_n 0, 1) := by decide +kernel
theorem dL_law_612 : decode cL_law 612 = .ok (.iload_n 3, 1) := by decide +kernel
theorem dL_law_613 : decode cL_law 613 = .ok (.iconst 3, 1) := by decide +kernel
theorem dL_law_614 : decode cL_law 614 = .ok (.iadd, 1) := by decide +kernel
theorem dL_law_615 : decode cL_law 615 = .ok (.iaload, 1) := by decide +kernel
theorem dL_law_616 : decode cL_law 616 = .ok (.invokevirtual 82, 3) := by decide +kernel
theorem dL_law_619 : decode cL_law 619 = .ok (.aload_n 2, 1) := by decide +kernel
theorem dL_law_620 : decode cL_law 620 = .ok (.aload_n 0, 1) := by decide +kernel
theorem dL_law_621 : decode cL_law 621 = .ok (.iload_n 3, 1) := by decide +kernel
theorem dL_law_622 : decode cL_law 622 = .ok (.iconst 1, 1) := by decide +kernel
theorem dL_law_623 : decode cL_law 623 = .ok (.iadd, 1) := by decide +kernel
theorem dL_law_624 : decode cL_law 624 = .ok (.iaload, 1) := by decide +kernel
theorem dL_law_625 : decode cL_law 625 = .ok (.aload_n 0, 1) := by decide +kernel
theorem dL_law_626 : decode cL_law 626 = .ok (.iload_n 3, 1) := by decide +kernel
theorem dL_law_627 : decode cL_law 627 = .ok (.iconst 2, 1) := by decide +kernel
theorem dL_law_628 : decode cL_law 628 = .ok (.iadd, 1) := by decide +kernel
theorem dL_law_629 : decode cL_law 629 = .ok (.iaload, 1) := by decide +kernel
theorem dL_law_630 : decode cL_law 630 = .ok (.aload_n 0, 1) := by decide +kernel
theorem dL_law_631 : decode cL_law 631 = .ok (.iload_n 3, 1) := by decide +kernel
theorem dL_law_632 : decode cL_law 632 = .ok (.iconst 3, 1) := by decide +kernel
theorem dL_law_633 : decode cL_law 633 = .ok (.iadd, 1) := by decide +kernel
theorem dL_law_634 : decode cL_law 634 = .ok (.iaload, 1) := by decide +kernel
theorem dL_law_635 : decode cL_law 635 = .ok (.invokevirtual 85, 3) := by decide +kernel
theorem dL_law_638 : decode cL_law 638 = .ok (.if_icmp .eq 429, 3) := by decide +kernel
theorem dL_law_641 : decode cL_law 641 = .ok (.iconst 0, 1) := by decide +kernel
theorem dL_law_642 : decode cL_law 642 = .ok (.ireturn, 1) := by decide +kernel
theorem dL_law_643 : decode cL_law 643 = .ok (.aload_n 1, 1) := by decide +kernel
theorem dL_law_644 : decode cL_law 644 = .ok (.aload_n 0, 1) := by decide +kernel
theorem dL_law_645 : decode cL_law 645 = .ok (.iload_n 3, 1) := by decide +kernel
theorem dL_law_646 : decode cL_law 646 = .ok (.iconst 1, 1) := by decide +kernel
theorem dL_law_647 : decode cL_law 647 = .ok (.iadd, 1) := by decide +kernel
theorem dL_law_648 : decode cL_law 648 = .ok (.iaload, 1) := by decide +kernel
theorem dL_law_649 : decode cL_law 649 = .ok (.aload_n 0, 1) := by decide +kernel
theorem dL_law_650 : decode cL_law 650 = .ok (.iload_n 3, 1) := by decide +kernel
theorem dL_law_651 : decode cL_law 651 = .ok (.iconst 2, 1) := by decide +kernel
theorem dL_law_652 : decode cL_law 652 = .ok (.iadd, 1) := by decide +kernel
theorem dL_law_653 : decode cL_law 653 = .ok (.iaload, 1) := by decide +kernel
theorem dL_law_654 : decode cL_law 654 = .ok (.invokevirtual 86, 3) := by decide +kernel
theorem dL_law_657 : decode cL_law 657 = .ok (.aload_n 2, 1) := by decide +kernel
theorem dL_law_658 : decode cL_law 658 = .ok (.aload_n 0, 1) := by decide +kernel
theorem dL_law_659 : decode cL_law 659 = .ok (.iload_n 3, 1) := by decide +kernel
theorem dL_law_660 : decode cL_law 660 = .ok (.iconst 1, 1) := by decide +kernel
theorem dL_law_661 : decode cL_law 661 = .ok (.iadd, 1) := by decide +kernel
theorem dL_law_662 : decode cL_law 662 = .ok (.iaload, 1) := by decide +kernel
theorem dL_law_663 : decode cL_law 663 = .ok (.aload_n 0, 1) := by decide +kernel
theorem dL_law_664 : decode cL_law 664 = .ok (.iload_n 3, 1) := by decide +kernel
theorem dL_law_665 : decode cL_law 665 = .ok (.iconst 2, 1) := by decide +kernel
theorem dL_law_666 : decode cL_law 666 = .ok (.iadd, 1) := by decide +kernel
theorem dL_law_667 : decode cL_law 667 = .ok (.iaload, 1) := by decide +kernel
theorem dL_law_668 : decode cL_law 668 = .ok (.invokevirtual 89, 3) := by decide +kernel
theorem dL_law_671 : decode cL_law 671 = .ok (.if_icmp .eq 396, 3) := by decide +kernel
theorem dL_law_674 : decode cL_law 674 = .ok (.iconst 0, 1) := by decide +kernel
theorem dL_law_675 : decode cL_law 675 = .ok (.ireturn, 1) := by decide +kernel
theorem dL_law_676 : decode cL_law 676 = .ok (.aload_n 1, 1) := by decide +kernel
theorem dL_law_677 : decode cL_law 677 = .ok (.aload_n 0, 1) := by decide +kernel
theorem dL_law_678 : decode cL_law 678 = .ok (.iload_n 3, 1) := by decide +kernel
theorem dL_law_679 : decode cL_law 679 = .ok (.iconst 1, 1) := by decide +kernel
theorem dL_law_680 : decode cL_law 680 = .ok (.iadd, 1) := by decide +kernel
theorem dL_law_681 : decode cL_law 681 = .ok (.iaload, 1) := by decide +kernel
theorem dL_law_682 : decode cL_law 682 = .ok (.aload_n 0, 1) := by decide +kernel
theorem dL_law_683 : decode cL_law 683 = .ok (.iload_n 3, 1) := by decide +kernel
theorem dL_law_684 : decode cL_law 684 = .ok (.iconst 2, 1) := by decide +kernel
theorem dL_law_685 : decode cL_law 685 = .ok (.iadd, 1) := by decide +kernel
theorem dL_law_686 : decode cL_law 686 = .ok (.iaload, 1) := by decide +kernel
theorem dL_law_687 : decode cL_law 687 = .ok (.aload_n 0, 1) := by decide +kernel
theorem dL_law_688 : decode cL_law 688 = .ok (.iload_n 3, 1) := by decide +kernel
theorem dL_law_689 : decode cL_law 689 = .ok (.iconst 3, 1) := by decide +kernel
theorem dL_law_690 : decode cL_law 690 = .ok (.iadd, 1) := by decide +kernel
theorem dL_law_691 : decode cL_law 691 = .ok (.iaload, 1) := by decide +kernel
theorem dL_law_692 : decode cL_law 692 = .ok (.aload_n 0, 1) := by decide +kernel
theorem dL_law_693 : decode cL_law 693 = .ok (.iload_n 3, 1) := by decide +kernel
theorem dL_law_694 : decode cL_law 694 = .ok (.iconst 4, 1) := by decide +kernel
theorem dL_law_695 : decode cL_law 695 = .ok (.iadd, 1) := by decide +kernel
theorem dL_law_696 : decode cL_law 696 = .ok (.iaload, 1) := by decide +kernel
theorem dL_law_697 : decode cL_law 697 = .ok (.invokevirtual 90, 3) := by decide +kernel
theorem dL_law_700 : decode cL_law 700 = .ok (.aload_n 2, 1) := by decide +kernel
theorem dL_law_701 : decode cL_law 701 = .ok (.aload_n 0, 1) := by decide +kernel
theorem dL_law_702 : decode cL_law 702 = .ok (.iload_n 3, 1) := by decide +kernel
theorem dL_law_703 : decode cL_law 703 = .ok (.iconst 1, 1) := by decide +kernel
theorem dL_law_704 : decode cL_law 704 = .ok (.iadd, 1) := by decide +kernel
theorem dL_law_705 : decode cL_law 705 = .ok (.iaload, 1) := by decide +kernel
theorem dL_law_706 : decode cL_law 706 = .ok (.aload_n 0, 1) := by decide +kernel
theorem dL_law_707 : decode cL_law 707 = .ok (.iload_n 3, 1) := by decide +kernel
theorem dL_law_708 : decode cL_law 708 = .ok (.iconst 2, 1) := by decide +kernel
theorem dL_law_709 : decode cL_law 709 = .ok (.iadd, 1) := by decide +kernel
theorem dL_law_710 : decode cL_law 710 = .ok (.iaload, 1) := by decide +kernel
theorem dL_law_711 : decode cL_law 711 = .ok (.aload_n 0, 1) := by decide +kernel
theorem dL_law_712 : decode cL_law 712 = .ok (.iload_n 3, 1) := by decide +kernel
theorem dL_law_713 : decode cL_law 713 = .ok (.iconst 3, 1) := by decide +kernel
theorem dL_law_714 : decode cL_law 714 = .ok (.iadd, 1) := by decide +kernel
theorem dL_law_715 : decode cL_law 715 = .ok (.iaload, 1) := by decide +kernel
theorem dL_law_716 : decode cL_law 716 = .ok (.aload_n 0, 1) := by decide +kernel
theorem dL_law_717 : decode cL_law 717 = .ok (.iload_n 3, 1) := by decide +kernel
theorem dL_law_718 : decode cL_law 718 = .ok (.iconst 4, 1) := by decide +kernel
theorem dL_law_719 : decode cL_law 719 = .ok (.iadd, 1) := by decide +kernel
theorem dL_law_720 : decode cL_law 720 = .ok (.iaload, 1) := by decide +kernel
theorem dL_law_721 : decode cL_law 721 = .ok (.invokevirtual 93, 3) := by decide +kernel
theorem dL_law_724 : decode cL_law 724 = .ok (.if_icmp .eq 343, 3) := by decide +kernel
theorem dL_law_727 : decode cL_law 727 = .ok (.iconst 0, 1) := by decide +kernel
theorem dL_law_728 : decode cL_law 728 = .ok (.ireturn, 1) := by decide +kernel
theorem dL_law_729 : decode cL_law 729 = .ok (.aload_n 1, 1) := by decide +kernel
theorem dL_law_730 : decode cL_law 730 = .ok (.invokevirtual 94, 3) := by decide +kernel
theorem dL_law_733 : decode cL_law 733 = .ok (.aload_n 2, 1) := by decide +kernel
theorem dL_law_734 : decode cL_law 734 = .ok (.invokevirtual 97, 3) := by decide +kernel
theorem dL_law_737 : decode cL_law 737 = .ok (.if_icmp .eq 330, 3) := by decide +kernel
theorem dL_law_740 : decode cL_law 740 = .ok (.iconst 0, 1) := by decide +kernel
theorem dL_law_741 : decode cL_law 741 = .ok (.ireturn, 1) := by decide +kernel
theorem dL_law_742 : decode cL_law 742 = .ok (.aload_n 1, 1) := by decide +kernel
theorem dL_law_743 : decode cL_law 743 = .ok (.aload_n 0, 1) := by decide +kernel
theorem dL_law_744 : decode cL_law 744 = .ok (.iload_n 3, 1) := by decide +kernel
theorem dL_law_745 : decode cL_law 745 = .ok (.iconst 1, 1) := by decide +kernel
theorem dL_law_746 : decode cL_law 746 = .ok (.iadd, 1) := by decide +kernel
theorem dL_law_747 : decode cL_law 747 = .ok (.iaload, 1) := by decide +kernel
theorem dL_law_748 : decode cL_law 748 = .ok (.invokevirtual 98, 3) := by decide +kernel
theorem dL_law_751 : decode cL_law 751 = .ok (.aload_n 2, 1) := by decide +kernel
theorem dL_law_752 : decode cL_law 752 = .ok (.aload_n 0, 1) := by decide +kernel
theorem dL_law_753 : decode cL_law 753 = .ok (.iload_n 3, 1) := by decide +kernel
theorem dL_law_754 : decode cL_law 754 = .ok (.iconst 1, 1) := by decide +kernel
theorem dL_law_755 : decode cL_law 755 = .ok (.iadd, 1) := by decide +kernel
theorem dL_law_756 : decode cL_law 756 = .ok (.iaload, 1) := by decide +kernel
theorem dL_law_757 : decode cL_law 757 = .ok (.invokevirtual 101, 3) := by decide +kernel
theorem dL_law_760 : decode cL_law 760 = .ok (.if_icmp .eq 307, 3) := by decide +kernel
theorem dL_law_763 : decode cL_law 763 = .ok (.iconst 0, 1) := by decide +kernel
theorem dL_law_764 : decode cL_law 764 = .ok (.ireturn, 1) := by decide +kernel
theorem dL_law_765 : decode cL_law 765 = .ok (.aload_n 1, 1) := by decide +kernel
theorem dL_law_766 : decode cL_law 766 = .ok (.aload_n 0, 1) := by decide +kernel
theorem dL_law_767 : decode cL_law 767 = .ok (.iload_n 3, 1) := by decide +kernel
theorem dL_law_768 : decode cL_law 768 = .ok (.iconst 1, 1) := by decide +kernel
theorem dL_law_769 : decode cL_law 769 = .ok (.iadd, 1) := by decide +kernel
theorem dL_law_770 : decode cL_law 770 = .ok (.iaload, 1) := by decide +kernel
theorem dL_law_771 : decode cL_law 771 = .ok (.invokevirtual 102, 3) := by decide +kernel
theorem dL_law_774 : decode cL_law 774 = .ok (.aload_n 2, 1) := by decide +kernel
theorem dL_law_775 : decode cL_law 775 = .ok (.aload_n 0, 1) := by decide +kernel
theorem dL_law_776 : decode cL_law 776 = .ok (.iload_n 3, 1) := by decide +kernel
theorem dL_law_777 : decode cL_law 777 = .ok (.iconst 1, 1) := by decide +kernel
theorem dL_law_778 : decode cL_law 778 = .ok (.iadd, 1) := by decide +kernel
theorem dL_law_779 : decode cL_law 779 = .ok (.iaload, 1) := by decide +kernel
theorem dL_law_780 : decode cL_law 780 = .ok (.invokevirtual 105, 3) := by decide +kernel
theorem dL_law_783 : decode cL_law 783 = .ok (.if_icmp .eq 284, 3) := by decide +kernel
theorem dL_law_786 : decode cL_law 786 = .ok (.iconst 0, 1) := by decide +kernel
theorem dL_law_787 : decode cL_law 787 = .ok (.ireturn, 1) := by decide +kernel
theorem dL_law_788 : decode cL_law 788 = .ok (.aload_n 1, 1) := by decide +kernel
theorem dL_law_789 : decode cL_law 789 = .ok (.aload_n 0, 1) := by decide +kernel
theorem dL_law_790 : decode cL_law 790 = .ok (.iload_n 3, 1) := by decide +kernel
theorem dL_law_791 : decode cL_law 791 = .ok (.iconst 1, 1) := by decide +kernel
theorem dL_law_792 : decode cL_law 792 = .ok (.iadd, 1) := by decide +kernel
theorem dL_law_793 : decode cL_law 793 = .ok (.iaload, 1) := by decide +kernel
theorem dL_law_794 : decode cL_law 794 = .ok (.aload_n 0, 1) := by decide +kernel
theorem dL_law_795 : decode cL_law 795 = .ok (.iload_n 3, 1) := by decide +kernel
theorem dL_law_796 : decode cL_law 796 = .ok (.iconst 2, 1) := by decide +kernel
theorem dL_law_797 : decode cL_law 797 = .ok (.iadd, 1) := by decide +kernel
theorem dL_law_798 : decode cL_law 798 = .ok (.iaload, 1) := by decide +kernel
theorem dL_law_799 : decode cL_law 799 = .ok (.aload_n 0, 1) := by decide +kernel
theorem dL_law_800 : decode cL_law 800 = .ok (.iload_n 3, 1) := by decide +kernel
theorem dL_law_801 : decode cL_law 801 = .ok (.iconst 3, 1) := by decide +kernel
theorem dL_law_802 : decode cL_law 802 = .ok (.iadd, 1) := by decide +kernel
theorem dL_law_803 : decode cL_law 803 = .ok (.iaload, 1) := by decide +kernel
theorem dL_law_804 : decode cL_law 804 = .ok (.aload_n 0, 1) := by decide +kernel
theorem dL_law_805 : decode cL_law 805 = .ok (.iload_n 3, 1) := by decide +kernel
theorem dL_law_806 : decode cL_law 806 = .ok (.iconst 4, 1) := by decide +kernel
theorem dL_law_807 : decode cL_law 807 = .ok (.iadd, 1) := by decide +kernel
theorem dL_law_808 : decode cL_law 808 = .ok (.iaload, 1) := by decide +kernel
theorem dL_law_809 : decode cL_law 809 = .ok (.aload_n 0, 1) := by decide +kernel
theorem dL_law_810 : decode cL_law 810 = .ok (.iload_n 3, 1) := by decide +kernel
theorem dL_law_811 : decode cL_law 811 = .ok (.iconst 5, 1) := by decide +kernel
theorem dL_law_812 : decode cL_law 812 = .ok (.iadd, 1) := by decide +kernel
theorem dL_law_813 : decode cL_law 813 = .ok (.iaload, 1) := by decide +kernel
theorem dL_law_814 : decode cL_law 814 = .ok (.invokevirtual 106, 3) := by decide +kernel
theorem dL_law_817 : decode cL_law 817 = .ok (.aload_n 2, 1) := by decide +kernel
theorem dL_law_818 : decode cL_law 818 = .ok (.aload_n 0, 1) := by decide +kernel
theorem dL_law_819 : decode cL_law 819 = .ok (.iload_n 3, 1) := by decide +kernel
theorem dL_law_820 : decode cL_law 820 = .ok (.iconst 1, 1) := by decide +kernel
theorem dL_law_821 : decode cL_law 821 = .ok (.iadd, 1) := by decide +kernel
theorem dL_law_822 : decode cL_law 822 = .ok (.iaload, 1) := by decide +kernel
theorem dL_law_823 : decode cL_law 823 = .ok (.aload_n 0, 1) := by decide +kernel
theorem dL_law_824 : decode cL_law 824 = .ok (.iload_n 3, 1) := by decide +kernel
theorem dL_law_825 : decode cL_law 825 = .ok (.iconst 2, 1) := by decide +kernel
theorem dL_law_826 : decode cL_law 826 = .ok (.iadd, 1) := by decide +kernel
theorem dL_law_827 : decode cL_law 827 = .ok (.iaload, 1) := by decide +kernel
theorem dL_law_828 : decode cL_law 828 = .ok (.aload_n 0, 1) := by decide +kernel
theorem dL_law_829 : decode cL_law 829 = .ok (.iload_n 3, 1) := by decide +kernel
theorem dL_law_830 : decode cL_law 830 = .ok (.iconst 3, 1) := by decide +kernel
theorem dL_law_831 : decode cL_law 831 = .ok (.iadd, 1) := by decide +kernel
theorem dL_law_832 : decode cL_law 832 = .ok (.iaload, 1) := by decide +kernel
theorem dL_law_833 : decode cL_law 833 = .ok (.aload_n 0, 1) := by decide +kernel
theorem dL_law_834 : decode cL_law 834 = .ok (.iload_n 3, 1) := by decide +kernel
theorem dL_law_835 : decode cL_law 835 = .ok (.iconst 4, 1) := by decide +kernel
theorem dL_law_836 : decode cL_law 836 = .ok (.iadd, 1) := by decide +kernel
theorem dL_law_837 : decode cL_law 837 = .ok (.iaload, 1) := by decide +kernel
theorem dL_law_838 : decode cL_law 838 = .ok (.aload_n 0, 1) := by decide +kernel
theorem dL_law_839 : decode cL_law 839 = .ok (.iload_n 3, 1) := by decide +kernel
theorem dL_law_840 : decode cL_law 840 = .ok (.iconst 5, 1) := by decide +kernel
theorem dL_law_841 : decode cL_law 841 = .ok (.iadd, 1) := by decide +kernel
theorem dL_law_842 : decode cL_law 842 = .ok (.iaload, 1) := by decide +kernel
theorem dL_law_843 : decode cL_law 843 = .ok (.invokevirtual 110, 3) := by decide +kernel
theorem dL_law_846 : decode cL_law 846 = .ok (.if_icmp .eq 221, 3) := by decide +kernel
theorem dL_law_849 : decode cL_law 849 = .ok (.iconst 0, 1) := by decide +kernel
theorem dL_law_850 : decode cL_law 850 = .ok (.ireturn, 1) := by decide +kernel
theorem dL_law_851 : decode cL_law 851 = .ok (.aload_n 1, 1) := by decide +kernel
theorem dL_law_852 : decode cL_law 852 = .ok (.aload_n 0, 1) := by decide +kernel
theorem dL_law_853 : decode cL_law 853 = .ok (.iload_n 3, 1) := by decide +kernel
theorem dL_law_854 : decode cL_law 854 = .ok (.iconst 1, 1) := by decide +kernel
theorem dL_law_855 : decode cL_law 855 = .ok (.iadd, 1) := by decide +kernel
theorem dL_law_856 : decode cL_law 856 = .ok (.iaload, 1) := by decide +kernel
theorem dL_law_857 : decode cL_law 857 = .ok (.aload_n 0, 1) := by decide +kernel
theorem dL_law_858 : decode cL_law 858 = .ok (.iload_n 3, 1) := by decide +kernel
theorem dL_law_859 : decode cL_law 859 = .ok (.iconst 2, 1) := by decide +kernel
theorem dL_law_860 : decode cL_law 860 = .ok (.iadd, 1) := by decide +kernel
theorem dL_law_861 : decode cL_law 861 = .ok (.iaload, 1) := by decide +kernel
theorem dL_law_862 : decode cL_law 862 = .ok (.aload_n 0, 1) := by decide +kernel
theorem dL_law_863 : decode cL_law 863 = .ok (.iload_n 3, 1) := by decide +kernel
theorem dL_law_864 : decode cL_law 864 = .ok (.iconst 3, 1) := by decide +kernel
theorem dL_law_865 : decode cL_law 865 = .ok (.iadd, 1) := by decide +kernel
theorem dL_law_866 : decode cL_law 866 = .ok (.iaload, 1) := by decide +kernel
theorem dL_law_867 : decode cL_law 867 = .ok (.invokevirtual 111, 3) := by decide +kernel
theorem dL_law_870 : decode cL_law 870 = .ok (.aload_n 2, 1) := by decide +kernel
theorem dL_law_871 : decode cL_law 871 = .ok (.aload_n 0, 1) := by decide +kernel
theorem dL_law_872 : decode cL_law 872 = .ok (.iload_n 3, 1) := by decide +kernel
theorem dL_law_873 : decode cL_law 873 = .ok (.iconst 1, 1) := by decide +kernel
theorem dL_law_874 : decode cL_law 874 = .ok (.iadd, 1) := by decide +kernel
theorem dL_law_875 : decode cL_law 875 = .ok (.iaload, 1) := by decide +kernel
theorem dL_law_876 : decode cL_law 876 = .ok (.aload_n 0, 1) := by decide +kernel
theorem dL_law_877 : decode cL_law 877 = .ok (.iload_n 3, 1) := by decide +kernel
theorem dL_law_878 : decode cL_law 878 = .ok (.iconst 2, 1) := by decide +kernel
theorem dL_law_879 : decode cL_law 879 = .ok (.iadd, 1) := by decide +kernel
theorem dL_law_880 : decode cL_law 880 = .ok (.iaload, 1) := by decide +kernel
theorem dL_law_881 : decode cL_law 881 = .ok (.aload_n 0, 1) := by decide +kernel
theorem dL_law_882 : decode cL_law 882 = .ok (.iload_n 3, 1) := by decide +kernel
theorem dL_law_883 : decode cL_law 883 = .ok (.iconst 3, 1) := by decide +kernel
theorem dL_law_884 : decode cL_law 884 = .ok (.iadd, 1) := by decide +kernel
theorem dL_law_885 : decode cL_law 885 = .ok (.iaload, 1) := by decide +kernel
theorem dL_law_886 : decode cL_law 886 = .ok (.invokevirtual 114, 3) := by decide +kernel
theorem dL_law_889 : decode cL_law 889 = .ok (.if_icmp .eq 178, 3) := by decide +kernel
theorem dL_law_892 : decode cL_law 892 = .ok (.iconst 0, 1) := by decide +kernel
theorem dL_law_893 : decode cL_law 893 = .ok (.ireturn, 1) := by decide +kernel
theorem dL_law_894 : decode cL_law 894 = .ok (.aload_n 1, 1) := by decide +kernel
theorem dL_law_895 : decode cL_law 895 = .ok (.aload_n 0, 1) := by decide +kernel
theorem dL_law_896 : decode cL_law 896 = .ok (.iload_n 3, 1) := by decide +kernel
theorem dL_law_897 : decode cL_law 897 = .ok (.iconst 1, 1) := by decide +kernel
theorem dL_law_898 : decode cL_law 898 = .ok (.iadd, 1) := by decide +kernel
theorem dL_law_899 : decode cL_law 899 = .ok (.iaload, 1) := by decide +kernel
theorem dL_law_900 : decode cL_law 900 = .ok (.aload_n 0, 1) := by decide +kernel
theorem dL_law_901 : decode cL_law 901 = .ok (.iload_n 3, 1) := by decide +kernel
theorem dL_law_902 : decode cL_law 902 = .ok (.iconst 2, 1) := by decide +kernel
theorem dL_law_903 : decode cL_law 903 = .ok (.iadd, 1) := by decide +kernel
theorem dL_law_904 : decode cL_law 904 = .ok (.iaload, 1) := by decide +kernel
theorem dL_law_905 : decode cL_law 905 = .ok (.aload_n 0, 1) := by decide +kernel
theorem dL_law_906 : decode cL_law 906 = .ok (.iload_n 3, 1) := by decide +kernel
theorem dL_law_907 : decode cL_law 907 = .ok (.iconst 3, 1) := by decide +kernel
theorem dL_law_908 : decode cL_law 908 = .ok (.iadd, 1) := by decide +kernel
theorem dL_law_909 : decode cL_law 909 = .ok (.iaload, 1) := by decide +kernel
theorem dL_law_910 : decode cL_law 910 = .ok (.invokevirtual 115, 3) := by decide +kernel
theorem dL_law_913 : decode cL_law 913 = .ok (.aload_n 2, 1) := by decide +kernel
theorem dL_law_914 : decode cL_law 914 = .ok (.aload_n 0, 1) := by decide +kernel
theorem dL_law_915 : decode cL_law 915 = .ok (.iload_n 3, 1) := by decide +kernel
theorem dL_law_916 : decode cL_law 916 = .ok (.iconst 1, 1) := by decide +kernel
theorem dL_law_917 : decode cL_law 917 = .ok (.iadd, 1) := by decide +kernel
theorem dL_law_918 : decode cL_law 918 = .ok (.iaload, 1) := by decide +kernel
theorem dL_law_919 : decode cL_law 919 = .ok (.aload_n 0, 1) := by decide +kernel
theorem dL_law_920 : decode cL_law 920 = .ok (.iload_n 3, 1) := by decide +kernel
theorem dL_law_921 : decode cL_law 921 = .ok (.iconst 2, 1) := by decide +kernel
theorem dL_law_922 : decode cL_law 922 = .ok (.iadd, 1) := by decide +kernel
theorem dL_law_923 : decode cL_law 923 = .ok (.iaload, 1) := by decide +kernel
theorem dL_law_924 : decode cL_law 924 = .ok (.aload_n 0, 1) := by decide +kernel
theorem dL_law_925 : decode cL_law 925 = .ok (.iload_n 3, 1) := by decide +kernel
theorem dL_law_926 : decode cL_law 926 = .ok (.iconst 3, 1) := by decide +kernel
theorem dL_law_927 : decode cL_law 927 = .ok (.iadd, 1) := by decide +kernel
theorem dL_law_928 : decode cL_law 928 = .ok (.iaload, 1) := by decide +kernel
theorem dL_law_929 : decode cL_law 929 = .ok (.invokevirtual 118, 3) := by decide +kernel
theorem dL_law_932 : decode cL_law 932 = .ok (.if_icmp .eq 135, 3) := by decide +kernel
theorem dL_law_935 : decode cL_law 935 = .ok (.iconst 0, 1) := by decide +kernel
theorem dL_law_936 : decode cL_law 936 = .ok (.ireturn, 1) := by decide +kernel
theorem dL_law_937 : decode cL_law 937 = .ok (.aload_n 1, 1) := by decide +kernel
theorem dL_law_938 : decode cL_law 938 = .ok (.aload_n 0, 1) := by decide +kernel
theorem dL_law_939 : decode cL_law 939 = .ok (.iload_n 3, 1) := by decide +kernel
theorem dL_law_940 : decode cL_law 940 = .ok (.iconst 1, 1) := by decide +kernel
theorem dL_law_941 : decode cL_law 941 = .ok (.iadd, 1) := by decide +kernel
theorem dL_law_942 : decode cL_law 942 = .ok (.iaload, 1) := by decide +kernel
theorem dL_law_943 : decode cL_law 943 = .ok (.invokevirtual 119, 3) := by decide +kernel
theorem dL_law_946 : decode cL_law 946 = .ok (.aload_n 2, 1) := by decide +kernel
theorem dL_law_947 : decode cL_law 947 = .ok (.aload_n 0, 1) := by decide +kernel
theorem dL_law_948 : decode cL_law 948 = .ok (.iload_n 3, 1) := by decide +kernel
theorem dL_law_949 : decode cL_law 949 = .ok (.iconst 1, 1) := by decide +kernel
theorem dL_law_950 : decode cL_law 950 = .ok (.iadd, 1) := by decide +kernel
theorem dL_law_951 : decode cL_law 951 = .ok (.iaload, 1) := by decide +kernel
theorem dL_law_952 : decode cL_law 952 = .ok (.invokevirtual 123, 3) := by decide +kernel
theorem dL_law_955 : decode cL_law 955 = .ok (.lcmp, 1) := by decide +kernel
theorem dL_law_956 : decode cL_law 956 = .ok (.ifCond .eq 111, 3) := by decide +kernel
theorem dL_law_959 : decode cL_law 959 = .ok (.iconst 0, 1) := by decide +kernel
theorem dL_law_960 : decode cL_law 960 = .ok (.ireturn, 1) := by decide +kernel
theorem dL_law_961 : decode cL_law 961 = .ok (.aload_n 1, 1) := by decide +kernel
theorem dL_law_962 : decode cL_law 962 = .ok (.aload_n 0, 1) := by decide +kernel
theorem dL_law_963 : decode cL_law 963 = .ok (.iload_n 3, 1) := by decide +kernel
theorem dL_law_964 : decode cL_law 964 = .ok (.iconst 1, 1) := by decide +kernel
theorem dL_law_965 : decode cL_law 965 = .ok (.iadd, 1) := by decide +kernel
theorem dL_law_966 : decode cL_law 966 = .ok (.iaload, 1) := by decide +kernel
theorem dL_law_967 : decode cL_law 967 = .ok (.invokevirtual 124, 3) := by decide +kernel
theorem dL_law_970 : decode cL_law 970 = .ok (.aload_n 2, 1) := by decide +kernel
theorem dL_law_971 : decode cL_law 971 = .ok (.aload_n 0, 1) := by decide +kernel
theorem dL_law_972 : decode cL_law 972 = .ok (.iload_n 3, 1) := by decide +kernel
theorem dL_law_973 : decode cL_law 973 = .ok (.iconst 1, 1) := by decide +kernel
theorem dL_law_974 : decode cL_law 974 = .ok (.iadd, 1) := by decide +kernel
theorem dL_law_975 : decode cL_law 975 = .ok (.iaload, 1) := by decide +kernel
theorem dL_law_976 : decode cL_law 976 = .ok (.invokevirtual 127, 3) := by decide +kernel
theorem dL_law_979 : decode cL_law 979 = .ok (.if_icmp .eq 88, 3) := by decide +kernel
theorem dL_law_982 : decode cL_law 982 = .ok (.iconst 0, 1) := by decide +kernel
theorem dL_law_983 : decode cL_law 983 = .ok (.ireturn, 1) := by decide +kernel
theorem dL_law_984 : decode cL_law 984 = .ok (.aload_n 1, 1) := by decide +kernel
theorem dL_law_985 : decode cL_law 985 = .ok (.aload_n 0, 1) := by decide +kernel
theorem dL_law_986 : decode cL_law 986 = .ok (.iload_n 3, 1) := by decide +kernel
theorem dL_law_987 : decode cL_law 987 = .ok (.iconst 1, 1) := by decide +kernel
theorem dL_law_988 : decode cL_law 988 = .ok (.iadd, 1) := by decide +kernel
theorem dL_law_989 : decode cL_law 989 = .ok (.iaload, 1) := by decide +kernel
theorem dL_law_990 : decode cL_law 990 = .ok (.invokevirtual 128, 3) := by decide +kernel
theorem dL_law_993 : decode cL_law 993 = .ok (.aload_n 2, 1) := by decide +kernel
theorem dL_law_994 : decode cL_law 994 = .ok (.aload_n 0, 1) := by decide +kernel
theorem dL_law_995 : decode cL_law 995 = .ok (.iload_n 3, 1) := by decide +kernel
theorem dL_law_996 : decode cL_law 996 = .ok (.iconst 1, 1) := by decide +kernel
theorem dL_law_997 : decode cL_law 997 = .ok (.iadd, 1) := by decide +kernel
theorem dL_law_998 : decode cL_law 998 = .ok (.iaload, 1) := by decide +kernel
theorem dL_law_999 : decode cL_law 999 = .ok (.invokevirtual 131, 3) := by decide +kernel
theorem dL_law_1002 : decode cL_law 1002 = .ok (.if_icmp .eq 65, 3) := by decide +kernel
theorem dL_law_1005 : decode cL_law 1005 = .ok (.iconst 0, 1) := by decide +kernel
theorem dL_law_1006 : decode cL_law 1006 = .ok (.ireturn, 1) := by decide +kernel
theorem dL_law_1007 : decode cL_law 1007 = .ok (.aload_n 1, 1) := by decide +kernel
theorem dL_law_1008 : decode cL_law 1008 = .ok (.aload_n 0, 1) := by decide +kernel
theorem dL_law_1009 : decode cL_law 1009 = .ok (.iload_n 3, 1) := by decide +kernel
theorem dL_law_1010 : decode cL_law 1010 = .ok (.iconst 1, 1) := by decide +kernel
theorem dL_law_1011 : decode cL_law 1011 = .ok (.iadd, 1) := by decide +kernel
theorem dL_law_1012 : decode cL_law 1012 = .ok (.iaload, 1) := by decide +kernel
theorem dL_law_1013 : decode cL_law 1013 = .ok (.invokevirtual 132, 3) := by decide +kernel
theorem dL_law_1016 : decode cL_law 1016 = .ok (.aload_n 2, 1) := by decide +kernel
theorem dL_law_1017 : decode cL_law 1017 = .ok (.aload_n 0, 1) := by decide +kernel
theorem dL_law_1018 : decode cL_law 1018 = .ok (.iload_n 3, 1) := by decide +kernel
theorem dL_law_1019 : decode cL_law 1019 = .ok (.iconst 1, 1) := by decide +kernel
theorem dL_law_1020 : decode cL_law 1020 = .ok (.iadd, 1) := by decide +kernel
theorem dL_law_1021 : decode cL_law 1021 = .ok (.iaload, 1) := by decide +kernel
theorem dL_law_1022 : decode cL_law 1022 = .ok (.invokevirtual 135, 3) := by decide +kernel
theorem dL_law_1025 : decode cL_law 1025 = .ok (.if_icmp .eq 42, 3) := by decide +kernel
theorem dL_law_1028 : decode cL_law 1028 = .ok (.iconst 0, 1) := by decide +kernel
theorem dL_law_1029 : decode cL_law 1029 = .ok (.ireturn, 1) := by decide +kernel
theorem dL_law_1030 : decode cL_law 1030 = .ok (.aload_n 1, 1) := by decide +kernel
theorem dL_law_1031 : decode cL_law 1031 = .ok (.aload_n 0, 1) := by decide +kernel
theorem dL_law_1032 : decode cL_law 1032 = .ok (.iload_n 3, 1) := by decide +kernel
theorem dL_law_1033 : decode cL_law 1033 = .ok (.iconst 1, 1) := by decide +kernel
theorem dL_law_1034 : decode cL_law 1034 = .ok (.iadd, 1) := by decide +kernel
theorem dL_law_1035 : decode cL_law 1035 = .ok (.iaload, 1) := by decide +kernel
theorem dL_law_1036 : decode cL_law 1036 = .ok (.invokevirtual 136, 3) := by decide +kernel
theorem dL_law_1039 : decode cL_law 1039 = .ok (.aload_n 2, 1) := by decide +kernel
theorem dL_law_1040 : decode cL_law 1040 = .ok (.aload_n 0, 1) := by decide +kernel
theorem dL_law_1041 : decode cL_law 1041 = .ok (.iload_n 3, 1) := by decide +kernel
theorem dL_law_1042 : decode cL_law 1042 = .ok (.iconst 1, 1) := by decide +kernel
theorem dL_law_1043 : decode cL_law 1043 = .ok (.iadd, 1) := by decide +kernel
theorem dL_law_1044 : decode cL_law 1044 = .ok (.iaload, 1) := by decide +kernel
theorem dL_law_1045 : decode cL_law 1045 = .ok (.invokevirtual 139, 3) := by decide +kernel
theorem dL_law_1048 : decode cL_law 1048 = .ok (.if_icmp .eq 19, 3) := by decide +kernel
theorem dL_law_1051 : decode cL_law 1051 = .ok (.iconst 0, 1) := by decide +kernel
theorem dL_law_1052 : decode cL_law 1052 = .ok (.ireturn, 1) := by decide +kernel
theorem dL_law_1053 : decode cL_law 1053 = .ok (.aload_n 1, 1) := by decide +kernel
theorem dL_law_1054 : decode cL_law 1054 = .ok (.invokevirtual 140, 3) := by decide +kernel
theorem dL_law_1057 : decode cL_law 1057 = .ok (.aload_n 2, 1) := by decide +kernel
theorem dL_law_1058 : decode cL_law 1058 = .ok (.invokevirtual 144, 3) := by decide +kernel
theorem dL_law_1061 : decode cL_law 1061 = .ok (.lcmp, 1) := by decide +kernel
theorem dL_law_1062 : decode cL_law 1062 = .ok (.ifCond .eq 5, 3) := by decide +kernel
theorem dL_law_1065 : decode cL_law 1065 = .ok (.iconst 0, 1) := by decide +kernel
theorem dL_law_1066 : decode cL_law 1066 = .ok (.ireturn, 1) := by decide +kernel
theorem dL_law_1067 : decode cL_law 1067 = .ok (.iinc 3 6, 3) := by decide +kernel
theorem dL_law_1070 : decode cL_law 1070 = .ok (.goto (-1052), 3) := by decide +kernel
theorem dL_law_1073 : decode cL_law 1073 = .ok (.iconst 1, 1) := by decide +kernel
theorem dL_law_1074 : decode cL_law 1074 = .ok (.ireturn, 1) := by decide +kernel
end
section
/-! ===== the words that every method may use: those of the tables that stay ===== -/
def zG : List Cond := lw_tbl.filter goodWord
theorem zG_of {w : Cond} (h : w ∈ lw_tbl) (hg : goodWord w = true) : w ∈ zG := List.mem_filter.mpr ⟨h, hg⟩
theorem zgi {L : List Cond} (h : ∀ w ∈ L, w ∈ zG) : GoodIn zG L := fun w hw => ⟨h w hw, good_of_word (List.mem_filter.mp (h w hw)).2⟩
theorem zgc {w : Cond} (h : w ∈ zG) : GoodIn zG (w :: zG) := zgi (fun v hv => (List.mem_cons.mp hv).elim (fun e => e ▸ h) id)
theorem zt1 {w : Cond} (h : w ∈ tables_1_1) : w ∈ lw_tbl := List.mem_append_right _ (show w ∈ tables_1_1 ++ (tables_1_2 ++ (tables_1_3 ++ (tables_1_4 ++ (tables_1_5 ++ tables_1_6)))) from List.mem_append_left _ h)
theorem zt2 {w : Cond} (h : w ∈ tables_1_2) : w ∈ lw_tbl := List.mem_append_right _ (show w ∈ tables_1_1 ++ (tables_1_2 ++ (tables_1_3 ++ (tables_1_4 ++ (tables_1_5 ++ tables_1_6)))) from List.mem_append_right _ (List.mem_append_left _ h))
theorem zt3 {w : Cond} (h : w ∈ tables_1_3) : w ∈ lw_tbl := List.mem_append_right _ (show w ∈ tables_1_1 ++ (tables_1_2 ++ (tables_1_3 ++ (tables_1_4 ++ (tables_1_5 ++ tables_1_6)))) from List.mem_append_right _ (List.mem_append_right _ (List.mem_append_left _ h)))
theorem zt4 {w : Cond} (h : w ∈ tables_1_4) : w ∈ lw_tbl := List.mem_append_right _ (show w ∈ tables_1_1 ++ (tables_1_2 ++ (tables_1_3 ++ (tables_1_4 ++ (tables_1_5 ++ tables_1_6)))) from List.mem_append_right _ (List.mem_append_right _ (List.mem_append_right _ (List.mem_append_left _ h))))
theorem zt5 {w : Cond} (h : w ∈ tables_1_5) : w ∈ lw_tbl := List.mem_append_right _ (show w ∈ tables_1_1 ++ (tables_1_2 ++ (tables_1_3 ++ (tables_1_4 ++ (tables_1_5 ++ tables_1_6)))) from List.mem_append_right _ (List.mem_append_right _ (List.mem_append_right _ (List.mem_append_right _ (List.mem_append_left _ h)))))
theorem zt6 {w : Cond} (h : w ∈ tables_1_6) : w ∈ lw_tbl := List.mem_append_right _ (show w ∈ tables_1_1 ++ (tables_1_2 ++ (tables_1_3 ++ (tables_1_4 ++ (tables_1_5 ++ tables_1_6)))) from List.mem_append_right _ (List.mem_append_right _ (List.mem_append_right _ (List.mem_append_right _ (List.mem_append_right _ (h))))))
theorem zp {q : MethodName × Nat} (h : q ∈ lw_privs) : Cond.selects q.1.cls q.1 q.1 ∈ lw_tbl := List.mem_append_left _ (List.mem_map.mpr ⟨q, h, rfl⟩)
theorem zp1 {q : MethodName × Nat} (h : q ∈ lw_privs_1) : q ∈ lw_privs := (show q ∈ lw_privs_1 ++ (lw_privs_2 ++ (lw_privs_3 ++ (lw_privs_4 ++ (lw_privs_5 ++ (lw_privs_6 ++ (lw_privs_7)))))) from List.mem_append_left _ h)
theorem zp2 {q : MethodName × Nat} (h : q ∈ lw_privs_2) : q ∈ lw_privs := (show q ∈ lw_privs_1 ++ (lw_privs_2 ++ (lw_privs_3 ++ (lw_privs_4 ++ (lw_privs_5 ++ (lw_privs_6 ++ (lw_privs_7)))))) from List.mem_append_right _ (List.mem_append_left _ h))
theorem zp3 {q : MethodName × Nat} (h : q ∈ lw_privs_3) : q ∈ lw_privs := (show q ∈ lw_privs_1 ++ (lw_privs_2 ++ (lw_privs_3 ++ (lw_privs_4 ++ (lw_privs_5 ++ (lw_privs_6 ++ (lw_privs_7)))))) from List.mem_append_right _ (List.mem_append_right _ (List.mem_append_left _ h)))
theorem zp4 {q : MethodName × Nat} (h : q ∈ lw_privs_4) : q ∈ lw_privs := (show q ∈ lw_privs_1 ++ (lw_privs_2 ++ (lw_privs_3 ++ (lw_privs_4 ++ (lw_privs_5 ++ (lw_privs_6 ++ (lw_privs_7)))))) from List.mem_append_right _ (List.mem_append_right _ (List.mem_append_right _ (List.mem_append_left _ h))))
theorem zp5 {q : MethodName × Nat} (h : q ∈ lw_privs_5) : q ∈ lw_privs := (show q ∈ lw_privs_1 ++ (lw_privs_2 ++ (lw_privs_3 ++ (lw_privs_4 ++ (lw_privs_5 ++ (lw_privs_6 ++ (lw_privs_7)))))) from List.mem_append_right _ (List.mem_append_right _ (List.mem_append_right _ (List.mem_append_right _ (List.mem_append_left _ h)))))
theorem zp6 {q : MethodName × Nat} (h : q ∈ lw_privs_6) : q ∈ lw_privs := (show q ∈ lw_privs_1 ++ (lw_privs_2 ++ (lw_privs_3 ++ (lw_privs_4 ++ (lw_privs_5 ++ (lw_privs_6 ++ (lw_privs_7)))))) from List.mem_append_right _ (List.mem_append_right _ (List.mem_append_right _ (List.mem_append_right _ (List.mem_append_right _ (List.mem_append_left _ h))))))
theorem zp7 {q : MethodName × Nat} (h : q ∈ lw_privs_7) : q ∈ lw_privs := (show q ∈ lw_privs_1 ++ (lw_privs_2 ++ (lw_privs_3 ++ (lw_privs_4 ++ (lw_privs_5 ++ (lw_privs_6 ++ (lw_privs_7)))))) from List.mem_append_right _ (List.mem_append_right _ (List.mem_append_right _ (List.mem_append_right _ (List.mem_append_right _ (List.mem_append_right _ (h)))))))
theorem zw0 : Cond.initialized RL ∈ zG := zG_of (zt1 (List.mem_of_getElem? (i := 0) rfl)) rfl
theorem zw1 : Cond.initialized RX11 ∈ zG := zG_of (zt1 (List.mem_of_getElem? (i := 1) rfl)) rfl
theorem zw2 : Cond.initialized RX10 ∈ zG := zG_of (zt1 (List.mem_of_getElem? (i := 2) rfl)) rfl
theorem zw3 : Cond.initialized RX5 ∈ zG := zG_of (zt1 (List.mem_of_getElem? (i := 3) rfl)) rfl
theorem zw4 : Cond.initialized RX8 ∈ zG := zG_of (zt1 (List.mem_of_getElem? (i := 4) rfl)) rfl
theorem zw5 : Cond.initialized RX4 ∈ zG := zG_of (zt1 (List.mem_of_getElem? (i := 5) rfl)) rfl
theorem zw6 : Cond.initialized RX9 ∈ zG := zG_of (zt1 (List.mem_of_getElem? (i := 6) rfl)) rfl
theorem zw7 : Cond.initialized RX3 ∈ zG := zG_of (zt1 (List.mem_of_getElem? (i := 7) rfl)) rfl
theorem zw8 : Cond.initialized RX7 ∈ zG := zG_of (zt1 (List.mem_of_getElem? (i := 8) rfl)) rfl
theorem zw9 : Cond.initialized RX6 ∈ zG := zG_of (zt1 (List.mem_of_getElem? (i := 9) rfl)) rfl
theorem zw10 : Cond.initialized RX0 ∈ zG := zG_of (zt1 (List.mem_of_getElem? (i := 10) rfl)) rfl
theorem zw11 : Cond.initialized RX2 ∈ zG := zG_of (zt1 (List.mem_of_getElem? (i := 11) rfl)) rfl
theorem zw12 : Cond.initialized RX1 ∈ zG := zG_of (zt1 (List.mem_of_getElem? (i := 12) rfl)) rfl
theorem zw13 : Cond.initialized RX12 ∈ zG := zG_of (zt1 (List.mem_of_getElem? (i := 13) rfl)) rfl
theorem zw14 : Cond.initialized RJ9 ∈ zG := zG_of (zt1 (List.mem_of_getElem? (i := 14) rfl)) rfl
theorem zw15 : Cond.initialized RJ0 ∈ zG := zG_of (zt1 (List.mem_of_getElem? (i := 15) rfl)) rfl
theorem zw16 : Cond.initialized RJ1 ∈ zG := zG_of (zt1 (List.mem_of_getElem? (i := 16) rfl)) rfl
theorem zw17 : Cond.initialized RJ3 ∈ zG := zG_of (zt1 (List.mem_of_getElem? (i := 17) rfl)) rfl
theorem zw18 : Cond.initialized RJ2 ∈ zG := zG_of (zt1 (List.mem_of_getElem? (i := 18) rfl)) rfl
theorem zw19 : Cond.initialized RJ10 ∈ zG := zG_of (zt1 (List.mem_of_getElem? (i := 19) rfl)) rfl
theorem zw20 : Cond.classLink RL 7 RX11 ∈ zG := zG_of (zt1 (List.mem_of_getElem? (i := 20) rfl)) rfl
theorem zw21 : Cond.instantiable RX11 13 ∈ zG := zG_of (zt1 (List.mem_of_getElem? (i := 21) rfl)) rfl
theorem zw22 : Cond.methodLink RL 9 yX11_init ∈ zG := zG_of (zt1 (List.mem_of_getElem? (i := 22) rfl)) rfl
theorem zw23 : Cond.instanceMethod yX11_init ∈ zG := zG_of (zt1 (List.mem_of_getElem? (i := 23) rfl)) rfl
theorem zw24 : Cond.code yX11_init cX11_init 1 none ∈ zG := zG_of (zt1 (List.mem_of_getElem? (i := 24) rfl)) rfl
theorem zw25 : Cond.methodLink RX11 3 objectInit ∈ zG := zG_of (zt1 (List.mem_of_getElem? (i := 25) rfl)) rfl
theorem zw26 : Cond.instanceMethod objectInit ∈ zG := zG_of (zt1 (List.mem_of_getElem? (i := 26) rfl)) rfl
theorem zw27 : Cond.code objectInit ⟨#[0xb1]⟩ 1 none ∈ zG := zG_of (zt1 (List.mem_of_getElem? (i := 27) rfl)) rfl
theorem zw28 : Cond.classLink RX11 9 RX3 ∈ zG := zG_of (zt1 (List.mem_of_getElem? (i := 28) rfl)) rfl
theorem zw29 : Cond.classLink RX11 15 RX10 ∈ zG := zG_of (zt1 (List.mem_of_getElem? (i := 30) rfl)) rfl
theorem zw30 : Cond.instantiable RX10 10 ∈ zG := zG_of (zt1 (List.mem_of_getElem? (i := 31) rfl)) rfl
theorem zw31 : Cond.instanceMethod yX10_init ∈ zG := zG_of (zt1 (List.mem_of_getElem? (i := 33) rfl)) rfl
theorem zw32 : Cond.code yX10_init cX10_init 1 none ∈ zG := zG_of (zt1 (List.mem_of_getElem? (i := 34) rfl)) rfl
theorem zw33 : Cond.methodLink RX10 3 objectInit ∈ zG := zG_of (zt1 (List.mem_of_getElem? (i := 35) rfl)) rfl
theorem zw34 : Cond.classLink RX10 9 RX5 ∈ zG := zG_of (zt1 (List.mem_of_getElem? (i := 36) rfl)) rfl
theorem zw35 : Cond.instantiable RX5 4 ∈ zG := zG_of (zt1 (List.mem_of_getElem? (i := 37) rfl)) rfl
theorem zw36 : Cond.instanceMethod yX5_init ∈ zG := zG_of (zt1 (List.mem_of_getElem? (i := 39) rfl)) rfl
theorem zw37 : Cond.code yX5_init cX5_init 1 none ∈ zG := zG_of (zt1 (List.mem_of_getElem? (i := 40) rfl)) rfl
theorem zw38 : Cond.methodLink RX5 3 objectInit ∈ zG := zG_of (zt1 (List.mem_of_getElem? (i := 41) rfl)) rfl
theorem zw39 : Cond.fieldLink RX5 9 RX5 "length" "I" ∈ zG := zG_of (zt1 (List.mem_of_getElem? (i := 42) rfl)) rfl
theorem zw40 : Cond.fieldLink RX5 15 RX5 "hold" "I" ∈ zG := zG_of (zt1 (List.mem_of_getElem? (i := 47) rfl)) rfl
theorem zw41 : Cond.fieldLink RX5 18 RX5 "cobbles" "[I" ∈ zG := zG_of (zt1 (List.mem_of_getElem? (i := 50) rfl)) rfl
theorem zw42 : Cond.fieldLink RX5 22 RX5 "winds" "[I" ∈ zG := zG_of (zt1 (List.mem_of_getElem? (i := 51) rfl)) rfl
theorem zw43 : Cond.lays "SmallCrown$Road" "SmallCrown$Road" "length" "I" ∈ zG := zG_of (zt1 (List.mem_of_getElem? (i := 52) rfl)) rfl
theorem zw44 : Cond.lays "SmallCrown$Road" "SmallCrown$Road" "hold" "I" ∈ zG := zG_of (zt1 (List.mem_of_getElem? (i := 54) rfl)) rfl
theorem zw45 : Cond.laysFinal "SmallCrown$Road" "SmallCrown$Road" "cobbles" "[I" ∈ zG := zG_of (zt1 (List.mem_of_getElem? (i := 56) rfl)) rfl
theorem zw46 : Cond.laysFinal "SmallCrown$Road" "SmallCrown$Road" "winds" "[I" ∈ zG := zG_of (zt1 (List.mem_of_getElem? (i := 58) rfl)) rfl
theorem zw47 : Cond.superclass RX5 "java/lang/Object" ∈ zG := zG_of (zt1 (List.mem_of_getElem? (i := 60) rfl)) rfl
theorem zw48 : Cond.arrayClass .int ∈ zG := zG_of (zt1 (List.mem_of_getElem? (i := 61) rfl)) rfl
theorem zw49 : Cond.classLink RX10 18 RX8 ∈ zG := zG_of (zt1 (List.mem_of_getElem? (i := 62) rfl)) rfl
theorem zw50 : Cond.instantiable RX8 8 ∈ zG := zG_of (zt1 (List.mem_of_getElem? (i := 63) rfl)) rfl
theorem zw51 : Cond.instanceMethod yX8_init ∈ zG := zG_of (zt1 (List.mem_of_getElem? (i := 65) rfl)) rfl
theorem zw52 : Cond.code yX8_init cX8_init 1 none ∈ zG := zG_of (zt1 (List.mem_of_getElem? (i := 66) rfl)) rfl
theorem zw53 : Cond.methodLink RX8 3 objectInit ∈ zG := zG_of (zt1 (List.mem_of_getElem? (i := 67) rfl)) rfl
theorem zw54 : Cond.fieldLink RX8 9 RX8 "head" "I" ∈ zG := zG_of (zt1 (List.mem_of_getElem? (i := 68) rfl)) rfl
theorem zw55 : Cond.fieldLink RX8 15 RX8 "cell" "I" ∈ zG := zG_of (zt1 (List.mem_of_getElem? (i := 70) rfl)) rfl
theorem zw56 : Cond.fieldLink RX8 18 RX8 "step" "I" ∈ zG := zG_of (zt1 (List.mem_of_getElem? (i := 72) rfl)) rfl
theorem zw57 : Cond.fieldLink RX8 21 RX8 "lean" "I" ∈ zG := zG_of (zt1 (List.mem_of_getElem? (i := 74) rfl)) rfl
theorem zw58 : Cond.fieldLink RX8 24 RX8 "kept" "I" ∈ zG := zG_of (zt1 (List.mem_of_getElem? (i := 76) rfl)) rfl
theorem zw59 : Cond.fieldLink RX8 27 RX8 "keptCells" "[I" ∈ zG := zG_of (zt1 (List.mem_of_getElem? (i := 78) rfl)) rfl
theorem zw60 : Cond.fieldLink RX8 31 RX8 "keptSteps" "[I" ∈ zG := zG_of (zt1 (List.mem_of_getElem? (i := 79) rfl)) rfl
theorem zw61 : Cond.fieldLink RX8 34 RX8 "keptLeans" "[I" ∈ zG := zG_of (zt1 (List.mem_of_getElem? (i := 80) rfl)) rfl
theorem zw62 : Cond.lays "SmallCrown$Walk" "SmallCrown$Walk" "head" "I" ∈ zG := zG_of (zt1 (List.mem_of_getElem? (i := 81) rfl)) rfl
theorem zw63 : Cond.lays "SmallCrown$Walk" "SmallCrown$Walk" "cell" "I" ∈ zG := zG_of (zt1 (List.mem_of_getElem? (i := 83) rfl)) rfl
theorem zw64 : Cond.lays "SmallCrown$Walk" "SmallCrown$Walk" "step" "I" ∈ zG := zG_of (zt1 (List.mem_of_getElem? (i := 85) rfl)) rfl
theorem zw65 : Cond.lays "SmallCrown$Walk" "SmallCrown$Walk" "lean" "I" ∈ zG := zG_of (zt1 (List.mem_of_getElem? (i := 87) rfl)) rfl
theorem zw66 : Cond.lays "SmallCrown$Walk" "SmallCrown$Walk" "kept" "I" ∈ zG := zG_of (zt1 (List.mem_of_getElem? (i := 89) rfl)) rfl
theorem zw67 : Cond.laysFinal "SmallCrown$Walk" "SmallCrown$Walk" "keptCells" "[I" ∈ zG := zG_of (zt1 (List.mem_of_getElem? (i := 91) rfl)) rfl
theorem zw68 : Cond.laysFinal "SmallCrown$Walk" "SmallCrown$Walk" "keptSteps" "[I" ∈ zG := zG_of (zt1 (List.mem_of_getElem? (i := 93) rfl)) rfl
theorem zw69 : Cond.laysFinal "SmallCrown$Walk" "SmallCrown$Walk" "keptLeans" "[I" ∈ zG := zG_of (zt1 (List.mem_of_getElem? (i := 95) rfl)) rfl
theorem zw70 : Cond.superclass RX8 "java/lang/Object" ∈ zG := zG_of (zt1 (List.mem_of_getElem? (i := 97) rfl)) rfl
theorem zw71 : Cond.fieldLink RX10 12 RX10 "road" "LSmallCrown$Road;" ∈ zG := zG_of (zt1 (List.mem_of_getElem? (i := 98) rfl)) rfl
theorem zw72 : Cond.fieldLink RX10 21 RX10 "walk" "LSmallCrown$Walk;" ∈ zG := zG_of (zt1 (List.mem_of_getElem? (i := 101) rfl)) rfl
theorem zw73 : Cond.fieldLink RX10 25 RX10 "heads" "I" ∈ zG := zG_of (zt1 (List.mem_of_getElem? (i := 103) rfl)) rfl
theorem zw74 : Cond.fieldLink RX10 29 RX10 "headKinds" "[I" ∈ zG := zG_of (zt1 (List.mem_of_getElem? (i := 106) rfl)) rfl
theorem zw75 : Cond.fieldLink RX10 33 RX10 "headSets" "[I" ∈ zG := zG_of (zt1 (List.mem_of_getElem? (i := 107) rfl)) rfl
theorem zw76 : Cond.fieldLink RX10 36 RX10 "notes" "I" ∈ zG := zG_of (zt1 (List.mem_of_getElem? (i := 108) rfl)) rfl
theorem zw77 : Cond.fieldLink RX10 39 RX10 "noteHeads" "[I" ∈ zG := zG_of (zt1 (List.mem_of_getElem? (i := 110) rfl)) rfl
theorem zw78 : Cond.fieldLink RX10 42 RX10 "noteSteps" "[I" ∈ zG := zG_of (zt1 (List.mem_of_getElem? (i := 112) rfl)) rfl
theorem zw79 : Cond.fieldLink RX10 45 RX10 "noteRows" "[I" ∈ zG := zG_of (zt1 (List.mem_of_getElem? (i := 114) rfl)) rfl
theorem zw80 : Cond.fieldLink RX10 48 RX10 "noteCells" "[I" ∈ zG := zG_of (zt1 (List.mem_of_getElem? (i := 116) rfl)) rfl
theorem zw81 : Cond.laysFinal "SmallCrown$World" "SmallCrown$World" "road" "LSmallCrown$Road;" ∈ zG := zG_of (zt1 (List.mem_of_getElem? (i := 118) rfl)) rfl
theorem zw82 : Cond.laysFinal "SmallCrown$World" "SmallCrown$World" "walk" "LSmallCrown$Walk;" ∈ zG := zG_of (zt1 (List.mem_of_getElem? (i := 120) rfl)) rfl
theorem zw83 : Cond.lays "SmallCrown$World" "SmallCrown$World" "heads" "I" ∈ zG := zG_of (zt1 (List.mem_of_getElem? (i := 122) rfl)) rfl
theorem zw84 : Cond.laysFinal "SmallCrown$World" "SmallCrown$World" "headKinds" "[I" ∈ zG := zG_of (zt1 (List.mem_of_getElem? (i := 124) rfl)) rfl
theorem zw85 : Cond.laysFinal "SmallCrown$World" "SmallCrown$World" "headSets" "[I" ∈ zG := zG_of (zt1 (List.mem_of_getElem? (i := 126) rfl)) rfl
theorem zw86 : Cond.lays "SmallCrown$World" "SmallCrown$World" "notes" "I" ∈ zG := zG_of (zt1 (List.mem_of_getElem? (i := 128) rfl)) rfl
theorem zw87 : Cond.laysFinal "SmallCrown$World" "SmallCrown$World" "noteHeads" "[I" ∈ zG := zG_of (zt1 (List.mem_of_getElem? (i := 130) rfl)) rfl
theorem zw88 : Cond.laysFinal "SmallCrown$World" "SmallCrown$World" "noteSteps" "[I" ∈ zG := zG_of (zt1 (List.mem_of_getElem? (i := 132) rfl)) rfl
theorem zw89 : Cond.laysFinal "SmallCrown$World" "SmallCrown$World" "noteRows" "[I" ∈ zG := zG_of (zt1 (List.mem_of_getElem? (i := 134) rfl)) rfl
theorem zw90 : Cond.laysFinal "SmallCrown$World" "SmallCrown$World" "noteCells" "[I" ∈ zG := zG_of (zt1 (List.mem_of_getElem? (i := 136) rfl)) rfl
theorem zw91 : Cond.superclass RX10 "java/lang/Object" ∈ zG := zG_of (zt1 (List.mem_of_getElem? (i := 138) rfl)) rfl
theorem zw92 : Cond.classLink RX11 29 RX4 ∈ zG := zG_of (zt1 (List.mem_of_getElem? (i := 140) rfl)) rfl
theorem zw93 : Cond.instantiable RX4 5 ∈ zG := zG_of (zt1 (List.mem_of_getElem? (i := 141) rfl)) rfl
theorem zw94 : Cond.instanceMethod yX4_init ∈ zG := zG_of (zt1 (List.mem_of_getElem? (i := 143) rfl)) rfl
theorem zw95 : Cond.code yX4_init cX4_init 1 none ∈ zG := zG_of (zt1 (List.mem_of_getElem? (i := 144) rfl)) rfl
theorem zw96 : Cond.methodLink RX4 3 objectInit ∈ zG := zG_of (zt1 (List.mem_of_getElem? (i := 145) rfl)) rfl
theorem zw97 : Cond.fieldLink RX4 9 RX4 "text" "[I" ∈ zG := zG_of (zt1 (List.mem_of_getElem? (i := 146) rfl)) rfl
theorem zw98 : Cond.fieldLink RX4 15 RX4 "length" "I" ∈ zG := zG_of (zt1 (List.mem_of_getElem? (i := 147) rfl)) rfl
theorem zw99 : Cond.fieldLink RX4 19 RX4 "sort" "I" ∈ zG := zG_of (zt1 (List.mem_of_getElem? (i := 149) rfl)) rfl
theorem zw100 : Cond.fieldLink RX4 22 RX4 "start" "I" ∈ zG := zG_of (zt1 (List.mem_of_getElem? (i := 150) rfl)) rfl
theorem zw101 : Cond.fieldLink RX4 25 RX4 "end" "I" ∈ zG := zG_of (zt1 (List.mem_of_getElem? (i := 152) rfl)) rfl
theorem zw102 : Cond.laysFinal "SmallCrown$Reader" "SmallCrown$Reader" "text" "[I" ∈ zG := zG_of (zt1 (List.mem_of_getElem? (i := 153) rfl)) rfl
theorem zw103 : Cond.lays "SmallCrown$Reader" "SmallCrown$Reader" "length" "I" ∈ zG := zG_of (zt1 (List.mem_of_getElem? (i := 155) rfl)) rfl
theorem zw104 : Cond.lays "SmallCrown$Reader" "SmallCrown$Reader" "sort" "I" ∈ zG := zG_of (zt1 (List.mem_of_getElem? (i := 157) rfl)) rfl
theorem zw105 : Cond.lays "SmallCrown$Reader" "SmallCrown$Reader" "start" "I" ∈ zG := zG_of (zt1 (List.mem_of_getElem? (i := 159) rfl)) rfl
theorem zw106 : Cond.lays "SmallCrown$Reader" "SmallCrown$Reader" "end" "I" ∈ zG := zG_of (zt1 (List.mem_of_getElem? (i := 161) rfl)) rfl
theorem zw107 : Cond.superclass RX4 "java/lang/Object" ∈ zG := zG_of (zt1 (List.mem_of_getElem? (i := 163) rfl)) rfl
theorem zw108 : Cond.classLink RX11 36 RX8 ∈ zG := zG_of (zt1 (List.mem_of_getElem? (i := 164) rfl)) rfl
theorem zw109 : Cond.classLink RX11 43 RX9 ∈ zG := zG_of (zt1 (List.mem_of_getElem? (i := 166) rfl)) rfl
theorem zw110 : Cond.instantiable RX9 3 ∈ zG := zG_of (zt1 (List.mem_of_getElem? (i := 167) rfl)) rfl
theorem zw111 : Cond.instanceMethod yX9_init ∈ zG := zG_of (zt1 (List.mem_of_getElem? (i := 169) rfl)) rfl
theorem zw112 : Cond.code yX9_init cX9_init 1 none ∈ zG := zG_of (zt1 (List.mem_of_getElem? (i := 170) rfl)) rfl
theorem zw113 : Cond.methodLink RX9 3 objectInit ∈ zG := zG_of (zt1 (List.mem_of_getElem? (i := 171) rfl)) rfl
theorem zw114 : Cond.fieldLink RX9 11 RX9 "costs" "[I" ∈ zG := zG_of (zt1 (List.mem_of_getElem? (i := 172) rfl)) rfl
theorem zw115 : Cond.fieldLink RX9 15 RX9 "chances" "[J" ∈ zG := zG_of (zt1 (List.mem_of_getElem? (i := 173) rfl)) rfl
theorem zw116 : Cond.fieldLink RX9 19 RX9 "nextChances" "[J" ∈ zG := zG_of (zt1 (List.mem_of_getElem? (i := 174) rfl)) rfl
theorem zw117 : Cond.laysFinal "SmallCrown$Ways" "SmallCrown$Ways" "costs" "[I" ∈ zG := zG_of (zt1 (List.mem_of_getElem? (i := 175) rfl)) rfl
theorem zw118 : Cond.laysFinal "SmallCrown$Ways" "SmallCrown$Ways" "chances" "[J" ∈ zG := zG_of (zt1 (List.mem_of_getElem? (i := 177) rfl)) rfl
theorem zw119 : Cond.laysFinal "SmallCrown$Ways" "SmallCrown$Ways" "nextChances" "[J" ∈ zG := zG_of (zt1 (List.mem_of_getElem? (i := 179) rfl)) rfl
theorem zw120 : Cond.superclass RX9 "java/lang/Object" ∈ zG := zG_of (zt1 (List.mem_of_getElem? (i := 181) rfl)) rfl
theorem zw121 : Cond.arrayClass .long ∈ zG := zG_of (zt1 (List.mem_of_getElem? (i := 182) rfl)) rfl
theorem zw122 : Cond.instantiable RX3 0 ∈ zG := zG_of (zt1 (List.mem_of_getElem? (i := 183) rfl)) rfl
theorem zw123 : Cond.instanceMethod yX3_init ∈ zG := zG_of (zt1 (List.mem_of_getElem? (i := 185) rfl)) rfl
theorem zw124 : Cond.code yX3_init cX3_init 1 none ∈ zG := zG_of (zt1 (List.mem_of_getElem? (i := 186) rfl)) rfl
theorem zw125 : Cond.methodLink RX3 1 objectInit ∈ zG := zG_of (zt1 (List.mem_of_getElem? (i := 187) rfl)) rfl
theorem zw126 : Cond.superclass RX3 "java/lang/Object" ∈ zG := zG_of (zt1 (List.mem_of_getElem? (i := 188) rfl)) rfl
theorem zw127 : Cond.classLink RX11 72 RX7 ∈ zG := zG_of (zt1 (List.mem_of_getElem? (i := 189) rfl)) rfl
theorem zw128 : Cond.instantiable RX7 0 ∈ zG := zG_of (zt1 (List.mem_of_getElem? (i := 190) rfl)) rfl
theorem zw129 : Cond.instanceMethod yX7_init ∈ zG := zG_of (zt1 (List.mem_of_getElem? (i := 192) rfl)) rfl
theorem zw130 : Cond.code yX7_init cX7_init 1 none ∈ zG := zG_of (zt1 (List.mem_of_getElem? (i := 193) rfl)) rfl
theorem zw131 : Cond.superclass RX7 RX3 ∈ zG := zG_of (zt1 (List.mem_of_getElem? (i := 195) rfl)) rfl
theorem zw132 : Cond.classLink RX11 75 RX6 ∈ zG := zG_of (zt1 (List.mem_of_getElem? (i := 196) rfl)) rfl
theorem zw133 : Cond.instantiable RX6 0 ∈ zG := zG_of (zt1 (List.mem_of_getElem? (i := 197) rfl)) rfl
theorem zw134 : Cond.instanceMethod yX6_init ∈ zG := zG_of (zt1 (List.mem_of_getElem? (i := 199) rfl)) rfl
theorem zw135 : Cond.code yX6_init cX6_init 1 none ∈ zG := zG_of (zt1 (List.mem_of_getElem? (i := 200) rfl)) rfl
theorem zw136 : Cond.superclass RX6 RX3 ∈ zG := zG_of (zt1 (List.mem_of_getElem? (i := 202) rfl)) rfl
theorem zw137 : Cond.classLink RX11 78 RX0 ∈ zG := zG_of (zt1 (List.mem_of_getElem? (i := 203) rfl)) rfl
theorem zw138 : Cond.instantiable RX0 0 ∈ zG := zG_of (zt1 (List.mem_of_getElem? (i := 204) rfl)) rfl
theorem zw139 : Cond.instanceMethod yX0_init ∈ zG := zG_of (zt1 (List.mem_of_getElem? (i := 206) rfl)) rfl
theorem zw140 : Cond.code yX0_init cX0_init 1 none ∈ zG := zG_of (zt1 (List.mem_of_getElem? (i := 207) rfl)) rfl
theorem zw141 : Cond.superclass RX0 RX7 ∈ zG := zG_of (zt1 (List.mem_of_getElem? (i := 209) rfl)) rfl
theorem zw142 : Cond.classLink RX11 81 RX2 ∈ zG := zG_of (zt1 (List.mem_of_getElem? (i := 210) rfl)) rfl
theorem zw143 : Cond.instantiable RX2 0 ∈ zG := zG_of (zt1 (List.mem_of_getElem? (i := 211) rfl)) rfl
theorem zw144 : Cond.instanceMethod yX2_init ∈ zG := zG_of (zt1 (List.mem_of_getElem? (i := 213) rfl)) rfl
theorem zw145 : Cond.code yX2_init cX2_init 1 none ∈ zG := zG_of (zt1 (List.mem_of_getElem? (i := 214) rfl)) rfl
theorem zw146 : Cond.superclass RX2 RX7 ∈ zG := zG_of (zt1 (List.mem_of_getElem? (i := 216) rfl)) rfl
theorem zw147 : Cond.classLink RX11 84 RX1 ∈ zG := zG_of (zt1 (List.mem_of_getElem? (i := 217) rfl)) rfl
theorem zw148 : Cond.instantiable RX1 0 ∈ zG := zG_of (zt1 (List.mem_of_getElem? (i := 218) rfl)) rfl
theorem zw149 : Cond.instanceMethod yX1_init ∈ zG := zG_of (zt1 (List.mem_of_getElem? (i := 220) rfl)) rfl
theorem zw150 : Cond.code yX1_init cX1_init 1 none ∈ zG := zG_of (zt1 (List.mem_of_getElem? (i := 221) rfl)) rfl
theorem zw151 : Cond.superclass RX1 RX6 ∈ zG := zG_of (zt1 (List.mem_of_getElem? (i := 223) rfl)) rfl
theorem zw152 : Cond.fieldLink RX11 11 RX11 "kinds" "[LSmallCrown$Plain;" ∈ zG := zG_of (zt1 (List.mem_of_getElem? (i := 224) rfl)) rfl
theorem zw153 : Cond.fieldLink RX11 18 RX11 "world" "LSmallCrown$World;" ∈ zG := zG_of (zt1 (List.mem_of_getElem? (i := 225) rfl)) rfl
theorem zw154 : Cond.fieldLink RX11 22 RX11 "draft" "LSmallCrown$World;" ∈ zG := zG_of (zt1 (List.mem_of_getElem? (i := 226) rfl)) rfl
theorem zw155 : Cond.fieldLink RX11 25 RX11 "images" "[LSmallCrown$World;" ∈ zG := zG_of (zt1 (List.mem_of_getElem? (i := 227) rfl)) rfl
theorem zw156 : Cond.fieldLink RX11 32 RX11 "reader" "LSmallCrown$Reader;" ∈ zG := zG_of (zt1 (List.mem_of_getElem? (i := 228) rfl)) rfl
theorem zw157 : Cond.fieldLink RX11 39 RX11 "trial" "LSmallCrown$Walk;" ∈ zG := zG_of (zt1 (List.mem_of_getElem? (i := 229) rfl)) rfl
theorem zw158 : Cond.fieldLink RX11 46 RX11 "ways" "LSmallCrown$Ways;" ∈ zG := zG_of (zt1 (List.mem_of_getElem? (i := 230) rfl)) rfl
theorem zw159 : Cond.fieldLink RX11 50 RX11 "ends" "[I" ∈ zG := zG_of (zt1 (List.mem_of_getElem? (i := 231) rfl)) rfl
theorem zw160 : Cond.fieldLink RX11 54 RX11 "above" "J" ∈ zG := zG_of (zt1 (List.mem_of_getElem? (i := 232) rfl)) rfl
theorem zw161 : Cond.fieldLink RX11 58 RX11 "below" "J" ∈ zG := zG_of (zt1 (List.mem_of_getElem? (i := 233) rfl)) rfl
theorem zw162 : Cond.fieldLink RX11 61 RX11 "refusedBad" "I" ∈ zG := zG_of (zt1 (List.mem_of_getElem? (i := 234) rfl)) rfl
theorem zw163 : Cond.fieldLink RX11 65 RX11 "refusedNo" "I" ∈ zG := zG_of (zt1 (List.mem_of_getElem? (i := 235) rfl)) rfl
theorem zw164 : Cond.fieldLink RX11 68 RX11 "refusedFull" "I" ∈ zG := zG_of (zt1 (List.mem_of_getElem? (i := 236) rfl)) rfl
theorem zw165 : Cond.laysFinal "SmallCrown" "SmallCrown" "kinds" "[LSmallCrown$Plain;" ∈ zG := zG_of (zt1 (List.mem_of_getElem? (i := 237) rfl)) rfl
theorem zw166 : Cond.laysFinal "SmallCrown" "SmallCrown" "world" "LSmallCrown$World;" ∈ zG := zG_of (zt1 (List.mem_of_getElem? (i := 239) rfl)) rfl
theorem zw167 : Cond.laysFinal "SmallCrown" "SmallCrown" "draft" "LSmallCrown$World;" ∈ zG := zG_of (zt2 (List.mem_of_getElem? (i := 1) rfl)) rfl
theorem zw168 : Cond.laysFinal "SmallCrown" "SmallCrown" "images" "[LSmallCrown$World;" ∈ zG := zG_of (zt2 (List.mem_of_getElem? (i := 3) rfl)) rfl
theorem zw169 : Cond.laysFinal "SmallCrown" "SmallCrown" "reader" "LSmallCrown$Reader;" ∈ zG := zG_of (zt2 (List.mem_of_getElem? (i := 5) rfl)) rfl
theorem zw170 : Cond.laysFinal "SmallCrown" "SmallCrown" "trial" "LSmallCrown$Walk;" ∈ zG := zG_of (zt2 (List.mem_of_getElem? (i := 7) rfl)) rfl
theorem zw171 : Cond.laysFinal "SmallCrown" "SmallCrown" "ways" "LSmallCrown$Ways;" ∈ zG := zG_of (zt2 (List.mem_of_getElem? (i := 9) rfl)) rfl
theorem zw172 : Cond.laysFinal "SmallCrown" "SmallCrown" "ends" "[I" ∈ zG := zG_of (zt2 (List.mem_of_getElem? (i := 11) rfl)) rfl
theorem zw173 : Cond.lays "SmallCrown" "SmallCrown" "above" "J" ∈ zG := zG_of (zt2 (List.mem_of_getElem? (i := 13) rfl)) rfl
theorem zw174 : Cond.lays "SmallCrown" "SmallCrown" "below" "J" ∈ zG := zG_of (zt2 (List.mem_of_getElem? (i := 15) rfl)) rfl
theorem zw175 : Cond.lays "SmallCrown" "SmallCrown" "refusedBad" "I" ∈ zG := zG_of (zt2 (List.mem_of_getElem? (i := 17) rfl)) rfl
theorem zw176 : Cond.lays "SmallCrown" "SmallCrown" "refusedNo" "I" ∈ zG := zG_of (zt2 (List.mem_of_getElem? (i := 19) rfl)) rfl
theorem zw177 : Cond.lays "SmallCrown" "SmallCrown" "refusedFull" "I" ∈ zG := zG_of (zt2 (List.mem_of_getElem? (i := 21) rfl)) rfl
theorem zw178 : Cond.superclass RX11 "java/lang/Object" ∈ zG := zG_of (zt2 (List.mem_of_getElem? (i := 23) rfl)) rfl
theorem zw179 : Cond.methodLink RL 13 yX11_road ∈ zG := zG_of (zt2 (List.mem_of_getElem? (i := 24) rfl)) rfl
theorem zw180 : Cond.instanceMethod yX11_road ∈ zG := zG_of (zt2 (List.mem_of_getElem? (i := 25) rfl)) rfl
theorem zw181 : Cond.selects RX11 yX11_road yX11_road ∈ zG := zG_of (zt2 (List.mem_of_getElem? (i := 26) rfl)) rfl
theorem zw182 : Cond.code yX11_road cX11_road 4 (some .int) ∈ zG := zG_of (zt2 (List.mem_of_getElem? (i := 27) rfl)) rfl
theorem zw183 : Cond.methodLink RX11 87 yX11_within ∈ zG := zG_of (zt2 (List.mem_of_getElem? (i := 28) rfl)) rfl
theorem zw184 : Cond.static yX11_within ∈ zG := zG_of (zt2 (List.mem_of_getElem? (i := 29) rfl)) rfl
theorem zw185 : Cond.code yX11_within cX11_within 3 (some .boolean) ∈ zG := zG_of (zt2 (List.mem_of_getElem? (i := 30) rfl)) rfl
theorem zw186 : Cond.methodLink RX11 91 yX11_bad ∈ zG := zG_of (zt2 (List.mem_of_getElem? (i := 31) rfl)) rfl
theorem zw187 : Cond.instanceMethod yX11_bad ∈ zG := zG_of (zt2 (List.mem_of_getElem? (i := 33) rfl)) rfl
theorem zw188 : Cond.code yX11_bad cX11_bad 2 (some .int) ∈ zG := zG_of (zt2 (List.mem_of_getElem? (i := 34) rfl)) rfl
theorem zw189 : Cond.instanceMethod yX10_beginAnew ∈ zG := zG_of (zt2 (List.mem_of_getElem? (i := 37) rfl)) rfl
theorem zw190 : Cond.code yX10_beginAnew cX10_beginAnew 3 none ∈ zG := zG_of (zt2 (List.mem_of_getElem? (i := 38) rfl)) rfl
theorem zw191 : Cond.instanceMethod yX5_beginAnew ∈ zG := zG_of (zt2 (List.mem_of_getElem? (i := 41) rfl)) rfl
theorem zw192 : Cond.code yX5_beginAnew cX5_beginAnew 4 none ∈ zG := zG_of (zt2 (List.mem_of_getElem? (i := 42) rfl)) rfl
theorem zw193 : Cond.instanceMethod yX8_begin ∈ zG := zG_of (zt2 (List.mem_of_getElem? (i := 45) rfl)) rfl
theorem zw194 : Cond.code yX8_begin cX8_begin 4 none ∈ zG := zG_of (zt2 (List.mem_of_getElem? (i := 46) rfl)) rfl
theorem zw195 : Cond.methodLink RL 18 yX11_cobble ∈ zG := zG_of (zt2 (List.mem_of_getElem? (i := 47) rfl)) rfl
theorem zw196 : Cond.instanceMethod yX11_cobble ∈ zG := zG_of (zt2 (List.mem_of_getElem? (i := 48) rfl)) rfl
theorem zw197 : Cond.selects RX11 yX11_cobble yX11_cobble ∈ zG := zG_of (zt2 (List.mem_of_getElem? (i := 49) rfl)) rfl
theorem zw198 : Cond.code yX11_cobble cX11_cobble 4 (some .int) ∈ zG := zG_of (zt2 (List.mem_of_getElem? (i := 50) rfl)) rfl
theorem zw199 : Cond.methodLink RX11 102 yX11_isCell ∈ zG := zG_of (zt2 (List.mem_of_getElem? (i := 51) rfl)) rfl
theorem zw200 : Cond.instanceMethod yX11_isCell ∈ zG := zG_of (zt2 (List.mem_of_getElem? (i := 53) rfl)) rfl
theorem zw201 : Cond.code yX11_isCell cX11_isCell 2 (some .boolean) ∈ zG := zG_of (zt2 (List.mem_of_getElem? (i := 54) rfl)) rfl
theorem zw202 : Cond.instanceMethod yX5_cobbleOf ∈ zG := zG_of (zt2 (List.mem_of_getElem? (i := 57) rfl)) rfl
theorem zw203 : Cond.code yX5_cobbleOf cX5_cobbleOf 2 (some .int) ∈ zG := zG_of (zt2 (List.mem_of_getElem? (i := 58) rfl)) rfl
theorem zw204 : Cond.instanceMethod yX5_layCobble ∈ zG := zG_of (zt2 (List.mem_of_getElem? (i := 62) rfl)) rfl
theorem zw205 : Cond.code yX5_layCobble cX5_layCobble 3 none ∈ zG := zG_of (zt2 (List.mem_of_getElem? (i := 63) rfl)) rfl
theorem zw206 : Cond.methodLink RL 22 yX11_wind ∈ zG := zG_of (zt2 (List.mem_of_getElem? (i := 64) rfl)) rfl
theorem zw207 : Cond.instanceMethod yX11_wind ∈ zG := zG_of (zt2 (List.mem_of_getElem? (i := 65) rfl)) rfl
theorem zw208 : Cond.selects RX11 yX11_wind yX11_wind ∈ zG := zG_of (zt2 (List.mem_of_getElem? (i := 66) rfl)) rfl
theorem zw209 : Cond.code yX11_wind cX11_wind 4 (some .int) ∈ zG := zG_of (zt2 (List.mem_of_getElem? (i := 67) rfl)) rfl
theorem zw210 : Cond.instanceMethod yX5_windIn ∈ zG := zG_of (zt2 (List.mem_of_getElem? (i := 70) rfl)) rfl
theorem zw211 : Cond.code yX5_windIn cX5_windIn 2 (some .int) ∈ zG := zG_of (zt2 (List.mem_of_getElem? (i := 71) rfl)) rfl
theorem zw212 : Cond.methodLink RX5 35 yJ9_floorMod_7cf53 ∈ zG := zG_of (zt2 (List.mem_of_getElem? (i := 72) rfl)) rfl
theorem zw213 : Cond.static yJ9_floorMod_7cf53 ∈ zG := zG_of (zt2 (List.mem_of_getElem? (i := 73) rfl)) rfl
theorem zw214 : Cond.code yJ9_floorMod_7cf53 cJ9_floorMod_7cf53 3 (some .int) ∈ zG := zG_of (zt2 (List.mem_of_getElem? (i := 74) rfl)) rfl
theorem zw215 : Cond.instanceMethod yX5_setWind ∈ zG := zG_of (zt2 (List.mem_of_getElem? (i := 77) rfl)) rfl
theorem zw216 : Cond.code yX5_setWind cX5_setWind 3 none ∈ zG := zG_of (zt2 (List.mem_of_getElem? (i := 78) rfl)) rfl
theorem zw217 : Cond.methodLink RL 26 yX11_head ∈ zG := zG_of (zt2 (List.mem_of_getElem? (i := 79) rfl)) rfl
theorem zw218 : Cond.instanceMethod yX11_head ∈ zG := zG_of (zt2 (List.mem_of_getElem? (i := 80) rfl)) rfl
theorem zw219 : Cond.selects RX11 yX11_head yX11_head ∈ zG := zG_of (zt2 (List.mem_of_getElem? (i := 81) rfl)) rfl
theorem zw220 : Cond.code yX11_head cX11_head 3 (some .int) ∈ zG := zG_of (zt2 (List.mem_of_getElem? (i := 82) rfl)) rfl
theorem zw221 : Cond.methodLink RX11 124 yX11_full ∈ zG := zG_of (zt2 (List.mem_of_getElem? (i := 83) rfl)) rfl
theorem zw222 : Cond.instanceMethod yX11_full ∈ zG := zG_of (zt2 (List.mem_of_getElem? (i := 85) rfl)) rfl
theorem zw223 : Cond.code yX11_full cX11_full 1 (some .int) ∈ zG := zG_of (zt2 (List.mem_of_getElem? (i := 86) rfl)) rfl
theorem zw224 : Cond.instanceMethod yX10_addHead ∈ zG := zG_of (zt2 (List.mem_of_getElem? (i := 89) rfl)) rfl
theorem zw225 : Cond.code yX10_addHead cX10_addHead 3 none ∈ zG := zG_of (zt2 (List.mem_of_getElem? (i := 90) rfl)) rfl
theorem zw226 : Cond.methodLink RL 30 yX11_type ∈ zG := zG_of (zt2 (List.mem_of_getElem? (i := 92) rfl)) rfl
theorem zw227 : Cond.instanceMethod yX11_type ∈ zG := zG_of (zt2 (List.mem_of_getElem? (i := 93) rfl)) rfl
theorem zw228 : Cond.selects RX11 yX11_type yX11_type ∈ zG := zG_of (zt2 (List.mem_of_getElem? (i := 94) rfl)) rfl
theorem zw229 : Cond.code yX11_type cX11_type 2 (some .int) ∈ zG := zG_of (zt2 (List.mem_of_getElem? (i := 95) rfl)) rfl
theorem zw230 : Cond.instanceMethod yX4_add ∈ zG := zG_of (zt2 (List.mem_of_getElem? (i := 98) rfl)) rfl
theorem zw231 : Cond.code yX4_add cX4_add 2 none ∈ zG := zG_of (zt2 (List.mem_of_getElem? (i := 99) rfl)) rfl
theorem zw232 : Cond.methodLink RL 35 yX11_clear ∈ zG := zG_of (zt2 (List.mem_of_getElem? (i := 101) rfl)) rfl
theorem zw233 : Cond.instanceMethod yX11_clear ∈ zG := zG_of (zt2 (List.mem_of_getElem? (i := 102) rfl)) rfl
theorem zw234 : Cond.selects RX11 yX11_clear yX11_clear ∈ zG := zG_of (zt2 (List.mem_of_getElem? (i := 103) rfl)) rfl
theorem zw235 : Cond.code yX11_clear cX11_clear 2 (some .int) ∈ zG := zG_of (zt2 (List.mem_of_getElem? (i := 104) rfl)) rfl
theorem zw236 : Cond.methodLink RL 40 yX11_read ∈ zG := zG_of (zt2 (List.mem_of_getElem? (i := 105) rfl)) rfl
theorem zw237 : Cond.instanceMethod yX11_read ∈ zG := zG_of (zt2 (List.mem_of_getElem? (i := 106) rfl)) rfl
theorem zw238 : Cond.selects RX11 yX11_read yX11_read ∈ zG := zG_of (zt2 (List.mem_of_getElem? (i := 107) rfl)) rfl
theorem zw239 : Cond.code yX11_read cX11_read 2 (some .int) ∈ zG := zG_of (zt2 (List.mem_of_getElem? (i := 108) rfl)) rfl
theorem zw240 : Cond.instanceMethod yX4_tell ∈ zG := zG_of (zt2 (List.mem_of_getElem? (i := 111) rfl)) rfl
theorem zw241 : Cond.code yX4_tell cX4_tell 4 (some .int) ∈ zG := zG_of (zt2 (List.mem_of_getElem? (i := 112) rfl)) rfl
theorem zw242 : Cond.methodLink RX4 32 yX4_nextToken ∈ zG := zG_of (zt2 (List.mem_of_getElem? (i := 113) rfl)) rfl
theorem zw243 : Cond.instanceMethod yX4_nextToken ∈ zG := zG_of (zt2 (List.mem_of_getElem? (i := 115) rfl)) rfl
theorem zw244 : Cond.code yX4_nextToken cX4_nextToken 1 none ∈ zG := zG_of (zt2 (List.mem_of_getElem? (i := 116) rfl)) rfl
theorem zw245 : Cond.methodLink RX4 102 yX4_byteAt ∈ zG := zG_of (zt2 (List.mem_of_getElem? (i := 117) rfl)) rfl
theorem zw246 : Cond.instanceMethod yX4_byteAt ∈ zG := zG_of (zt2 (List.mem_of_getElem? (i := 119) rfl)) rfl
theorem zw247 : Cond.code yX4_byteAt cX4_byteAt 2 (some .int) ∈ zG := zG_of (zt2 (List.mem_of_getElem? (i := 120) rfl)) rfl
theorem zw248 : Cond.methodLink RX4 115 yX4_sortOf ∈ zG := zG_of (zt2 (List.mem_of_getElem? (i := 121) rfl)) rfl
theorem zw249 : Cond.static yX4_sortOf ∈ zG := zG_of (zt2 (List.mem_of_getElem? (i := 122) rfl)) rfl
theorem zw250 : Cond.code yX4_sortOf cX4_sortOf 1 (some .int) ∈ zG := zG_of (zt2 (List.mem_of_getElem? (i := 123) rfl)) rfl
theorem zw251 : Cond.methodLink RX4 118 Lib.Math.min.name ∈ zG := zG_of (zt2 (List.mem_of_getElem? (i := 124) rfl)) rfl
theorem zw252 : Cond.static Lib.Math.min.name ∈ zG := zG_of (zt2 (List.mem_of_getElem? (i := 125) rfl)) rfl
theorem zw253 : Cond.code Lib.Math.min.name Lib.Math.min.code 2 (some .int) ∈ zG := zG_of (zt2 (List.mem_of_getElem? (i := 126) rfl)) rfl
theorem zw254 : Cond.methodLink RX4 35 yX4_tellRoad ∈ zG := zG_of (zt2 (List.mem_of_getElem? (i := 127) rfl)) rfl
theorem zw255 : Cond.instanceMethod yX4_tellRoad ∈ zG := zG_of (zt2 (List.mem_of_getElem? (i := 129) rfl)) rfl
theorem zw256 : Cond.code yX4_tellRoad cX4_tellRoad 4 (some .boolean) ∈ zG := zG_of (zt2 (List.mem_of_getElem? (i := 130) rfl)) rfl
theorem zw257 : Cond.methodLink RX4 44 yX4_isWord ∈ zG := zG_of (zt2 (List.mem_of_getElem? (i := 132) rfl)) rfl
theorem zw258 : Cond.instanceMethod yX4_isWord ∈ zG := zG_of (zt2 (List.mem_of_getElem? (i := 134) rfl)) rfl
theorem zw259 : Cond.code yX4_isWord cX4_isWord 3 (some .boolean) ∈ zG := zG_of (zt2 (List.mem_of_getElem? (i := 135) rfl)) rfl
theorem zw260 : Cond.methodLink RX4 106 yJ0_length_8abf5 ∈ zG := zG_of (zt2 (List.mem_of_getElem? (i := 136) rfl)) rfl
theorem zw261 : Cond.instanceMethod yJ0_length_8abf5 ∈ zG := zG_of (zt2 (List.mem_of_getElem? (i := 137) rfl)) rfl
theorem zw262 : Cond.selects RJ0 yJ0_length_8abf5 yJ0_length_8abf5 ∈ zG := zG_of (zt2 (List.mem_of_getElem? (i := 138) rfl)) rfl
theorem zw263 : Cond.code yJ0_length_8abf5 cJ0_length_8abf5 1 (some .int) ∈ zG := zG_of (zt2 (List.mem_of_getElem? (i := 139) rfl)) rfl
theorem zw264 : Cond.methodLink RJ0 335 yJ0_coder_7d493 ∈ zG := zG_of (zt2 (List.mem_of_getElem? (i := 140) rfl)) rfl
theorem zw265 : Cond.instanceMethod yJ0_coder_7d493 ∈ zG := zG_of (zt2 (List.mem_of_getElem? (i := 141) rfl)) rfl
theorem zw266 : Cond.selects RJ0 yJ0_coder_7d493 yJ0_coder_7d493 ∈ zG := zG_of (zt2 (List.mem_of_getElem? (i := 142) rfl)) rfl
theorem zw267 : Cond.code yJ0_coder_7d493 cJ0_coder_7d493 1 (some .byte) ∈ zG := zG_of (zt2 (List.mem_of_getElem? (i := 143) rfl)) rfl
theorem zw268 : Cond.fieldLink RJ0 38 RJ0 "COMPACT_STRINGS" "Z" ∈ zG := zG_of (zt2 (List.mem_of_getElem? (i := 144) rfl)) rfl
theorem zw269 : Cond.methodLink RX4 111 yJ0_charAt_5068e ∈ zG := zG_of (zt2 (List.mem_of_getElem? (i := 146) rfl)) rfl
theorem zw270 : Cond.instanceMethod yJ0_charAt_5068e ∈ zG := zG_of (zt2 (List.mem_of_getElem? (i := 147) rfl)) rfl
theorem zw271 : Cond.selects RJ0 yJ0_charAt_5068e yJ0_charAt_5068e ∈ zG := zG_of (zt2 (List.mem_of_getElem? (i := 148) rfl)) rfl
theorem zw272 : Cond.code yJ0_charAt_5068e cJ0_charAt_5068e 2 (some .char) ∈ zG := zG_of (zt2 (List.mem_of_getElem? (i := 149) rfl)) rfl
theorem zw273 : Cond.methodLink RJ0 492 yJ0_isLatin1_aae02 ∈ zG := zG_of (zt2 (List.mem_of_getElem? (i := 150) rfl)) rfl
theorem zw274 : Cond.instanceMethod yJ0_isLatin1_aae02 ∈ zG := zG_of (zt2 (List.mem_of_getElem? (i := 151) rfl)) rfl
theorem zw275 : Cond.selects RJ0 yJ0_isLatin1_aae02 yJ0_isLatin1_aae02 ∈ zG := zG_of (zt2 (List.mem_of_getElem? (i := 152) rfl)) rfl
theorem zw276 : Cond.code yJ0_isLatin1_aae02 cJ0_isLatin1_aae02 1 (some .boolean) ∈ zG := zG_of (zt2 (List.mem_of_getElem? (i := 153) rfl)) rfl
theorem zw277 : Cond.methodLink RJ0 495 yJ1_charAt_3b067 ∈ zG := zG_of (zt2 (List.mem_of_getElem? (i := 154) rfl)) rfl
theorem zw278 : Cond.static yJ1_charAt_3b067 ∈ zG := zG_of (zt2 (List.mem_of_getElem? (i := 155) rfl)) rfl
theorem zw279 : Cond.code yJ1_charAt_3b067 cJ1_charAt_3b067 2 (some .char) ∈ zG := zG_of (zt2 (List.mem_of_getElem? (i := 156) rfl)) rfl
theorem zw280 : Cond.methodLink RJ1 9 yJ0_checkIndex_df160 ∈ zG := zG_of (zt2 (List.mem_of_getElem? (i := 157) rfl)) rfl
theorem zw281 : Cond.static yJ0_checkIndex_df160 ∈ zG := zG_of (zt2 (List.mem_of_getElem? (i := 158) rfl)) rfl
theorem zw282 : Cond.code yJ0_checkIndex_df160 cJ0_checkIndex_df160 2 none ∈ zG := zG_of (zt2 (List.mem_of_getElem? (i := 159) rfl)) rfl
theorem zw283 : Cond.fieldLink RJ0 1053 RJ3 "SIOOBE_FORMATTER" "Ljava/util/function/BiFunction;" ∈ zG := zG_of (zt2 (List.mem_of_getElem? (i := 160) rfl)) rfl
theorem zw284 : Cond.methodLink RJ0 1059 yJ3_checkIndex_8e157 ∈ zG := zG_of (zt2 (List.mem_of_getElem? (i := 162) rfl)) rfl
theorem zw285 : Cond.static yJ3_checkIndex_8e157 ∈ zG := zG_of (zt2 (List.mem_of_getElem? (i := 163) rfl)) rfl
theorem zw286 : Cond.code yJ3_checkIndex_8e157 cJ3_checkIndex_8e157 3 (some .int) ∈ zG := zG_of (zt2 (List.mem_of_getElem? (i := 164) rfl)) rfl
theorem zw287 : Cond.methodLink RJ0 498 yJ2_charAt_3b067 ∈ zG := zG_of (zt2 (List.mem_of_getElem? (i := 165) rfl)) rfl
theorem zw288 : Cond.static yJ2_charAt_3b067 ∈ zG := zG_of (zt2 (List.mem_of_getElem? (i := 166) rfl)) rfl
theorem zw289 : Cond.code yJ2_charAt_3b067 cJ2_charAt_3b067 2 (some .char) ∈ zG := zG_of (zt2 (List.mem_of_getElem? (i := 167) rfl)) rfl
theorem zw290 : Cond.methodLink RJ2 67 yJ2_checkIndex_2214a ∈ zG := zG_of (zt2 (List.mem_of_getElem? (i := 168) rfl)) rfl
theorem zw291 : Cond.static yJ2_checkIndex_2214a ∈ zG := zG_of (zt2 (List.mem_of_getElem? (i := 169) rfl)) rfl
theorem zw292 : Cond.code yJ2_checkIndex_2214a cJ2_checkIndex_2214a 2 none ∈ zG := zG_of (zt2 (List.mem_of_getElem? (i := 170) rfl)) rfl
theorem zw293 : Cond.methodLink RJ2 48 yJ2_length_9d52b ∈ zG := zG_of (zt2 (List.mem_of_getElem? (i := 171) rfl)) rfl
theorem zw294 : Cond.static yJ2_length_9d52b ∈ zG := zG_of (zt2 (List.mem_of_getElem? (i := 172) rfl)) rfl
theorem zw295 : Cond.code yJ2_length_9d52b cJ2_length_9d52b 1 (some .int) ∈ zG := zG_of (zt2 (List.mem_of_getElem? (i := 173) rfl)) rfl
theorem zw296 : Cond.methodLink RJ2 414 yJ0_checkIndex_df160 ∈ zG := zG_of (zt2 (List.mem_of_getElem? (i := 174) rfl)) rfl
theorem zw297 : Cond.methodLink RJ2 71 yJ2_getChar_3b067 ∈ zG := zG_of (zt2 (List.mem_of_getElem? (i := 175) rfl)) rfl
theorem zw298 : Cond.static yJ2_getChar_3b067 ∈ zG := zG_of (zt2 (List.mem_of_getElem? (i := 176) rfl)) rfl
theorem zw299 : Cond.code yJ2_getChar_3b067 cJ2_getChar_3b067 2 (some .char) ∈ zG := zG_of (zt2 (List.mem_of_getElem? (i := 177) rfl)) rfl
theorem zw300 : Cond.fieldLink RJ2 44 RJ2 "$assertionsDisabled" "Z" ∈ zG := zG_of (zt2 (List.mem_of_getElem? (i := 178) rfl)) rfl
theorem zw301 : Cond.fieldLink RJ2 59 RJ2 "HI_BYTE_SHIFT" "I" ∈ zG := zG_of (zt2 (List.mem_of_getElem? (i := 180) rfl)) rfl
theorem zw302 : Cond.fieldLink RJ2 63 RJ2 "LO_BYTE_SHIFT" "I" ∈ zG := zG_of (zt2 (List.mem_of_getElem? (i := 182) rfl)) rfl
theorem zw303 : Cond.methodLink RX4 48 yX4_nextNumber ∈ zG := zG_of (zt2 (List.mem_of_getElem? (i := 184) rfl)) rfl
theorem zw304 : Cond.instanceMethod yX4_nextNumber ∈ zG := zG_of (zt2 (List.mem_of_getElem? (i := 186) rfl)) rfl
theorem zw305 : Cond.code yX4_nextNumber cX4_nextNumber 5 (some .int) ∈ zG := zG_of (zt2 (List.mem_of_getElem? (i := 187) rfl)) rfl
theorem zw306 : Cond.methodLink RX4 52 yX4_nextIsEnd ∈ zG := zG_of (zt2 (List.mem_of_getElem? (i := 188) rfl)) rfl
theorem zw307 : Cond.instanceMethod yX4_nextIsEnd ∈ zG := zG_of (zt2 (List.mem_of_getElem? (i := 190) rfl)) rfl
theorem zw308 : Cond.code yX4_nextIsEnd cX4_nextIsEnd 1 (some .boolean) ∈ zG := zG_of (zt2 (List.mem_of_getElem? (i := 191) rfl)) rfl
theorem zw309 : Cond.methodLink RX4 39 yX4_tellItem ∈ zG := zG_of (zt2 (List.mem_of_getElem? (i := 193) rfl)) rfl
theorem zw310 : Cond.instanceMethod yX4_tellItem ∈ zG := zG_of (zt2 (List.mem_of_getElem? (i := 195) rfl)) rfl
theorem zw311 : Cond.code yX4_tellItem cX4_tellItem 2 (some .boolean) ∈ zG := zG_of (zt2 (List.mem_of_getElem? (i := 196) rfl)) rfl
theorem zw312 : Cond.methodLink RX4 64 yX4_tellCobble ∈ zG := zG_of (zt2 (List.mem_of_getElem? (i := 198) rfl)) rfl
theorem zw313 : Cond.instanceMethod yX4_tellCobble ∈ zG := zG_of (zt2 (List.mem_of_getElem? (i := 200) rfl)) rfl
theorem zw314 : Cond.code yX4_tellCobble cX4_tellCobble 5 (some .boolean) ∈ zG := zG_of (zt2 (List.mem_of_getElem? (i := 201) rfl)) rfl
theorem zw315 : Cond.methodLink RX4 72 yX4_tellWind ∈ zG := zG_of (zt2 (List.mem_of_getElem? (i := 205) rfl)) rfl
theorem zw316 : Cond.instanceMethod yX4_tellWind ∈ zG := zG_of (zt2 (List.mem_of_getElem? (i := 207) rfl)) rfl
theorem zw317 : Cond.code yX4_tellWind cX4_tellWind 5 (some .boolean) ∈ zG := zG_of (zt2 (List.mem_of_getElem? (i := 208) rfl)) rfl
theorem zw318 : Cond.methodLink RX4 79 yX4_tellHead ∈ zG := zG_of (zt2 (List.mem_of_getElem? (i := 212) rfl)) rfl
theorem zw319 : Cond.instanceMethod yX4_tellHead ∈ zG := zG_of (zt2 (List.mem_of_getElem? (i := 214) rfl)) rfl
theorem zw320 : Cond.code yX4_tellHead cX4_tellHead 5 (some .boolean) ∈ zG := zG_of (zt2 (List.mem_of_getElem? (i := 215) rfl)) rfl
theorem zw321 : Cond.instanceMethod yX10_copyFrom ∈ zG := zG_of (zt2 (List.mem_of_getElem? (i := 220) rfl)) rfl
theorem zw322 : Cond.code yX10_copyFrom cX10_copyFrom 2 none ∈ zG := zG_of (zt2 (List.mem_of_getElem? (i := 221) rfl)) rfl
theorem zw323 : Cond.instanceMethod yX5_copyFrom ∈ zG := zG_of (zt2 (List.mem_of_getElem? (i := 224) rfl)) rfl
theorem zw324 : Cond.code yX5_copyFrom cX5_copyFrom 2 none ∈ zG := zG_of (zt2 (List.mem_of_getElem? (i := 225) rfl)) rfl
theorem zw325 : Cond.methodLink RX5 25 arraycopyName ∈ zG := zG_of (zt2 (List.mem_of_getElem? (i := 226) rfl)) rfl
theorem zw326 : Cond.static arraycopyName ∈ zG := zG_of (zt2 (List.mem_of_getElem? (i := 227) rfl)) rfl
theorem zw327 : Cond.native arraycopyName ∈ zG := zG_of (zt2 (List.mem_of_getElem? (i := 228) rfl)) rfl
theorem zw328 : Cond.instanceMethod yX8_copyFrom ∈ zG := zG_of (zt2 (List.mem_of_getElem? (i := 231) rfl)) rfl
theorem zw329 : Cond.code yX8_copyFrom cX8_copyFrom 2 none ∈ zG := zG_of (zt2 (List.mem_of_getElem? (i := 232) rfl)) rfl
theorem zw330 : Cond.methodLink RX8 37 arraycopyName ∈ zG := zG_of (zt2 (List.mem_of_getElem? (i := 233) rfl)) rfl
theorem zw331 : Cond.methodLink RX10 66 arraycopyName ∈ zG := zG_of (zt2 (List.mem_of_getElem? (i := 234) rfl)) rfl
theorem zw332 : Cond.arrayClass .byte ∈ zG := zG_of (zt2 (List.mem_of_getElem? (i := 235) rfl)) rfl
theorem zw333 : Cond.methodLink RL 44 yX11_walk ∈ zG := zG_of (zt2 (List.mem_of_getElem? (i := 236) rfl)) rfl
theorem zw334 : Cond.instanceMethod yX11_walk ∈ zG := zG_of (zt2 (List.mem_of_getElem? (i := 237) rfl)) rfl
theorem zw335 : Cond.selects RX11 yX11_walk yX11_walk ∈ zG := zG_of (zt2 (List.mem_of_getElem? (i := 238) rfl)) rfl
theorem zw336 : Cond.code yX11_walk cX11_walk 2 (some .int) ∈ zG := zG_of (zt2 (List.mem_of_getElem? (i := 239) rfl)) rfl
theorem zw337 : Cond.methodLink RX11 149 yX11_isHead ∈ zG := zG_of (zt3 (List.mem_of_getElem? (i := 0) rfl)) rfl
theorem zw338 : Cond.instanceMethod yX11_isHead ∈ zG := zG_of (zt3 (List.mem_of_getElem? (i := 2) rfl)) rfl
theorem zw339 : Cond.code yX11_isHead cX11_isHead 2 (some .boolean) ∈ zG := zG_of (zt3 (List.mem_of_getElem? (i := 3) rfl)) rfl
theorem zw340 : Cond.instanceMethod yX10_setOf ∈ zG := zG_of (zt3 (List.mem_of_getElem? (i := 6) rfl)) rfl
theorem zw341 : Cond.code yX10_setOf cX10_setOf 2 (some .int) ∈ zG := zG_of (zt3 (List.mem_of_getElem? (i := 7) rfl)) rfl
theorem zw342 : Cond.instanceMethod yX8_isFallen ∈ zG := zG_of (zt3 (List.mem_of_getElem? (i := 11) rfl)) rfl
theorem zw343 : Cond.code yX8_isFallen cX8_isFallen 2 (some .boolean) ∈ zG := zG_of (zt3 (List.mem_of_getElem? (i := 12) rfl)) rfl
theorem zw344 : Cond.instanceMethod yX5_fells ∈ zG := zG_of (zt3 (List.mem_of_getElem? (i := 15) rfl)) rfl
theorem zw345 : Cond.code yX5_fells cX5_fells 2 (some .boolean) ∈ zG := zG_of (zt3 (List.mem_of_getElem? (i := 16) rfl)) rfl
theorem zw346 : Cond.methodLink RX11 166 yX11_bit ∈ zG := zG_of (zt3 (List.mem_of_getElem? (i := 17) rfl)) rfl
theorem zw347 : Cond.static yX11_bit ∈ zG := zG_of (zt3 (List.mem_of_getElem? (i := 18) rfl)) rfl
theorem zw348 : Cond.code yX11_bit cX11_bit 1 (some .int) ∈ zG := zG_of (zt3 (List.mem_of_getElem? (i := 19) rfl)) rfl
theorem zw349 : Cond.methodLink RL 48 yX11_step ∈ zG := zG_of (zt3 (List.mem_of_getElem? (i := 20) rfl)) rfl
theorem zw350 : Cond.instanceMethod yX11_step ∈ zG := zG_of (zt3 (List.mem_of_getElem? (i := 21) rfl)) rfl
theorem zw351 : Cond.selects RX11 yX11_step yX11_step ∈ zG := zG_of (zt3 (List.mem_of_getElem? (i := 22) rfl)) rfl
theorem zw352 : Cond.code yX11_step cX11_step 3 (some .int) ∈ zG := zG_of (zt3 (List.mem_of_getElem? (i := 23) rfl)) rfl
theorem zw353 : Cond.instanceMethod yX8_isOver ∈ zG := zG_of (zt3 (List.mem_of_getElem? (i := 26) rfl)) rfl
theorem zw354 : Cond.code yX8_isOver cX8_isOver 2 (some .boolean) ∈ zG := zG_of (zt3 (List.mem_of_getElem? (i := 27) rfl)) rfl
theorem zw355 : Cond.methodLink RX8 52 yX8_isFallen ∈ zG := zG_of (zt3 (List.mem_of_getElem? (i := 28) rfl)) rfl
theorem zw356 : Cond.methodLink RX11 176 yX11_no ∈ zG := zG_of (zt3 (List.mem_of_getElem? (i := 29) rfl)) rfl
theorem zw357 : Cond.instanceMethod yX11_no ∈ zG := zG_of (zt3 (List.mem_of_getElem? (i := 31) rfl)) rfl
theorem zw358 : Cond.code yX11_no cX11_no 2 (some .int) ∈ zG := zG_of (zt3 (List.mem_of_getElem? (i := 32) rfl)) rfl
theorem zw359 : Cond.instanceMethod yX8_keep ∈ zG := zG_of (zt3 (List.mem_of_getElem? (i := 35) rfl)) rfl
theorem zw360 : Cond.code yX8_keep cX8_keep 1 none ∈ zG := zG_of (zt3 (List.mem_of_getElem? (i := 36) rfl)) rfl
theorem zw361 : Cond.methodLink RX8 73 yX8_dropOldest ∈ zG := zG_of (zt3 (List.mem_of_getElem? (i := 37) rfl)) rfl
theorem zw362 : Cond.instanceMethod yX8_dropOldest ∈ zG := zG_of (zt3 (List.mem_of_getElem? (i := 39) rfl)) rfl
theorem zw363 : Cond.code yX8_dropOldest cX8_dropOldest 2 none ∈ zG := zG_of (zt3 (List.mem_of_getElem? (i := 40) rfl)) rfl
theorem zw364 : Cond.instanceMethod yX10_kindOf ∈ zG := zG_of (zt3 (List.mem_of_getElem? (i := 44) rfl)) rfl
theorem zw365 : Cond.code yX10_kindOf cX10_kindOf 2 (some .int) ∈ zG := zG_of (zt3 (List.mem_of_getElem? (i := 45) rfl)) rfl
theorem zw366 : Cond.methodLink RX11 185 yX11_kind ∈ zG := zG_of (zt3 (List.mem_of_getElem? (i := 46) rfl)) rfl
theorem zw367 : Cond.instanceMethod yX11_kind ∈ zG := zG_of (zt3 (List.mem_of_getElem? (i := 48) rfl)) rfl
theorem zw368 : Cond.code yX11_kind cX11_kind 2 (some (.object "SmallCrown$Plain")) ∈ zG := zG_of (zt3 (List.mem_of_getElem? (i := 49) rfl)) rfl
theorem zw369 : Cond.instanceMethod yX8_go ∈ zG := zG_of (zt3 (List.mem_of_getElem? (i := 52) rfl)) rfl
theorem zw370 : Cond.code yX8_go cX8_go 5 none ∈ zG := zG_of (zt3 (List.mem_of_getElem? (i := 53) rfl)) rfl
theorem zw371 : Cond.instanceMethod yX5_cellBehind ∈ zG := zG_of (zt3 (List.mem_of_getElem? (i := 56) rfl)) rfl
theorem zw372 : Cond.code yX5_cellBehind cX5_cellBehind 3 (some .int) ∈ zG := zG_of (zt3 (List.mem_of_getElem? (i := 57) rfl)) rfl
theorem zw373 : Cond.methodLink RX5 41 Lib.Math.min.name ∈ zG := zG_of (zt3 (List.mem_of_getElem? (i := 58) rfl)) rfl
theorem zw374 : Cond.methodLink RX8 67 yX3_leanBehind ∈ zG := zG_of (zt3 (List.mem_of_getElem? (i := 61) rfl)) rfl
theorem zw375 : Cond.instanceMethod yX3_leanBehind ∈ zG := zG_of (zt3 (List.mem_of_getElem? (i := 62) rfl)) rfl
theorem zw376 : Cond.selects RX3 yX3_leanBehind yX3_leanBehind ∈ zG := zG_of (zt3 (List.mem_of_getElem? (i := 63) rfl)) rfl
theorem zw377 : Cond.sameMethod "SmallCrown$Plain" "SmallCrown$Plain" "leanBehind" "(IIII)I" ∈ zG := zG_of (zt3 (List.mem_of_getElem? (i := 64) rfl)) rfl
theorem zw378 : Cond.selects RX0 yX3_leanBehind yX0_leanBehind ∈ zG := zG_of (zt3 (List.mem_of_getElem? (i := 65) rfl)) rfl
theorem zw379 : Cond.instanceMethod yX0_leanBehind ∈ zG := zG_of (zt3 (List.mem_of_getElem? (i := 66) rfl)) rfl
theorem zw380 : Cond.code yX0_leanBehind cX0_leanBehind 5 (some .int) ∈ zG := zG_of (zt3 (List.mem_of_getElem? (i := 67) rfl)) rfl
theorem zw381 : Cond.methodLink RX0 7 yX7_leanBehind ∈ zG := zG_of (zt3 (List.mem_of_getElem? (i := 68) rfl)) rfl
theorem zw382 : Cond.instanceMethod yX7_leanBehind ∈ zG := zG_of (zt3 (List.mem_of_getElem? (i := 69) rfl)) rfl
theorem zw383 : Cond.code yX7_leanBehind cX7_leanBehind 6 (some .int) ∈ zG := zG_of (zt3 (List.mem_of_getElem? (i := 70) rfl)) rfl
theorem zw384 : Cond.methodLink RX7 7 yX3_leanBehind ∈ zG := zG_of (zt3 (List.mem_of_getElem? (i := 71) rfl)) rfl
theorem zw385 : Cond.selects RX1 yX3_leanBehind yX1_leanBehind ∈ zG := zG_of (zt3 (List.mem_of_getElem? (i := 72) rfl)) rfl
theorem zw386 : Cond.instanceMethod yX1_leanBehind ∈ zG := zG_of (zt3 (List.mem_of_getElem? (i := 73) rfl)) rfl
theorem zw387 : Cond.code yX1_leanBehind cX1_leanBehind 5 (some .int) ∈ zG := zG_of (zt3 (List.mem_of_getElem? (i := 74) rfl)) rfl
theorem zw388 : Cond.methodLink RX1 7 yX6_leanBehind ∈ zG := zG_of (zt3 (List.mem_of_getElem? (i := 75) rfl)) rfl
theorem zw389 : Cond.instanceMethod yX6_leanBehind ∈ zG := zG_of (zt3 (List.mem_of_getElem? (i := 76) rfl)) rfl
theorem zw390 : Cond.code yX6_leanBehind cX6_leanBehind 6 (some .int) ∈ zG := zG_of (zt3 (List.mem_of_getElem? (i := 77) rfl)) rfl
theorem zw391 : Cond.methodLink RX6 7 yX3_leanBehind ∈ zG := zG_of (zt3 (List.mem_of_getElem? (i := 78) rfl)) rfl
theorem zw392 : Cond.selects RX2 yX3_leanBehind yX2_leanBehind ∈ zG := zG_of (zt3 (List.mem_of_getElem? (i := 79) rfl)) rfl
theorem zw393 : Cond.instanceMethod yX2_leanBehind ∈ zG := zG_of (zt3 (List.mem_of_getElem? (i := 80) rfl)) rfl
theorem zw394 : Cond.code yX2_leanBehind cX2_leanBehind 6 (some .int) ∈ zG := zG_of (zt3 (List.mem_of_getElem? (i := 81) rfl)) rfl
theorem zw395 : Cond.methodLink RX2 7 yX7_leanBehind ∈ zG := zG_of (zt3 (List.mem_of_getElem? (i := 82) rfl)) rfl
theorem zw396 : Cond.selects RX6 yX3_leanBehind yX6_leanBehind ∈ zG := zG_of (zt3 (List.mem_of_getElem? (i := 83) rfl)) rfl
theorem zw397 : Cond.selects RX7 yX3_leanBehind yX7_leanBehind ∈ zG := zG_of (zt3 (List.mem_of_getElem? (i := 84) rfl)) rfl
theorem zw398 : Cond.code yX3_leanBehind cX3_leanBehind 5 (some .int) ∈ zG := zG_of (zt3 (List.mem_of_getElem? (i := 85) rfl)) rfl
theorem zw399 : Cond.methodLink RL 52 yX11_hand ∈ zG := zG_of (zt3 (List.mem_of_getElem? (i := 86) rfl)) rfl
theorem zw400 : Cond.instanceMethod yX11_hand ∈ zG := zG_of (zt3 (List.mem_of_getElem? (i := 87) rfl)) rfl
theorem zw401 : Cond.selects RX11 yX11_hand yX11_hand ∈ zG := zG_of (zt3 (List.mem_of_getElem? (i := 88) rfl)) rfl
theorem zw402 : Cond.code yX11_hand cX11_hand 3 (some .int) ∈ zG := zG_of (zt3 (List.mem_of_getElem? (i := 89) rfl)) rfl
theorem zw403 : Cond.instanceMethod yX8_isThrough ∈ zG := zG_of (zt3 (List.mem_of_getElem? (i := 92) rfl)) rfl
theorem zw404 : Cond.code yX8_isThrough cX8_isThrough 2 (some .boolean) ∈ zG := zG_of (zt3 (List.mem_of_getElem? (i := 93) rfl)) rfl
theorem zw405 : Cond.methodLink RL 56 yX11_undo ∈ zG := zG_of (zt3 (List.mem_of_getElem? (i := 94) rfl)) rfl
theorem zw406 : Cond.instanceMethod yX11_undo ∈ zG := zG_of (zt3 (List.mem_of_getElem? (i := 95) rfl)) rfl
theorem zw407 : Cond.selects RX11 yX11_undo yX11_undo ∈ zG := zG_of (zt3 (List.mem_of_getElem? (i := 96) rfl)) rfl
theorem zw408 : Cond.code yX11_undo cX11_undo 1 (some .int) ∈ zG := zG_of (zt3 (List.mem_of_getElem? (i := 97) rfl)) rfl
theorem zw409 : Cond.instanceMethod yX8_takeBack ∈ zG := zG_of (zt3 (List.mem_of_getElem? (i := 100) rfl)) rfl
theorem zw410 : Cond.code yX8_takeBack cX8_takeBack 1 none ∈ zG := zG_of (zt3 (List.mem_of_getElem? (i := 101) rfl)) rfl
theorem zw411 : Cond.methodLink RL 60 yX11_of ∈ zG := zG_of (zt3 (List.mem_of_getElem? (i := 102) rfl)) rfl
theorem zw412 : Cond.instanceMethod yX11_of ∈ zG := zG_of (zt3 (List.mem_of_getElem? (i := 103) rfl)) rfl
theorem zw413 : Cond.selects RX11 yX11_of yX11_of ∈ zG := zG_of (zt3 (List.mem_of_getElem? (i := 104) rfl)) rfl
theorem zw414 : Cond.code yX11_of cX11_of 3 (some .int) ∈ zG := zG_of (zt3 (List.mem_of_getElem? (i := 105) rfl)) rfl
theorem zw415 : Cond.methodLink RL 64 yX11_now ∈ zG := zG_of (zt3 (List.mem_of_getElem? (i := 106) rfl)) rfl
theorem zw416 : Cond.instanceMethod yX11_now ∈ zG := zG_of (zt3 (List.mem_of_getElem? (i := 107) rfl)) rfl
theorem zw417 : Cond.selects RX11 yX11_now yX11_now ∈ zG := zG_of (zt3 (List.mem_of_getElem? (i := 108) rfl)) rfl
theorem zw418 : Cond.code yX11_now cX11_now 3 (some .int) ∈ zG := zG_of (zt3 (List.mem_of_getElem? (i := 109) rfl)) rfl
theorem zw419 : Cond.methodLink RL 68 yX11_paces ∈ zG := zG_of (zt3 (List.mem_of_getElem? (i := 110) rfl)) rfl
theorem zw420 : Cond.instanceMethod yX11_paces ∈ zG := zG_of (zt3 (List.mem_of_getElem? (i := 111) rfl)) rfl
theorem zw421 : Cond.selects RX11 yX11_paces yX11_paces ∈ zG := zG_of (zt3 (List.mem_of_getElem? (i := 112) rfl)) rfl
theorem zw422 : Cond.code yX11_paces cX11_paces 5 (some .int) ∈ zG := zG_of (zt3 (List.mem_of_getElem? (i := 113) rfl)) rfl
theorem zw423 : Cond.methodLink RX11 211 yX11_isStep ∈ zG := zG_of (zt3 (List.mem_of_getElem? (i := 114) rfl)) rfl
theorem zw424 : Cond.static yX11_isStep ∈ zG := zG_of (zt3 (List.mem_of_getElem? (i := 115) rfl)) rfl
theorem zw425 : Cond.code yX11_isStep cX11_isStep 1 (some .boolean) ∈ zG := zG_of (zt3 (List.mem_of_getElem? (i := 116) rfl)) rfl
theorem zw426 : Cond.methodLink RX11 214 yX11_isRow ∈ zG := zG_of (zt3 (List.mem_of_getElem? (i := 117) rfl)) rfl
theorem zw427 : Cond.static yX11_isRow ∈ zG := zG_of (zt3 (List.mem_of_getElem? (i := 118) rfl)) rfl
theorem zw428 : Cond.code yX11_isRow cX11_isRow 3 (some .boolean) ∈ zG := zG_of (zt3 (List.mem_of_getElem? (i := 119) rfl)) rfl
theorem zw429 : Cond.fieldLink RX11 312 RX11 "TENS" "[I" ∈ zG := zG_of (zt3 (List.mem_of_getElem? (i := 120) rfl)) rfl
theorem zw430 : Cond.methodLink RX11 217 yX11_tryRow ∈ zG := zG_of (zt3 (List.mem_of_getElem? (i := 122) rfl)) rfl
theorem zw431 : Cond.instanceMethod yX11_tryRow ∈ zG := zG_of (zt3 (List.mem_of_getElem? (i := 124) rfl)) rfl
theorem zw432 : Cond.code yX11_tryRow cX11_tryRow 10 none ∈ zG := zG_of (zt3 (List.mem_of_getElem? (i := 125) rfl)) rfl
theorem zw433 : Cond.methodLink RX11 253 yX11_figuresOf ∈ zG := zG_of (zt3 (List.mem_of_getElem? (i := 126) rfl)) rfl
theorem zw434 : Cond.static yX11_figuresOf ∈ zG := zG_of (zt3 (List.mem_of_getElem? (i := 127) rfl)) rfl
theorem zw435 : Cond.code yX11_figuresOf cX11_figuresOf 3 (some .int) ∈ zG := zG_of (zt3 (List.mem_of_getElem? (i := 128) rfl)) rfl
theorem zw436 : Cond.methodLink RX11 256 yX11_paceOf ∈ zG := zG_of (zt3 (List.mem_of_getElem? (i := 129) rfl)) rfl
theorem zw437 : Cond.static yX11_paceOf ∈ zG := zG_of (zt3 (List.mem_of_getElem? (i := 130) rfl)) rfl
theorem zw438 : Cond.code yX11_paceOf cX11_paceOf 2 (some .int) ∈ zG := zG_of (zt3 (List.mem_of_getElem? (i := 131) rfl)) rfl
theorem zw439 : Cond.methodLink RL 73 yX11_soonest ∈ zG := zG_of (zt3 (List.mem_of_getElem? (i := 132) rfl)) rfl
theorem zw440 : Cond.instanceMethod yX11_soonest ∈ zG := zG_of (zt3 (List.mem_of_getElem? (i := 133) rfl)) rfl
theorem zw441 : Cond.selects RX11 yX11_soonest yX11_soonest ∈ zG := zG_of (zt3 (List.mem_of_getElem? (i := 134) rfl)) rfl
theorem zw442 : Cond.code yX11_soonest cX11_soonest 6 (some .int) ∈ zG := zG_of (zt3 (List.mem_of_getElem? (i := 135) rfl)) rfl
theorem zw443 : Cond.instanceMethod yX9_fillSure ∈ zG := zG_of (zt3 (List.mem_of_getElem? (i := 138) rfl)) rfl
theorem zw444 : Cond.code yX9_fillSure cX9_fillSure 9 none ∈ zG := zG_of (zt3 (List.mem_of_getElem? (i := 139) rfl)) rfl
theorem zw445 : Cond.constant RX9 28 (16777216) ∈ zG := zG_of (zt3 (List.mem_of_getElem? (i := 140) rfl)) rfl
theorem zw446 : Cond.methodLink RX9 50 yX9_worst ∈ zG := zG_of (zt3 (List.mem_of_getElem? (i := 141) rfl)) rfl
theorem zw447 : Cond.instanceMethod yX9_worst ∈ zG := zG_of (zt3 (List.mem_of_getElem? (i := 143) rfl)) rfl
theorem zw448 : Cond.code yX9_worst cX9_worst 11 (some .int) ∈ zG := zG_of (zt3 (List.mem_of_getElem? (i := 144) rfl)) rfl
theorem zw449 : Cond.methodLink RX9 71 yX3_leanBehind ∈ zG := zG_of (zt3 (List.mem_of_getElem? (i := 148) rfl)) rfl
theorem zw450 : Cond.methodLink RX9 77 yX9_costFrom ∈ zG := zG_of (zt3 (List.mem_of_getElem? (i := 149) rfl)) rfl
theorem zw451 : Cond.instanceMethod yX9_costFrom ∈ zG := zG_of (zt3 (List.mem_of_getElem? (i := 151) rfl)) rfl
theorem zw452 : Cond.code yX9_costFrom cX9_costFrom 6 (some .int) ∈ zG := zG_of (zt3 (List.mem_of_getElem? (i := 152) rfl)) rfl
theorem zw453 : Cond.methodLink RX9 33 yX9_placeOf ∈ zG := zG_of (zt3 (List.mem_of_getElem? (i := 154) rfl)) rfl
theorem zw454 : Cond.static yX9_placeOf ∈ zG := zG_of (zt3 (List.mem_of_getElem? (i := 155) rfl)) rfl
theorem zw455 : Cond.code yX9_placeOf cX9_placeOf 3 (some .int) ∈ zG := zG_of (zt3 (List.mem_of_getElem? (i := 156) rfl)) rfl
theorem zw456 : Cond.methodLink RX9 41 yJ9_floorMod_7cf53 ∈ zG := zG_of (zt3 (List.mem_of_getElem? (i := 157) rfl)) rfl
theorem zw457 : Cond.methodLink RX9 81 Lib.Math.max.name ∈ zG := zG_of (zt3 (List.mem_of_getElem? (i := 159) rfl)) rfl
theorem zw458 : Cond.static Lib.Math.max.name ∈ zG := zG_of (zt3 (List.mem_of_getElem? (i := 160) rfl)) rfl
theorem zw459 : Cond.code Lib.Math.max.name Lib.Math.max.code 2 (some .int) ∈ zG := zG_of (zt3 (List.mem_of_getElem? (i := 161) rfl)) rfl
theorem zw460 : Cond.methodLink RX9 54 Lib.Math.min.name ∈ zG := zG_of (zt3 (List.mem_of_getElem? (i := 162) rfl)) rfl
theorem zw461 : Cond.methodLink RX9 57 yX9_put ∈ zG := zG_of (zt3 (List.mem_of_getElem? (i := 163) rfl)) rfl
theorem zw462 : Cond.instanceMethod yX9_put ∈ zG := zG_of (zt3 (List.mem_of_getElem? (i := 165) rfl)) rfl
theorem zw463 : Cond.code yX9_put cX9_put 6 none ∈ zG := zG_of (zt3 (List.mem_of_getElem? (i := 166) rfl)) rfl
theorem zw464 : Cond.constant RX11 229 (16777216) ∈ zG := zG_of (zt3 (List.mem_of_getElem? (i := 168) rfl)) rfl
theorem zw465 : Cond.methodLink RX11 230 yX11_firstPace ∈ zG := zG_of (zt3 (List.mem_of_getElem? (i := 169) rfl)) rfl
theorem zw466 : Cond.instanceMethod yX11_firstPace ∈ zG := zG_of (zt3 (List.mem_of_getElem? (i := 171) rfl)) rfl
theorem zw467 : Cond.code yX11_firstPace cX11_firstPace 7 (some .int) ∈ zG := zG_of (zt3 (List.mem_of_getElem? (i := 172) rfl)) rfl
theorem zw468 : Cond.instanceMethod yX9_leastBestPace ∈ zG := zG_of (zt3 (List.mem_of_getElem? (i := 175) rfl)) rfl
theorem zw469 : Cond.code yX9_leastBestPace cX9_leastBestPace 8 (some .int) ∈ zG := zG_of (zt3 (List.mem_of_getElem? (i := 176) rfl)) rfl
theorem zw470 : Cond.methodLink RL 78 yX11_hour ∈ zG := zG_of (zt3 (List.mem_of_getElem? (i := 177) rfl)) rfl
theorem zw471 : Cond.instanceMethod yX11_hour ∈ zG := zG_of (zt3 (List.mem_of_getElem? (i := 178) rfl)) rfl
theorem zw472 : Cond.selects RX11 yX11_hour yX11_hour ∈ zG := zG_of (zt3 (List.mem_of_getElem? (i := 179) rfl)) rfl
theorem zw473 : Cond.code yX11_hour cX11_hour 6 (some .int) ∈ zG := zG_of (zt3 (List.mem_of_getElem? (i := 180) rfl)) rfl
theorem zw474 : Cond.methodLink RL 82 yX11_sure ∈ zG := zG_of (zt3 (List.mem_of_getElem? (i := 181) rfl)) rfl
theorem zw475 : Cond.instanceMethod yX11_sure ∈ zG := zG_of (zt3 (List.mem_of_getElem? (i := 182) rfl)) rfl
theorem zw476 : Cond.selects RX11 yX11_sure yX11_sure ∈ zG := zG_of (zt3 (List.mem_of_getElem? (i := 183) rfl)) rfl
theorem zw477 : Cond.code yX11_sure cX11_sure 5 (some .int) ∈ zG := zG_of (zt3 (List.mem_of_getElem? (i := 184) rfl)) rfl
theorem zw478 : Cond.methodLink RL 86 yX11_flat ∈ zG := zG_of (zt3 (List.mem_of_getElem? (i := 185) rfl)) rfl
theorem zw479 : Cond.instanceMethod yX11_flat ∈ zG := zG_of (zt3 (List.mem_of_getElem? (i := 186) rfl)) rfl
theorem zw480 : Cond.selects RX11 yX11_flat yX11_flat ∈ zG := zG_of (zt3 (List.mem_of_getElem? (i := 187) rfl)) rfl
theorem zw481 : Cond.code yX11_flat cX11_flat 4 (some .int) ∈ zG := zG_of (zt3 (List.mem_of_getElem? (i := 188) rfl)) rfl
theorem zw482 : Cond.instanceMethod yX9_fillFlat ∈ zG := zG_of (zt3 (List.mem_of_getElem? (i := 191) rfl)) rfl
theorem zw483 : Cond.code yX9_fillFlat cX9_fillFlat 8 none ∈ zG := zG_of (zt3 (List.mem_of_getElem? (i := 192) rfl)) rfl
theorem zw484 : Cond.methodLink RX9 84 yX9_fewestFlat ∈ zG := zG_of (zt3 (List.mem_of_getElem? (i := 193) rfl)) rfl
theorem zw485 : Cond.instanceMethod yX9_fewestFlat ∈ zG := zG_of (zt3 (List.mem_of_getElem? (i := 195) rfl)) rfl
theorem zw486 : Cond.code yX9_fewestFlat cX9_fewestFlat 12 (some .int) ∈ zG := zG_of (zt3 (List.mem_of_getElem? (i := 196) rfl)) rfl
theorem zw487 : Cond.constant RX9 88 (65536) ∈ zG := zG_of (zt3 (List.mem_of_getElem? (i := 197) rfl)) rfl
theorem zw488 : Cond.constant RX11 238 (65536) ∈ zG := zG_of (zt3 (List.mem_of_getElem? (i := 198) rfl)) rfl
theorem zw489 : Cond.methodLink RL 90 yX11_note ∈ zG := zG_of (zt3 (List.mem_of_getElem? (i := 199) rfl)) rfl
theorem zw490 : Cond.instanceMethod yX11_note ∈ zG := zG_of (zt3 (List.mem_of_getElem? (i := 200) rfl)) rfl
theorem zw491 : Cond.selects RX11 yX11_note yX11_note ∈ zG := zG_of (zt3 (List.mem_of_getElem? (i := 201) rfl)) rfl
theorem zw492 : Cond.code yX11_note cX11_note 5 (some .int) ∈ zG := zG_of (zt3 (List.mem_of_getElem? (i := 202) rfl)) rfl
theorem zw493 : Cond.instanceMethod yX10_addNote ∈ zG := zG_of (zt3 (List.mem_of_getElem? (i := 205) rfl)) rfl
theorem zw494 : Cond.code yX10_addNote cX10_addNote 5 none ∈ zG := zG_of (zt3 (List.mem_of_getElem? (i := 206) rfl)) rfl
theorem zw495 : Cond.methodLink RL 94 yX11_forget ∈ zG := zG_of (zt3 (List.mem_of_getElem? (i := 207) rfl)) rfl
theorem zw496 : Cond.instanceMethod yX11_forget ∈ zG := zG_of (zt3 (List.mem_of_getElem? (i := 208) rfl)) rfl
theorem zw497 : Cond.selects RX11 yX11_forget yX11_forget ∈ zG := zG_of (zt3 (List.mem_of_getElem? (i := 209) rfl)) rfl
theorem zw498 : Cond.code yX11_forget cX11_forget 2 (some .int) ∈ zG := zG_of (zt3 (List.mem_of_getElem? (i := 210) rfl)) rfl
theorem zw499 : Cond.methodLink RL 98 yX11_is ∈ zG := zG_of (zt3 (List.mem_of_getElem? (i := 211) rfl)) rfl
theorem zw500 : Cond.instanceMethod yX11_is ∈ zG := zG_of (zt3 (List.mem_of_getElem? (i := 212) rfl)) rfl
theorem zw501 : Cond.selects RX11 yX11_is yX11_is ∈ zG := zG_of (zt3 (List.mem_of_getElem? (i := 213) rfl)) rfl
theorem zw502 : Cond.code yX11_is cX11_is 2 (some .int) ∈ zG := zG_of (zt3 (List.mem_of_getElem? (i := 214) rfl)) rfl
theorem zw503 : Cond.methodLink RX11 246 yX11_kindsThatFit ∈ zG := zG_of (zt3 (List.mem_of_getElem? (i := 215) rfl)) rfl
theorem zw504 : Cond.instanceMethod yX11_kindsThatFit ∈ zG := zG_of (zt3 (List.mem_of_getElem? (i := 217) rfl)) rfl
theorem zw505 : Cond.code yX11_kindsThatFit cX11_kindsThatFit 5 (some .int) ∈ zG := zG_of (zt3 (List.mem_of_getElem? (i := 218) rfl)) rfl
theorem zw506 : Cond.instanceMethod yX8_fellIn ∈ zG := zG_of (zt3 (List.mem_of_getElem? (i := 221) rfl)) rfl
theorem zw507 : Cond.code yX8_fellIn cX8_fellIn 2 (some .int) ∈ zG := zG_of (zt3 (List.mem_of_getElem? (i := 222) rfl)) rfl
theorem zw508 : Cond.methodLink RL 102 yX11_bowl ∈ zG := zG_of (zt3 (List.mem_of_getElem? (i := 223) rfl)) rfl
theorem zw509 : Cond.instanceMethod yX11_bowl ∈ zG := zG_of (zt3 (List.mem_of_getElem? (i := 224) rfl)) rfl
theorem zw510 : Cond.selects RX11 yX11_bowl yX11_bowl ∈ zG := zG_of (zt3 (List.mem_of_getElem? (i := 225) rfl)) rfl
theorem zw511 : Cond.code yX11_bowl cX11_bowl 7 (some .int) ∈ zG := zG_of (zt3 (List.mem_of_getElem? (i := 226) rfl)) rfl
theorem zw512 : Cond.methodLink RX11 249 yX11_mostThatEndAlike ∈ zG := zG_of (zt3 (List.mem_of_getElem? (i := 227) rfl)) rfl
theorem zw513 : Cond.instanceMethod yX11_mostThatEndAlike ∈ zG := zG_of (zt3 (List.mem_of_getElem? (i := 229) rfl)) rfl
theorem zw514 : Cond.code yX11_mostThatEndAlike cX11_mostThatEndAlike 7 (some .int) ∈ zG := zG_of (zt3 (List.mem_of_getElem? (i := 230) rfl)) rfl
theorem zw515 : Cond.methodLink RX11 331 yX11_endOfPace ∈ zG := zG_of (zt3 (List.mem_of_getElem? (i := 231) rfl)) rfl
theorem zw516 : Cond.instanceMethod yX11_endOfPace ∈ zG := zG_of (zt3 (List.mem_of_getElem? (i := 233) rfl)) rfl
theorem zw517 : Cond.code yX11_endOfPace cX11_endOfPace 5 (some .int) ∈ zG := zG_of (zt3 (List.mem_of_getElem? (i := 234) rfl)) rfl
theorem zw518 : Cond.methodLink RX11 334 Lib.Math.max.name ∈ zG := zG_of (zt3 (List.mem_of_getElem? (i := 235) rfl)) rfl
theorem zw519 : Cond.methodLink RL 106 yX11_bowed ∈ zG := zG_of (zt3 (List.mem_of_getElem? (i := 236) rfl)) rfl
theorem zw520 : Cond.instanceMethod yX11_bowed ∈ zG := zG_of (zt3 (List.mem_of_getElem? (i := 237) rfl)) rfl
theorem zw521 : Cond.selects RX11 yX11_bowed yX11_bowed ∈ zG := zG_of (zt3 (List.mem_of_getElem? (i := 238) rfl)) rfl
theorem zw522 : Cond.code yX11_bowed cX11_bowed 11 (some .int) ∈ zG := zG_of (zt3 (List.mem_of_getElem? (i := 239) rfl)) rfl
theorem zw523 : Cond.methodLink RL 111 yX11_pigeons ∈ zG := zG_of (zt4 (List.mem_of_getElem? (i := 1) rfl)) rfl
theorem zw524 : Cond.instanceMethod yX11_pigeons ∈ zG := zG_of (zt4 (List.mem_of_getElem? (i := 2) rfl)) rfl
theorem zw525 : Cond.selects RX11 yX11_pigeons yX11_pigeons ∈ zG := zG_of (zt4 (List.mem_of_getElem? (i := 3) rfl)) rfl
theorem zw526 : Cond.code yX11_pigeons cX11_pigeons 7 (some .int) ∈ zG := zG_of (zt4 (List.mem_of_getElem? (i := 4) rfl)) rfl
theorem zw527 : Cond.instanceMethod yX9_through ∈ zG := zG_of (zt4 (List.mem_of_getElem? (i := 7) rfl)) rfl
theorem zw528 : Cond.code yX9_through cX9_through 12 (some .long) ∈ zG := zG_of (zt4 (List.mem_of_getElem? (i := 8) rfl)) rfl
theorem zw529 : Cond.methodLink RX9 89 yX9_addChance ∈ zG := zG_of (zt4 (List.mem_of_getElem? (i := 9) rfl)) rfl
theorem zw530 : Cond.instanceMethod yX9_addChance ∈ zG := zG_of (zt4 (List.mem_of_getElem? (i := 11) rfl)) rfl
theorem zw531 : Cond.code yX9_addChance cX9_addChance 6 none ∈ zG := zG_of (zt4 (List.mem_of_getElem? (i := 12) rfl)) rfl
theorem zw532 : Cond.methodLink RX9 93 yX9_turnChances ∈ zG := zG_of (zt4 (List.mem_of_getElem? (i := 13) rfl)) rfl
theorem zw533 : Cond.instanceMethod yX9_turnChances ∈ zG := zG_of (zt4 (List.mem_of_getElem? (i := 15) rfl)) rfl
theorem zw534 : Cond.code yX9_turnChances cX9_turnChances 2 none ∈ zG := zG_of (zt4 (List.mem_of_getElem? (i := 16) rfl)) rfl
theorem zw535 : Cond.methodLink RX9 96 yX9_chanceOf ∈ zG := zG_of (zt4 (List.mem_of_getElem? (i := 17) rfl)) rfl
theorem zw536 : Cond.instanceMethod yX9_chanceOf ∈ zG := zG_of (zt4 (List.mem_of_getElem? (i := 19) rfl)) rfl
theorem zw537 : Cond.code yX9_chanceOf cX9_chanceOf 3 (some .long) ∈ zG := zG_of (zt4 (List.mem_of_getElem? (i := 20) rfl)) rfl
theorem zw538 : Cond.constantLong RX11 272 (10) ∈ zG := zG_of (zt4 (List.mem_of_getElem? (i := 21) rfl)) rfl
theorem zw539 : Cond.methodLink RX11 274 yX11_commonDivisor ∈ zG := zG_of (zt4 (List.mem_of_getElem? (i := 22) rfl)) rfl
theorem zw540 : Cond.static yX11_commonDivisor ∈ zG := zG_of (zt4 (List.mem_of_getElem? (i := 23) rfl)) rfl
theorem zw541 : Cond.code yX11_commonDivisor cX11_commonDivisor 11 (some .long) ∈ zG := zG_of (zt4 (List.mem_of_getElem? (i := 24) rfl)) rfl
theorem zw542 : Cond.methodLink RL 115 yX11_crowned ∈ zG := zG_of (zt4 (List.mem_of_getElem? (i := 25) rfl)) rfl
theorem zw543 : Cond.instanceMethod yX11_crowned ∈ zG := zG_of (zt4 (List.mem_of_getElem? (i := 26) rfl)) rfl
theorem zw544 : Cond.selects RX11 yX11_crowned yX11_crowned ∈ zG := zG_of (zt4 (List.mem_of_getElem? (i := 27) rfl)) rfl
theorem zw545 : Cond.code yX11_crowned cX11_crowned 10 (some .int) ∈ zG := zG_of (zt4 (List.mem_of_getElem? (i := 28) rfl)) rfl
theorem zw546 : Cond.constant RX11 278 (999999) ∈ zG := zG_of (zt4 (List.mem_of_getElem? (i := 29) rfl)) rfl
theorem zw547 : Cond.constantLong RX11 279 (1103515245) ∈ zG := zG_of (zt4 (List.mem_of_getElem? (i := 30) rfl)) rfl
theorem zw548 : Cond.constantLong RX11 281 (12345) ∈ zG := zG_of (zt4 (List.mem_of_getElem? (i := 31) rfl)) rfl
theorem zw549 : Cond.constantLong RX11 283 (2147483648) ∈ zG := zG_of (zt4 (List.mem_of_getElem? (i := 32) rfl)) rfl
theorem zw550 : Cond.constantLong RX11 285 (65536) ∈ zG := zG_of (zt4 (List.mem_of_getElem? (i := 33) rfl)) rfl
theorem zw551 : Cond.constantLong RX11 287 (3) ∈ zG := zG_of (zt4 (List.mem_of_getElem? (i := 34) rfl)) rfl
theorem zw552 : Cond.methodLink RL 119 yX11_part ∈ zG := zG_of (zt4 (List.mem_of_getElem? (i := 35) rfl)) rfl
theorem zw553 : Cond.instanceMethod yX11_part ∈ zG := zG_of (zt4 (List.mem_of_getElem? (i := 36) rfl)) rfl
theorem zw554 : Cond.selects RX11 yX11_part yX11_part ∈ zG := zG_of (zt4 (List.mem_of_getElem? (i := 37) rfl)) rfl
theorem zw555 : Cond.code yX11_part cX11_part 2 (some .long) ∈ zG := zG_of (zt4 (List.mem_of_getElem? (i := 38) rfl)) rfl
theorem zw556 : Cond.methodLink RL 124 yX11_image ∈ zG := zG_of (zt4 (List.mem_of_getElem? (i := 39) rfl)) rfl
theorem zw557 : Cond.instanceMethod yX11_image ∈ zG := zG_of (zt4 (List.mem_of_getElem? (i := 40) rfl)) rfl
theorem zw558 : Cond.selects RX11 yX11_image yX11_image ∈ zG := zG_of (zt4 (List.mem_of_getElem? (i := 41) rfl)) rfl
theorem zw559 : Cond.code yX11_image cX11_image 3 (some .int) ∈ zG := zG_of (zt4 (List.mem_of_getElem? (i := 42) rfl)) rfl
theorem zw560 : Cond.methodLink RL 128 yX11_from ∈ zG := zG_of (zt4 (List.mem_of_getElem? (i := 43) rfl)) rfl
theorem zw561 : Cond.instanceMethod yX11_from ∈ zG := zG_of (zt4 (List.mem_of_getElem? (i := 44) rfl)) rfl
theorem zw562 : Cond.selects RX11 yX11_from yX11_from ∈ zG := zG_of (zt4 (List.mem_of_getElem? (i := 45) rfl)) rfl
theorem zw563 : Cond.code yX11_from cX11_from 3 (some .int) ∈ zG := zG_of (zt4 (List.mem_of_getElem? (i := 46) rfl)) rfl
theorem zw564 : Cond.methodLink RL 132 yX11_status ∈ zG := zG_of (zt4 (List.mem_of_getElem? (i := 47) rfl)) rfl
theorem zw565 : Cond.instanceMethod yX11_status ∈ zG := zG_of (zt4 (List.mem_of_getElem? (i := 48) rfl)) rfl
theorem zw566 : Cond.selects RX11 yX11_status yX11_status ∈ zG := zG_of (zt4 (List.mem_of_getElem? (i := 49) rfl)) rfl
theorem zw567 : Cond.code yX11_status cX11_status 2 (some .int) ∈ zG := zG_of (zt4 (List.mem_of_getElem? (i := 50) rfl)) rfl
theorem zw568 : Cond.methodLink RL 136 yX11_count ∈ zG := zG_of (zt4 (List.mem_of_getElem? (i := 51) rfl)) rfl
theorem zw569 : Cond.instanceMethod yX11_count ∈ zG := zG_of (zt4 (List.mem_of_getElem? (i := 52) rfl)) rfl
theorem zw570 : Cond.selects RX11 yX11_count yX11_count ∈ zG := zG_of (zt4 (List.mem_of_getElem? (i := 53) rfl)) rfl
theorem zw571 : Cond.code yX11_count cX11_count 2 (some .int) ∈ zG := zG_of (zt4 (List.mem_of_getElem? (i := 54) rfl)) rfl
theorem zw572 : Cond.methodLink RL 140 yX11_digest ∈ zG := zG_of (zt4 (List.mem_of_getElem? (i := 55) rfl)) rfl
theorem zw573 : Cond.instanceMethod yX11_digest ∈ zG := zG_of (zt4 (List.mem_of_getElem? (i := 56) rfl)) rfl
theorem zw574 : Cond.selects RX11 yX11_digest yX11_digest ∈ zG := zG_of (zt4 (List.mem_of_getElem? (i := 57) rfl)) rfl
theorem zw575 : Cond.code yX11_digest cX11_digest 4 (some .long) ∈ zG := zG_of (zt4 (List.mem_of_getElem? (i := 58) rfl)) rfl
theorem zw576 : Cond.constantLong RX11 292 (1087) ∈ zG := zG_of (zt4 (List.mem_of_getElem? (i := 59) rfl)) rfl
theorem zw577 : Cond.constantLong RX11 294 (31) ∈ zG := zG_of (zt4 (List.mem_of_getElem? (i := 60) rfl)) rfl
theorem zw578 : Cond.methodLink RX11 296 yX11_count ∈ zG := zG_of (zt4 (List.mem_of_getElem? (i := 61) rfl)) rfl
theorem zw579 : Cond.instanceMethod yX5_addTo ∈ zG := zG_of (zt4 (List.mem_of_getElem? (i := 64) rfl)) rfl
theorem zw580 : Cond.code yX5_addTo cX5_addTo 6 (some .long) ∈ zG := zG_of (zt4 (List.mem_of_getElem? (i := 65) rfl)) rfl
theorem zw581 : Cond.constantLong RX5 44 (31) ∈ zG := zG_of (zt4 (List.mem_of_getElem? (i := 66) rfl)) rfl
theorem zw582 : Cond.instanceMethod yX10_addHeadsTo ∈ zG := zG_of (zt4 (List.mem_of_getElem? (i := 69) rfl)) rfl
theorem zw583 : Cond.code yX10_addHeadsTo cX10_addHeadsTo 6 (some .long) ∈ zG := zG_of (zt4 (List.mem_of_getElem? (i := 70) rfl)) rfl
theorem zw584 : Cond.constantLong RX10 76 (31) ∈ zG := zG_of (zt4 (List.mem_of_getElem? (i := 71) rfl)) rfl
theorem zw585 : Cond.methodLink RX11 306 yX11_now ∈ zG := zG_of (zt4 (List.mem_of_getElem? (i := 72) rfl)) rfl
theorem zw586 : Cond.instanceMethod yX10_addNotesTo ∈ zG := zG_of (zt4 (List.mem_of_getElem? (i := 75) rfl)) rfl
theorem zw587 : Cond.code yX10_addNotesTo cX10_addNotesTo 6 (some .long) ∈ zG := zG_of (zt4 (List.mem_of_getElem? (i := 76) rfl)) rfl
theorem zw588 : Cond.classLink RL 10 RX12 ∈ zG := zG_of (zt4 (List.mem_of_getElem? (i := 77) rfl)) rfl
theorem zw589 : Cond.instantiable RX12 22 ∈ zG := zG_of (zt4 (List.mem_of_getElem? (i := 78) rfl)) rfl
theorem zw590 : Cond.methodLink RL 12 yX12_init ∈ zG := zG_of (zt4 (List.mem_of_getElem? (i := 79) rfl)) rfl
theorem zw591 : Cond.instanceMethod yX12_init ∈ zG := zG_of (zt4 (List.mem_of_getElem? (i := 80) rfl)) rfl
theorem zw592 : Cond.code yX12_init cX12_init 1 none ∈ zG := zG_of (zt4 (List.mem_of_getElem? (i := 81) rfl)) rfl
theorem zw593 : Cond.methodLink RX12 1 objectInit ∈ zG := zG_of (zt4 (List.mem_of_getElem? (i := 82) rfl)) rfl
theorem zw594 : Cond.methodLink RX12 52 yX12_begin ∈ zG := zG_of (zt4 (List.mem_of_getElem? (i := 83) rfl)) rfl
theorem zw595 : Cond.static yX12_begin ∈ zG := zG_of (zt4 (List.mem_of_getElem? (i := 84) rfl)) rfl
theorem zw596 : Cond.code yX12_begin cX12_begin 4 none ∈ zG := zG_of (zt4 (List.mem_of_getElem? (i := 85) rfl)) rfl
theorem zw597 : Cond.fieldLink RX12 7 RX12 "now" "[I" ∈ zG := zG_of (zt4 (List.mem_of_getElem? (i := 86) rfl)) rfl
theorem zw598 : Cond.fieldLink RX12 13 RX12 "kept" "[I" ∈ zG := zG_of (zt4 (List.mem_of_getElem? (i := 87) rfl)) rfl
theorem zw599 : Cond.fieldLink RX12 16 RX12 "isKept" "[Z" ∈ zG := zG_of (zt4 (List.mem_of_getElem? (i := 88) rfl)) rfl
theorem zw600 : Cond.fieldLink RX12 20 RX12 "refused" "[I" ∈ zG := zG_of (zt4 (List.mem_of_getElem? (i := 89) rfl)) rfl
theorem zw601 : Cond.fieldLink RX12 211 RX12 "above" "J" ∈ zG := zG_of (zt4 (List.mem_of_getElem? (i := 90) rfl)) rfl
theorem zw602 : Cond.fieldLink RX12 23 RX12 "below" "J" ∈ zG := zG_of (zt4 (List.mem_of_getElem? (i := 91) rfl)) rfl
theorem zw603 : Cond.fieldLink RX12 27 RX12 "stones" "[I" ∈ zG := zG_of (zt4 (List.mem_of_getElem? (i := 92) rfl)) rfl
theorem zw604 : Cond.fieldLink RX12 151 RX12 "at" "I" ∈ zG := zG_of (zt4 (List.mem_of_getElem? (i := 93) rfl)) rfl
theorem zw605 : Cond.fieldLink RX12 147 RX12 "leaning" "I" ∈ zG := zG_of (zt4 (List.mem_of_getElem? (i := 94) rfl)) rfl
theorem zw606 : Cond.fieldLink RX12 154 RX12 "steps" "I" ∈ zG := zG_of (zt4 (List.mem_of_getElem? (i := 95) rfl)) rfl
theorem zw607 : Cond.fieldLink RX12 30 RX12 "latest" "[I" ∈ zG := zG_of (zt4 (List.mem_of_getElem? (i := 96) rfl)) rfl
theorem zw608 : Cond.fieldLink RX12 33 RX12 "ends" "[I" ∈ zG := zG_of (zt4 (List.mem_of_getElem? (i := 97) rfl)) rfl
theorem zw609 : Cond.fieldLink RX12 36 RX12 "cases" "[J" ∈ zG := zG_of (zt4 (List.mem_of_getElem? (i := 98) rfl)) rfl
theorem zw610 : Cond.fieldLink RX12 40 RX12 "casesThen" "[J" ∈ zG := zG_of (zt4 (List.mem_of_getElem? (i := 99) rfl)) rfl
theorem zw611 : Cond.fieldLink RX12 43 RX12 "bytes" "[I" ∈ zG := zG_of (zt4 (List.mem_of_getElem? (i := 100) rfl)) rfl
theorem zw612 : Cond.fieldLink RX12 238 RX12 "bytesLong" "I" ∈ zG := zG_of (zt4 (List.mem_of_getElem? (i := 101) rfl)) rfl
theorem zw613 : Cond.fieldLink RX12 249 RX12 "tokenAt" "I" ∈ zG := zG_of (zt4 (List.mem_of_getElem? (i := 102) rfl)) rfl
theorem zw614 : Cond.fieldLink RX12 252 RX12 "tokenLong" "I" ∈ zG := zG_of (zt4 (List.mem_of_getElem? (i := 103) rfl)) rfl
theorem zw615 : Cond.fieldLink RX12 255 RX12 "token" "I" ∈ zG := zG_of (zt4 (List.mem_of_getElem? (i := 104) rfl)) rfl
theorem zw616 : Cond.fieldLink RX12 258 RX12 "value" "I" ∈ zG := zG_of (zt4 (List.mem_of_getElem? (i := 105) rfl)) rfl
theorem zw617 : Cond.fieldLink RX12 46 RX12 "anew" "[I" ∈ zG := zG_of (zt4 (List.mem_of_getElem? (i := 106) rfl)) rfl
theorem zw618 : Cond.fieldLink RX12 49 RX12 "values" "[I" ∈ zG := zG_of (zt4 (List.mem_of_getElem? (i := 107) rfl)) rfl
theorem zw619 : Cond.laysFinal "SmallCrownModel" "SmallCrownModel" "now" "[I" ∈ zG := zG_of (zt4 (List.mem_of_getElem? (i := 108) rfl)) rfl
theorem zw620 : Cond.laysFinal "SmallCrownModel" "SmallCrownModel" "kept" "[I" ∈ zG := zG_of (zt4 (List.mem_of_getElem? (i := 110) rfl)) rfl
theorem zw621 : Cond.laysFinal "SmallCrownModel" "SmallCrownModel" "isKept" "[Z" ∈ zG := zG_of (zt4 (List.mem_of_getElem? (i := 112) rfl)) rfl
theorem zw622 : Cond.laysFinal "SmallCrownModel" "SmallCrownModel" "refused" "[I" ∈ zG := zG_of (zt4 (List.mem_of_getElem? (i := 114) rfl)) rfl
theorem zw623 : Cond.lays "SmallCrownModel" "SmallCrownModel" "above" "J" ∈ zG := zG_of (zt4 (List.mem_of_getElem? (i := 116) rfl)) rfl
theorem zw624 : Cond.lays "SmallCrownModel" "SmallCrownModel" "below" "J" ∈ zG := zG_of (zt4 (List.mem_of_getElem? (i := 118) rfl)) rfl
theorem zw625 : Cond.laysFinal "SmallCrownModel" "SmallCrownModel" "stones" "[I" ∈ zG := zG_of (zt4 (List.mem_of_getElem? (i := 120) rfl)) rfl
theorem zw626 : Cond.lays "SmallCrownModel" "SmallCrownModel" "at" "I" ∈ zG := zG_of (zt4 (List.mem_of_getElem? (i := 122) rfl)) rfl
theorem zw627 : Cond.lays "SmallCrownModel" "SmallCrownModel" "leaning" "I" ∈ zG := zG_of (zt4 (List.mem_of_getElem? (i := 124) rfl)) rfl
theorem zw628 : Cond.lays "SmallCrownModel" "SmallCrownModel" "steps" "I" ∈ zG := zG_of (zt4 (List.mem_of_getElem? (i := 126) rfl)) rfl
theorem zw629 : Cond.laysFinal "SmallCrownModel" "SmallCrownModel" "latest" "[I" ∈ zG := zG_of (zt4 (List.mem_of_getElem? (i := 128) rfl)) rfl
theorem zw630 : Cond.laysFinal "SmallCrownModel" "SmallCrownModel" "ends" "[I" ∈ zG := zG_of (zt4 (List.mem_of_getElem? (i := 130) rfl)) rfl
theorem zw631 : Cond.laysFinal "SmallCrownModel" "SmallCrownModel" "cases" "[J" ∈ zG := zG_of (zt4 (List.mem_of_getElem? (i := 132) rfl)) rfl
theorem zw632 : Cond.laysFinal "SmallCrownModel" "SmallCrownModel" "casesThen" "[J" ∈ zG := zG_of (zt4 (List.mem_of_getElem? (i := 134) rfl)) rfl
theorem zw633 : Cond.laysFinal "SmallCrownModel" "SmallCrownModel" "bytes" "[I" ∈ zG := zG_of (zt4 (List.mem_of_getElem? (i := 136) rfl)) rfl
theorem zw634 : Cond.lays "SmallCrownModel" "SmallCrownModel" "bytesLong" "I" ∈ zG := zG_of (zt4 (List.mem_of_getElem? (i := 138) rfl)) rfl
theorem zw635 : Cond.lays "SmallCrownModel" "SmallCrownModel" "tokenAt" "I" ∈ zG := zG_of (zt4 (List.mem_of_getElem? (i := 140) rfl)) rfl
theorem zw636 : Cond.lays "SmallCrownModel" "SmallCrownModel" "tokenLong" "I" ∈ zG := zG_of (zt4 (List.mem_of_getElem? (i := 142) rfl)) rfl
theorem zw637 : Cond.lays "SmallCrownModel" "SmallCrownModel" "token" "I" ∈ zG := zG_of (zt4 (List.mem_of_getElem? (i := 144) rfl)) rfl
theorem zw638 : Cond.lays "SmallCrownModel" "SmallCrownModel" "value" "I" ∈ zG := zG_of (zt4 (List.mem_of_getElem? (i := 146) rfl)) rfl
theorem zw639 : Cond.laysFinal "SmallCrownModel" "SmallCrownModel" "anew" "[I" ∈ zG := zG_of (zt4 (List.mem_of_getElem? (i := 148) rfl)) rfl
theorem zw640 : Cond.laysFinal "SmallCrownModel" "SmallCrownModel" "values" "[I" ∈ zG := zG_of (zt4 (List.mem_of_getElem? (i := 150) rfl)) rfl
theorem zw641 : Cond.superclass RX12 "java/lang/Object" ∈ zG := zG_of (zt4 (List.mem_of_getElem? (i := 152) rfl)) rfl
theorem zw642 : Cond.arrayClass .boolean ∈ zG := zG_of (zt4 (List.mem_of_getElem? (i := 153) rfl)) rfl
theorem zw643 : Cond.methodLink RL 17 yX12_road ∈ zG := zG_of (zt4 (List.mem_of_getElem? (i := 154) rfl)) rfl
theorem zw644 : Cond.instanceMethod yX12_road ∈ zG := zG_of (zt4 (List.mem_of_getElem? (i := 155) rfl)) rfl
theorem zw645 : Cond.selects RX12 yX12_road yX12_road ∈ zG := zG_of (zt4 (List.mem_of_getElem? (i := 156) rfl)) rfl
theorem zw646 : Cond.code yX12_road cX12_road 4 (some .int) ∈ zG := zG_of (zt4 (List.mem_of_getElem? (i := 157) rfl)) rfl
theorem zw647 : Cond.methodLink RX12 72 yX12_isRoad ∈ zG := zG_of (zt4 (List.mem_of_getElem? (i := 158) rfl)) rfl
theorem zw648 : Cond.static yX12_isRoad ∈ zG := zG_of (zt4 (List.mem_of_getElem? (i := 159) rfl)) rfl
theorem zw649 : Cond.code yX12_isRoad cX12_isRoad 2 (some .boolean) ∈ zG := zG_of (zt4 (List.mem_of_getElem? (i := 160) rfl)) rfl
theorem zw650 : Cond.constantLong RX12 68 (15) ∈ zG := zG_of (zt4 (List.mem_of_getElem? (i := 161) rfl)) rfl
theorem zw651 : Cond.methodLink RX12 56 yX12_in ∈ zG := zG_of (zt4 (List.mem_of_getElem? (i := 162) rfl)) rfl
theorem zw652 : Cond.static yX12_in ∈ zG := zG_of (zt4 (List.mem_of_getElem? (i := 163) rfl)) rfl
theorem zw653 : Cond.code yX12_in cX12_in 6 (some .boolean) ∈ zG := zG_of (zt4 (List.mem_of_getElem? (i := 164) rfl)) rfl
theorem zw654 : Cond.constantLong RX12 70 (12) ∈ zG := zG_of (zt4 (List.mem_of_getElem? (i := 165) rfl)) rfl
theorem zw655 : Cond.methodLink RX12 76 yX12_bad ∈ zG := zG_of (zt4 (List.mem_of_getElem? (i := 166) rfl)) rfl
theorem zw656 : Cond.instanceMethod yX12_bad ∈ zG := zG_of (zt4 (List.mem_of_getElem? (i := 168) rfl)) rfl
theorem zw657 : Cond.code yX12_bad cX12_bad 2 (some .int) ∈ zG := zG_of (zt4 (List.mem_of_getElem? (i := 169) rfl)) rfl
theorem zw658 : Cond.methodLink RL 21 yX12_cobble ∈ zG := zG_of (zt4 (List.mem_of_getElem? (i := 170) rfl)) rfl
theorem zw659 : Cond.instanceMethod yX12_cobble ∈ zG := zG_of (zt4 (List.mem_of_getElem? (i := 171) rfl)) rfl
theorem zw660 : Cond.selects RX12 yX12_cobble yX12_cobble ∈ zG := zG_of (zt4 (List.mem_of_getElem? (i := 172) rfl)) rfl
theorem zw661 : Cond.code yX12_cobble cX12_cobble 4 (some .int) ∈ zG := zG_of (zt4 (List.mem_of_getElem? (i := 173) rfl)) rfl
theorem zw662 : Cond.methodLink RX12 80 yX12_isCell ∈ zG := zG_of (zt4 (List.mem_of_getElem? (i := 174) rfl)) rfl
theorem zw663 : Cond.instanceMethod yX12_isCell ∈ zG := zG_of (zt4 (List.mem_of_getElem? (i := 176) rfl)) rfl
theorem zw664 : Cond.code yX12_isCell cX12_isCell 2 (some .boolean) ∈ zG := zG_of (zt4 (List.mem_of_getElem? (i := 177) rfl)) rfl
theorem zw665 : Cond.methodLink RX12 60 yX12_fountain ∈ zG := zG_of (zt4 (List.mem_of_getElem? (i := 178) rfl)) rfl
theorem zw666 : Cond.instanceMethod yX12_fountain ∈ zG := zG_of (zt4 (List.mem_of_getElem? (i := 180) rfl)) rfl
theorem zw667 : Cond.code yX12_fountain cX12_fountain 1 (some .int) ∈ zG := zG_of (zt4 (List.mem_of_getElem? (i := 181) rfl)) rfl
theorem zw668 : Cond.constantLong RX12 84 (-4) ∈ zG := zG_of (zt4 (List.mem_of_getElem? (i := 182) rfl)) rfl
theorem zw669 : Cond.constantLong RX12 86 (4) ∈ zG := zG_of (zt4 (List.mem_of_getElem? (i := 183) rfl)) rfl
theorem zw670 : Cond.methodLink RL 25 yX12_wind ∈ zG := zG_of (zt4 (List.mem_of_getElem? (i := 184) rfl)) rfl
theorem zw671 : Cond.instanceMethod yX12_wind ∈ zG := zG_of (zt4 (List.mem_of_getElem? (i := 185) rfl)) rfl
theorem zw672 : Cond.selects RX12 yX12_wind yX12_wind ∈ zG := zG_of (zt4 (List.mem_of_getElem? (i := 186) rfl)) rfl
theorem zw673 : Cond.code yX12_wind cX12_wind 4 (some .int) ∈ zG := zG_of (zt4 (List.mem_of_getElem? (i := 187) rfl)) rfl
theorem zw674 : Cond.constantLong RX12 64 (5) ∈ zG := zG_of (zt4 (List.mem_of_getElem? (i := 188) rfl)) rfl
theorem zw675 : Cond.constantLong RX12 88 (-3) ∈ zG := zG_of (zt4 (List.mem_of_getElem? (i := 189) rfl)) rfl
theorem zw676 : Cond.constantLong RX12 66 (3) ∈ zG := zG_of (zt4 (List.mem_of_getElem? (i := 190) rfl)) rfl
theorem zw677 : Cond.methodLink RL 29 yX12_head ∈ zG := zG_of (zt4 (List.mem_of_getElem? (i := 191) rfl)) rfl
theorem zw678 : Cond.instanceMethod yX12_head ∈ zG := zG_of (zt4 (List.mem_of_getElem? (i := 192) rfl)) rfl
theorem zw679 : Cond.selects RX12 yX12_head yX12_head ∈ zG := zG_of (zt4 (List.mem_of_getElem? (i := 193) rfl)) rfl
theorem zw680 : Cond.code yX12_head cX12_head 3 (some .int) ∈ zG := zG_of (zt4 (List.mem_of_getElem? (i := 194) rfl)) rfl
theorem zw681 : Cond.constantLong RX12 90 (-12) ∈ zG := zG_of (zt4 (List.mem_of_getElem? (i := 195) rfl)) rfl
theorem zw682 : Cond.methodLink RX12 92 yX12_full ∈ zG := zG_of (zt4 (List.mem_of_getElem? (i := 196) rfl)) rfl
theorem zw683 : Cond.instanceMethod yX12_full ∈ zG := zG_of (zt4 (List.mem_of_getElem? (i := 198) rfl)) rfl
theorem zw684 : Cond.code yX12_full cX12_full 1 (some .int) ∈ zG := zG_of (zt4 (List.mem_of_getElem? (i := 199) rfl)) rfl
theorem zw685 : Cond.methodLink RX12 95 yX12_layHead ∈ zG := zG_of (zt4 (List.mem_of_getElem? (i := 200) rfl)) rfl
theorem zw686 : Cond.static yX12_layHead ∈ zG := zG_of (zt4 (List.mem_of_getElem? (i := 201) rfl)) rfl
theorem zw687 : Cond.code yX12_layHead cX12_layHead 3 none ∈ zG := zG_of (zt4 (List.mem_of_getElem? (i := 202) rfl)) rfl
theorem zw688 : Cond.methodLink RL 63 yX12_of ∈ zG := zG_of (zt4 (List.mem_of_getElem? (i := 203) rfl)) rfl
theorem zw689 : Cond.instanceMethod yX12_of ∈ zG := zG_of (zt4 (List.mem_of_getElem? (i := 204) rfl)) rfl
theorem zw690 : Cond.selects RX12 yX12_of yX12_of ∈ zG := zG_of (zt4 (List.mem_of_getElem? (i := 205) rfl)) rfl
theorem zw691 : Cond.code yX12_of cX12_of 3 (some .int) ∈ zG := zG_of (zt4 (List.mem_of_getElem? (i := 206) rfl)) rfl
theorem zw692 : Cond.methodLink RX12 98 yX12_isHead ∈ zG := zG_of (zt4 (List.mem_of_getElem? (i := 207) rfl)) rfl
theorem zw693 : Cond.instanceMethod yX12_isHead ∈ zG := zG_of (zt4 (List.mem_of_getElem? (i := 209) rfl)) rfl
theorem zw694 : Cond.code yX12_isHead cX12_isHead 2 (some .boolean) ∈ zG := zG_of (zt4 (List.mem_of_getElem? (i := 210) rfl)) rfl
theorem zw695 : Cond.methodLink RX12 101 yX12_kindOf ∈ zG := zG_of (zt4 (List.mem_of_getElem? (i := 211) rfl)) rfl
theorem zw696 : Cond.instanceMethod yX12_kindOf ∈ zG := zG_of (zt4 (List.mem_of_getElem? (i := 213) rfl)) rfl
theorem zw697 : Cond.code yX12_kindOf cX12_kindOf 2 (some .int) ∈ zG := zG_of (zt4 (List.mem_of_getElem? (i := 214) rfl)) rfl
theorem zw698 : Cond.methodLink RX12 104 yX12_setOf ∈ zG := zG_of (zt4 (List.mem_of_getElem? (i := 215) rfl)) rfl
theorem zw699 : Cond.instanceMethod yX12_setOf ∈ zG := zG_of (zt4 (List.mem_of_getElem? (i := 217) rfl)) rfl
theorem zw700 : Cond.code yX12_setOf cX12_setOf 2 (some .int) ∈ zG := zG_of (zt4 (List.mem_of_getElem? (i := 218) rfl)) rfl
theorem zw701 : Cond.methodLink RL 47 yX12_walk ∈ zG := zG_of (zt4 (List.mem_of_getElem? (i := 219) rfl)) rfl
theorem zw702 : Cond.instanceMethod yX12_walk ∈ zG := zG_of (zt4 (List.mem_of_getElem? (i := 220) rfl)) rfl
theorem zw703 : Cond.selects RX12 yX12_walk yX12_walk ∈ zG := zG_of (zt4 (List.mem_of_getElem? (i := 221) rfl)) rfl
theorem zw704 : Cond.code yX12_walk cX12_walk 2 (some .int) ∈ zG := zG_of (zt4 (List.mem_of_getElem? (i := 222) rfl)) rfl
theorem zw705 : Cond.methodLink RX12 118 yX12_falls ∈ zG := zG_of (zt4 (List.mem_of_getElem? (i := 223) rfl)) rfl
theorem zw706 : Cond.instanceMethod yX12_falls ∈ zG := zG_of (zt4 (List.mem_of_getElem? (i := 225) rfl)) rfl
theorem zw707 : Cond.code yX12_falls cX12_falls 2 (some .boolean) ∈ zG := zG_of (zt4 (List.mem_of_getElem? (i := 226) rfl)) rfl
theorem zw708 : Cond.methodLink RL 51 yX12_step ∈ zG := zG_of (zt4 (List.mem_of_getElem? (i := 227) rfl)) rfl
theorem zw709 : Cond.instanceMethod yX12_step ∈ zG := zG_of (zt4 (List.mem_of_getElem? (i := 228) rfl)) rfl
theorem zw710 : Cond.selects RX12 yX12_step yX12_step ∈ zG := zG_of (zt4 (List.mem_of_getElem? (i := 229) rfl)) rfl
theorem zw711 : Cond.code yX12_step cX12_step 3 (some .int) ∈ zG := zG_of (zt4 (List.mem_of_getElem? (i := 230) rfl)) rfl
theorem zw712 : Cond.methodLink RX12 121 yX12_isPace ∈ zG := zG_of (zt4 (List.mem_of_getElem? (i := 231) rfl)) rfl
theorem zw713 : Cond.static yX12_isPace ∈ zG := zG_of (zt4 (List.mem_of_getElem? (i := 232) rfl)) rfl
theorem zw714 : Cond.code yX12_isPace cX12_isPace 1 (some .boolean) ∈ zG := zG_of (zt4 (List.mem_of_getElem? (i := 233) rfl)) rfl
theorem zw715 : Cond.methodLink RX12 124 yX12_isWalk ∈ zG := zG_of (zt4 (List.mem_of_getElem? (i := 234) rfl)) rfl
theorem zw716 : Cond.instanceMethod yX12_isWalk ∈ zG := zG_of (zt4 (List.mem_of_getElem? (i := 236) rfl)) rfl
theorem zw717 : Cond.code yX12_isWalk cX12_isWalk 1 (some .boolean) ∈ zG := zG_of (zt4 (List.mem_of_getElem? (i := 237) rfl)) rfl
theorem zw718 : Cond.methodLink RX12 128 yX12_isThere ∈ zG := zG_of (zt4 (List.mem_of_getElem? (i := 238) rfl)) rfl
theorem zw719 : Cond.instanceMethod yX12_isThere ∈ zG := zG_of (zt5 (List.mem_of_getElem? (i := 0) rfl)) rfl
theorem zw720 : Cond.code yX12_isThere cX12_isThere 1 (some .boolean) ∈ zG := zG_of (zt5 (List.mem_of_getElem? (i := 1) rfl)) rfl
theorem zw721 : Cond.methodLink RX12 131 yX12_no ∈ zG := zG_of (zt5 (List.mem_of_getElem? (i := 2) rfl)) rfl
theorem zw722 : Cond.instanceMethod yX12_no ∈ zG := zG_of (zt5 (List.mem_of_getElem? (i := 4) rfl)) rfl
theorem zw723 : Cond.code yX12_no cX12_no 2 (some .int) ∈ zG := zG_of (zt5 (List.mem_of_getElem? (i := 5) rfl)) rfl
theorem zw724 : Cond.methodLink RX12 134 yX12_keep ∈ zG := zG_of (zt5 (List.mem_of_getElem? (i := 6) rfl)) rfl
theorem zw725 : Cond.instanceMethod yX12_keep ∈ zG := zG_of (zt5 (List.mem_of_getElem? (i := 8) rfl)) rfl
theorem zw726 : Cond.code yX12_keep cX12_keep 2 none ∈ zG := zG_of (zt5 (List.mem_of_getElem? (i := 9) rfl)) rfl
theorem zw727 : Cond.methodLink RX12 137 yX12_layStones ∈ zG := zG_of (zt5 (List.mem_of_getElem? (i := 10) rfl)) rfl
theorem zw728 : Cond.instanceMethod yX12_layStones ∈ zG := zG_of (zt5 (List.mem_of_getElem? (i := 12) rfl)) rfl
theorem zw729 : Cond.code yX12_layStones cX12_layStones 2 none ∈ zG := zG_of (zt5 (List.mem_of_getElem? (i := 13) rfl)) rfl
theorem zw730 : Cond.methodLink RX12 140 yX12_leanBehind ∈ zG := zG_of (zt5 (List.mem_of_getElem? (i := 14) rfl)) rfl
theorem zw731 : Cond.instanceMethod yX12_leanBehind ∈ zG := zG_of (zt5 (List.mem_of_getElem? (i := 16) rfl)) rfl
theorem zw732 : Cond.code yX12_leanBehind cX12_leanBehind 6 (some .int) ∈ zG := zG_of (zt5 (List.mem_of_getElem? (i := 17) rfl)) rfl
theorem zw733 : Cond.methodLink RX12 110 yX12_cellBy ∈ zG := zG_of (zt5 (List.mem_of_getElem? (i := 18) rfl)) rfl
theorem zw734 : Cond.instanceMethod yX12_cellBy ∈ zG := zG_of (zt5 (List.mem_of_getElem? (i := 20) rfl)) rfl
theorem zw735 : Cond.code yX12_cellBy cX12_cellBy 3 (some .int) ∈ zG := zG_of (zt5 (List.mem_of_getElem? (i := 21) rfl)) rfl
theorem zw736 : Cond.methodLink RX12 114 yX12_leanBy ∈ zG := zG_of (zt5 (List.mem_of_getElem? (i := 22) rfl)) rfl
theorem zw737 : Cond.static yX12_leanBy ∈ zG := zG_of (zt5 (List.mem_of_getElem? (i := 23) rfl)) rfl
theorem zw738 : Cond.code yX12_leanBy cX12_leanBy 7 (some .int) ∈ zG := zG_of (zt5 (List.mem_of_getElem? (i := 24) rfl)) rfl
theorem zw739 : Cond.methodLink RX12 107 yX12_stiff ∈ zG := zG_of (zt5 (List.mem_of_getElem? (i := 25) rfl)) rfl
theorem zw740 : Cond.static yX12_stiff ∈ zG := zG_of (zt5 (List.mem_of_getElem? (i := 26) rfl)) rfl
theorem zw741 : Cond.code yX12_stiff cX12_stiff 1 (some .int) ∈ zG := zG_of (zt5 (List.mem_of_getElem? (i := 27) rfl)) rfl
theorem zw742 : Cond.methodLink RL 55 yX12_hand ∈ zG := zG_of (zt5 (List.mem_of_getElem? (i := 28) rfl)) rfl
theorem zw743 : Cond.instanceMethod yX12_hand ∈ zG := zG_of (zt5 (List.mem_of_getElem? (i := 29) rfl)) rfl
theorem zw744 : Cond.selects RX12 yX12_hand yX12_hand ∈ zG := zG_of (zt5 (List.mem_of_getElem? (i := 30) rfl)) rfl
theorem zw745 : Cond.code yX12_hand cX12_hand 2 (some .int) ∈ zG := zG_of (zt5 (List.mem_of_getElem? (i := 31) rfl)) rfl
theorem zw746 : Cond.methodLink RL 59 yX12_undo ∈ zG := zG_of (zt5 (List.mem_of_getElem? (i := 32) rfl)) rfl
theorem zw747 : Cond.instanceMethod yX12_undo ∈ zG := zG_of (zt5 (List.mem_of_getElem? (i := 33) rfl)) rfl
theorem zw748 : Cond.selects RX12 yX12_undo yX12_undo ∈ zG := zG_of (zt5 (List.mem_of_getElem? (i := 34) rfl)) rfl
theorem zw749 : Cond.code yX12_undo cX12_undo 2 (some .int) ∈ zG := zG_of (zt5 (List.mem_of_getElem? (i := 35) rfl)) rfl
theorem zw750 : Cond.methodLink RL 67 yX12_now ∈ zG := zG_of (zt5 (List.mem_of_getElem? (i := 36) rfl)) rfl
theorem zw751 : Cond.instanceMethod yX12_now ∈ zG := zG_of (zt5 (List.mem_of_getElem? (i := 37) rfl)) rfl
theorem zw752 : Cond.selects RX12 yX12_now yX12_now ∈ zG := zG_of (zt5 (List.mem_of_getElem? (i := 38) rfl)) rfl
theorem zw753 : Cond.code yX12_now cX12_now 2 (some .int) ∈ zG := zG_of (zt5 (List.mem_of_getElem? (i := 39) rfl)) rfl
theorem zw754 : Cond.methodLink RL 72 yX12_paces ∈ zG := zG_of (zt5 (List.mem_of_getElem? (i := 40) rfl)) rfl
theorem zw755 : Cond.instanceMethod yX12_paces ∈ zG := zG_of (zt5 (List.mem_of_getElem? (i := 41) rfl)) rfl
theorem zw756 : Cond.selects RX12 yX12_paces yX12_paces ∈ zG := zG_of (zt5 (List.mem_of_getElem? (i := 42) rfl)) rfl
theorem zw757 : Cond.code yX12_paces cX12_paces 5 (some .int) ∈ zG := zG_of (zt5 (List.mem_of_getElem? (i := 43) rfl)) rfl
theorem zw758 : Cond.methodLink RX12 171 yX12_isStep ∈ zG := zG_of (zt5 (List.mem_of_getElem? (i := 44) rfl)) rfl
theorem zw759 : Cond.static yX12_isStep ∈ zG := zG_of (zt5 (List.mem_of_getElem? (i := 45) rfl)) rfl
theorem zw760 : Cond.code yX12_isStep cX12_isStep 1 (some .boolean) ∈ zG := zG_of (zt5 (List.mem_of_getElem? (i := 46) rfl)) rfl
theorem zw761 : Cond.methodLink RX12 174 yX12_isRow ∈ zG := zG_of (zt5 (List.mem_of_getElem? (i := 47) rfl)) rfl
theorem zw762 : Cond.static yX12_isRow ∈ zG := zG_of (zt5 (List.mem_of_getElem? (i := 48) rfl)) rfl
theorem zw763 : Cond.code yX12_isRow cX12_isRow 3 (some .boolean) ∈ zG := zG_of (zt5 (List.mem_of_getElem? (i := 49) rfl)) rfl
theorem zw764 : Cond.constant RX12 143 (333333333) ∈ zG := zG_of (zt5 (List.mem_of_getElem? (i := 50) rfl)) rfl
theorem zw765 : Cond.methodLink RX12 177 yX12_goRow ∈ zG := zG_of (zt5 (List.mem_of_getElem? (i := 51) rfl)) rfl
theorem zw766 : Cond.instanceMethod yX12_goRow ∈ zG := zG_of (zt5 (List.mem_of_getElem? (i := 53) rfl)) rfl
theorem zw767 : Cond.code yX12_goRow cX12_goRow 8 none ∈ zG := zG_of (zt5 (List.mem_of_getElem? (i := 54) rfl)) rfl
theorem zw768 : Cond.methodLink RX12 157 yX12_beginAt ∈ zG := zG_of (zt5 (List.mem_of_getElem? (i := 55) rfl)) rfl
theorem zw769 : Cond.instanceMethod yX12_beginAt ∈ zG := zG_of (zt5 (List.mem_of_getElem? (i := 57) rfl)) rfl
theorem zw770 : Cond.code yX12_beginAt cX12_beginAt 2 none ∈ zG := zG_of (zt5 (List.mem_of_getElem? (i := 58) rfl)) rfl
theorem zw771 : Cond.methodLink RX12 144 yX12_manyOf ∈ zG := zG_of (zt5 (List.mem_of_getElem? (i := 59) rfl)) rfl
theorem zw772 : Cond.static yX12_manyOf ∈ zG := zG_of (zt5 (List.mem_of_getElem? (i := 60) rfl)) rfl
theorem zw773 : Cond.code yX12_manyOf cX12_manyOf 3 (some .int) ∈ zG := zG_of (zt5 (List.mem_of_getElem? (i := 61) rfl)) rfl
theorem zw774 : Cond.methodLink RX12 161 yX12_isOver ∈ zG := zG_of (zt5 (List.mem_of_getElem? (i := 62) rfl)) rfl
theorem zw775 : Cond.instanceMethod yX12_isOver ∈ zG := zG_of (zt5 (List.mem_of_getElem? (i := 64) rfl)) rfl
theorem zw776 : Cond.code yX12_isOver cX12_isOver 1 (some .boolean) ∈ zG := zG_of (zt5 (List.mem_of_getElem? (i := 65) rfl)) rfl
theorem zw777 : Cond.methodLink RX12 164 yX12_paceOf ∈ zG := zG_of (zt5 (List.mem_of_getElem? (i := 66) rfl)) rfl
theorem zw778 : Cond.static yX12_paceOf ∈ zG := zG_of (zt5 (List.mem_of_getElem? (i := 67) rfl)) rfl
theorem zw779 : Cond.code yX12_paceOf cX12_paceOf 4 (some .int) ∈ zG := zG_of (zt5 (List.mem_of_getElem? (i := 68) rfl)) rfl
theorem zw780 : Cond.methodLink RX12 167 yX12_goStep ∈ zG := zG_of (zt5 (List.mem_of_getElem? (i := 69) rfl)) rfl
theorem zw781 : Cond.instanceMethod yX12_goStep ∈ zG := zG_of (zt5 (List.mem_of_getElem? (i := 71) rfl)) rfl
theorem zw782 : Cond.code yX12_goStep cX12_goStep 5 none ∈ zG := zG_of (zt5 (List.mem_of_getElem? (i := 72) rfl)) rfl
theorem zw783 : Cond.methodLink RL 77 yX12_soonest ∈ zG := zG_of (zt5 (List.mem_of_getElem? (i := 73) rfl)) rfl
theorem zw784 : Cond.instanceMethod yX12_soonest ∈ zG := zG_of (zt5 (List.mem_of_getElem? (i := 74) rfl)) rfl
theorem zw785 : Cond.selects RX12 yX12_soonest yX12_soonest ∈ zG := zG_of (zt5 (List.mem_of_getElem? (i := 75) rfl)) rfl
theorem zw786 : Cond.code yX12_soonest cX12_soonest 6 (some .int) ∈ zG := zG_of (zt5 (List.mem_of_getElem? (i := 76) rfl)) rfl
theorem zw787 : Cond.methodLink RX12 190 yX12_layLatest ∈ zG := zG_of (zt5 (List.mem_of_getElem? (i := 77) rfl)) rfl
theorem zw788 : Cond.instanceMethod yX12_layLatest ∈ zG := zG_of (zt5 (List.mem_of_getElem? (i := 79) rfl)) rfl
theorem zw789 : Cond.code yX12_layLatest cX12_layLatest 9 none ∈ zG := zG_of (zt5 (List.mem_of_getElem? (i := 80) rfl)) rfl
theorem zw790 : Cond.constant RX12 181 (1000000) ∈ zG := zG_of (zt5 (List.mem_of_getElem? (i := 81) rfl)) rfl
theorem zw791 : Cond.methodLink RX12 186 yX12_byPace ∈ zG := zG_of (zt5 (List.mem_of_getElem? (i := 82) rfl)) rfl
theorem zw792 : Cond.instanceMethod yX12_byPace ∈ zG := zG_of (zt5 (List.mem_of_getElem? (i := 84) rfl)) rfl
theorem zw793 : Cond.code yX12_byPace cX12_byPace 13 (some .int) ∈ zG := zG_of (zt5 (List.mem_of_getElem? (i := 85) rfl)) rfl
theorem zw794 : Cond.methodLink RX12 182 yX12_latestAt ∈ zG := zG_of (zt5 (List.mem_of_getElem? (i := 86) rfl)) rfl
theorem zw795 : Cond.instanceMethod yX12_latestAt ∈ zG := zG_of (zt5 (List.mem_of_getElem? (i := 88) rfl)) rfl
theorem zw796 : Cond.code yX12_latestAt cX12_latestAt 4 (some .int) ∈ zG := zG_of (zt5 (List.mem_of_getElem? (i := 89) rfl)) rfl
theorem zw797 : Cond.methodLink RX12 194 yX12_throughIn ∈ zG := zG_of (zt5 (List.mem_of_getElem? (i := 90) rfl)) rfl
theorem zw798 : Cond.instanceMethod yX12_throughIn ∈ zG := zG_of (zt5 (List.mem_of_getElem? (i := 92) rfl)) rfl
theorem zw799 : Cond.code yX12_throughIn cX12_throughIn 3 (some .int) ∈ zG := zG_of (zt5 (List.mem_of_getElem? (i := 93) rfl)) rfl
theorem zw800 : Cond.methodLink RL 81 yX12_hour ∈ zG := zG_of (zt5 (List.mem_of_getElem? (i := 94) rfl)) rfl
theorem zw801 : Cond.instanceMethod yX12_hour ∈ zG := zG_of (zt5 (List.mem_of_getElem? (i := 95) rfl)) rfl
theorem zw802 : Cond.selects RX12 yX12_hour yX12_hour ∈ zG := zG_of (zt5 (List.mem_of_getElem? (i := 96) rfl)) rfl
theorem zw803 : Cond.code yX12_hour cX12_hour 6 (some .int) ∈ zG := zG_of (zt5 (List.mem_of_getElem? (i := 97) rfl)) rfl
theorem zw804 : Cond.methodLink RL 85 yX12_sure ∈ zG := zG_of (zt5 (List.mem_of_getElem? (i := 98) rfl)) rfl
theorem zw805 : Cond.instanceMethod yX12_sure ∈ zG := zG_of (zt5 (List.mem_of_getElem? (i := 99) rfl)) rfl
theorem zw806 : Cond.selects RX12 yX12_sure yX12_sure ∈ zG := zG_of (zt5 (List.mem_of_getElem? (i := 100) rfl)) rfl
theorem zw807 : Cond.code yX12_sure cX12_sure 5 (some .int) ∈ zG := zG_of (zt5 (List.mem_of_getElem? (i := 101) rfl)) rfl
theorem zw808 : Cond.methodLink RL 89 yX12_flat ∈ zG := zG_of (zt5 (List.mem_of_getElem? (i := 102) rfl)) rfl
theorem zw809 : Cond.instanceMethod yX12_flat ∈ zG := zG_of (zt5 (List.mem_of_getElem? (i := 103) rfl)) rfl
theorem zw810 : Cond.selects RX12 yX12_flat yX12_flat ∈ zG := zG_of (zt5 (List.mem_of_getElem? (i := 104) rfl)) rfl
theorem zw811 : Cond.code yX12_flat cX12_flat 7 (some .int) ∈ zG := zG_of (zt5 (List.mem_of_getElem? (i := 105) rfl)) rfl
theorem zw812 : Cond.methodLink RX12 197 yX12_bits ∈ zG := zG_of (zt5 (List.mem_of_getElem? (i := 106) rfl)) rfl
theorem zw813 : Cond.static yX12_bits ∈ zG := zG_of (zt5 (List.mem_of_getElem? (i := 107) rfl)) rfl
theorem zw814 : Cond.code yX12_bits cX12_bits 3 (some .int) ∈ zG := zG_of (zt5 (List.mem_of_getElem? (i := 108) rfl)) rfl
theorem zw815 : Cond.methodLink RL 93 yX12_note ∈ zG := zG_of (zt5 (List.mem_of_getElem? (i := 109) rfl)) rfl
theorem zw816 : Cond.instanceMethod yX12_note ∈ zG := zG_of (zt5 (List.mem_of_getElem? (i := 110) rfl)) rfl
theorem zw817 : Cond.selects RX12 yX12_note yX12_note ∈ zG := zG_of (zt5 (List.mem_of_getElem? (i := 111) rfl)) rfl
theorem zw818 : Cond.code yX12_note cX12_note 6 (some .int) ∈ zG := zG_of (zt5 (List.mem_of_getElem? (i := 112) rfl)) rfl
theorem zw819 : Cond.constantLong RX12 200 (-1) ∈ zG := zG_of (zt5 (List.mem_of_getElem? (i := 113) rfl)) rfl
theorem zw820 : Cond.methodLink RL 97 yX12_forget ∈ zG := zG_of (zt5 (List.mem_of_getElem? (i := 114) rfl)) rfl
theorem zw821 : Cond.instanceMethod yX12_forget ∈ zG := zG_of (zt5 (List.mem_of_getElem? (i := 115) rfl)) rfl
theorem zw822 : Cond.selects RX12 yX12_forget yX12_forget ∈ zG := zG_of (zt5 (List.mem_of_getElem? (i := 116) rfl)) rfl
theorem zw823 : Cond.code yX12_forget cX12_forget 2 (some .int) ∈ zG := zG_of (zt5 (List.mem_of_getElem? (i := 117) rfl)) rfl
theorem zw824 : Cond.methodLink RL 101 yX12_is ∈ zG := zG_of (zt5 (List.mem_of_getElem? (i := 118) rfl)) rfl
theorem zw825 : Cond.instanceMethod yX12_is ∈ zG := zG_of (zt5 (List.mem_of_getElem? (i := 119) rfl)) rfl
theorem zw826 : Cond.selects RX12 yX12_is yX12_is ∈ zG := zG_of (zt5 (List.mem_of_getElem? (i := 120) rfl)) rfl
theorem zw827 : Cond.code yX12_is cX12_is 2 (some .int) ∈ zG := zG_of (zt5 (List.mem_of_getElem? (i := 121) rfl)) rfl
theorem zw828 : Cond.methodLink RX12 208 yX12_kindsOf ∈ zG := zG_of (zt5 (List.mem_of_getElem? (i := 122) rfl)) rfl
theorem zw829 : Cond.instanceMethod yX12_kindsOf ∈ zG := zG_of (zt5 (List.mem_of_getElem? (i := 124) rfl)) rfl
theorem zw830 : Cond.code yX12_kindsOf cX12_kindsOf 4 (some .int) ∈ zG := zG_of (zt5 (List.mem_of_getElem? (i := 125) rfl)) rfl
theorem zw831 : Cond.methodLink RX12 205 yX12_canBe ∈ zG := zG_of (zt5 (List.mem_of_getElem? (i := 126) rfl)) rfl
theorem zw832 : Cond.instanceMethod yX12_canBe ∈ zG := zG_of (zt5 (List.mem_of_getElem? (i := 128) rfl)) rfl
theorem zw833 : Cond.code yX12_canBe cX12_canBe 6 (some .boolean) ∈ zG := zG_of (zt5 (List.mem_of_getElem? (i := 129) rfl)) rfl
theorem zw834 : Cond.methodLink RX12 202 yX12_fellIn ∈ zG := zG_of (zt5 (List.mem_of_getElem? (i := 130) rfl)) rfl
theorem zw835 : Cond.instanceMethod yX12_fellIn ∈ zG := zG_of (zt5 (List.mem_of_getElem? (i := 132) rfl)) rfl
theorem zw836 : Cond.code yX12_fellIn cX12_fellIn 1 (some .int) ∈ zG := zG_of (zt5 (List.mem_of_getElem? (i := 133) rfl)) rfl
theorem zw837 : Cond.methodLink RL 105 yX12_bowl ∈ zG := zG_of (zt5 (List.mem_of_getElem? (i := 134) rfl)) rfl
theorem zw838 : Cond.instanceMethod yX12_bowl ∈ zG := zG_of (zt5 (List.mem_of_getElem? (i := 135) rfl)) rfl
theorem zw839 : Cond.selects RX12 yX12_bowl yX12_bowl ∈ zG := zG_of (zt5 (List.mem_of_getElem? (i := 136) rfl)) rfl
theorem zw840 : Cond.code yX12_bowl cX12_bowl 8 (some .int) ∈ zG := zG_of (zt5 (List.mem_of_getElem? (i := 137) rfl)) rfl
theorem zw841 : Cond.methodLink RL 110 yX12_bowed ∈ zG := zG_of (zt5 (List.mem_of_getElem? (i := 138) rfl)) rfl
theorem zw842 : Cond.instanceMethod yX12_bowed ∈ zG := zG_of (zt5 (List.mem_of_getElem? (i := 139) rfl)) rfl
theorem zw843 : Cond.selects RX12 yX12_bowed yX12_bowed ∈ zG := zG_of (zt5 (List.mem_of_getElem? (i := 140) rfl)) rfl
theorem zw844 : Cond.code yX12_bowed cX12_bowed 11 (some .int) ∈ zG := zG_of (zt5 (List.mem_of_getElem? (i := 141) rfl)) rfl
theorem zw845 : Cond.methodLink RL 114 yX12_pigeons ∈ zG := zG_of (zt5 (List.mem_of_getElem? (i := 142) rfl)) rfl
theorem zw846 : Cond.instanceMethod yX12_pigeons ∈ zG := zG_of (zt5 (List.mem_of_getElem? (i := 143) rfl)) rfl
theorem zw847 : Cond.selects RX12 yX12_pigeons yX12_pigeons ∈ zG := zG_of (zt5 (List.mem_of_getElem? (i := 144) rfl)) rfl
theorem zw848 : Cond.code yX12_pigeons cX12_pigeons 10 (some .int) ∈ zG := zG_of (zt5 (List.mem_of_getElem? (i := 145) rfl)) rfl
theorem zw849 : Cond.constantLong RX12 214 (10) ∈ zG := zG_of (zt5 (List.mem_of_getElem? (i := 146) rfl)) rfl
theorem zw850 : Cond.methodLink RX12 216 yX12_goCases ∈ zG := zG_of (zt5 (List.mem_of_getElem? (i := 147) rfl)) rfl
theorem zw851 : Cond.instanceMethod yX12_goCases ∈ zG := zG_of (zt5 (List.mem_of_getElem? (i := 149) rfl)) rfl
theorem zw852 : Cond.code yX12_goCases cX12_goCases 8 none ∈ zG := zG_of (zt5 (List.mem_of_getElem? (i := 150) rfl)) rfl
theorem zw853 : Cond.methodLink RX12 220 yX12_fraction ∈ zG := zG_of (zt5 (List.mem_of_getElem? (i := 151) rfl)) rfl
theorem zw854 : Cond.instanceMethod yX12_fraction ∈ zG := zG_of (zt5 (List.mem_of_getElem? (i := 153) rfl)) rfl
theorem zw855 : Cond.code yX12_fraction cX12_fraction 11 none ∈ zG := zG_of (zt5 (List.mem_of_getElem? (i := 154) rfl)) rfl
theorem zw856 : Cond.methodLink RL 118 yX12_crowned ∈ zG := zG_of (zt5 (List.mem_of_getElem? (i := 155) rfl)) rfl
theorem zw857 : Cond.instanceMethod yX12_crowned ∈ zG := zG_of (zt5 (List.mem_of_getElem? (i := 156) rfl)) rfl
theorem zw858 : Cond.selects RX12 yX12_crowned yX12_crowned ∈ zG := zG_of (zt5 (List.mem_of_getElem? (i := 157) rfl)) rfl
theorem zw859 : Cond.code yX12_crowned cX12_crowned 8 (some .int) ∈ zG := zG_of (zt5 (List.mem_of_getElem? (i := 158) rfl)) rfl
theorem zw860 : Cond.constantLong RX12 224 (999999) ∈ zG := zG_of (zt5 (List.mem_of_getElem? (i := 159) rfl)) rfl
theorem zw861 : Cond.constantLong RX12 226 (60) ∈ zG := zG_of (zt5 (List.mem_of_getElem? (i := 160) rfl)) rfl
theorem zw862 : Cond.constantLong RX12 228 (1103515245) ∈ zG := zG_of (zt5 (List.mem_of_getElem? (i := 161) rfl)) rfl
theorem zw863 : Cond.constantLong RX12 230 (12345) ∈ zG := zG_of (zt5 (List.mem_of_getElem? (i := 162) rfl)) rfl
theorem zw864 : Cond.constantLong RX12 232 (2147483648) ∈ zG := zG_of (zt5 (List.mem_of_getElem? (i := 163) rfl)) rfl
theorem zw865 : Cond.constantLong RX12 234 (65536) ∈ zG := zG_of (zt5 (List.mem_of_getElem? (i := 164) rfl)) rfl
theorem zw866 : Cond.methodLink RL 34 yX12_type ∈ zG := zG_of (zt5 (List.mem_of_getElem? (i := 165) rfl)) rfl
theorem zw867 : Cond.instanceMethod yX12_type ∈ zG := zG_of (zt5 (List.mem_of_getElem? (i := 166) rfl)) rfl
theorem zw868 : Cond.selects RX12 yX12_type yX12_type ∈ zG := zG_of (zt5 (List.mem_of_getElem? (i := 167) rfl)) rfl
theorem zw869 : Cond.code yX12_type cX12_type 2 (some .int) ∈ zG := zG_of (zt5 (List.mem_of_getElem? (i := 168) rfl)) rfl
theorem zw870 : Cond.constantLong RX12 236 (127) ∈ zG := zG_of (zt5 (List.mem_of_getElem? (i := 169) rfl)) rfl
theorem zw871 : Cond.methodLink RL 39 yX12_clear ∈ zG := zG_of (zt5 (List.mem_of_getElem? (i := 170) rfl)) rfl
theorem zw872 : Cond.instanceMethod yX12_clear ∈ zG := zG_of (zt5 (List.mem_of_getElem? (i := 171) rfl)) rfl
theorem zw873 : Cond.selects RX12 yX12_clear yX12_clear ∈ zG := zG_of (zt5 (List.mem_of_getElem? (i := 172) rfl)) rfl
theorem zw874 : Cond.code yX12_clear cX12_clear 2 (some .int) ∈ zG := zG_of (zt5 (List.mem_of_getElem? (i := 173) rfl)) rfl
theorem zw875 : Cond.methodLink RL 43 yX12_read ∈ zG := zG_of (zt5 (List.mem_of_getElem? (i := 174) rfl)) rfl
theorem zw876 : Cond.instanceMethod yX12_read ∈ zG := zG_of (zt5 (List.mem_of_getElem? (i := 175) rfl)) rfl
theorem zw877 : Cond.selects RX12 yX12_read yX12_read ∈ zG := zG_of (zt5 (List.mem_of_getElem? (i := 176) rfl)) rfl
theorem zw878 : Cond.code yX12_read cX12_read 3 (some .int) ∈ zG := zG_of (zt5 (List.mem_of_getElem? (i := 177) rfl)) rfl
theorem zw879 : Cond.methodLink RX12 267 yX12_lookAt ∈ zG := zG_of (zt5 (List.mem_of_getElem? (i := 178) rfl)) rfl
theorem zw880 : Cond.instanceMethod yX12_lookAt ∈ zG := zG_of (zt5 (List.mem_of_getElem? (i := 180) rfl)) rfl
theorem zw881 : Cond.code yX12_lookAt cX12_lookAt 5 none ∈ zG := zG_of (zt5 (List.mem_of_getElem? (i := 181) rfl)) rfl
theorem zw882 : Cond.methodLink RX12 261 yX12_isSmall ∈ zG := zG_of (zt5 (List.mem_of_getElem? (i := 182) rfl)) rfl
theorem zw883 : Cond.static yX12_isSmall ∈ zG := zG_of (zt5 (List.mem_of_getElem? (i := 183) rfl)) rfl
theorem zw884 : Cond.code yX12_isSmall cX12_isSmall 1 (some .boolean) ∈ zG := zG_of (zt5 (List.mem_of_getElem? (i := 184) rfl)) rfl
theorem zw885 : Cond.constantLong RX12 241 (97) ∈ zG := zG_of (zt5 (List.mem_of_getElem? (i := 185) rfl)) rfl
theorem zw886 : Cond.constantLong RX12 243 (122) ∈ zG := zG_of (zt5 (List.mem_of_getElem? (i := 186) rfl)) rfl
theorem zw887 : Cond.methodLink RX12 264 yX12_isFigure ∈ zG := zG_of (zt5 (List.mem_of_getElem? (i := 187) rfl)) rfl
theorem zw888 : Cond.static yX12_isFigure ∈ zG := zG_of (zt5 (List.mem_of_getElem? (i := 188) rfl)) rfl
theorem zw889 : Cond.code yX12_isFigure cX12_isFigure 1 (some .boolean) ∈ zG := zG_of (zt5 (List.mem_of_getElem? (i := 189) rfl)) rfl
theorem zw890 : Cond.constantLong RX12 245 (48) ∈ zG := zG_of (zt5 (List.mem_of_getElem? (i := 190) rfl)) rfl
theorem zw891 : Cond.constantLong RX12 247 (57) ∈ zG := zG_of (zt5 (List.mem_of_getElem? (i := 191) rfl)) rfl
theorem zw892 : Cond.methodLink RX12 293 yX12_takesRoad ∈ zG := zG_of (zt5 (List.mem_of_getElem? (i := 192) rfl)) rfl
theorem zw893 : Cond.instanceMethod yX12_takesRoad ∈ zG := zG_of (zt5 (List.mem_of_getElem? (i := 194) rfl)) rfl
theorem zw894 : Cond.code yX12_takesRoad cX12_takesRoad 1 (some .boolean) ∈ zG := zG_of (zt5 (List.mem_of_getElem? (i := 195) rfl)) rfl
theorem zw895 : Cond.methodLink RX12 277 yX12_isWord ∈ zG := zG_of (zt5 (List.mem_of_getElem? (i := 196) rfl)) rfl
theorem zw896 : Cond.instanceMethod yX12_isWord ∈ zG := zG_of (zt5 (List.mem_of_getElem? (i := 198) rfl)) rfl
theorem zw897 : Cond.code yX12_isWord cX12_isWord 10 (some .boolean) ∈ zG := zG_of (zt5 (List.mem_of_getElem? (i := 199) rfl)) rfl
theorem zw898 : Cond.methodLink RX12 270 yX12_goBehind ∈ zG := zG_of (zt5 (List.mem_of_getElem? (i := 200) rfl)) rfl
theorem zw899 : Cond.instanceMethod yX12_goBehind ∈ zG := zG_of (zt5 (List.mem_of_getElem? (i := 202) rfl)) rfl
theorem zw900 : Cond.code yX12_goBehind cX12_goBehind 1 none ∈ zG := zG_of (zt5 (List.mem_of_getElem? (i := 203) rfl)) rfl
theorem zw901 : Cond.methodLink RX12 273 yX12_takes ∈ zG := zG_of (zt5 (List.mem_of_getElem? (i := 204) rfl)) rfl
theorem zw902 : Cond.instanceMethod yX12_takes ∈ zG := zG_of (zt5 (List.mem_of_getElem? (i := 206) rfl)) rfl
theorem zw903 : Cond.code yX12_takes cX12_takes 4 (some .boolean) ∈ zG := zG_of (zt5 (List.mem_of_getElem? (i := 207) rfl)) rfl
theorem zw904 : Cond.methodLink RX12 296 yX12_takesItem ∈ zG := zG_of (zt5 (List.mem_of_getElem? (i := 208) rfl)) rfl
theorem zw905 : Cond.instanceMethod yX12_takesItem ∈ zG := zG_of (zt5 (List.mem_of_getElem? (i := 210) rfl)) rfl
theorem zw906 : Cond.code yX12_takesItem cX12_takesItem 1 (some .boolean) ∈ zG := zG_of (zt5 (List.mem_of_getElem? (i := 211) rfl)) rfl
theorem zw907 : Cond.methodLink RX12 284 yX12_takesCobble ∈ zG := zG_of (zt5 (List.mem_of_getElem? (i := 212) rfl)) rfl
theorem zw908 : Cond.instanceMethod yX12_takesCobble ∈ zG := zG_of (zt5 (List.mem_of_getElem? (i := 214) rfl)) rfl
theorem zw909 : Cond.code yX12_takesCobble cX12_takesCobble 2 (some .boolean) ∈ zG := zG_of (zt5 (List.mem_of_getElem? (i := 215) rfl)) rfl
theorem zw910 : Cond.methodLink RX12 281 yX12_takesTwo ∈ zG := zG_of (zt5 (List.mem_of_getElem? (i := 216) rfl)) rfl
theorem zw911 : Cond.instanceMethod yX12_takesTwo ∈ zG := zG_of (zt5 (List.mem_of_getElem? (i := 218) rfl)) rfl
theorem zw912 : Cond.code yX12_takesTwo cX12_takesTwo 4 (some .boolean) ∈ zG := zG_of (zt5 (List.mem_of_getElem? (i := 219) rfl)) rfl
theorem zw913 : Cond.methodLink RX12 287 yX12_takesWind ∈ zG := zG_of (zt5 (List.mem_of_getElem? (i := 220) rfl)) rfl
theorem zw914 : Cond.instanceMethod yX12_takesWind ∈ zG := zG_of (zt5 (List.mem_of_getElem? (i := 222) rfl)) rfl
theorem zw915 : Cond.code yX12_takesWind cX12_takesWind 2 (some .boolean) ∈ zG := zG_of (zt5 (List.mem_of_getElem? (i := 223) rfl)) rfl
theorem zw916 : Cond.methodLink RX12 290 yX12_takesHead ∈ zG := zG_of (zt5 (List.mem_of_getElem? (i := 224) rfl)) rfl
theorem zw917 : Cond.instanceMethod yX12_takesHead ∈ zG := zG_of (zt5 (List.mem_of_getElem? (i := 226) rfl)) rfl
theorem zw918 : Cond.code yX12_takesHead cX12_takesHead 2 (some .boolean) ∈ zG := zG_of (zt5 (List.mem_of_getElem? (i := 227) rfl)) rfl
theorem zw919 : Cond.methodLink RL 123 yX12_part ∈ zG := zG_of (zt5 (List.mem_of_getElem? (i := 228) rfl)) rfl
theorem zw920 : Cond.instanceMethod yX12_part ∈ zG := zG_of (zt5 (List.mem_of_getElem? (i := 229) rfl)) rfl
theorem zw921 : Cond.selects RX12 yX12_part yX12_part ∈ zG := zG_of (zt5 (List.mem_of_getElem? (i := 230) rfl)) rfl
theorem zw922 : Cond.code yX12_part cX12_part 2 (some .long) ∈ zG := zG_of (zt5 (List.mem_of_getElem? (i := 231) rfl)) rfl
theorem zw923 : Cond.methodLink RL 127 yX12_image ∈ zG := zG_of (zt5 (List.mem_of_getElem? (i := 232) rfl)) rfl
theorem zw924 : Cond.instanceMethod yX12_image ∈ zG := zG_of (zt5 (List.mem_of_getElem? (i := 233) rfl)) rfl
theorem zw925 : Cond.selects RX12 yX12_image yX12_image ∈ zG := zG_of (zt5 (List.mem_of_getElem? (i := 234) rfl)) rfl
theorem zw926 : Cond.code yX12_image cX12_image 3 (some .int) ∈ zG := zG_of (zt5 (List.mem_of_getElem? (i := 235) rfl)) rfl
theorem zw927 : Cond.methodLink RL 131 yX12_from ∈ zG := zG_of (zt5 (List.mem_of_getElem? (i := 236) rfl)) rfl
theorem zw928 : Cond.instanceMethod yX12_from ∈ zG := zG_of (zt5 (List.mem_of_getElem? (i := 237) rfl)) rfl
theorem zw929 : Cond.selects RX12 yX12_from yX12_from ∈ zG := zG_of (zt5 (List.mem_of_getElem? (i := 238) rfl)) rfl
theorem zw930 : Cond.code yX12_from cX12_from 3 (some .int) ∈ zG := zG_of (zt5 (List.mem_of_getElem? (i := 239) rfl)) rfl
theorem zw931 : Cond.methodLink RL 135 yX12_status ∈ zG := zG_of (zt6 (List.mem_of_getElem? (i := 0) rfl)) rfl
theorem zw932 : Cond.instanceMethod yX12_status ∈ zG := zG_of (zt6 (List.mem_of_getElem? (i := 1) rfl)) rfl
theorem zw933 : Cond.selects RX12 yX12_status yX12_status ∈ zG := zG_of (zt6 (List.mem_of_getElem? (i := 2) rfl)) rfl
theorem zw934 : Cond.code yX12_status cX12_status 2 (some .int) ∈ zG := zG_of (zt6 (List.mem_of_getElem? (i := 3) rfl)) rfl
theorem zw935 : Cond.constantLong RX12 299 (2) ∈ zG := zG_of (zt6 (List.mem_of_getElem? (i := 4) rfl)) rfl
theorem zw936 : Cond.methodLink RL 139 yX12_count ∈ zG := zG_of (zt6 (List.mem_of_getElem? (i := 5) rfl)) rfl
theorem zw937 : Cond.instanceMethod yX12_count ∈ zG := zG_of (zt6 (List.mem_of_getElem? (i := 6) rfl)) rfl
theorem zw938 : Cond.selects RX12 yX12_count yX12_count ∈ zG := zG_of (zt6 (List.mem_of_getElem? (i := 7) rfl)) rfl
theorem zw939 : Cond.code yX12_count cX12_count 2 (some .int) ∈ zG := zG_of (zt6 (List.mem_of_getElem? (i := 8) rfl)) rfl
theorem zw940 : Cond.methodLink RX12 301 yX12_counted ∈ zG := zG_of (zt6 (List.mem_of_getElem? (i := 9) rfl)) rfl
theorem zw941 : Cond.instanceMethod yX12_counted ∈ zG := zG_of (zt6 (List.mem_of_getElem? (i := 11) rfl)) rfl
theorem zw942 : Cond.code yX12_counted cX12_counted 2 (some .int) ∈ zG := zG_of (zt6 (List.mem_of_getElem? (i := 12) rfl)) rfl
theorem zw943 : Cond.methodLink RL 144 yX12_digest ∈ zG := zG_of (zt6 (List.mem_of_getElem? (i := 13) rfl)) rfl
theorem zw944 : Cond.instanceMethod yX12_digest ∈ zG := zG_of (zt6 (List.mem_of_getElem? (i := 14) rfl)) rfl
theorem zw945 : Cond.selects RX12 yX12_digest yX12_digest ∈ zG := zG_of (zt6 (List.mem_of_getElem? (i := 15) rfl)) rfl
theorem zw946 : Cond.code yX12_digest cX12_digest 4 (some .long) ∈ zG := zG_of (zt6 (List.mem_of_getElem? (i := 16) rfl)) rfl
theorem zw947 : Cond.constantLong RX12 306 (1087) ∈ zG := zG_of (zt6 (List.mem_of_getElem? (i := 17) rfl)) rfl
theorem zw948 : Cond.constantLong RX12 304 (31) ∈ zG := zG_of (zt6 (List.mem_of_getElem? (i := 18) rfl)) rfl
theorem zw949 : Cond.methodLink RX12 308 yX12_sums ∈ zG := zG_of (zt6 (List.mem_of_getElem? (i := 19) rfl)) rfl
theorem zw950 : Cond.instanceMethod yX12_sums ∈ zG := zG_of (zt6 (List.mem_of_getElem? (i := 21) rfl)) rfl
theorem zw951 : Cond.code yX12_sums cX12_sums 8 (some .long) ∈ zG := zG_of (zt6 (List.mem_of_getElem? (i := 22) rfl)) rfl
theorem zw952 : Cond.sameMethod "SmallCrown$Stiff" "SmallCrown$Stiff" "leanBehind" "(IIII)I" ∈ zG := zG_of (zt6 (List.mem_of_getElem? (i := 23) rfl)) rfl
theorem zw953 : Cond.sameMethod "SmallCrown$ShortStep" "SmallCrown$ShortStep" "leanBehind" "(IIII)I" ∈ zG := zG_of (zt6 (List.mem_of_getElem? (i := 24) rfl)) rfl
theorem zw954 : Cond.fieldLink RJ0 9 RJ0 "value" "[B" ∈ zG := zG_of (zt6 (List.mem_of_getElem? (i := 30) rfl)) rfl
theorem zw955 : Cond.fieldLink RJ0 15 RJ0 "coder" "B" ∈ zG := zG_of (zt6 (List.mem_of_getElem? (i := 31) rfl)) rfl
theorem zw956 : Cond.selects RX11 yX11_bad yX11_bad ∈ zG := zG_of (zp (q := (yX11_bad, 13)) (zp1 (List.mem_of_getElem? (i := 0) rfl))) rfl
theorem zw957 : Cond.selects RX10 yX10_beginAnew yX10_beginAnew ∈ zG := zG_of (zp (q := (yX10_beginAnew, 10)) (zp1 (List.mem_of_getElem? (i := 1) rfl))) rfl
theorem zw958 : Cond.selects RX5 yX5_beginAnew yX5_beginAnew ∈ zG := zG_of (zp (q := (yX5_beginAnew, 4)) (zp1 (List.mem_of_getElem? (i := 2) rfl))) rfl
theorem zw959 : Cond.selects RX8 yX8_begin yX8_begin ∈ zG := zG_of (zp (q := (yX8_begin, 8)) (zp1 (List.mem_of_getElem? (i := 3) rfl))) rfl
theorem zw960 : Cond.selects RX11 yX11_isCell yX11_isCell ∈ zG := zG_of (zp (q := (yX11_isCell, 13)) (zp1 (List.mem_of_getElem? (i := 4) rfl))) rfl
theorem zw961 : Cond.selects RX5 yX5_cobbleOf yX5_cobbleOf ∈ zG := zG_of (zp (q := (yX5_cobbleOf, 4)) (zp1 (List.mem_of_getElem? (i := 5) rfl))) rfl
theorem zw962 : Cond.selects RX5 yX5_layCobble yX5_layCobble ∈ zG := zG_of (zp (q := (yX5_layCobble, 4)) (zp1 (List.mem_of_getElem? (i := 6) rfl))) rfl
theorem zw963 : Cond.selects RX5 yX5_windIn yX5_windIn ∈ zG := zG_of (zp (q := (yX5_windIn, 4)) (zp1 (List.mem_of_getElem? (i := 7) rfl))) rfl
theorem zw964 : Cond.selects RX5 yX5_setWind yX5_setWind ∈ zG := zG_of (zp (q := (yX5_setWind, 4)) (zp1 (List.mem_of_getElem? (i := 8) rfl))) rfl
theorem zw965 : Cond.selects RX11 yX11_full yX11_full ∈ zG := zG_of (zp (q := (yX11_full, 13)) (zp1 (List.mem_of_getElem? (i := 9) rfl))) rfl
theorem zw966 : Cond.selects RX10 yX10_addHead yX10_addHead ∈ zG := zG_of (zp (q := (yX10_addHead, 10)) (zp1 (List.mem_of_getElem? (i := 10) rfl))) rfl
theorem zw967 : Cond.selects RX4 yX4_add yX4_add ∈ zG := zG_of (zp (q := (yX4_add, 5)) (zp1 (List.mem_of_getElem? (i := 11) rfl))) rfl
theorem zw968 : Cond.selects RX4 yX4_tell yX4_tell ∈ zG := zG_of (zp (q := (yX4_tell, 5)) (zp1 (List.mem_of_getElem? (i := 12) rfl))) rfl
theorem zw969 : Cond.selects RX4 yX4_nextToken yX4_nextToken ∈ zG := zG_of (zp (q := (yX4_nextToken, 5)) (zp1 (List.mem_of_getElem? (i := 13) rfl))) rfl
theorem zw970 : Cond.selects RX4 yX4_byteAt yX4_byteAt ∈ zG := zG_of (zp (q := (yX4_byteAt, 5)) (zp1 (List.mem_of_getElem? (i := 14) rfl))) rfl
theorem zw971 : Cond.selects RX4 yX4_tellRoad yX4_tellRoad ∈ zG := zG_of (zp (q := (yX4_tellRoad, 5)) (zp1 (List.mem_of_getElem? (i := 15) rfl))) rfl
theorem zw972 : Cond.selects RX4 yX4_isWord yX4_isWord ∈ zG := zG_of (zp (q := (yX4_isWord, 5)) (zp2 (List.mem_of_getElem? (i := 0) rfl))) rfl
theorem zw973 : Cond.selects RX4 yX4_nextNumber yX4_nextNumber ∈ zG := zG_of (zp (q := (yX4_nextNumber, 5)) (zp2 (List.mem_of_getElem? (i := 1) rfl))) rfl
theorem zw974 : Cond.selects RX4 yX4_nextIsEnd yX4_nextIsEnd ∈ zG := zG_of (zp (q := (yX4_nextIsEnd, 5)) (zp2 (List.mem_of_getElem? (i := 2) rfl))) rfl
theorem zw975 : Cond.selects RX4 yX4_tellItem yX4_tellItem ∈ zG := zG_of (zp (q := (yX4_tellItem, 5)) (zp2 (List.mem_of_getElem? (i := 3) rfl))) rfl
theorem zw976 : Cond.selects RX4 yX4_tellCobble yX4_tellCobble ∈ zG := zG_of (zp (q := (yX4_tellCobble, 5)) (zp2 (List.mem_of_getElem? (i := 4) rfl))) rfl
theorem zw977 : Cond.selects RX4 yX4_tellWind yX4_tellWind ∈ zG := zG_of (zp (q := (yX4_tellWind, 5)) (zp2 (List.mem_of_getElem? (i := 5) rfl))) rfl
theorem zw978 : Cond.selects RX4 yX4_tellHead yX4_tellHead ∈ zG := zG_of (zp (q := (yX4_tellHead, 5)) (zp2 (List.mem_of_getElem? (i := 6) rfl))) rfl
theorem zw979 : Cond.selects RX10 yX10_copyFrom yX10_copyFrom ∈ zG := zG_of (zp (q := (yX10_copyFrom, 10)) (zp2 (List.mem_of_getElem? (i := 7) rfl))) rfl
theorem zw980 : Cond.selects RX5 yX5_copyFrom yX5_copyFrom ∈ zG := zG_of (zp (q := (yX5_copyFrom, 4)) (zp2 (List.mem_of_getElem? (i := 8) rfl))) rfl
theorem zw981 : Cond.selects RX8 yX8_copyFrom yX8_copyFrom ∈ zG := zG_of (zp (q := (yX8_copyFrom, 8)) (zp2 (List.mem_of_getElem? (i := 9) rfl))) rfl
theorem zw982 : Cond.selects RX11 yX11_isHead yX11_isHead ∈ zG := zG_of (zp (q := (yX11_isHead, 13)) (zp2 (List.mem_of_getElem? (i := 10) rfl))) rfl
theorem zw983 : Cond.selects RX10 yX10_setOf yX10_setOf ∈ zG := zG_of (zp (q := (yX10_setOf, 10)) (zp2 (List.mem_of_getElem? (i := 11) rfl))) rfl
theorem zw984 : Cond.selects RX8 yX8_isFallen yX8_isFallen ∈ zG := zG_of (zp (q := (yX8_isFallen, 8)) (zp2 (List.mem_of_getElem? (i := 12) rfl))) rfl
theorem zw985 : Cond.selects RX5 yX5_fells yX5_fells ∈ zG := zG_of (zp (q := (yX5_fells, 4)) (zp2 (List.mem_of_getElem? (i := 13) rfl))) rfl
theorem zw986 : Cond.selects RX8 yX8_isOver yX8_isOver ∈ zG := zG_of (zp (q := (yX8_isOver, 8)) (zp2 (List.mem_of_getElem? (i := 14) rfl))) rfl
theorem zw987 : Cond.selects RX11 yX11_no yX11_no ∈ zG := zG_of (zp (q := (yX11_no, 13)) (zp2 (List.mem_of_getElem? (i := 15) rfl))) rfl
theorem zw988 : Cond.selects RX8 yX8_keep yX8_keep ∈ zG := zG_of (zp (q := (yX8_keep, 8)) (zp3 (List.mem_of_getElem? (i := 0) rfl))) rfl
theorem zw989 : Cond.selects RX8 yX8_dropOldest yX8_dropOldest ∈ zG := zG_of (zp (q := (yX8_dropOldest, 8)) (zp3 (List.mem_of_getElem? (i := 1) rfl))) rfl
theorem zw990 : Cond.selects RX10 yX10_kindOf yX10_kindOf ∈ zG := zG_of (zp (q := (yX10_kindOf, 10)) (zp3 (List.mem_of_getElem? (i := 2) rfl))) rfl
theorem zw991 : Cond.selects RX11 yX11_kind yX11_kind ∈ zG := zG_of (zp (q := (yX11_kind, 13)) (zp3 (List.mem_of_getElem? (i := 3) rfl))) rfl
theorem zw992 : Cond.selects RX8 yX8_go yX8_go ∈ zG := zG_of (zp (q := (yX8_go, 8)) (zp3 (List.mem_of_getElem? (i := 4) rfl))) rfl
theorem zw993 : Cond.selects RX5 yX5_cellBehind yX5_cellBehind ∈ zG := zG_of (zp (q := (yX5_cellBehind, 4)) (zp3 (List.mem_of_getElem? (i := 5) rfl))) rfl
theorem zw994 : Cond.selects RX8 yX8_isThrough yX8_isThrough ∈ zG := zG_of (zp (q := (yX8_isThrough, 8)) (zp3 (List.mem_of_getElem? (i := 6) rfl))) rfl
theorem zw995 : Cond.selects RX8 yX8_takeBack yX8_takeBack ∈ zG := zG_of (zp (q := (yX8_takeBack, 8)) (zp3 (List.mem_of_getElem? (i := 7) rfl))) rfl
theorem zw996 : Cond.selects RX11 yX11_tryRow yX11_tryRow ∈ zG := zG_of (zp (q := (yX11_tryRow, 13)) (zp3 (List.mem_of_getElem? (i := 8) rfl))) rfl
theorem zw997 : Cond.selects RX9 yX9_fillSure yX9_fillSure ∈ zG := zG_of (zp (q := (yX9_fillSure, 3)) (zp3 (List.mem_of_getElem? (i := 9) rfl))) rfl
theorem zw998 : Cond.selects RX9 yX9_worst yX9_worst ∈ zG := zG_of (zp (q := (yX9_worst, 3)) (zp3 (List.mem_of_getElem? (i := 10) rfl))) rfl
theorem zw999 : Cond.selects RX9 yX9_costFrom yX9_costFrom ∈ zG := zG_of (zp (q := (yX9_costFrom, 3)) (zp3 (List.mem_of_getElem? (i := 11) rfl))) rfl
theorem zw1000 : Cond.selects RX9 yX9_put yX9_put ∈ zG := zG_of (zp (q := (yX9_put, 3)) (zp3 (List.mem_of_getElem? (i := 12) rfl))) rfl
theorem zw1001 : Cond.selects RX11 yX11_firstPace yX11_firstPace ∈ zG := zG_of (zp (q := (yX11_firstPace, 13)) (zp3 (List.mem_of_getElem? (i := 13) rfl))) rfl
theorem zw1002 : Cond.selects RX9 yX9_leastBestPace yX9_leastBestPace ∈ zG := zG_of (zp (q := (yX9_leastBestPace, 3)) (zp3 (List.mem_of_getElem? (i := 14) rfl))) rfl
theorem zw1003 : Cond.selects RX9 yX9_fillFlat yX9_fillFlat ∈ zG := zG_of (zp (q := (yX9_fillFlat, 3)) (zp3 (List.mem_of_getElem? (i := 15) rfl))) rfl
theorem zw1004 : Cond.selects RX9 yX9_fewestFlat yX9_fewestFlat ∈ zG := zG_of (zp (q := (yX9_fewestFlat, 3)) (zp4 (List.mem_of_getElem? (i := 0) rfl))) rfl
theorem zw1005 : Cond.selects RX10 yX10_addNote yX10_addNote ∈ zG := zG_of (zp (q := (yX10_addNote, 10)) (zp4 (List.mem_of_getElem? (i := 1) rfl))) rfl
theorem zw1006 : Cond.selects RX11 yX11_kindsThatFit yX11_kindsThatFit ∈ zG := zG_of (zp (q := (yX11_kindsThatFit, 13)) (zp4 (List.mem_of_getElem? (i := 2) rfl))) rfl
theorem zw1007 : Cond.selects RX8 yX8_fellIn yX8_fellIn ∈ zG := zG_of (zp (q := (yX8_fellIn, 8)) (zp4 (List.mem_of_getElem? (i := 3) rfl))) rfl
theorem zw1008 : Cond.selects RX11 yX11_mostThatEndAlike yX11_mostThatEndAlike ∈ zG := zG_of (zp (q := (yX11_mostThatEndAlike, 13)) (zp4 (List.mem_of_getElem? (i := 4) rfl))) rfl
theorem zw1009 : Cond.selects RX11 yX11_endOfPace yX11_endOfPace ∈ zG := zG_of (zp (q := (yX11_endOfPace, 13)) (zp4 (List.mem_of_getElem? (i := 5) rfl))) rfl
theorem zw1010 : Cond.selects RX9 yX9_through yX9_through ∈ zG := zG_of (zp (q := (yX9_through, 3)) (zp4 (List.mem_of_getElem? (i := 6) rfl))) rfl
theorem zw1011 : Cond.selects RX9 yX9_addChance yX9_addChance ∈ zG := zG_of (zp (q := (yX9_addChance, 3)) (zp4 (List.mem_of_getElem? (i := 7) rfl))) rfl
theorem zw1012 : Cond.selects RX9 yX9_turnChances yX9_turnChances ∈ zG := zG_of (zp (q := (yX9_turnChances, 3)) (zp4 (List.mem_of_getElem? (i := 8) rfl))) rfl
theorem zw1013 : Cond.selects RX9 yX9_chanceOf yX9_chanceOf ∈ zG := zG_of (zp (q := (yX9_chanceOf, 3)) (zp4 (List.mem_of_getElem? (i := 9) rfl))) rfl
theorem zw1014 : Cond.selects RX5 yX5_addTo yX5_addTo ∈ zG := zG_of (zp (q := (yX5_addTo, 4)) (zp4 (List.mem_of_getElem? (i := 10) rfl))) rfl
theorem zw1015 : Cond.selects RX10 yX10_addHeadsTo yX10_addHeadsTo ∈ zG := zG_of (zp (q := (yX10_addHeadsTo, 10)) (zp4 (List.mem_of_getElem? (i := 11) rfl))) rfl
theorem zw1016 : Cond.selects RX10 yX10_addNotesTo yX10_addNotesTo ∈ zG := zG_of (zp (q := (yX10_addNotesTo, 10)) (zp4 (List.mem_of_getElem? (i := 12) rfl))) rfl
theorem zw1017 : Cond.selects RX12 yX12_bad yX12_bad ∈ zG := zG_of (zp (q := (yX12_bad, 22)) (zp4 (List.mem_of_getElem? (i := 13) rfl))) rfl
theorem zw1018 : Cond.selects RX12 yX12_isCell yX12_isCell ∈ zG := zG_of (zp (q := (yX12_isCell, 22)) (zp4 (List.mem_of_getElem? (i := 14) rfl))) rfl
theorem zw1019 : Cond.selects RX12 yX12_fountain yX12_fountain ∈ zG := zG_of (zp (q := (yX12_fountain, 22)) (zp4 (List.mem_of_getElem? (i := 15) rfl))) rfl
theorem zw1020 : Cond.selects RX12 yX12_full yX12_full ∈ zG := zG_of (zp (q := (yX12_full, 22)) (zp5 (List.mem_of_getElem? (i := 0) rfl))) rfl
theorem zw1021 : Cond.selects RX12 yX12_isHead yX12_isHead ∈ zG := zG_of (zp (q := (yX12_isHead, 22)) (zp5 (List.mem_of_getElem? (i := 1) rfl))) rfl
theorem zw1022 : Cond.selects RX12 yX12_kindOf yX12_kindOf ∈ zG := zG_of (zp (q := (yX12_kindOf, 22)) (zp5 (List.mem_of_getElem? (i := 2) rfl))) rfl
theorem zw1023 : Cond.selects RX12 yX12_setOf yX12_setOf ∈ zG := zG_of (zp (q := (yX12_setOf, 22)) (zp5 (List.mem_of_getElem? (i := 3) rfl))) rfl
theorem zw1024 : Cond.selects RX12 yX12_falls yX12_falls ∈ zG := zG_of (zp (q := (yX12_falls, 22)) (zp5 (List.mem_of_getElem? (i := 4) rfl))) rfl
theorem zw1025 : Cond.selects RX12 yX12_isWalk yX12_isWalk ∈ zG := zG_of (zp (q := (yX12_isWalk, 22)) (zp5 (List.mem_of_getElem? (i := 5) rfl))) rfl
theorem zw1026 : Cond.selects RX12 yX12_isThere yX12_isThere ∈ zG := zG_of (zp (q := (yX12_isThere, 22)) (zp5 (List.mem_of_getElem? (i := 6) rfl))) rfl
theorem zw1027 : Cond.selects RX12 yX12_no yX12_no ∈ zG := zG_of (zp (q := (yX12_no, 22)) (zp5 (List.mem_of_getElem? (i := 7) rfl))) rfl
theorem zw1028 : Cond.selects RX12 yX12_keep yX12_keep ∈ zG := zG_of (zp (q := (yX12_keep, 22)) (zp5 (List.mem_of_getElem? (i := 8) rfl))) rfl
theorem zw1029 : Cond.selects RX12 yX12_layStones yX12_layStones ∈ zG := zG_of (zp (q := (yX12_layStones, 22)) (zp5 (List.mem_of_getElem? (i := 9) rfl))) rfl
theorem zw1030 : Cond.selects RX12 yX12_leanBehind yX12_leanBehind ∈ zG := zG_of (zp (q := (yX12_leanBehind, 22)) (zp5 (List.mem_of_getElem? (i := 10) rfl))) rfl
theorem zw1031 : Cond.selects RX12 yX12_cellBy yX12_cellBy ∈ zG := zG_of (zp (q := (yX12_cellBy, 22)) (zp5 (List.mem_of_getElem? (i := 11) rfl))) rfl
theorem zw1032 : Cond.selects RX12 yX12_goRow yX12_goRow ∈ zG := zG_of (zp (q := (yX12_goRow, 22)) (zp5 (List.mem_of_getElem? (i := 12) rfl))) rfl
theorem zw1033 : Cond.selects RX12 yX12_beginAt yX12_beginAt ∈ zG := zG_of (zp (q := (yX12_beginAt, 22)) (zp5 (List.mem_of_getElem? (i := 13) rfl))) rfl
theorem zw1034 : Cond.selects RX12 yX12_isOver yX12_isOver ∈ zG := zG_of (zp (q := (yX12_isOver, 22)) (zp5 (List.mem_of_getElem? (i := 14) rfl))) rfl
theorem zw1035 : Cond.selects RX12 yX12_goStep yX12_goStep ∈ zG := zG_of (zp (q := (yX12_goStep, 22)) (zp5 (List.mem_of_getElem? (i := 15) rfl))) rfl
theorem zw1036 : Cond.selects RX12 yX12_layLatest yX12_layLatest ∈ zG := zG_of (zp (q := (yX12_layLatest, 22)) (zp6 (List.mem_of_getElem? (i := 0) rfl))) rfl
theorem zw1037 : Cond.selects RX12 yX12_byPace yX12_byPace ∈ zG := zG_of (zp (q := (yX12_byPace, 22)) (zp6 (List.mem_of_getElem? (i := 1) rfl))) rfl
theorem zw1038 : Cond.selects RX12 yX12_latestAt yX12_latestAt ∈ zG := zG_of (zp (q := (yX12_latestAt, 22)) (zp6 (List.mem_of_getElem? (i := 2) rfl))) rfl
theorem zw1039 : Cond.selects RX12 yX12_throughIn yX12_throughIn ∈ zG := zG_of (zp (q := (yX12_throughIn, 22)) (zp6 (List.mem_of_getElem? (i := 3) rfl))) rfl
theorem zw1040 : Cond.selects RX12 yX12_kindsOf yX12_kindsOf ∈ zG := zG_of (zp (q := (yX12_kindsOf, 22)) (zp6 (List.mem_of_getElem? (i := 4) rfl))) rfl
theorem zw1041 : Cond.selects RX12 yX12_canBe yX12_canBe ∈ zG := zG_of (zp (q := (yX12_canBe, 22)) (zp6 (List.mem_of_getElem? (i := 5) rfl))) rfl
theorem zw1042 : Cond.selects RX12 yX12_fellIn yX12_fellIn ∈ zG := zG_of (zp (q := (yX12_fellIn, 22)) (zp6 (List.mem_of_getElem? (i := 6) rfl))) rfl
theorem zw1043 : Cond.selects RX12 yX12_goCases yX12_goCases ∈ zG := zG_of (zp (q := (yX12_goCases, 22)) (zp6 (List.mem_of_getElem? (i := 7) rfl))) rfl
theorem zw1044 : Cond.selects RX12 yX12_fraction yX12_fraction ∈ zG := zG_of (zp (q := (yX12_fraction, 22)) (zp6 (List.mem_of_getElem? (i := 8) rfl))) rfl
theorem zw1045 : Cond.selects RX12 yX12_lookAt yX12_lookAt ∈ zG := zG_of (zp (q := (yX12_lookAt, 22)) (zp6 (List.mem_of_getElem? (i := 9) rfl))) rfl
theorem zw1046 : Cond.selects RX12 yX12_takesRoad yX12_takesRoad ∈ zG := zG_of (zp (q := (yX12_takesRoad, 22)) (zp6 (List.mem_of_getElem? (i := 10) rfl))) rfl
theorem zw1047 : Cond.selects RX12 yX12_isWord yX12_isWord ∈ zG := zG_of (zp (q := (yX12_isWord, 22)) (zp6 (List.mem_of_getElem? (i := 11) rfl))) rfl
theorem zw1048 : Cond.selects RX12 yX12_goBehind yX12_goBehind ∈ zG := zG_of (zp (q := (yX12_goBehind, 22)) (zp6 (List.mem_of_getElem? (i := 12) rfl))) rfl
theorem zw1049 : Cond.selects RX12 yX12_takes yX12_takes ∈ zG := zG_of (zp (q := (yX12_takes, 22)) (zp6 (List.mem_of_getElem? (i := 13) rfl))) rfl
theorem zw1050 : Cond.selects RX12 yX12_takesItem yX12_takesItem ∈ zG := zG_of (zp (q := (yX12_takesItem, 22)) (zp6 (List.mem_of_getElem? (i := 14) rfl))) rfl
theorem zw1051 : Cond.selects RX12 yX12_takesCobble yX12_takesCobble ∈ zG := zG_of (zp (q := (yX12_takesCobble, 22)) (zp6 (List.mem_of_getElem? (i := 15) rfl))) rfl
theorem zw1052 : Cond.selects RX12 yX12_takesTwo yX12_takesTwo ∈ zG := zG_of (zp (q := (yX12_takesTwo, 22)) (zp7 (List.mem_of_getElem? (i := 0) rfl))) rfl
theorem zw1053 : Cond.selects RX12 yX12_takesWind yX12_takesWind ∈ zG := zG_of (zp (q := (yX12_takesWind, 22)) (zp7 (List.mem_of_getElem? (i := 1) rfl))) rfl
theorem zw1054 : Cond.selects RX12 yX12_takesHead yX12_takesHead ∈ zG := zG_of (zp (q := (yX12_takesHead, 22)) (zp7 (List.mem_of_getElem? (i := 2) rfl))) rfl
theorem zw1055 : Cond.selects RX12 yX12_counted yX12_counted ∈ zG := zG_of (zp (q := (yX12_counted, 22)) (zp7 (List.mem_of_getElem? (i := 3) rfl))) rfl
theorem zw1056 : Cond.selects RX12 yX12_sums yX12_sums ∈ zG := zG_of (zp (q := (yX12_sums, 22)) (zp7 (List.mem_of_getElem? (i := 4) rfl))) rfl
/-- links to a nest mate's methods and fields: class, place, what, host -/
def znM : List (String × Nat × MethodName × String) := [(RX11, 17, yX10_init, "SmallCrown"), (RX10, 11, yX5_init, "SmallCrown"), (RX10, 20, yX8_init, "SmallCrown"), (RX11, 31, yX4_init, "SmallCrown"), (RX11, 38, yX8_init, "SmallCrown"), (RX11, 45, yX9_init, "SmallCrown"), (RX11, 71, yX3_init, "SmallCrown"), (RX11, 74, yX7_init, "SmallCrown"), (RX7, 1, yX3_init, "SmallCrown"), (RX11, 77, yX6_init, "SmallCrown"), (RX6, 1, yX3_init, "SmallCrown"), (RX11, 80, yX0_init, "SmallCrown"), (RX0, 1, yX7_init, "SmallCrown"), (RX11, 83, yX2_init, "SmallCrown"), (RX2, 1, yX7_init, "SmallCrown"), (RX11, 86, yX1_init, "SmallCrown"), (RX1, 1, yX6_init, "SmallCrown"), (RX11, 98, yX10_beginAnew, "SmallCrown"), (RX10, 51, yX5_beginAnew, "SmallCrown"), (RX10, 55, yX8_begin, "SmallCrown"), (RX11, 110, yX5_cobbleOf, "SmallCrown"), (RX5, 31, yX11_within, "SmallCrown"), (RX11, 115, yX5_layCobble, "SmallCrown"), (RX11, 118, yX5_windIn, "SmallCrown"), (RX11, 121, yX5_setWind, "SmallCrown"), (RX11, 128, yX10_addHead, "SmallCrown"), (RX10, 72, yX11_within, "SmallCrown"), (RX11, 134, yX4_add, "SmallCrown"), (RX4, 28, yX11_within, "SmallCrown"), (RX11, 138, yX4_tell, "SmallCrown"), (RX4, 56, yX10_beginAnew, "SmallCrown"), (RX4, 90, yX5_layCobble, "SmallCrown"), (RX4, 93, yX5_setWind, "SmallCrown"), (RX4, 99, yX10_addHead, "SmallCrown"), (RX11, 145, yX10_copyFrom, "SmallCrown"), (RX10, 59, yX5_copyFrom, "SmallCrown"), (RX10, 63, yX8_copyFrom, "SmallCrown"), (RX11, 155, yX10_setOf, "SmallCrown"), (RX11, 158, yX8_begin, "SmallCrown"), (RX11, 162, yX8_isFallen, "SmallCrown"), (RX8, 43, yX5_fells, "SmallCrown"), (RX11, 173, yX8_isOver, "SmallCrown"), (RX11, 179, yX8_keep, "SmallCrown"), (RX8, 76, yX11_within, "SmallCrown"), (RX11, 182, yX10_kindOf, "SmallCrown"), (RX11, 189, yX8_go, "SmallCrown"), (RX8, 56, yX5_cellBehind, "SmallCrown"), (RX8, 60, yX5_cobbleOf, "SmallCrown"), (RX8, 64, yX5_windIn, "SmallCrown"), (RX11, 196, yX8_isThrough, "SmallCrown"), (RX11, 205, yX8_takeBack, "SmallCrown"), (RX11, 221, yX9_fillSure, "SmallCrown"), (RX9, 61, yX5_cellBehind, "SmallCrown"), (RX9, 64, yX5_cobbleOf, "SmallCrown"), (RX9, 68, yX5_windIn, "SmallCrown"), (RX9, 22, yX5_fells, "SmallCrown"), (RX9, 37, yX11_within, "SmallCrown"), (RX11, 225, yX9_costFrom, "SmallCrown"), (RX11, 315, yX9_leastBestPace, "SmallCrown"), (RX11, 234, yX9_fillFlat, "SmallCrown"), (RX11, 242, yX10_addNote, "SmallCrown"), (RX11, 263, yX8_fellIn, "SmallCrown"), (RX11, 260, yX5_cellBehind, "SmallCrown"), (RX11, 267, yX9_through, "SmallCrown"), (RX11, 299, yX5_addTo, "SmallCrown"), (RX11, 303, yX10_addHeadsTo, "SmallCrown"), (RX11, 309, yX10_addNotesTo, "SmallCrown")]
def znF : List (String × Nat × String × String × String × String) := [(RX9, 29, RX5, "length", "I", "SmallCrown"), (RX8, 49, RX5, "length", "I", "SmallCrown"), (RX4, 87, RX5, "length", "I", "SmallCrown"), (RX11, 271, RX5, "length", "I", "SmallCrown"), (RX9, 47, RX5, "hold", "I", "SmallCrown"), (RX11, 289, RX5, "hold", "I", "SmallCrown"), (RX11, 170, RX8, "head", "I", "SmallCrown"), (RX11, 193, RX8, "cell", "I", "SmallCrown"), (RX11, 208, RX8, "step", "I", "SmallCrown"), (RX11, 199, RX8, "lean", "I", "SmallCrown"), (RX11, 202, RX8, "kept", "I", "SmallCrown"), (RX11, 106, RX10, "road", "LSmallCrown$Road;", "SmallCrown"), (RX4, 84, RX10, "road", "LSmallCrown$Road;", "SmallCrown"), (RX11, 152, RX10, "walk", "LSmallCrown$Walk;", "SmallCrown"), (RX11, 95, RX10, "heads", "I", "SmallCrown"), (RX4, 96, RX10, "heads", "I", "SmallCrown"), (RX11, 239, RX10, "notes", "I", "SmallCrown"), (RX11, 319, RX10, "noteHeads", "[I", "SmallCrown"), (RX11, 322, RX10, "noteSteps", "[I", "SmallCrown"), (RX11, 325, RX10, "noteRows", "[I", "SmallCrown"), (RX11, 328, RX10, "noteCells", "[I", "SmallCrown"), (RX11, 131, RX4, "length", "I", "SmallCrown"), (RX11, 142, RX4, "start", "I", "SmallCrown")]
def znC : List (String × String) := [(RX7, RX3), (RX6, RX3), (RX0, RX3), (RX2, RX3), (RX1, RX3)]
theorem znM_in : ∀ t ∈ znM, Cond.methodLinkNest t.1 t.2.1 t.2.2.1 t.2.2.2 ∈ lw_tbl := List.forall_mem_cons.mpr ⟨zt1 (List.mem_of_getElem? (i := 32) rfl), List.forall_mem_cons.mpr ⟨zt1 (List.mem_of_getElem? (i := 38) rfl), List.forall_mem_cons.mpr ⟨zt1 (List.mem_of_getElem? (i := 64) rfl), List.forall_mem_cons.mpr ⟨zt1 (List.mem_of_getElem? (i := 142) rfl), List.forall_mem_cons.mpr ⟨zt1 (List.mem_of_getElem? (i := 165) rfl), List.forall_mem_cons.mpr ⟨zt1 (List.mem_of_getElem? (i := 168) rfl), List.forall_mem_cons.mpr ⟨zt1 (List.mem_of_getElem? (i := 184) rfl), List.forall_mem_cons.mpr ⟨zt1 (List.mem_of_getElem? (i := 191) rfl), List.forall_mem_cons.mpr ⟨zt1 (List.mem_of_getElem? (i := 194) rfl), List.forall_mem_cons.mpr ⟨zt1 (List.mem_of_getElem? (i := 198) rfl), List.forall_mem_cons.mpr ⟨zt1 (List.mem_of_getElem? (i := 201) rfl), List.forall_mem_cons.mpr ⟨zt1 (List.mem_of_getElem? (i := 205) rfl), List.forall_mem_cons.mpr ⟨zt1 (List.mem_of_getElem? (i := 208) rfl), List.forall_mem_cons.mpr ⟨zt1 (List.mem_of_getElem? (i := 212) rfl), List.forall_mem_cons.mpr ⟨zt1 (List.mem_of_getElem? (i := 215) rfl), List.forall_mem_cons.mpr ⟨zt1 (List.mem_of_getElem? (i := 219) rfl), List.forall_mem_cons.mpr ⟨zt1 (List.mem_of_getElem? (i := 222) rfl), List.forall_mem_cons.mpr ⟨zt2 (List.mem_of_getElem? (i := 35) rfl), List.forall_mem_cons.mpr ⟨zt2 (List.mem_of_getElem? (i := 39) rfl), List.forall_mem_cons.mpr ⟨zt2 (List.mem_of_getElem? (i := 43) rfl), List.forall_mem_cons.mpr ⟨zt2 (List.mem_of_getElem? (i := 55) rfl), List.forall_mem_cons.mpr ⟨zt2 (List.mem_of_getElem? (i := 59) rfl), List.forall_mem_cons.mpr ⟨zt2 (List.mem_of_getElem? (i := 60) rfl), List.forall_mem_cons.mpr ⟨zt2 (List.mem_of_getElem? (i := 68) rfl), List.forall_mem_cons.mpr ⟨zt2 (List.mem_of_getElem? (i := 75) rfl), List.forall_mem_cons.mpr ⟨zt2 (List.mem_of_getElem? (i := 87) rfl), List.forall_mem_cons.mpr ⟨zt2 (List.mem_of_getElem? (i := 91) rfl), List.forall_mem_cons.mpr ⟨zt2 (List.mem_of_getElem? (i := 96) rfl), List.forall_mem_cons.mpr ⟨zt2 (List.mem_of_getElem? (i := 100) rfl), List.forall_mem_cons.mpr ⟨zt2 (List.mem_of_getElem? (i := 109) rfl), List.forall_mem_cons.mpr ⟨zt2 (List.mem_of_getElem? (i := 192) rfl), List.forall_mem_cons.mpr ⟨zt2 (List.mem_of_getElem? (i := 202) rfl), List.forall_mem_cons.mpr ⟨zt2 (List.mem_of_getElem? (i := 209) rfl), List.forall_mem_cons.mpr ⟨zt2 (List.mem_of_getElem? (i := 216) rfl), List.forall_mem_cons.mpr ⟨zt2 (List.mem_of_getElem? (i := 218) rfl), List.forall_mem_cons.mpr ⟨zt2 (List.mem_of_getElem? (i := 222) rfl), List.forall_mem_cons.mpr ⟨zt2 (List.mem_of_getElem? (i := 229) rfl), List.forall_mem_cons.mpr ⟨zt3 (List.mem_of_getElem? (i := 4) rfl), List.forall_mem_cons.mpr ⟨zt3 (List.mem_of_getElem? (i := 8) rfl), List.forall_mem_cons.mpr ⟨zt3 (List.mem_of_getElem? (i := 9) rfl), List.forall_mem_cons.mpr ⟨zt3 (List.mem_of_getElem? (i := 13) rfl), List.forall_mem_cons.mpr ⟨zt3 (List.mem_of_getElem? (i := 24) rfl), List.forall_mem_cons.mpr ⟨zt3 (List.mem_of_getElem? (i := 33) rfl), List.forall_mem_cons.mpr ⟨zt3 (List.mem_of_getElem? (i := 41) rfl), List.forall_mem_cons.mpr ⟨zt3 (List.mem_of_getElem? (i := 42) rfl), List.forall_mem_cons.mpr ⟨zt3 (List.mem_of_getElem? (i := 50) rfl), List.forall_mem_cons.mpr ⟨zt3 (List.mem_of_getElem? (i := 54) rfl), List.forall_mem_cons.mpr ⟨zt3 (List.mem_of_getElem? (i := 59) rfl), List.forall_mem_cons.mpr ⟨zt3 (List.mem_of_getElem? (i := 60) rfl), List.forall_mem_cons.mpr ⟨zt3 (List.mem_of_getElem? (i := 90) rfl), List.forall_mem_cons.mpr ⟨zt3 (List.mem_of_getElem? (i := 98) rfl), List.forall_mem_cons.mpr ⟨zt3 (List.mem_of_getElem? (i := 136) rfl), List.forall_mem_cons.mpr ⟨zt3 (List.mem_of_getElem? (i := 145) rfl), List.forall_mem_cons.mpr ⟨zt3 (List.mem_of_getElem? (i := 146) rfl), List.forall_mem_cons.mpr ⟨zt3 (List.mem_of_getElem? (i := 147) rfl), List.forall_mem_cons.mpr ⟨zt3 (List.mem_of_getElem? (i := 153) rfl), List.forall_mem_cons.mpr ⟨zt3 (List.mem_of_getElem? (i := 158) rfl), List.forall_mem_cons.mpr ⟨zt3 (List.mem_of_getElem? (i := 167) rfl), List.forall_mem_cons.mpr ⟨zt3 (List.mem_of_getElem? (i := 173) rfl), List.forall_mem_cons.mpr ⟨zt3 (List.mem_of_getElem? (i := 189) rfl), List.forall_mem_cons.mpr ⟨zt3 (List.mem_of_getElem? (i := 203) rfl), List.forall_mem_cons.mpr ⟨zt3 (List.mem_of_getElem? (i := 219) rfl), List.forall_mem_cons.mpr ⟨zt4 (List.mem_of_getElem? (i := 0) rfl), List.forall_mem_cons.mpr ⟨zt4 (List.mem_of_getElem? (i := 5) rfl), List.forall_mem_cons.mpr ⟨zt4 (List.mem_of_getElem? (i := 62) rfl), List.forall_mem_cons.mpr ⟨zt4 (List.mem_of_getElem? (i := 67) rfl), List.forall_mem_cons.mpr ⟨zt4 (List.mem_of_getElem? (i := 73) rfl), fun _ h => absurd h List.not_mem_nil⟩⟩⟩⟩⟩⟩⟩⟩⟩⟩⟩⟩⟩⟩⟩⟩⟩⟩⟩⟩⟩⟩⟩⟩⟩⟩⟩⟩⟩⟩⟩⟩⟩⟩⟩⟩⟩⟩⟩⟩⟩⟩⟩⟩⟩⟩⟩⟩⟩⟩⟩⟩⟩⟩⟩⟩⟩⟩⟩⟩⟩⟩⟩⟩⟩⟩⟩
theorem znF_in : ∀ t ∈ znF, Cond.fieldLinkNest t.1 t.2.1 t.2.2.1 t.2.2.2.1 t.2.2.2.2.1 t.2.2.2.2.2 ∈ lw_tbl := List.forall_mem_cons.mpr ⟨zt1 (List.mem_of_getElem? (i := 43) rfl), List.forall_mem_cons.mpr ⟨zt1 (List.mem_of_getElem? (i := 44) rfl), List.forall_mem_cons.mpr ⟨zt1 (List.mem_of_getElem? (i := 45) rfl), List.forall_mem_cons.mpr ⟨zt1 (List.mem_of_getElem? (i := 46) rfl), List.forall_mem_cons.mpr ⟨zt1 (List.mem_of_getElem? (i := 48) rfl), List.forall_mem_cons.mpr ⟨zt1 (List.mem_of_getElem? (i := 49) rfl), List.forall_mem_cons.mpr ⟨zt1 (List.mem_of_getElem? (i := 69) rfl), List.forall_mem_cons.mpr ⟨zt1 (List.mem_of_getElem? (i := 71) rfl), List.forall_mem_cons.mpr ⟨zt1 (List.mem_of_getElem? (i := 73) rfl), List.forall_mem_cons.mpr ⟨zt1 (List.mem_of_getElem? (i := 75) rfl), List.forall_mem_cons.mpr ⟨zt1 (List.mem_of_getElem? (i := 77) rfl), List.forall_mem_cons.mpr ⟨zt1 (List.mem_of_getElem? (i := 99) rfl), List.forall_mem_cons.mpr ⟨zt1 (List.mem_of_getElem? (i := 100) rfl), List.forall_mem_cons.mpr ⟨zt1 (List.mem_of_getElem? (i := 102) rfl), List.forall_mem_cons.mpr ⟨zt1 (List.mem_of_getElem? (i := 104) rfl), List.forall_mem_cons.mpr ⟨zt1 (List.mem_of_getElem? (i := 105) rfl), List.forall_mem_cons.mpr ⟨zt1 (List.mem_of_getElem? (i := 109) rfl), List.forall_mem_cons.mpr ⟨zt1 (List.mem_of_getElem? (i := 111) rfl), List.forall_mem_cons.mpr ⟨zt1 (List.mem_of_getElem? (i := 113) rfl), List.forall_mem_cons.mpr ⟨zt1 (List.mem_of_getElem? (i := 115) rfl), List.forall_mem_cons.mpr ⟨zt1 (List.mem_of_getElem? (i := 117) rfl), List.forall_mem_cons.mpr ⟨zt1 (List.mem_of_getElem? (i := 148) rfl), List.forall_mem_cons.mpr ⟨zt1 (List.mem_of_getElem? (i := 151) rfl), fun _ h => absurd h List.not_mem_nil⟩⟩⟩⟩⟩⟩⟩⟩⟩⟩⟩⟩⟩⟩⟩⟩⟩⟩⟩⟩⟩⟩⟩
theorem znC_in : ∀ t ∈ znC, Cond.castable t.1 t.2 ∈ lw_tbl := List.forall_mem_cons.mpr ⟨zt6 (List.mem_of_getElem? (i := 25) rfl), List.forall_mem_cons.mpr ⟨zt6 (List.mem_of_getElem? (i := 26) rfl), List.forall_mem_cons.mpr ⟨zt6 (List.mem_of_getElem? (i := 27) rfl), List.forall_mem_cons.mpr ⟨zt6 (List.mem_of_getElem? (i := 28) rfl), List.forall_mem_cons.mpr ⟨zt6 (List.mem_of_getElem? (i := 29) rfl), fun _ h => absurd h List.not_mem_nil⟩⟩⟩⟩⟩
theorem zao0 : Cond.arrayOver (.object "SmallCrown$Plain") ∈ lw_tbl := zt1 (List.mem_of_getElem? (i := 29) rfl)
theorem zao1 : Cond.arrayOver (.object "SmallCrown$World") ∈ lw_tbl := zt1 (List.mem_of_getElem? (i := 139) rfl)
theorem zls0 : Cond.laysStatic "java/lang/String" "COMPACT_STRINGS" "Z" ∈ lw_tbl := zt2 (List.mem_of_getElem? (i := 145) rfl)
theorem zls1 : Cond.laysStatic "jdk/internal/util/Preconditions" "SIOOBE_FORMATTER" "Ljava/util/function/BiFunction;" ∈ lw_tbl := zt2 (List.mem_of_getElem? (i := 161) rfl)
theorem zls2 : Cond.laysStatic "java/lang/StringUTF16" "$assertionsDisabled" "Z" ∈ lw_tbl := zt2 (List.mem_of_getElem? (i := 179) rfl)
theorem zls3 : Cond.laysStatic "java/lang/StringUTF16" "HI_BYTE_SHIFT" "I" ∈ lw_tbl := zt2 (List.mem_of_getElem? (i := 181) rfl)
theorem zls4 : Cond.laysStatic "java/lang/StringUTF16" "LO_BYTE_SHIFT" "I" ∈ lw_tbl := zt2 (List.mem_of_getElem? (i := 183) rfl)
theorem zls5 : Cond.laysStatic "SmallCrown" "TENS" "[I" ∈ lw_tbl := zt3 (List.mem_of_getElem? (i := 121) rfl)
theorem zsr0 : Cond.stringRef RX4 42 "road" ∈ lw_tbl := zt2 (List.mem_of_getElem? (i := 131) rfl)
theorem zsr1 : Cond.stringRef RX4 62 "cobble" ∈ lw_tbl := zt2 (List.mem_of_getElem? (i := 197) rfl)
theorem zsr2 : Cond.stringRef RX4 68 "hole" ∈ lw_tbl := zt2 (List.mem_of_getElem? (i := 203) rfl)
theorem zsr3 : Cond.stringRef RX4 70 "wind" ∈ lw_tbl := zt2 (List.mem_of_getElem? (i := 204) rfl)
theorem zsr4 : Cond.stringRef RX4 75 "lull" ∈ lw_tbl := zt2 (List.mem_of_getElem? (i := 210) rfl)
theorem zsr5 : Cond.stringRef RX4 77 "head" ∈ lw_tbl := zt2 (List.mem_of_getElem? (i := 211) rfl)
theorem zsr6 : Cond.stringRef RX4 82 "bent" ∈ lw_tbl := zt2 (List.mem_of_getElem? (i := 217) rfl)
theorem zin0 : ∀ w ∈ u_ws RX0 TX0 0, w ∈ zG := fun _ h => absurd h List.not_mem_nil
theorem zin1 : ∀ w ∈ u_ws RX1 TX1 0, w ∈ zG := fun _ h => absurd h List.not_mem_nil
theorem zin2 : ∀ w ∈ u_ws RX2 TX2 0, w ∈ zG := fun _ h => absurd h List.not_mem_nil
theorem zin3 : ∀ w ∈ u_ws RX3 TX3 0, w ∈ zG := fun _ h => absurd h List.not_mem_nil
theorem zin4 : ∀ w ∈ u_ws RX4 TX4 5, w ∈ zG := List.forall_mem_cons.mpr ⟨zw102, List.forall_mem_cons.mpr ⟨zw103, List.forall_mem_cons.mpr ⟨zw104, List.forall_mem_cons.mpr ⟨zw105, List.forall_mem_cons.mpr ⟨zw106, fun _ h => absurd h List.not_mem_nil⟩⟩⟩⟩⟩
theorem zin5 : ∀ w ∈ u_ws RX5 TX5 4, w ∈ zG := List.forall_mem_cons.mpr ⟨zw43, List.forall_mem_cons.mpr ⟨zw44, List.forall_mem_cons.mpr ⟨zw45, List.forall_mem_cons.mpr ⟨zw46, fun _ h => absurd h List.not_mem_nil⟩⟩⟩⟩
theorem zin6 : ∀ w ∈ u_ws RX6 TX6 0, w ∈ zG := fun _ h => absurd h List.not_mem_nil
theorem zin7 : ∀ w ∈ u_ws RX7 TX7 0, w ∈ zG := fun _ h => absurd h List.not_mem_nil
theorem zin8 : ∀ w ∈ u_ws RX8 TX8 8, w ∈ zG := List.forall_mem_cons.mpr ⟨zw62, List.forall_mem_cons.mpr ⟨zw63, List.forall_mem_cons.mpr ⟨zw64, List.forall_mem_cons.mpr ⟨zw65, List.forall_mem_cons.mpr ⟨zw66, List.forall_mem_cons.mpr ⟨zw67, List.forall_mem_cons.mpr ⟨zw68, List.forall_mem_cons.mpr ⟨zw69, fun _ h => absurd h List.not_mem_nil⟩⟩⟩⟩⟩⟩⟩⟩
theorem zin9 : ∀ w ∈ u_ws RX9 TX9 3, w ∈ zG := List.forall_mem_cons.mpr ⟨zw117, List.forall_mem_cons.mpr ⟨zw118, List.forall_mem_cons.mpr ⟨zw119, fun _ h => absurd h List.not_mem_nil⟩⟩⟩
theorem zin10 : ∀ w ∈ u_ws RX10 TX10 10, w ∈ zG := List.forall_mem_cons.mpr ⟨zw81, List.forall_mem_cons.mpr ⟨zw82, List.forall_mem_cons.mpr ⟨zw83, List.forall_mem_cons.mpr ⟨zw84, List.forall_mem_cons.mpr ⟨zw85, List.forall_mem_cons.mpr ⟨zw86, List.forall_mem_cons.mpr ⟨zw87, List.forall_mem_cons.mpr ⟨zw88, List.forall_mem_cons.mpr ⟨zw89, List.forall_mem_cons.mpr ⟨zw90, fun _ h => absurd h List.not_mem_nil⟩⟩⟩⟩⟩⟩⟩⟩⟩⟩
theorem zin11 : ∀ w ∈ u_ws RX11 TX11 13, w ∈ zG := List.forall_mem_cons.mpr ⟨zw165, List.forall_mem_cons.mpr ⟨zw166, List.forall_mem_cons.mpr ⟨zw167, List.forall_mem_cons.mpr ⟨zw168, List.forall_mem_cons.mpr ⟨zw169, List.forall_mem_cons.mpr ⟨zw170, List.forall_mem_cons.mpr ⟨zw171, List.forall_mem_cons.mpr ⟨zw172, List.forall_mem_cons.mpr ⟨zw173, List.forall_mem_cons.mpr ⟨zw174, List.forall_mem_cons.mpr ⟨zw175, List.forall_mem_cons.mpr ⟨zw176, List.forall_mem_cons.mpr ⟨zw177, fun _ h => absurd h List.not_mem_nil⟩⟩⟩⟩⟩⟩⟩⟩⟩⟩⟩⟩⟩
theorem zin12 : ∀ w ∈ u_ws RX12 TX12 22, w ∈ zG := List.forall_mem_cons.mpr ⟨zw619, List.forall_mem_cons.mpr ⟨zw620, List.forall_mem_cons.mpr ⟨zw621, List.forall_mem_cons.mpr ⟨zw622, List.forall_mem_cons.mpr ⟨zw623, List.forall_mem_cons.mpr ⟨zw624, List.forall_mem_cons.mpr ⟨zw625, List.forall_mem_cons.mpr ⟨zw626, List.forall_mem_cons.mpr ⟨zw627, List.forall_mem_cons.mpr ⟨zw628, List.forall_mem_cons.mpr ⟨zw629, List.forall_mem_cons.mpr ⟨zw630, List.forall_mem_cons.mpr ⟨zw631, List.forall_mem_cons.mpr ⟨zw632, List.forall_mem_cons.mpr ⟨zw633, List.forall_mem_cons.mpr ⟨zw634, List.forall_mem_cons.mpr ⟨zw635, List.forall_mem_cons.mpr ⟨zw636, List.forall_mem_cons.mpr ⟨zw637, List.forall_mem_cons.mpr ⟨zw638, List.forall_mem_cons.mpr ⟨zw639, List.forall_mem_cons.mpr ⟨zw640, fun _ h => absurd h List.not_mem_nil⟩⟩⟩⟩⟩⟩⟩⟩⟩⟩⟩⟩⟩⟩⟩⟩⟩⟩⟩⟩⟩⟩
end
section
/-! ===== THE ENGINE: types, the abstract memory, its picture in the heap ===== -/
abbrev ZS : Type := List (Nat × Nat × List (Option Nat))
abbrev ZI : Type := Nat → Nat → Int32
abbrev ZJ : Type := Nat → Nat → Int64
abbrev ZL : Type := List (Option Value)
abbrev ZK : Type := ZL → List Value → ZS → ZI → ZJ → Prop
abbrev ZQ : Type := ZS → ZI → ZJ → Option Value → Prop
abbrev ZT : Type := List Value → ZS → ZI → ZJ → ZQ → Prop
abbrev ZQi : Type := ZS → ZI → ZJ → Int32 → Prop
abbrev ZTi : Type := List Value → ZS → ZI → ZJ → ZQi → Prop
abbrev ZQl : Type := ZS → ZI → ZJ → Int64 → Prop
abbrev ZTl : Type := List Value → ZS → ZI → ZJ → ZQl → Prop
abbrev ZQv : Type := ZS → ZI → ZJ → Prop
abbrev ZTv : Type := List Value → ZS → ZI → ZJ → ZQv → Prop
abbrev ZQr : Type := ZS → ZI → ZJ → Nat → Prop
abbrev ZTr : Type := List Value → ZS → ZI → ZJ → ZQr → Prop
def zti (T : ZTi) : ZT := fun As S I J q => T As S I J (fun S I J x => q S I J (some (.int x)))
def ztl (T : ZTl) : ZT := fun As S I J q => T As S I J (fun S I J x => q S I J (some (.long x)))
def ztv (T : ZTv) : ZT := fun As S I J q => T As S I J (fun S I J => q S I J none)
def ztr (T : ZTr) : ZT := fun As S I J q => T As S I J (fun S I J x => q S I J (some (.ref x)))
/-- the context: classes and slots; the array classes of int, long, boolean, Plain, World; the first address; addresses of what is outside -/
abbrev ZC : Type := va_G × (ClassId × ClassId × ClassId × ClassId × ClassId) × Nat × (Nat → Nat)
def zB (X : ZC) : Nat := X.2.2.1
def zA (X : ZC) : Nat → Prop := fun q => zB X ≤ q
def zc (X : ZC) : Value → Value
  | .ref i => .ref (zB X + i)
  | .retAddr i => .ref (X.2.2.2 i)
  | v => v
theorem zc_cat (X : ZC) (v : Value) : (zc X v).category = v.category := by cases v <;> rfl
def zty (X : ZC) : List (ClassId × FieldType) := [(X.2.1.1, .int), (X.2.1.2.1, .long), (X.2.1.2.2.1, .boolean), (X.2.1.2.2.2.1, .object "SmallCrown$Plain"), (X.2.1.2.2.2.2, .object "SmallCrown$World")]

/-- the kinds of a class's fields: 0 int, 1 long, 2 a reference -/
def zft : Nat → List Nat
  | 4 => [2, 0, 0, 0, 0]
  | 5 => [0, 0, 2, 2]
  | 8 => [0, 0, 0, 0, 0, 2, 2, 2]
  | 9 => [2, 2, 2]
  | 10 => [2, 2, 0, 2, 2, 0, 2, 2, 2, 2]
  | 11 => [2, 2, 2, 2, 2, 2, 2, 2, 1, 1, 0, 0, 0]
  | 12 => [2, 2, 2, 2, 1, 1, 2, 0, 0, 0, 2, 2, 2, 2, 2, 0, 0, 0, 0, 0, 2, 2]
  | _ => []
def zfv (X : ZC) (rs : List (Option Nat)) (I : Nat → Int32) (J : Nat → Int64) (k t : Nat) : Value := match t with
  | 0 => .int (I k)
  | 1 => .long (J k)
  | _ => va_rf ((rs.getD k none).map (zB X + ·))
def zfs (X : ZC) (rs : List (Option Nat)) (I : Nat → Int32) (J : Nat → Int64) (ts : List Nat) : List Value := ts.mapIdx (fun k t => zfv X rs I J k t)
def zel (X : ZC) (I : Nat → Int32) (J : Nat → Int64) (c : Nat × Nat × List (Option Nat)) : va_E :=
  if c.1 = 13 then .inl (X.2.1.1, c.2.1, .inl I)
  else if c.1 = 14 then .inl (X.2.1.2.1, c.2.1, .inr (.inl J))
  else if c.1 = 15 then .inl (X.2.1.2.2.1, c.2.1, .inl I)
  else if c.1 = 16 then .inl (X.2.1.2.2.2.1, c.2.1, .inr (.inr (.inr (.inr (fun k => (c.2.2.getD k none).map (zB X + ·))))))
  else if c.1 = 17 then .inl (X.2.1.2.2.2.2, c.2.1, .inr (.inr (.inr (.inr (fun k => (c.2.2.getD k none).map (zB X + ·))))))
  else .inr (c.1, zfs X c.2.2 I J (zft c.1))
def zws (X : ZC) (S : ZS) (I : ZI) (J : ZJ) : va_W := S.mapIdx (fun i c => (zB X + i, zel X (I i) (J i) c))
theorem zws_at (X : ZC) (S : ZS) (I : ZI) (J : ZJ) (i : Nat) : (zws X S I J)[i]? = (S[i]?).map (fun c => (zB X + i, zel X (I i) (J i) c)) := by
  simp [zws, List.getElem?_mapIdx]
theorem zws_get {X : ZC} {S : ZS} (I : ZI) (J : ZJ) {i : Nat} {c : Nat × Nat × List (Option Nat)} (h : S[i]? = some c) : (zws X S I J)[i]? = some (zB X + i, zel X (I i) (J i) c) := by
  rw [zws_at, h]; rfl
theorem zws_inv {X : ZC} {S : ZS} {I : ZI} {J : ZJ} {i : Nat} {q : Nat × va_E} (h : (zws X S I J)[i]? = some q) : q.1 = zB X + i := by
  rw [zws_at] at h
  cases hc : S[i]? with
  | none => rw [hc] at h; cases h
  | some c => rw [hc] at h; cases h; rfl
theorem zD (X : ZC) (S : ZS) (I : ZI) (J : ZJ) : va_D (zA X) (zws X S I J) := by
  refine ⟨fun i j p q hp hq e => ?_, fun k q hk => ?_⟩
  · rw [zws_inv hp, zws_inv hq] at e
    omega
  · show zB X ≤ q.1
    rw [zws_inv hk]
    omega
theorem zws_set {X : ZC} {S S' : ZS} {I I' : ZI} {J J' : ZJ} {a : Nat} {c' : Nat × Nat × List (Option Nat)} (hl : S'.length = S.length) (hS : ∀ i, i ≠ a → S'[i]? = S[i]?) (ha : S'[a]? = some c') (hI : ∀ i, i ≠ a → I' i = I i) (hJ : ∀ i, i ≠ a → J' i = J i) :
    (zws X S I J).set a (zB X + a, zel X (I' a) (J' a) c') = zws X S' I' J' := by
  apply List.ext_getElem?
  intro i
  rw [List.getElem?_set, zws_at, zws_at]
  by_cases h : a = i
  · subst h
    have hlt : a < (zws X S I J).length := by
      have h1 := (List.getElem?_eq_some_iff.mp ha).1
      simp [zws]; omega
    rw [if_pos rfl, if_pos hlt, ha]; rfl
  · rw [if_neg h, hS i (fun e => h e.symm), hI i (fun e => h e.symm), hJ i (fun e => h e.symm)]
theorem zws_push {X : ZC} {S : ZS} {I I' : ZI} {J J' : ZJ} {c : Nat × Nat × List (Option Nat)} (hI : ∀ i, i ≠ S.length → I' i = I i) (hJ : ∀ i, i ≠ S.length → J' i = J i) :
    zws X S I J ++ [(zB X + S.length, zel X (I' S.length) (J' S.length) c)] = zws X (S ++ [c]) I' J' := by
  apply List.ext_getElem?
  intro i
  rw [zws_at, List.getElem?_append, List.getElem?_append]
  have hlen : (zws X S I J).length = S.length := by simp [zws]
  rw [hlen]
  by_cases h : i < S.length
  · rw [if_pos h, if_pos h, zws_at, hI i (by omega), hJ i (by omega)]
  · rw [if_neg h, if_neg h]
    by_cases h2 : i = S.length
    · subst h2; simp
    · have h3 : 0 < i - S.length := by omega
      obtain ⟨d, hd⟩ : ∃ d, i - S.length = d + 1 := ⟨i - S.length - 1, by omega⟩
      rw [hd]; rfl
/-- kind, length, reference of an object or array -/
def zkd (S : ZS) (a : Nat) : Option Nat := match S[a]? with
  | some c => some c.1
  | none => none
def zln (S : ZS) (a : Nat) : Nat := match S[a]? with
  | some c => c.2.1
  | none => 0
def zrf (S : ZS) (a k : Nat) : Option Nat := match S[a]? with
  | some c => c.2.2.getD k none
  | none => none
def zsr (S : ZS) (a k : Nat) (r : Option Nat) : ZS := match S[a]? with
  | some c => S.set a (c.1, c.2.1, c.2.2.set k r)
  | none => S
def zu (I : ZI) (a f : Nat) (v : Int32) : ZI := fun b g => if b = a then (if g = f then v else I a g) else I b g
def zuJ (J : ZJ) (a f : Nat) (v : Int64) : ZJ := fun b g => if b = a then (if g = f then v else J a g) else J b g
def zcI (I : ZI) (a : Nat) : ZI := fun b g => if b = a then 0 else I b g
def zcJ (J : ZJ) (a : Nat) : ZJ := fun b g => if b = a then 0 else J b g
theorem zu_at (I : ZI) (a f : Nat) (v : Int32) : zu I a f v a = upd (I a) f v := by funext g; simp [zu, upd]
theorem zu_ne (I : ZI) {a b : Nat} (f : Nat) (v : Int32) (h : b ≠ a) : zu I a f v b = I b := by funext g; simp [zu, h]
theorem zuJ_at (J : ZJ) (a f : Nat) (v : Int64) : zuJ J a f v a = vp_updL (J a) f v := by funext g; simp [zuJ, vp_updL]
theorem zuJ_ne (J : ZJ) {a b : Nat} (f : Nat) (v : Int64) (h : b ≠ a) : zuJ J a f v b = J b := by funext g; simp [zuJ, h]
theorem zkd_of {S : ZS} {a k : Nat} (h : zkd S a = some k) : ∃ c, S[a]? = some c ∧ c.1 = k := by
  unfold zkd at h
  cases hc : S[a]? with
  | none => rw [hc] at h; cases h
  | some c => rw [hc] at h; cases h; exact ⟨c, rfl, rfl⟩
theorem zln_of {S : ZS} {a : Nat} {c : Nat × Nat × List (Option Nat)} (h : S[a]? = some c) : zln S a = c.2.1 := by unfold zln; rw [h]
theorem zrf_of {S : ZS} {a k : Nat} {c : Nat × Nat × List (Option Nat)} (h : S[a]? = some c) : zrf S a k = c.2.2.getD k none := by unfold zrf; rw [h]
theorem zsr_of {S : ZS} {a k : Nat} {r : Option Nat} {c : Nat × Nat × List (Option Nat)} (h : S[a]? = some c) : zsr S a k r = S.set a (c.1, c.2.1, c.2.2.set k r) := by unfold zsr; rw [h]
/-! ===== locals ===== -/
def zLS (X : ZC) (nL : Nat) (L : ZL) (ls : Array Slot) : Prop := ls.size = nL ∧ lv_wf ls ∧ ∀ (i : Nat) (v : Value), L[i]? = some (some v) → ls[i]? = some (.val (zc X v))
def zas (X : ZC) (L : ZL) : List (Nat × Value) := L.zipIdx.filterMap (fun q => q.1.map (fun v => (q.2, zc X v)))
theorem zas_mem {X : ZC} {L : ZL} {q : Nat × Value} : q ∈ zas X L ↔ ∃ v, L[q.1]? = some (some v) ∧ q.2 = zc X v := by
  unfold zas
  rw [List.mem_filterMap]
  constructor
  · rintro ⟨⟨o, i⟩, h1, h2⟩
    have h1 := List.mem_zipIdx_iff_getElem?.mp h1
    cases o with
    | none => cases h2
    | some v => cases h2; exact ⟨v, h1, rfl⟩
  · rintro ⟨v, h1, h2⟩
    refine ⟨(some v, q.1), List.mem_zipIdx_iff_getElem?.mpr h1, ?_⟩
    show some (q.1, zc X v) = some q
    rw [← h2]
theorem zLS_has {X : ZC} {nL : Nat} {L : ZL} {ls : Array Slot} (h : zLS X nL L ls) : lv_has ls nL (zas X L) := by
  refine ⟨h.1, h.2.1, fun q hq => ?_⟩
  obtain ⟨v, h1, h2⟩ := zas_mem.mp hq
  rw [h2]
  exact h.2.2 _ _ h1
def zcl (L : ZL) : Nat → ZL
  | 0 => L
  | i + 1 => match L[i]? with
    | some (some (.long _)) => L.set i none
    | some (some (.double _)) => L.set i none
    | _ => L
theorem zcl_of {L : ZL} {i j : Nat} {v : Value} (h : (zcl L i)[j]? = some (some v)) : L[j]? = some (some v) ∧ ¬ (j + 1 = i ∧ v.category = 2) := by
  cases i with
  | zero => exact ⟨h, fun e => by omega⟩
  | succ i =>
    simp only [zcl] at h
    by_cases hj : j = i
    · subst hj
      split at h
      · rw [List.getElem?_set] at h; simp at h
      · rw [List.getElem?_set] at h; simp at h
      · rename_i h1 h2
        refine ⟨h, fun e => ?_⟩
        cases v with
        | long x => exact h1 x h
        | double x => exact h2 x h
        | _ => exact absurd e.2 (by simp [Value.category])
    · have hne : ¬ (j + 1 = i + 1) := by omega
      split at h
      · rw [List.getElem?_set_ne (by omega)] at h; exact ⟨h, fun e => hne e.1⟩
      · rw [List.getElem?_set_ne (by omega)] at h; exact ⟨h, fun e => hne e.1⟩
      · exact ⟨h, fun e => hne e.1⟩
def zs1 (L : ZL) (i : Nat) (v : Value) : ZL := (zcl L i).set i (some v)
def zs2 (L : ZL) (i : Nat) (v : Value) : ZL := ((zcl L i).set (i + 1) none).set i (some v)
theorem zs1_of {X : ZC} {nL i : Nat} {L : ZL} {v : Value} {ls : Array Slot} (h : lv_has ls nL ((i, zc X v) :: (zas X L).filter (fun q => !(q.1 == i) && !(q.1 + 1 == i && q.2.category == 2)))) : zLS X nL (zs1 L i v) ls := by
  refine ⟨h.1, h.2.1, fun j w hj => ?_⟩
  by_cases e : j = i
  · subst e
    have hw : w = v := by
      unfold zs1 at hj
      rw [List.getElem?_set] at hj
      rw [if_pos rfl] at hj
      split at hj
      · cases hj; rfl
      · cases hj
    subst hw
    exact h.2.2 (j, zc X w) List.mem_cons_self
  · unfold zs1 at hj
    rw [List.getElem?_set_ne (fun q => e q.symm)] at hj
    obtain ⟨h1, h2⟩ := zcl_of hj
    refine h.2.2 (j, zc X w) (List.mem_cons_of_mem _ (List.mem_filter.mpr ⟨zas_mem.mpr ⟨w, h1, rfl⟩, ?_⟩))
    rw [show (zc X w).category = w.category from zc_cat X w]
    by_cases e2 : j + 1 = i
    · have h3 : ¬ w.category = 2 := fun q => h2 ⟨e2, q⟩
      simp [e, h3]
    · simp [e, e2]
theorem zs2_of {X : ZC} {nL i : Nat} {L : ZL} {v : Value} {ls : Array Slot} (h : lv_has ls nL ((i, zc X v) :: (zas X L).filter (fun q => !(q.1 == i) && (!(q.1 == i + 1) && !(q.1 + 1 == i && q.2.category == 2))))) : zLS X nL (zs2 L i v) ls := by
  refine ⟨h.1, h.2.1, fun j w hj => ?_⟩
  by_cases e : j = i
  · subst e
    have hw : w = v := by
      unfold zs2 at hj
      rw [List.getElem?_set] at hj
      rw [if_pos rfl] at hj
      split at hj
      · cases hj; rfl
      · cases hj
    subst hw
    exact h.2.2 (j, zc X w) List.mem_cons_self
  · unfold zs2 at hj
    rw [List.getElem?_set_ne (fun q => e q.symm)] at hj
    have e1 : j ≠ i + 1 := by
      intro q
      subst q
      rw [List.getElem?_set] at hj
      simp at hj
    rw [List.getElem?_set_ne (fun q => e1 q.symm)] at hj
    obtain ⟨h1, h2⟩ := zcl_of hj
    refine h.2.2 (j, zc X w) (List.mem_cons_of_mem _ (List.mem_filter.mpr ⟨zas_mem.mpr ⟨w, h1, rfl⟩, ?_⟩))
    rw [show (zc X w).category = w.category from zc_cat X w]
    by_cases e2 : j + 1 = i
    · have h3 : ¬ w.category = 2 := fun q => h2 ⟨e2, q⟩
      simp [e, e1, h3]
    · simp [e, e1, e2]
def zkp : List Bool → ZL → ZL
  | true :: b, o :: L => o :: zkp b L
  | false :: b, _ :: L => none :: zkp b L
  | _, _ => []
theorem zkp_of {v : Value} : ∀ {b : List Bool} {L : ZL} {i : Nat}, (zkp b L)[i]? = some (some v) → L[i]? = some (some v)
  | [], L, i, h => by simp [zkp] at h
  | true :: b, [], i, h => by simp [zkp] at h
  | false :: b, [], i, h => by simp [zkp] at h
  | true :: b, o :: L, 0, h => by simpa [zkp] using h
  | true :: b, o :: L, i + 1, h => by
    simp only [zkp, List.getElem?_cons_succ] at h ⊢
    exact zkp_of h
  | false :: b, o :: L, 0, h => by simp [zkp] at h
  | false :: b, o :: L, i + 1, h => by
    simp only [zkp, List.getElem?_cons_succ] at h ⊢
    exact zkp_of h
/-- the locals at entry -/
def zen : Nat → List Value → ZL
  | 0, _ => []
  | n + 1, [] => none :: zen n []
  | 1, v :: _ => [some v]
  | n + 2, .long x :: r => some (.long x) :: none :: zen n r
  | n + 2, .double x :: r => some (.double x) :: none :: zen n r
  | n + 2, v :: r => some v :: zen (n + 1) r
end
section
/-! ===== what is outside: static arrays, nest links, String constants ===== -/
def zTens : List Int32 := [1, 10, 100, 1000, 10000, 100000, 1000000, 10000000, 100000000]
def zlenS : List Nat := [4, 6, 4, 4, 4, 4, 4]
def zbytS : List (List Int32) := [[114, 111, 97, 100], [99, 111, 98, 98, 108, 101], [104, 111, 108, 101], [119, 105, 110, 100], [108, 117, 108, 108], [104, 101, 97, 100], [98, 101, 110, 116]]
def zsix : List Nat := [42, 62, 68, 70, 75, 77, 82]
def zstx : List String := ["road", "cobble", "hole", "wind", "lull", "head", "bent"]
def zE (X : ZC) (U : State) : Prop :=
  va_Z "SmallCrown" "TENS" "[I" (.ref (X.2.2.2 0)) (zA X) U U.heap ∧ va_T .int (X.2.2.2 0) 9 (fun j => .int (zTens.getD j 0)) (zA X) U U.heap ∧
  (∀ t ∈ znM, va_Nw (.methodLinkNest t.1 t.2.1 t.2.2.1 t.2.2.2) U) ∧ (∀ t ∈ znF, va_Nw (.fieldLinkNest t.1 t.2.1 t.2.2.1 t.2.2.2.1 t.2.2.2.2.1 t.2.2.2.2.2) U) ∧ (∀ t ∈ znC, va_Nw (.castable t.1 t.2) U) ∧
  va_AO "SmallCrown$Plain" U ∧ va_AO "SmallCrown$World" U ∧
  (∀ i : Nat, i < 7 → vk_R RX4 (zsix.getD i 0) (zstx.getD i "") (X.2.2.2 (1 + i)) U) ∧ vk_S 7 zlenS zbytS (fun i => X.2.2.2 (1 + i)) (fun i => X.2.2.2 (101 + i)) (zA X) U U.heap ∧
  va_Z "java/lang/String" "COMPACT_STRINGS" "Z" (.int 1) (zA X) U U.heap
theorem zE_move {X : ZC} {s U : State} {H : Heap} {locs : List Loc} (h : zE X s) (hS : va_S (zA X) s.heap H locs) (hU : U.heap = H) (hW : s.WarmedH U.vm) : zE X U := by
  subst hU
  obtain ⟨h1, h2, h3, h4, h5, h6, h7, h8, h9, h10⟩ := h
  exact ⟨(h1.kept hS.2.1).moved hW.alike, (h2.kept hS.2.1).moved hW.alike, fun t ht => (h3 t ht).warmM hW, fun t ht => (h4 t ht).warmF hW, fun t ht => (h5 t ht).warmC hW, h6.moved hW.alike, h7.moved hW.alike, fun i hi => (h8 i hi).warm hW, (h9.kept hS.2.1).moved hW.alike, (h10.kept hS.2.1).moved hW.alike⟩
theorem zE_same {X : ZC} {u U : State} (h : zE X u) (hh : U.heap = u.heap) (hv : u.vm = U.vm) : zE X U := by
  have ha : u.vm.Alike U.vm := by rw [← hv]; exact Vm.Alike.refl u.vm
  obtain ⟨h1, h2, h3, h4, h5, h6, h7, h8, h9, h10⟩ := h
  rw [zE, hh]
  exact ⟨h1.moved ha, h2.moved ha, fun t ht => (h3 t ht).same rfl hv, fun t ht => (h4 t ht).same rfl hv, fun t ht => (h5 t ht).same rfl hv, h6.moved ha, h7.moved ha, fun i hi => (h8 i hi).same hv.symm, h9.moved ha, h10.moved ha⟩
/-- the world: the heap's picture -/
def zW (X : ZC) (S : ZS) (I : ZI) (J : ZJ) (U : State) : Prop := va_P X.1 vwCl (zws X S I J) U.heap ∧ va_K X.1 vwCl (zty X) U ∧ U.heap.size = zB X + S.length ∧ zE X U
def zQc (X : ZC) (q : ZQ) : Array Value → State → Outcome → State → Prop := fun _ st oc t => (∃ (v : Option Value) (S : ZS) (I : ZI) (J : ZJ), oc = .returned (v.map (zc X)) ∧ q S I J v ∧ zW X S I J t) ∧ va_F (zA X) st t
def zPc (X : ZC) (As : List Value) (S : ZS) (I : ZI) (J : ZJ) : Array Value → State → Prop := va_Pc (As.map (zc X)) (fun U => zW X S I J U)
theorem zPc_blind (X : ZC) (As : List Value) (S : ZS) (I : ZI) (J : ZJ) : FrameBlind (zPc X As S I J) := by
  intro a U g mk h
  obtain ⟨h0, h1, h2, h3, h4⟩ := h
  exact ⟨h0, h1, va_K.moved (u := U) (U := U.calling g mk a) (Vm.Alike.refl U.vm) h2, h3, zE_same h4 rfl rfl⟩
/-- a method keeps the predicate transformer T -/
def zSp (l : Launch) (y : MethodName) (bytes : ByteArray) (nL : Nat) (ret : Option FieldType) (rm : Room) (mc ms : Nat) (T : ZT) : Prop :=
  ∀ (X : ZC) (As : List Value) (S : ZS) (I : ZI) (J : ZJ) (q : ZQ), T As S I J q → Met l y (Cond.code y bytes nL ret :: zG) rm (zPc X As S I J) (zQc X q) mc ms (zA X)
def zFx (X : ZC) (p : Program) (s : State) (m : MethodId) (args : Array Value) (meth : Method) (c : Code) (cc : ByteArray) (nL : Nat) (own : String) (ret : Option FieldType) (nm : String) : Prop :=
  p.tables.exec = Jvm.exec ∧ c.code = cc ∧ c.maxLocals = nL ∧ meth.sig.returnType = ret ∧ s.vm.findClass own = some m.cls ∧ (∀ w ∈ zG, w.before args s = true) ∧ meth.locks = false ∧ meth.name = nm ∧ va_K X.1 vwCl (zty X) s ∧ zE X s ∧ zB X ≤ s.heap.size
section ZE
variable {X : ZC} {p : Program} {l : Launch} {e : Env} {R : Room} {s : State} {m : MethodId} {args : Array Value} {below : List Frame} {meth : Method} {c : Code} {nL : Nat} {Q : State → Prop} {cells slots pc : Nat} {cc : ByteArray} {own nm : String} {ret : Option FieldType}
theorem zFx.x (F : zFx X p s m args meth c cc nL own ret nm) : p.tables.exec = Jvm.exec := F.1
theorem zFx.b (F : zFx X p s m args meth c cc nL own ret nm) : c.code = cc := F.2.1
theorem zFx.ml (F : zFx X p s m args meth c cc nL own ret nm) : c.maxLocals = nL := F.2.2.1
theorem zFx.r (F : zFx X p s m args meth c cc nL own ret nm) : meth.sig.returnType = ret := F.2.2.2.1
theorem zFx.ow (F : zFx X p s m args meth c cc nL own ret nm) : s.vm.findClass own = some m.cls := F.2.2.2.2.1
theorem zFx.ts (F : zFx X p s m args meth c cc nL own ret nm) : ∀ w ∈ zG, w.before args s = true := F.2.2.2.2.2.1
theorem zFx.lk (F : zFx X p s m args meth c cc nL own ret nm) : meth.locks = false := F.2.2.2.2.2.2.1
theorem zFx.me (F : zFx X p s m args meth c cc nL own ret nm) : meth.name = nm := F.2.2.2.2.2.2.2.1
theorem zFx.K (F : zFx X p s m args meth c cc nL own ret nm) : va_K X.1 vwCl (zty X) s := F.2.2.2.2.2.2.2.2.1
theorem zFx.E (F : zFx X p s m args meth c cc nL own ret nm) : zE X s := F.2.2.2.2.2.2.2.2.2.1
theorem zFx.sz (F : zFx X p s m args meth c cc nL own ret nm) : zB X ≤ s.heap.size := F.2.2.2.2.2.2.2.2.2.2
/-- at pc, P is enough -/
def zOK (X : ZC) (p : Program) (l : Launch) (e : Env) (R : Room) (s : State) (m : MethodId) (args : Array Value) (below : List Frame) (meth : Method) (c : Code) (nL : Nat) (Q : State → Prop) (cells slots pc : Nat) (P : ZK) : Prop :=
  ∀ (L : ZL) (st : List Value) (S : ZS) (I : ZI) (J : ZJ), P L st S I J → ∀ (ls : Array Slot) (H : Heap) (locs : List Loc), zLS X nL L ls → va_P X.1 vwCl (zws X S I J) H → va_S (zA X) s.heap H locs → H.size = zB X + S.length → W p l e R s m args below meth c H locs cells slots Q (F0 m pc ls (st.map (zc X)))
theorem zOK.widen {k n : Nat} {P : ZK} (h1 : cells ≤ k) (h2 : slots ≤ n) (h : zOK X p l e R s m args below meth c nL Q k n pc P) : zOK X p l e R s m args below meth c nL Q cells slots pc P :=
  fun L st S I J hP ls H locs hL hp hS hz => W.widen h1 h2 (h L st S I J hP ls H locs hL hp hS hz)
theorem zOK.mono {P P' : ZK} (h : zOK X p l e R s m args below meth c nL Q cells slots pc P) (hi : ∀ L st S I J, P' L st S I J → P L st S I J) : zOK X p l e R s m args below meth c nL Q cells slots pc P' :=
  fun L st S I J hP => h L st S I J (hi L st S I J hP)
/-- a loop: n rounds at most -/
def zit (B : ZK → ZK) : Nat → ZK
  | 0 => fun _ _ _ _ _ => False
  | n + 1 => B (zit B n)
def zIt (B : ZK → ZK) : ZK := fun L st S I J => ∃ n, zit B n L st S I J
theorem z_it {B : ZK → ZK} (h : ∀ k : ZK, zOK X p l e R s m args below meth c nL Q cells slots pc k → zOK X p l e R s m args below meth c nL Q cells slots pc (B k)) : zOK X p l e R s m args below meth c nL Q cells slots pc (zIt B) := by
  have h1 : ∀ n, zOK X p l e R s m args below meth c nL Q cells slots pc (zit B n) := by
    intro n
    induction n with
    | zero => exact fun L st S I J hP => hP.elim
    | succ n ih => exact h _ ih
  intro L st S I J hP
  obtain ⟨n, hn⟩ := hP
  exact h1 n L st S I J hn
def i_keep (b : List Bool) (k : ZK) : ZK := fun L st S I J => k (zkp b L) st S I J
theorem z_keep {b : List Bool} {k : ZK} (h : zOK X p l e R s m args below meth c nL Q cells slots pc k) : zOK X p l e R s m args below meth c nL Q cells slots pc (i_keep b k) :=
  fun L st S I J hP ls H locs hL hp hS hz => h (zkp b L) st S I J hP ls H locs ⟨hL.1, hL.2.1, fun i v hv => hL.2.2 i v (zkp_of hv)⟩ hp hS hz

def i_iadd (k : ZK) : ZK := fun L st S I J => match st with
  | .int y :: .int x :: r => k L (.int (x + y) :: r) S I J
  | _ => False
theorem z_iadd (F : zFx X p s m args meth c cc nL own ret nm) {k : ZK} (hd : decode cc pc = .ok (.iadd, 1)) (h : zOK X p l e R s m args below meth c nL Q cells slots (pc + 1) k) : zOK X p l e R s m args below meth c nL Q cells slots pc (i_iadd k) := by
  intro L st S I J hP ls H locs hL hp hS hz
  simp only [i_iadd] at hP
  split at hP
  · exact lv_iadd F.x F.b hd (h _ _ _ _ _ hP ls H locs hL hp hS hz)
  · exact hP.elim
def i_isub (k : ZK) : ZK := fun L st S I J => match st with
  | .int y :: .int x :: r => k L (.int (x - y) :: r) S I J
  | _ => False
theorem z_isub (F : zFx X p s m args meth c cc nL own ret nm) {k : ZK} (hd : decode cc pc = .ok (.isub, 1)) (h : zOK X p l e R s m args below meth c nL Q cells slots (pc + 1) k) : zOK X p l e R s m args below meth c nL Q cells slots pc (i_isub k) := by
  intro L st S I J hP ls H locs hL hp hS hz
  simp only [i_isub] at hP
  split at hP
  · exact lv_isub F.x F.b hd (h _ _ _ _ _ hP ls H locs hL hp hS hz)
  · exact hP.elim
def i_imul (k : ZK) : ZK := fun L st S I J => match st with
  | .int y :: .int x :: r => k L (.int (x * y) :: r) S I J
  | _ => False
theorem z_imul (F : zFx X p s m args meth c cc nL own ret nm) {k : ZK} (hd : decode cc pc = .ok (.imul, 1)) (h : zOK X p l e R s m args below meth c nL Q cells slots (pc + 1) k) : zOK X p l e R s m args below meth c nL Q cells slots pc (i_imul k) := by
  intro L st S I J hP ls H locs hL hp hS hz
  simp only [i_imul] at hP
  split at hP
  · exact lv_imul F.x F.b hd (h _ _ _ _ _ hP ls H locs hL hp hS hz)
  · exact hP.elim
def i_iand (k : ZK) : ZK := fun L st S I J => match st with
  | .int y :: .int x :: r => k L (.int (x &&& y) :: r) S I J
  | _ => False
theorem z_iand (F : zFx X p s m args meth c cc nL own ret nm) {k : ZK} (hd : decode cc pc = .ok (.iand, 1)) (h : zOK X p l e R s m args below meth c nL Q cells slots (pc + 1) k) : zOK X p l e R s m args below meth c nL Q cells slots pc (i_iand k) := by
  intro L st S I J hP ls H locs hL hp hS hz
  simp only [i_iand] at hP
  split at hP
  · exact lv_iand F.x F.b hd (h _ _ _ _ _ hP ls H locs hL hp hS hz)
  · exact hP.elim
def i_ior (k : ZK) : ZK := fun L st S I J => match st with
  | .int y :: .int x :: r => k L (.int (x ||| y) :: r) S I J
  | _ => False
theorem z_ior (F : zFx X p s m args meth c cc nL own ret nm) {k : ZK} (hd : decode cc pc = .ok (.ior, 1)) (h : zOK X p l e R s m args below meth c nL Q cells slots (pc + 1) k) : zOK X p l e R s m args below meth c nL Q cells slots pc (i_ior k) := by
  intro L st S I J hP ls H locs hL hp hS hz
  simp only [i_ior] at hP
  split at hP
  · exact lv_ior F.x F.b hd (h _ _ _ _ _ hP ls H locs hL hp hS hz)
  · exact hP.elim
def i_ixor (k : ZK) : ZK := fun L st S I J => match st with
  | .int y :: .int x :: r => k L (.int (x ^^^ y) :: r) S I J
  | _ => False
theorem z_ixor (F : zFx X p s m args meth c cc nL own ret nm) {k : ZK} (hd : decode cc pc = .ok (.ixor, 1)) (h : zOK X p l e R s m args below meth c nL Q cells slots (pc + 1) k) : zOK X p l e R s m args below meth c nL Q cells slots pc (i_ixor k) := by
  intro L st S I J hP ls H locs hL hp hS hz
  simp only [i_ixor] at hP
  split at hP
  · exact lv_ixor F.x F.b hd (h _ _ _ _ _ hP ls H locs hL hp hS hz)
  · exact hP.elim
def i_ishl (k : ZK) : ZK := fun L st S I J => match st with
  | .int y :: .int x :: r => k L (.int (x <<< (y &&& 31)) :: r) S I J
  | _ => False
theorem z_ishl (F : zFx X p s m args meth c cc nL own ret nm) {k : ZK} (hd : decode cc pc = .ok (.ishl, 1)) (h : zOK X p l e R s m args below meth c nL Q cells slots (pc + 1) k) : zOK X p l e R s m args below meth c nL Q cells slots pc (i_ishl k) := by
  intro L st S I J hP ls H locs hL hp hS hz
  simp only [i_ishl] at hP
  split at hP
  · exact lv_ishl F.x F.b hd (h _ _ _ _ _ hP ls H locs hL hp hS hz)
  · exact hP.elim
def i_ishr (k : ZK) : ZK := fun L st S I J => match st with
  | .int y :: .int x :: r => k L (.int (x >>> (y &&& 31)) :: r) S I J
  | _ => False
theorem z_ishr (F : zFx X p s m args meth c cc nL own ret nm) {k : ZK} (hd : decode cc pc = .ok (.ishr, 1)) (h : zOK X p l e R s m args below meth c nL Q cells slots (pc + 1) k) : zOK X p l e R s m args below meth c nL Q cells slots pc (i_ishr k) := by
  intro L st S I J hP ls H locs hL hp hS hz
  simp only [i_ishr] at hP
  split at hP
  · exact lv_ishr F.x F.b hd (h _ _ _ _ _ hP ls H locs hL hp hS hz)
  · exact hP.elim
def i_ladd (k : ZK) : ZK := fun L st S I J => match st with
  | .long y :: .long x :: r => k L (.long (x + y) :: r) S I J
  | _ => False
theorem z_ladd (F : zFx X p s m args meth c cc nL own ret nm) {k : ZK} (hd : decode cc pc = .ok (.ladd, 1)) (h : zOK X p l e R s m args below meth c nL Q cells slots (pc + 1) k) : zOK X p l e R s m args below meth c nL Q cells slots pc (i_ladd k) := by
  intro L st S I J hP ls H locs hL hp hS hz
  simp only [i_ladd] at hP
  split at hP
  · exact lv_ladd F.x F.b hd (h _ _ _ _ _ hP ls H locs hL hp hS hz)
  · exact hP.elim
def i_lsub (k : ZK) : ZK := fun L st S I J => match st with
  | .long y :: .long x :: r => k L (.long (x - y) :: r) S I J
  | _ => False
theorem z_lsub (F : zFx X p s m args meth c cc nL own ret nm) {k : ZK} (hd : decode cc pc = .ok (.lsub, 1)) (h : zOK X p l e R s m args below meth c nL Q cells slots (pc + 1) k) : zOK X p l e R s m args below meth c nL Q cells slots pc (i_lsub k) := by
  intro L st S I J hP ls H locs hL hp hS hz
  simp only [i_lsub] at hP
  split at hP
  · exact lv_lsub F.x F.b hd (h _ _ _ _ _ hP ls H locs hL hp hS hz)
  · exact hP.elim
def i_lmul (k : ZK) : ZK := fun L st S I J => match st with
  | .long y :: .long x :: r => k L (.long (x * y) :: r) S I J
  | _ => False
theorem z_lmul (F : zFx X p s m args meth c cc nL own ret nm) {k : ZK} (hd : decode cc pc = .ok (.lmul, 1)) (h : zOK X p l e R s m args below meth c nL Q cells slots (pc + 1) k) : zOK X p l e R s m args below meth c nL Q cells slots pc (i_lmul k) := by
  intro L st S I J hP ls H locs hL hp hS hz
  simp only [i_lmul] at hP
  split at hP
  · exact lv_lmul F.x F.b hd (h _ _ _ _ _ hP ls H locs hL hp hS hz)
  · exact hP.elim
def i_idiv (k : ZK) : ZK := fun L st S I J => match st with
  | .int y :: .int x :: r => (¬ y = 0) ∧ k L (.int (x / y) :: r) S I J
  | _ => False
theorem z_idiv (F : zFx X p s m args meth c cc nL own ret nm) {k : ZK} (hd : decode cc pc = .ok (.idiv, 1)) (h : zOK X p l e R s m args below meth c nL Q cells slots (pc + 1) k) : zOK X p l e R s m args below meth c nL Q cells slots pc (i_idiv k) := by
  intro L st S I J hP ls H locs hL hp hS hz
  simp only [i_idiv] at hP
  split at hP
  · obtain ⟨hne, hP⟩ := hP
    exact lv_idiv F.x F.b hd hne (h _ _ _ _ _ hP ls H locs hL hp hS hz)
  · exact hP.elim
def i_irem (k : ZK) : ZK := fun L st S I J => match st with
  | .int y :: .int x :: r => (¬ y = 0) ∧ k L (.int (x - x / y * y) :: r) S I J
  | _ => False
theorem z_irem (F : zFx X p s m args meth c cc nL own ret nm) {k : ZK} (hd : decode cc pc = .ok (.irem, 1)) (h : zOK X p l e R s m args below meth c nL Q cells slots (pc + 1) k) : zOK X p l e R s m args below meth c nL Q cells slots pc (i_irem k) := by
  intro L st S I J hP ls H locs hL hp hS hz
  simp only [i_irem] at hP
  split at hP
  · obtain ⟨hne, hP⟩ := hP
    exact lv_irem F.x F.b hd hne (h _ _ _ _ _ hP ls H locs hL hp hS hz)
  · exact hP.elim
def i_ldiv (k : ZK) : ZK := fun L st S I J => match st with
  | .long y :: .long x :: r => (¬ y = 0) ∧ k L (.long (x / y) :: r) S I J
  | _ => False
theorem z_ldiv (F : zFx X p s m args meth c cc nL own ret nm) {k : ZK} (hd : decode cc pc = .ok (.ldiv, 1)) (h : zOK X p l e R s m args below meth c nL Q cells slots (pc + 1) k) : zOK X p l e R s m args below meth c nL Q cells slots pc (i_ldiv k) := by
  intro L st S I J hP ls H locs hL hp hS hz
  simp only [i_ldiv] at hP
  split at hP
  · obtain ⟨hne, hP⟩ := hP
    exact lv_ldiv F.x F.b hd hne (h _ _ _ _ _ hP ls H locs hL hp hS hz)
  · exact hP.elim
def i_lrem (k : ZK) : ZK := fun L st S I J => match st with
  | .long y :: .long x :: r => (¬ y = 0) ∧ k L (.long (x - x / y * y) :: r) S I J
  | _ => False
theorem z_lrem (F : zFx X p s m args meth c cc nL own ret nm) {k : ZK} (hd : decode cc pc = .ok (.lrem, 1)) (h : zOK X p l e R s m args below meth c nL Q cells slots (pc + 1) k) : zOK X p l e R s m args below meth c nL Q cells slots pc (i_lrem k) := by
  intro L st S I J hP ls H locs hL hp hS hz
  simp only [i_lrem] at hP
  split at hP
  · obtain ⟨hne, hP⟩ := hP
    exact lv_lrem F.x F.b hd hne (h _ _ _ _ _ hP ls H locs hL hp hS hz)
  · exact hP.elim
def i_ineg (k : ZK) : ZK := fun L st S I J => match st with
  | .int x :: r => k L (.int (-x) :: r) S I J
  | _ => False
theorem z_ineg (F : zFx X p s m args meth c cc nL own ret nm) {k : ZK} (hd : decode cc pc = .ok (.ineg, 1)) (h : zOK X p l e R s m args below meth c nL Q cells slots (pc + 1) k) : zOK X p l e R s m args below meth c nL Q cells slots pc (i_ineg k) := by
  intro L st S I J hP ls H locs hL hp hS hz
  simp only [i_ineg] at hP
  split at hP
  · exact lv_ineg F.x F.b hd (h _ _ _ _ _ hP ls H locs hL hp hS hz)
  · exact hP.elim
def i_i2l (k : ZK) : ZK := fun L st S I J => match st with
  | .int x :: r => k L (.long x.toInt64 :: r) S I J
  | _ => False
theorem z_i2l (F : zFx X p s m args meth c cc nL own ret nm) {k : ZK} (hd : decode cc pc = .ok (.i2l, 1)) (h : zOK X p l e R s m args below meth c nL Q cells slots (pc + 1) k) : zOK X p l e R s m args below meth c nL Q cells slots pc (i_i2l k) := by
  intro L st S I J hP ls H locs hL hp hS hz
  simp only [i_i2l] at hP
  split at hP
  · exact lv_i2l F.x F.b hd rfl (h _ _ _ _ _ hP ls H locs hL hp hS hz)
  · exact hP.elim
def i_l2i (k : ZK) : ZK := fun L st S I J => match st with
  | .long x :: r => k L (.int x.toInt32 :: r) S I J
  | _ => False
theorem z_l2i (F : zFx X p s m args meth c cc nL own ret nm) {k : ZK} (hd : decode cc pc = .ok (.l2i, 1)) (h : zOK X p l e R s m args below meth c nL Q cells slots (pc + 1) k) : zOK X p l e R s m args below meth c nL Q cells slots pc (i_l2i k) := by
  intro L st S I J hP ls H locs hL hp hS hz
  simp only [i_l2i] at hP
  split at hP
  · exact lv_l2i F.x F.b hd rfl (h _ _ _ _ _ hP ls H locs hL hp hS hz)
  · exact hP.elim
def i_i2c (k : ZK) : ZK := fun L st S I J => match st with
  | .int x :: r => k L (.int (x.toUInt32 % 65536).toInt32 :: r) S I J
  | _ => False
theorem z_i2c (F : zFx X p s m args meth c cc nL own ret nm) {k : ZK} (hd : decode cc pc = .ok (.i2c, 1)) (h : zOK X p l e R s m args below meth c nL Q cells slots (pc + 1) k) : zOK X p l e R s m args below meth c nL Q cells slots pc (i_i2c k) := by
  intro L st S I J hP ls H locs hL hp hS hz
  simp only [i_i2c] at hP
  split at hP
  · exact lv_i2c F.x F.b hd rfl (h _ _ _ _ _ hP ls H locs hL hp hS hz)
  · exact hP.elim
def i_lcmp (k : ZK) : ZK := fun L st S I J => match st with
  | .long y :: .long x :: r => k L (.int (lg_cmp x y) :: r) S I J
  | _ => False
theorem z_lcmp (F : zFx X p s m args meth c cc nL own ret nm) {k : ZK} (hd : decode cc pc = .ok (.lcmp, 1)) (h : zOK X p l e R s m args below meth c nL Q cells slots (pc + 1) k) : zOK X p l e R s m args below meth c nL Q cells slots pc (i_lcmp k) := by
  intro L st S I J hP ls H locs hL hp hS hz
  simp only [i_lcmp] at hP
  split at hP
  · exact W.lcmp F.x F.b hd (h _ _ _ _ _ hP ls H locs hL hp hS hz)
  · exact hP.elim
def i_push (v : Value) (k : ZK) : ZK := fun L st S I J => k L (v :: st) S I J
theorem z_iconst (F : zFx X p s m args meth c cc nL own ret nm) {k : ZK} {n : Int} {v : Int32} (hd : decode cc pc = .ok (.iconst n, 1)) (hv : Int32.ofInt n = v) (h : zOK X p l e R s m args below meth c nL Q cells slots (pc + 1) k) : zOK X p l e R s m args below meth c nL Q cells slots pc (i_push (.int v) k) := by
  intro L st S I J hP ls H locs hL hp hS hz
  exact lv_iconst F.x F.b hd hv (h _ _ _ _ _ hP ls H locs hL hp hS hz)
theorem z_bipush (F : zFx X p s m args meth c cc nL own ret nm) {k : ZK} {n : Int} {v : Int32} (hd : decode cc pc = .ok (.bipush n, 2)) (hv : (Int8.ofInt n).toInt32 = v) (h : zOK X p l e R s m args below meth c nL Q cells slots (pc + 2) k) : zOK X p l e R s m args below meth c nL Q cells slots pc (i_push (.int v) k) := by
  intro L st S I J hP ls H locs hL hp hS hz
  exact lv_bipush F.x F.b hd hv (h _ _ _ _ _ hP ls H locs hL hp hS hz)
theorem z_sipush (F : zFx X p s m args meth c cc nL own ret nm) {k : ZK} {n : Int} {v : Int32} (hd : decode cc pc = .ok (.sipush n, 3)) (hv : (Int16.ofInt n).toInt32 = v) (h : zOK X p l e R s m args below meth c nL Q cells slots (pc + 3) k) : zOK X p l e R s m args below meth c nL Q cells slots pc (i_push (.int v) k) := by
  intro L st S I J hP ls H locs hL hp hS hz
  exact lv_sipush F.x F.b hd hv (h _ _ _ _ _ hP ls H locs hL hp hS hz)
theorem z_lconst (F : zFx X p s m args meth c cc nL own ret nm) {k : ZK} {n : Fin 2} {v : Int64} (hd : decode cc pc = .ok (.lconst n, 1)) (hv : Int64.ofNat (n : Nat) = v) (h : zOK X p l e R s m args below meth c nL Q cells slots (pc + 1) k) : zOK X p l e R s m args below meth c nL Q cells slots pc (i_push (.long v) k) := by
  intro L st S I J hP ls H locs hL hp hS hz
  exact lv_lconst F.x F.b hd hv (h _ _ _ _ _ hP ls H locs hL hp hS hz)
theorem z_ldc (F : zFx X p s m args meth c cc nL own ret nm) {k : ZK} {i : Nat} {v : Int32} (hd : decode cc pc = .ok (.ldc i, 2)) (hw : Cond.constant own i v ∈ zG) (h : zOK X p l e R s m args below meth c nL Q cells slots (pc + 2) k) : zOK X p l e R s m args below meth c nL Q cells slots pc (i_push (.int v) k) := by
  intro L st S I J hP ls H locs hL hp hS hz
  exact lv_ldc F.x F.b F.ow (F.ts _ hw) hd (h _ _ _ _ _ hP ls H locs hL hp hS hz)
theorem z_ldcw (F : zFx X p s m args meth c cc nL own ret nm) {k : ZK} {i : Nat} {v : Int32} (hd : decode cc pc = .ok (.ldc_w i, 3)) (hw : Cond.constant own i v ∈ zG) (h : zOK X p l e R s m args below meth c nL Q cells slots (pc + 3) k) : zOK X p l e R s m args below meth c nL Q cells slots pc (i_push (.int v) k) := by
  intro L st S I J hP ls H locs hL hp hS hz
  exact lv_ldcw F.x F.b F.ow (F.ts _ hw) hd (h _ _ _ _ _ hP ls H locs hL hp hS hz)
theorem z_ldc2 (F : zFx X p s m args meth c cc nL own ret nm) {k : ZK} {i : Nat} {v : Int64} (hd : decode cc pc = .ok (.ldc2_w i, 3)) (hw : Cond.constantLong own i v ∈ zG) (h : zOK X p l e R s m args below meth c nL Q cells slots (pc + 3) k) : zOK X p l e R s m args below meth c nL Q cells slots pc (i_push (.long v) k) := by
  intro L st S I J hP ls H locs hL hp hS hz
  exact lv_ldc2 F.x F.b F.ow (F.ts _ hw) hd (h _ _ _ _ _ hP ls H locs hL hp hS hz)
def i_ild (i : Nat) (k : ZK) : ZK := fun L st S I J => match L[i]? with
  | some (some (.int x)) => k L (.int x :: st) S I J
  | _ => False
theorem z_iload_n (F : zFx X p s m args meth c cc nL own ret nm) {k : ZK} {n : Fin 4} {i : Nat} (hd : decode cc pc = .ok (.iload_n n, 1)) (hi : (n : Nat) = i) (h : zOK X p l e R s m args below meth c nL Q cells slots (pc + 1) k) : zOK X p l e R s m args below meth c nL Q cells slots pc (i_ild i k) := by
  intro L st S I J hP ls H locs hL hp hS hz
  simp only [i_ild] at hP
  split at hP
  · rename_i hx
    exact lv_iload_n F.x F.b hd hi (hL.2.2 _ _ hx) (h _ _ _ _ _ hP ls H locs hL hp hS hz)
  · exact hP.elim
theorem z_iload (F : zFx X p s m args meth c cc nL own ret nm) {k : ZK} {i : Nat} (hd : decode cc pc = .ok (.iload i, 2)) (h : zOK X p l e R s m args below meth c nL Q cells slots (pc + 2) k) : zOK X p l e R s m args below meth c nL Q cells slots pc (i_ild i k) := by
  intro L st S I J hP ls H locs hL hp hS hz
  simp only [i_ild] at hP
  split at hP
  · rename_i hx
    exact lv_iload F.x F.b hd (hL.2.2 _ _ hx) (h _ _ _ _ _ hP ls H locs hL hp hS hz)
  · exact hP.elim
def i_lld (i : Nat) (k : ZK) : ZK := fun L st S I J => match L[i]? with
  | some (some (.long x)) => k L (.long x :: st) S I J
  | _ => False
theorem z_lload_n (F : zFx X p s m args meth c cc nL own ret nm) {k : ZK} {n : Fin 4} {i : Nat} (hd : decode cc pc = .ok (.lload_n n, 1)) (hi : (n : Nat) = i) (h : zOK X p l e R s m args below meth c nL Q cells slots (pc + 1) k) : zOK X p l e R s m args below meth c nL Q cells slots pc (i_lld i k) := by
  intro L st S I J hP ls H locs hL hp hS hz
  simp only [i_lld] at hP
  split at hP
  · rename_i hx
    exact lv_lload_n F.x F.b hd hi (hL.2.2 _ _ hx) (h _ _ _ _ _ hP ls H locs hL hp hS hz)
  · exact hP.elim
theorem z_lload (F : zFx X p s m args meth c cc nL own ret nm) {k : ZK} {i : Nat} (hd : decode cc pc = .ok (.lload i, 2)) (h : zOK X p l e R s m args below meth c nL Q cells slots (pc + 2) k) : zOK X p l e R s m args below meth c nL Q cells slots pc (i_lld i k) := by
  intro L st S I J hP ls H locs hL hp hS hz
  simp only [i_lld] at hP
  split at hP
  · rename_i hx
    exact lv_lload F.x F.b hd (hL.2.2 _ _ hx) (h _ _ _ _ _ hP ls H locs hL hp hS hz)
  · exact hP.elim
def i_ald (i : Nat) (k : ZK) : ZK := fun L st S I J => match L[i]? with
  | some (some (.ref x)) => k L (.ref x :: st) S I J
  | some (some (.retAddr x)) => k L (.retAddr x :: st) S I J
  | some (some .null) => k L (.null :: st) S I J
  | _ => False
theorem z_aload_n (F : zFx X p s m args meth c cc nL own ret nm) {k : ZK} {n : Fin 4} {i : Nat} (hd : decode cc pc = .ok (.aload_n n, 1)) (hi : (n : Nat) = i) (h : zOK X p l e R s m args below meth c nL Q cells slots (pc + 1) k) : zOK X p l e R s m args below meth c nL Q cells slots pc (i_ald i k) := by
  intro L st S I J hP ls H locs hL hp hS hz
  simp only [i_ald] at hP
  split at hP
  · rename_i hx
    exact lv_aload_n F.x F.b hd hi (hL.2.2 _ _ hx) (h _ _ _ _ _ hP ls H locs hL hp hS hz)
  · rename_i hx
    exact lv_aload_n F.x F.b hd hi (hL.2.2 _ _ hx) (h _ _ _ _ _ hP ls H locs hL hp hS hz)
  · rename_i hx
    exact lv_aload_nN F.x F.b hd hi (hL.2.2 _ _ hx) (h _ _ _ _ _ hP ls H locs hL hp hS hz)
  · exact hP.elim
theorem z_aload (F : zFx X p s m args meth c cc nL own ret nm) {k : ZK} {i : Nat} (hd : decode cc pc = .ok (.aload i, 2)) (h : zOK X p l e R s m args below meth c nL Q cells slots (pc + 2) k) : zOK X p l e R s m args below meth c nL Q cells slots pc (i_ald i k) := by
  intro L st S I J hP ls H locs hL hp hS hz
  simp only [i_ald] at hP
  split at hP
  · rename_i hx
    exact lv_aload F.x F.b hd (hL.2.2 _ _ hx) (h _ _ _ _ _ hP ls H locs hL hp hS hz)
  · rename_i hx
    exact lv_aload F.x F.b hd (hL.2.2 _ _ hx) (h _ _ _ _ _ hP ls H locs hL hp hS hz)
  · rename_i hx
    exact lv_aloadN F.x F.b hd (hL.2.2 _ _ hx) (h _ _ _ _ _ hP ls H locs hL hp hS hz)
  · exact hP.elim
def i_ist (i : Nat) (k : ZK) : ZK := fun L st S I J => match st with
  | .int x :: r => k (zs1 L i (.int x)) r S I J
  | _ => False
theorem z_istore_n (F : zFx X p s m args meth c cc nL own ret nm) {k : ZK} {n : Fin 4} {i : Nat} (hd : decode cc pc = .ok (.istore_n n, 1)) (hi : (n : Nat) = i) (hn : i < nL) (h : zOK X p l e R s m args below meth c nL Q cells slots (pc + 1) k) : zOK X p l e R s m args below meth c nL Q cells slots pc (i_ist i k) := by
  intro L st S I J hP ls H locs hL hp hS hz
  simp only [i_ist] at hP
  split at hP
  · exact lv_istore_n F.x F.b hd hi (zLS_has hL) hn rfl (fun ls' hl => (h _ _ _ _ _ hP ls' H locs (zs1_of hl) hp hS hz))
  · exact hP.elim
theorem z_istore (F : zFx X p s m args meth c cc nL own ret nm) {k : ZK} {i : Nat} (hd : decode cc pc = .ok (.istore i, 2)) (hn : i < nL) (h : zOK X p l e R s m args below meth c nL Q cells slots (pc + 2) k) : zOK X p l e R s m args below meth c nL Q cells slots pc (i_ist i k) := by
  intro L st S I J hP ls H locs hL hp hS hz
  simp only [i_ist] at hP
  split at hP
  · exact lv_istore F.x F.b hd (zLS_has hL) hn rfl (fun ls' hl => (h _ _ _ _ _ hP ls' H locs (zs1_of hl) hp hS hz))
  · exact hP.elim
def i_lst (i : Nat) (k : ZK) : ZK := fun L st S I J => match st with
  | .long x :: r => k (zs2 L i (.long x)) r S I J
  | _ => False
theorem z_lstore_n (F : zFx X p s m args meth c cc nL own ret nm) {k : ZK} {n : Fin 4} {i : Nat} (hd : decode cc pc = .ok (.lstore_n n, 1)) (hi : (n : Nat) = i) (hn : i + 1 < nL) (h : zOK X p l e R s m args below meth c nL Q cells slots (pc + 1) k) : zOK X p l e R s m args below meth c nL Q cells slots pc (i_lst i k) := by
  intro L st S I J hP ls H locs hL hp hS hz
  simp only [i_lst] at hP
  split at hP
  · exact lv_lstore_n F.x F.b hd hi (zLS_has hL) hn rfl (fun ls' hl => (h _ _ _ _ _ hP ls' H locs (zs2_of hl) hp hS hz))
  · exact hP.elim
theorem z_lstore (F : zFx X p s m args meth c cc nL own ret nm) {k : ZK} {i : Nat} (hd : decode cc pc = .ok (.lstore i, 2)) (hn : i + 1 < nL) (h : zOK X p l e R s m args below meth c nL Q cells slots (pc + 2) k) : zOK X p l e R s m args below meth c nL Q cells slots pc (i_lst i k) := by
  intro L st S I J hP ls H locs hL hp hS hz
  simp only [i_lst] at hP
  split at hP
  · exact lv_lstore F.x F.b hd (zLS_has hL) hn rfl (fun ls' hl => (h _ _ _ _ _ hP ls' H locs (zs2_of hl) hp hS hz))
  · exact hP.elim
def i_ast (i : Nat) (k : ZK) : ZK := fun L st S I J => match st with
  | .ref x :: r => k (zs1 L i (.ref x)) r S I J
  | .retAddr x :: r => k (zs1 L i (.retAddr x)) r S I J
  | .null :: r => k (zs1 L i .null) r S I J
  | _ => False
theorem z_astore_n (F : zFx X p s m args meth c cc nL own ret nm) {k : ZK} {n : Fin 4} {i : Nat} (hd : decode cc pc = .ok (.astore_n n, 1)) (hi : (n : Nat) = i) (hn : i < nL) (h : zOK X p l e R s m args below meth c nL Q cells slots (pc + 1) k) : zOK X p l e R s m args below meth c nL Q cells slots pc (i_ast i k) := by
  intro L st S I J hP ls H locs hL hp hS hz
  simp only [i_ast] at hP
  split at hP
  · exact lv_astore_n F.x F.b hd hi (zLS_has hL) hn rfl (fun ls' hl => h _ _ _ _ _ hP ls' H locs (zs1_of hl) hp hS hz)
  · exact lv_astore_n F.x F.b hd hi (zLS_has hL) hn rfl (fun ls' hl => h _ _ _ _ _ hP ls' H locs (zs1_of hl) hp hS hz)
  · exact lv_astore_nN F.x F.b hd hi (zLS_has hL) hn rfl (fun ls' hl => h _ _ _ _ _ hP ls' H locs (zs1_of hl) hp hS hz)
  · exact hP.elim
theorem z_astore (F : zFx X p s m args meth c cc nL own ret nm) {k : ZK} {i : Nat} (hd : decode cc pc = .ok (.astore i, 2)) (hn : i < nL) (h : zOK X p l e R s m args below meth c nL Q cells slots (pc + 2) k) : zOK X p l e R s m args below meth c nL Q cells slots pc (i_ast i k) := by
  intro L st S I J hP ls H locs hL hp hS hz
  simp only [i_ast] at hP
  split at hP
  · exact lv_astore F.x F.b hd (zLS_has hL) hn rfl (fun ls' hl => h _ _ _ _ _ hP ls' H locs (zs1_of hl) hp hS hz)
  · exact lv_astore F.x F.b hd (zLS_has hL) hn rfl (fun ls' hl => h _ _ _ _ _ hP ls' H locs (zs1_of hl) hp hS hz)
  · exact lv_astoreN F.x F.b hd (zLS_has hL) hn rfl (fun ls' hl => h _ _ _ _ _ hP ls' H locs (zs1_of hl) hp hS hz)
  · exact hP.elim
def i_iinc (i : Nat) (n : Int32) (k : ZK) : ZK := fun L st S I J => match L[i]? with
  | some (some (.int x)) => k (zs1 L i (.int (x + n))) st S I J
  | _ => False
theorem z_iinc (F : zFx X p s m args meth c cc nL own ret nm) {k : ZK} {i : Nat} {n : Int} {v : Int32} (hd : decode cc pc = .ok (.iinc i n, 3)) (hv : Int32.ofInt n = v) (hn : i < nL) (h : zOK X p l e R s m args below meth c nL Q cells slots (pc + 3) k) : zOK X p l e R s m args below meth c nL Q cells slots pc (i_iinc i v k) := by
  intro L st S I J hP ls H locs hL hp hS hz
  simp only [i_iinc] at hP
  split at hP
  · rename_i x hx
    obtain ⟨kk, hkk⟩ := List.getElem?_of_mem (zas_mem (X := X) (q := (i, .int x)).mpr ⟨_, hx, rfl⟩)
    exact lv_iinc F.x F.b hd (zLS_has hL) hkk (by rw [hv]) hn rfl (fun ls' hl => h _ _ _ _ _ hP ls' H locs (zs1_of (v := .int (x + v)) hl) hp hS hz)
  · exact hP.elim
def i_dup (k : ZK) : ZK := fun L st S I J => match st with
  | .int x :: r => k L (.int x :: .int x :: r) S I J
  | .ref x :: r => k L (.ref x :: .ref x :: r) S I J
  | _ => False
theorem z_dup (F : zFx X p s m args meth c cc nL own ret nm) {k : ZK} (hd : decode cc pc = .ok (.dup, 1)) (h : zOK X p l e R s m args below meth c nL Q cells slots (pc + 1) k) : zOK X p l e R s m args below meth c nL Q cells slots pc (i_dup k) := by
  intro L st S I J hP ls H locs hL hp hS hz
  simp only [i_dup] at hP
  split at hP
  · exact lv_dup F.x F.b hd rfl (h _ _ _ _ _ hP ls H locs hL hp hS hz)
  · exact lv_dup F.x F.b hd rfl (h _ _ _ _ _ hP ls H locs hL hp hS hz)
  · exact hP.elim
def i_dup2 (k : ZK) : ZK := fun L st S I J => match st with
  | .int x :: .ref y :: r => k L (.int x :: .ref y :: .int x :: .ref y :: r) S I J
  | .long x :: r => k L (.long x :: .long x :: r) S I J
  | _ => False
theorem z_dup2 (F : zFx X p s m args meth c cc nL own ret nm) {k : ZK} (hd : decode cc pc = .ok (.dup2, 1)) (h : zOK X p l e R s m args below meth c nL Q cells slots (pc + 1) k) : zOK X p l e R s m args below meth c nL Q cells slots pc (i_dup2 k) := by
  intro L st S I J hP ls H locs hL hp hS hz
  simp only [i_dup2] at hP
  split at hP
  · exact lv_dup2_11 F.x F.b hd rfl rfl (h _ _ _ _ _ hP ls H locs hL hp hS hz)
  · exact lv_dup2_2 F.x F.b hd rfl (h _ _ _ _ _ hP ls H locs hL hp hS hz)
  · exact hP.elim
def i_ifeq (kt kf : ZK) : ZK := fun L st S I J => match st with
  | .int x :: r => (x = 0 → kt L r S I J) ∧ (¬ x = 0 → kf L r S I J)
  | _ => False
theorem z_ifeq (F : zFx X p s m args meth c cc nL own ret nm) {kt kf : ZK} {off : Int} {tgt : Nat} (hd : decode cc pc = .ok (.ifCond .eq off, 3)) (ht : (pc : Int) + off = (tgt : Int)) (h1 : zOK X p l e R s m args below meth c nL Q cells slots tgt kt) (h2 : zOK X p l e R s m args below meth c nL Q cells slots (pc + 3) kf) : zOK X p l e R s m args below meth c nL Q cells slots pc (i_ifeq kt kf) := by
  intro L st S I J hP ls H locs hL hp hS hz
  simp only [i_ifeq] at hP
  split at hP
  · exact lv_if_eq F.x F.b hd ht (fun hc => h1 _ _ _ _ _ (hP.1 hc) ls H locs hL hp hS hz) (fun hc => h2 _ _ _ _ _ (hP.2 hc) ls H locs hL hp hS hz)
  · exact hP.elim
def i_icmpeq (kt kf : ZK) : ZK := fun L st S I J => match st with
  | .int y :: .int x :: r => (x = y → kt L r S I J) ∧ (¬ x = y → kf L r S I J)
  | _ => False
theorem z_icmpeq (F : zFx X p s m args meth c cc nL own ret nm) {kt kf : ZK} {off : Int} {tgt : Nat} (hd : decode cc pc = .ok (.if_icmp .eq off, 3)) (ht : (pc : Int) + off = (tgt : Int)) (h1 : zOK X p l e R s m args below meth c nL Q cells slots tgt kt) (h2 : zOK X p l e R s m args below meth c nL Q cells slots (pc + 3) kf) : zOK X p l e R s m args below meth c nL Q cells slots pc (i_icmpeq kt kf) := by
  intro L st S I J hP ls H locs hL hp hS hz
  simp only [i_icmpeq] at hP
  split at hP
  · exact lv_icmp_eq F.x F.b hd ht (fun hc => h1 _ _ _ _ _ (hP.1 hc) ls H locs hL hp hS hz) (fun hc => h2 _ _ _ _ _ (hP.2 hc) ls H locs hL hp hS hz)
  · exact hP.elim
def i_ifne (kt kf : ZK) : ZK := fun L st S I J => match st with
  | .int x :: r => (¬ x = 0 → kt L r S I J) ∧ (x = 0 → kf L r S I J)
  | _ => False
theorem z_ifne (F : zFx X p s m args meth c cc nL own ret nm) {kt kf : ZK} {off : Int} {tgt : Nat} (hd : decode cc pc = .ok (.ifCond .ne off, 3)) (ht : (pc : Int) + off = (tgt : Int)) (h1 : zOK X p l e R s m args below meth c nL Q cells slots tgt kt) (h2 : zOK X p l e R s m args below meth c nL Q cells slots (pc + 3) kf) : zOK X p l e R s m args below meth c nL Q cells slots pc (i_ifne kt kf) := by
  intro L st S I J hP ls H locs hL hp hS hz
  simp only [i_ifne] at hP
  split at hP
  · exact lv_if_ne F.x F.b hd ht (fun hc => h1 _ _ _ _ _ (hP.1 hc) ls H locs hL hp hS hz) (fun hc => h2 _ _ _ _ _ (hP.2 hc) ls H locs hL hp hS hz)
  · exact hP.elim
def i_icmpne (kt kf : ZK) : ZK := fun L st S I J => match st with
  | .int y :: .int x :: r => (¬ x = y → kt L r S I J) ∧ (x = y → kf L r S I J)
  | _ => False
theorem z_icmpne (F : zFx X p s m args meth c cc nL own ret nm) {kt kf : ZK} {off : Int} {tgt : Nat} (hd : decode cc pc = .ok (.if_icmp .ne off, 3)) (ht : (pc : Int) + off = (tgt : Int)) (h1 : zOK X p l e R s m args below meth c nL Q cells slots tgt kt) (h2 : zOK X p l e R s m args below meth c nL Q cells slots (pc + 3) kf) : zOK X p l e R s m args below meth c nL Q cells slots pc (i_icmpne kt kf) := by
  intro L st S I J hP ls H locs hL hp hS hz
  simp only [i_icmpne] at hP
  split at hP
  · exact lv_icmp_ne F.x F.b hd ht (fun hc => h1 _ _ _ _ _ (hP.1 hc) ls H locs hL hp hS hz) (fun hc => h2 _ _ _ _ _ (hP.2 hc) ls H locs hL hp hS hz)
  · exact hP.elim
def i_iflt (kt kf : ZK) : ZK := fun L st S I J => match st with
  | .int x :: r => (x < 0 → kt L r S I J) ∧ (¬ x < 0 → kf L r S I J)
  | _ => False
theorem z_iflt (F : zFx X p s m args meth c cc nL own ret nm) {kt kf : ZK} {off : Int} {tgt : Nat} (hd : decode cc pc = .ok (.ifCond .lt off, 3)) (ht : (pc : Int) + off = (tgt : Int)) (h1 : zOK X p l e R s m args below meth c nL Q cells slots tgt kt) (h2 : zOK X p l e R s m args below meth c nL Q cells slots (pc + 3) kf) : zOK X p l e R s m args below meth c nL Q cells slots pc (i_iflt kt kf) := by
  intro L st S I J hP ls H locs hL hp hS hz
  simp only [i_iflt] at hP
  split at hP
  · exact lv_if_lt F.x F.b hd ht (fun hc => h1 _ _ _ _ _ (hP.1 hc) ls H locs hL hp hS hz) (fun hc => h2 _ _ _ _ _ (hP.2 hc) ls H locs hL hp hS hz)
  · exact hP.elim
def i_icmplt (kt kf : ZK) : ZK := fun L st S I J => match st with
  | .int y :: .int x :: r => (x < y → kt L r S I J) ∧ (¬ x < y → kf L r S I J)
  | _ => False
theorem z_icmplt (F : zFx X p s m args meth c cc nL own ret nm) {kt kf : ZK} {off : Int} {tgt : Nat} (hd : decode cc pc = .ok (.if_icmp .lt off, 3)) (ht : (pc : Int) + off = (tgt : Int)) (h1 : zOK X p l e R s m args below meth c nL Q cells slots tgt kt) (h2 : zOK X p l e R s m args below meth c nL Q cells slots (pc + 3) kf) : zOK X p l e R s m args below meth c nL Q cells slots pc (i_icmplt kt kf) := by
  intro L st S I J hP ls H locs hL hp hS hz
  simp only [i_icmplt] at hP
  split at hP
  · exact lv_icmp_lt F.x F.b hd ht (fun hc => h1 _ _ _ _ _ (hP.1 hc) ls H locs hL hp hS hz) (fun hc => h2 _ _ _ _ _ (hP.2 hc) ls H locs hL hp hS hz)
  · exact hP.elim
def i_ifge (kt kf : ZK) : ZK := fun L st S I J => match st with
  | .int x :: r => (0 ≤ x → kt L r S I J) ∧ (¬ 0 ≤ x → kf L r S I J)
  | _ => False
theorem z_ifge (F : zFx X p s m args meth c cc nL own ret nm) {kt kf : ZK} {off : Int} {tgt : Nat} (hd : decode cc pc = .ok (.ifCond .ge off, 3)) (ht : (pc : Int) + off = (tgt : Int)) (h1 : zOK X p l e R s m args below meth c nL Q cells slots tgt kt) (h2 : zOK X p l e R s m args below meth c nL Q cells slots (pc + 3) kf) : zOK X p l e R s m args below meth c nL Q cells slots pc (i_ifge kt kf) := by
  intro L st S I J hP ls H locs hL hp hS hz
  simp only [i_ifge] at hP
  split at hP
  · exact lv_if_ge F.x F.b hd ht (fun hc => h1 _ _ _ _ _ (hP.1 hc) ls H locs hL hp hS hz) (fun hc => h2 _ _ _ _ _ (hP.2 hc) ls H locs hL hp hS hz)
  · exact hP.elim
def i_icmpge (kt kf : ZK) : ZK := fun L st S I J => match st with
  | .int y :: .int x :: r => (y ≤ x → kt L r S I J) ∧ (¬ y ≤ x → kf L r S I J)
  | _ => False
theorem z_icmpge (F : zFx X p s m args meth c cc nL own ret nm) {kt kf : ZK} {off : Int} {tgt : Nat} (hd : decode cc pc = .ok (.if_icmp .ge off, 3)) (ht : (pc : Int) + off = (tgt : Int)) (h1 : zOK X p l e R s m args below meth c nL Q cells slots tgt kt) (h2 : zOK X p l e R s m args below meth c nL Q cells slots (pc + 3) kf) : zOK X p l e R s m args below meth c nL Q cells slots pc (i_icmpge kt kf) := by
  intro L st S I J hP ls H locs hL hp hS hz
  simp only [i_icmpge] at hP
  split at hP
  · exact lv_icmp_ge F.x F.b hd ht (fun hc => h1 _ _ _ _ _ (hP.1 hc) ls H locs hL hp hS hz) (fun hc => h2 _ _ _ _ _ (hP.2 hc) ls H locs hL hp hS hz)
  · exact hP.elim
def i_ifgt (kt kf : ZK) : ZK := fun L st S I J => match st with
  | .int x :: r => (0 < x → kt L r S I J) ∧ (¬ 0 < x → kf L r S I J)
  | _ => False
theorem z_ifgt (F : zFx X p s m args meth c cc nL own ret nm) {kt kf : ZK} {off : Int} {tgt : Nat} (hd : decode cc pc = .ok (.ifCond .gt off, 3)) (ht : (pc : Int) + off = (tgt : Int)) (h1 : zOK X p l e R s m args below meth c nL Q cells slots tgt kt) (h2 : zOK X p l e R s m args below meth c nL Q cells slots (pc + 3) kf) : zOK X p l e R s m args below meth c nL Q cells slots pc (i_ifgt kt kf) := by
  intro L st S I J hP ls H locs hL hp hS hz
  simp only [i_ifgt] at hP
  split at hP
  · exact lv_if_gt F.x F.b hd ht (fun hc => h1 _ _ _ _ _ (hP.1 hc) ls H locs hL hp hS hz) (fun hc => h2 _ _ _ _ _ (hP.2 hc) ls H locs hL hp hS hz)
  · exact hP.elim
def i_icmpgt (kt kf : ZK) : ZK := fun L st S I J => match st with
  | .int y :: .int x :: r => (y < x → kt L r S I J) ∧ (¬ y < x → kf L r S I J)
  | _ => False
theorem z_icmpgt (F : zFx X p s m args meth c cc nL own ret nm) {kt kf : ZK} {off : Int} {tgt : Nat} (hd : decode cc pc = .ok (.if_icmp .gt off, 3)) (ht : (pc : Int) + off = (tgt : Int)) (h1 : zOK X p l e R s m args below meth c nL Q cells slots tgt kt) (h2 : zOK X p l e R s m args below meth c nL Q cells slots (pc + 3) kf) : zOK X p l e R s m args below meth c nL Q cells slots pc (i_icmpgt kt kf) := by
  intro L st S I J hP ls H locs hL hp hS hz
  simp only [i_icmpgt] at hP
  split at hP
  · exact lv_icmp_gt F.x F.b hd ht (fun hc => h1 _ _ _ _ _ (hP.1 hc) ls H locs hL hp hS hz) (fun hc => h2 _ _ _ _ _ (hP.2 hc) ls H locs hL hp hS hz)
  · exact hP.elim
def i_ifle (kt kf : ZK) : ZK := fun L st S I J => match st with
  | .int x :: r => (x ≤ 0 → kt L r S I J) ∧ (¬ x ≤ 0 → kf L r S I J)
  | _ => False
theorem z_ifle (F : zFx X p s m args meth c cc nL own ret nm) {kt kf : ZK} {off : Int} {tgt : Nat} (hd : decode cc pc = .ok (.ifCond .le off, 3)) (ht : (pc : Int) + off = (tgt : Int)) (h1 : zOK X p l e R s m args below meth c nL Q cells slots tgt kt) (h2 : zOK X p l e R s m args below meth c nL Q cells slots (pc + 3) kf) : zOK X p l e R s m args below meth c nL Q cells slots pc (i_ifle kt kf) := by
  intro L st S I J hP ls H locs hL hp hS hz
  simp only [i_ifle] at hP
  split at hP
  · exact lv_if_le F.x F.b hd ht (fun hc => h1 _ _ _ _ _ (hP.1 hc) ls H locs hL hp hS hz) (fun hc => h2 _ _ _ _ _ (hP.2 hc) ls H locs hL hp hS hz)
  · exact hP.elim
def i_icmple (kt kf : ZK) : ZK := fun L st S I J => match st with
  | .int y :: .int x :: r => (x ≤ y → kt L r S I J) ∧ (¬ x ≤ y → kf L r S I J)
  | _ => False
theorem z_icmple (F : zFx X p s m args meth c cc nL own ret nm) {kt kf : ZK} {off : Int} {tgt : Nat} (hd : decode cc pc = .ok (.if_icmp .le off, 3)) (ht : (pc : Int) + off = (tgt : Int)) (h1 : zOK X p l e R s m args below meth c nL Q cells slots tgt kt) (h2 : zOK X p l e R s m args below meth c nL Q cells slots (pc + 3) kf) : zOK X p l e R s m args below meth c nL Q cells slots pc (i_icmple kt kf) := by
  intro L st S I J hP ls H locs hL hp hS hz
  simp only [i_icmple] at hP
  split at hP
  · exact lv_icmp_le F.x F.b hd ht (fun hc => h1 _ _ _ _ _ (hP.1 hc) ls H locs hL hp hS hz) (fun hc => h2 _ _ _ _ _ (hP.2 hc) ls H locs hL hp hS hz)
  · exact hP.elim
theorem z_goto (F : zFx X p s m args meth c cc nL own ret nm) {k : ZK} {off : Int} {tgt : Nat} (hd : decode cc pc = .ok (.goto off, 3)) (ht : (pc : Int) + off = (tgt : Int)) (h : zOK X p l e R s m args below meth c nL Q cells slots tgt k) : zOK X p l e R s m args below meth c nL Q cells slots pc k := by
  intro L st S I J hP ls H locs hL hp hS hz
  exact lv_goto F.x F.b hd ht (h _ _ _ _ _ hP ls H locs hL hp hS hz)
def i_ifnonnull (kt kf : ZK) : ZK := fun L st S I J => match st with
  | .ref _ :: r => kt L r S I J
  | .null :: r => kf L r S I J
  | _ => False
theorem z_ifnonnull (F : zFx X p s m args meth c cc nL own ret nm) {kt kf : ZK} {off : Int} {tgt : Nat} (hd : decode cc pc = .ok (.ifnonnull off, 3)) (ht : (pc : Int) + off = (tgt : Int)) (h1 : zOK X p l e R s m args below meth c nL Q cells slots tgt kt) (h2 : zOK X p l e R s m args below meth c nL Q cells slots (pc + 3) kf) : zOK X p l e R s m args below meth c nL Q cells slots pc (i_ifnonnull kt kf) := by
  intro L st S I J hP ls H locs hL hp hS hz
  simp only [i_ifnonnull] at hP
  split at hP
  · exact lv_ifnonnull F.x F.b hd ht (h1 _ _ _ _ _ hP ls H locs hL hp hS hz)
  · exact lv_ifnonnullN F.x F.b hd (h2 _ _ _ _ _ hP ls H locs hL hp hS hz)
  · exact hP.elim
end ZE
end
section
section ZM
variable {X : ZC} {p : Program} {l : Launch} {e : Env} {R : Room} {s : State} {m : MethodId} {args : Array Value} {below : List Frame} {meth : Method} {c : Code} {nL : Nat} {Q : State → Prop} {cells slots pc : Nat} {cc : ByteArray} {own nm : String} {ret : Option FieldType}
theorem zcl_lt {ci : Nat} {q : vw_C} (h : vwCl[ci]? = some q) : ci < 13 := (List.getElem?_eq_some_iff.mp h).1
theorem zel_obj {X : ZC} {I : Nat → Int32} {J : Nat → Int64} {d : Nat × Nat × List (Option Nat)} (h : d.1 < 13) : zel X I J d = .inr (d.1, zfs X d.2.2 I J (zft d.1)) := by
  unfold zel
  rw [if_neg (by omega), if_neg (by omega), if_neg (by omega), if_neg (by omega), if_neg (by omega)]
theorem zfs_at {X : ZC} {rs : List (Option Nat)} {I : Nat → Int32} {J : Nat → Int64} {ts : List Nat} {k t : Nat} (h : ts[k]? = some t) : (zfs X rs I J ts)[k]? = some (zfv X rs I J k t) := by
  simp [zfs, List.getElem?_mapIdx, h]
theorem zobj {X : ZC} {S : ZS} (I : ZI) (J : ZJ) {a ci : Nat} {q : vw_C} (hc : vwCl[ci]? = some q) (h : zkd S a = some ci) : ∃ d, S[a]? = some d ∧ d.1 = ci ∧ (zws X S I J)[a]? = some (zB X + a, .inr (ci, zfs X d.2.2 (I a) (J a) (zft ci))) := by
  obtain ⟨d, h1, h2⟩ := zkd_of h
  refine ⟨d, h1, h2, ?_⟩
  rw [zws_get I J h1, zel_obj (by rw [h2]; exact zcl_lt hc), h2]
theorem zfs_setI {X : ZC} {rs : List (Option Nat)} {I : Nat → Int32} {J : Nat → Int64} {ts : List Nat} {k : Nat} (h : ts[k]? = some 0) (v : Int32) : (zfs X rs I J ts).set k (.int v) = zfs X rs (upd I k v) J ts := by
  apply List.ext_getElem?
  intro i
  rw [List.getElem?_set]
  have hlt := (List.getElem?_eq_some_iff.mp h).1
  by_cases e : k = i
  · subst e
    rw [if_pos rfl, if_pos (by simpa [zfs] using hlt), zfs_at h]
    simp [zfv, upd]
  · rw [if_neg e]
    simp only [zfs, List.getElem?_mapIdx]
    cases ts[i]? with
    | none => rfl
    | some t =>
      simp only [Option.map_some, zfv, upd]
      rw [if_neg (fun q => e q.symm)]
theorem zfs_setJ {X : ZC} {rs : List (Option Nat)} {I : Nat → Int32} {J : Nat → Int64} {ts : List Nat} {k : Nat} (h : ts[k]? = some 1) (v : Int64) : (zfs X rs I J ts).set k (.long v) = zfs X rs I (vp_updL J k v) ts := by
  apply List.ext_getElem?
  intro i
  rw [List.getElem?_set]
  have hlt := (List.getElem?_eq_some_iff.mp h).1
  by_cases e : k = i
  · subst e
    rw [if_pos rfl, if_pos (by simpa [zfs] using hlt), zfs_at h]
    simp [zfv, vp_updL]
  · rw [if_neg e]
    simp only [zfs, List.getElem?_mapIdx]
    cases ts[i]? with
    | none => rfl
    | some t =>
      simp only [Option.map_some, zfv, vp_updL]
      rw [if_neg (fun q => e q.symm)]
theorem zfs_setR {X : ZC} {rs : List (Option Nat)} {I : Nat → Int32} {J : Nat → Int64} {ts : List Nat} {k : Nat} (h : ts[k]? = some 2) (hk : k < rs.length) (r : Option Nat) : (zfs X rs I J ts).set k (va_rf (r.map (zB X + ·))) = zfs X (rs.set k r) I J ts := by
  apply List.ext_getElem?
  intro i
  rw [List.getElem?_set]
  have hlt := (List.getElem?_eq_some_iff.mp h).1
  by_cases e : k = i
  · subst e
    rw [if_pos rfl, if_pos (by simpa [zfs] using hlt), zfs_at h]
    simp [zfv, hk]
  · rw [if_neg e]
    simp only [zfs, List.getElem?_mapIdx]
    cases ts[i]? with
    | none => rfl
    | some t =>
      have : (rs.set k r).getD i none = rs.getD i none := by simp [List.getD, List.getElem?_set, e]
      simp only [Option.map_some, zfv, this]
/-! a store: what the heap is behind it -/
theorem zstored {S S' : ZS} {I I' : ZI} {J J' : ZJ} {a k : Nat} {d' : Nat × Nat × List (Option Nat)} {H H' : Heap} {locs : List Loc} (hz : H.size = zB X + S.length) (hp : va_P X.1 vwCl (zws X S I J) H) (hS : va_S (zA X) s.heap H locs) {d : Nat × Nat × List (Option Nat)} (h1 : S[a]? = some d) (e2 : H'.size = H.size) (e3 : ∀ q, q ≠ zB X + a → H'[q]? = H[q]?) (hat : va_at X.1 vwCl (zB X + a, zel X (I' a) (J' a) d') H') (hl : S'.length = S.length) (hSS : ∀ i, i ≠ a → S'[i]? = S[i]?) (ha : S'[a]? = some d') (hI : ∀ i, i ≠ a → I' i = I i) (hJ : ∀ i, i ≠ a → J' i = J i) :
    va_P X.1 vwCl (zws X S' I' J') H' ∧ va_S (zA X) s.heap H' (locs ++ [⟨zB X + a, k⟩]) ∧ H'.size = zB X + S'.length := by
  refine ⟨?_, hS.put e2 e3 (Nat.le_add_right _ _), by rw [e2, hz, hl]⟩
  rw [← zws_set (X := X) (S := S) (I := I) (J := J) hl hSS ha hI hJ]
  exact hp.set (zD X S I J) (zws_get I J h1) hat e3
theorem zputW (F : zFx X p s m args meth c cc nL own ret nm) {C : String} {T : u_T} {N ci f i : Nat} (ty0 : Nat → FieldType) (hty : ∀ k, k < N → parseFieldDescriptor (T k).2.2.1 = some (ty0 k)) (hnm : ∀ a, a < N → ∀ b, b < N → a ≠ b → (T a).2.1 ≠ (T b).2.1) (hd : decode cc pc = .ok (.putfield i, 3)) (hc : vwCl[ci]? = some (C, T, N)) (hin : ∀ w ∈ u_ws C T N, w ∈ zG) (hf : f < N) (hC : (T f).1 = C)
    (hw : (Cond.fieldLink own i C (T f).2.1 (T f).2.2.1 ∈ zG) ∨ ∃ host, (own, i, C, (T f).2.1, (T f).2.2.1, host) ∈ znF) (hfin : (T f).2.2.2 = false) {ty : FieldType} {v : Value} (hpd : parseFieldDescriptor (T f).2.2.1 = some ty) (hn : narrow ty v = v) (hfit : fits ty v = true)
    {H : Heap} {locs : List Loc} {a : Nat} {fs : List Value} (hat : va_at X.1 vwCl (a, .inr (ci, fs)) H) (hl : f < fs.length) {ls : Array Slot} {rest : List Value}
    (kk : ∀ (H1 : Heap) (k : Nat), va_at X.1 vwCl (a, .inr (ci, fs.set f v)) H1 → H1.size = H.size → (∀ q, q ≠ a → H1[q]? = H[q]?) → W p l e R s m args below meth c H1 (locs ++ [⟨a, k⟩]) cells slots Q (F0 m (pc + 3) ls rest)) : W p l e R s m args below meth c H locs cells slots Q (F0 m pc ls (v :: .ref a :: rest)) := by
  have hap := va_apart (own := own) F.ts hin ty0 hty hnm F.K hc
  obtain ⟨r, h1, cell, q1, q2, q3, q4⟩ := hat
  have hr : r = (C, T, N) := Option.some.inj (h1.symm.trans hc)
  subst hr
  obtain ⟨hS, hfc, kC, hkC, hkind⟩ := F.K.1 ci _ hc
  obtain ⟨cf, kf, fi, fd, hi, hsl⟩ := hS f hf
  have hlay := F.ts _ (hin _ (u_in_lay hf))
  unfold u_lay at hlay
  rw [if_neg (by rw [hfin]; decide)] at hlay
  have hst := (u_facts hfc hkC (u_lays F.ts hin hf) hi).1
  have h6 := u_store hfc hkC hkind hlay hi hpd hn hfit
  have hi' := hi
  rw [hC] at hi'
  rcases hw with hw | ⟨host, hw⟩
  · refine W.putK F.x F.b (f := fd) ⟨F.ow, F.ts _ hw, ⟨_, _, _, hi'⟩, hst⟩ (by rw [q2]; exact h6) q1 q3 (by rw [hsl]; exact k2_hasslot (q4 f hf)) rfl rfl hd fun H' e1 e2 e3 => ?_
    rw [hsl] at e1 ⊢
    exact kk H' _ ⟨_, hc, t_OB.to (V := updV (vp_V fs) f v) ⟨_, e1, q2, q3, t_set q4 hap hf v⟩ (fun j _ => vp_updV_set hl v j)⟩ e2 e3
  · refine va_WputK F.x F.b (f := fd) F.ow ((F.E.2.2.2.1 _ hw).use rfl) hi' hst (by rw [q2]; exact h6) q1 q3 (by rw [hsl]; exact k2_hasslot (q4 f hf)) rfl rfl hd fun H' e1 e2 e3 => ?_
    rw [hsl] at e1 ⊢
    exact kk H' _ ⟨_, hc, t_OB.to (V := updV (vp_V fs) f v) ⟨_, e1, q2, q3, t_set q4 hap hf v⟩ (fun j _ => vp_updV_set hl v j)⟩ e2 e3
theorem zputFW (F : zFx X p s m args meth c cc nL own ret nm) {C : String} {T : u_T} {N ci f i : Nat} (ty0 : Nat → FieldType) (hty : ∀ k, k < N → parseFieldDescriptor (T k).2.2.1 = some (ty0 k)) (hnm : ∀ a, a < N → ∀ b, b < N → a ≠ b → (T a).2.1 ≠ (T b).2.1) (hd : decode cc pc = .ok (.putfield i, 3)) (hc : vwCl[ci]? = some (C, T, N)) (hin : ∀ w ∈ u_ws C T N, w ∈ zG) (hf : f < N) (hC : (T f).1 = C) (hCo : C = own) (hini : nm = "<init>")
    (hw : Cond.fieldLink own i C (T f).2.1 (T f).2.2.1 ∈ zG) (hfin : (T f).2.2.2 = true) {ty : FieldType} {v : Value} (hpd : parseFieldDescriptor (T f).2.2.1 = some ty) (hn : narrow ty v = v) (hfit : fits ty v = true)
    {H : Heap} {locs : List Loc} {a : Nat} {fs : List Value} (hat : va_at X.1 vwCl (a, .inr (ci, fs)) H) (hl : f < fs.length) {ls : Array Slot} {rest : List Value}
    (kk : ∀ (H1 : Heap) (k : Nat), va_at X.1 vwCl (a, .inr (ci, fs.set f v)) H1 → H1.size = H.size → (∀ q, q ≠ a → H1[q]? = H[q]?) → W p l e R s m args below meth c H1 (locs ++ [⟨a, k⟩]) cells slots Q (F0 m (pc + 3) ls rest)) : W p l e R s m args below meth c H locs cells slots Q (F0 m pc ls (v :: .ref a :: rest)) := by
  have hap := va_apart (own := own) F.ts hin ty0 hty hnm F.K hc
  obtain ⟨r, h1, cell, q1, q2, q3, q4⟩ := hat
  have hr : r = (C, T, N) := Option.some.inj (h1.symm.trans hc)
  subst hr
  obtain ⟨hS, hfc, kC, hkC, hkind⟩ := F.K.1 ci _ hc
  obtain ⟨cf, kf, fi, fd, hi, hsl⟩ := hS f hf
  have hlay := F.ts _ (hin _ (u_in_lay hf))
  unfold u_lay at hlay
  rw [if_pos hfin] at hlay
  have hst := (u_facts hfc hkC (u_lays F.ts hin hf) hi).1
  have hcf : m.cls = cf := by
    obtain ⟨_, _, c', _, _, _, -, -, hf', -, -, -, hown2, -⟩ := Cond.laysFinal_spec hlay
    have e1 : c' = cf := by have := hi.symm.trans hf'; simp at this; exact this.1.symm
    rw [hC, hCo] at hown2
    rw [← e1]; exact Option.some.inj (F.ow.symm.trans hown2)
  have h6 := u_fits hfc hkC hkind (Or.inr hlay) hi hpd hn hfit
  have hi' := hi
  rw [hC] at hi'
  refine W.putFinK F.x F.b F.ow (F.ts _ hw) hi' hst hcf (F.me.trans hini) (by rw [q2]; exact h6) q1 q3 (by rw [hsl]; exact k2_hasslot (q4 f hf)) rfl rfl hd fun H' e1 e2 e3 => ?_
  rw [hsl] at e1 ⊢
  exact kk H' _ ⟨_, hc, t_OB.to (V := updV (vp_V fs) f v) ⟨_, e1, q2, q3, t_set q4 hap hf v⟩ (fun j _ => vp_updV_set hl v j)⟩ e2 e3
/-! fields -/
def i_getI (ci f : Nat) (k : ZK) : ZK := fun L st S I J => match st with
  | .ref a :: r => zkd S a = some ci ∧ k L (.int (I a f) :: r) S I J
  | _ => False
def i_getJ (ci f : Nat) (k : ZK) : ZK := fun L st S I J => match st with
  | .ref a :: r => zkd S a = some ci ∧ k L (.long (J a f) :: r) S I J
  | _ => False
def i_getR (ci f : Nat) (k : ZK) : ZK := fun L st S I J => match st with
  | .ref a :: r => zkd S a = some ci ∧ match zrf S a f with
    | some b => k L (.ref b :: r) S I J
    | none => k L (.null :: r) S I J
  | _ => False
def i_putI (ci f : Nat) (k : ZK) : ZK := fun L st S I J => match st with
  | .int v :: .ref a :: r => zkd S a = some ci ∧ k L r S (zu I a f v) J
  | _ => False
def i_putJ (ci f : Nat) (k : ZK) : ZK := fun L st S I J => match st with
  | .long v :: .ref a :: r => zkd S a = some ci ∧ k L r S I (zuJ J a f v)
  | _ => False
def i_putR (ci f : Nat) (k : ZK) : ZK := fun L st S I J => match st with
  | .ref b :: .ref a :: r => (zkd S a = some ci ∧ f < (S.getD a (0, 0, [])).2.2.length) ∧ k L r (zsr S a f (some b)) I J
  | _ => False

theorem z_getI (F : zFx X p s m args meth c cc nL own ret nm) {k : ZK} {C : String} {T : u_T} {N ci f i : Nat} (hd : decode cc pc = .ok (.getfield i, 3)) (hc : vwCl[ci]? = some (C, T, N)) (hin : ∀ w ∈ u_ws C T N, w ∈ zG) (hf : f < N) (hC : (T f).1 = C) (hw : Cond.fieldLink own i C (T f).2.1 (T f).2.2.1 ∈ zG) (ht : (zft ci)[f]? = some 0) (h : zOK X p l e R s m args below meth c nL Q cells slots (pc + 3) k) : zOK X p l e R s m args below meth c nL Q cells slots pc (i_getI ci f k) := by
  intro L st S I J hP ls H locs hL hp hS hz
  simp only [i_getI] at hP
  split at hP
  · obtain ⟨hk, hP⟩ := hP
    obtain ⟨d, h1, h2, h3⟩ := zobj (X := X) I J hc hk
    exact va_get F.x F.b F.ts hin F.ow F.K hp _ h3 hc f hf (F.ts _ hw) (by rw [hC]; exact fun _ q => q) (zfs_at ht) hd (h _ _ _ _ _ hP ls H locs hL hp hS hz)
  · exact hP.elim
theorem z_getJ (F : zFx X p s m args meth c cc nL own ret nm) {k : ZK} {C : String} {T : u_T} {N ci f i : Nat} (hd : decode cc pc = .ok (.getfield i, 3)) (hc : vwCl[ci]? = some (C, T, N)) (hin : ∀ w ∈ u_ws C T N, w ∈ zG) (hf : f < N) (hC : (T f).1 = C) (hw : Cond.fieldLink own i C (T f).2.1 (T f).2.2.1 ∈ zG) (ht : (zft ci)[f]? = some 1) (h : zOK X p l e R s m args below meth c nL Q cells slots (pc + 3) k) : zOK X p l e R s m args below meth c nL Q cells slots pc (i_getJ ci f k) := by
  intro L st S I J hP ls H locs hL hp hS hz
  simp only [i_getJ] at hP
  split at hP
  · obtain ⟨hk, hP⟩ := hP
    obtain ⟨d, h1, h2, h3⟩ := zobj (X := X) I J hc hk
    exact va_get F.x F.b F.ts hin F.ow F.K hp _ h3 hc f hf (F.ts _ hw) (by rw [hC]; exact fun _ q => q) (zfs_at ht) hd (h _ _ _ _ _ hP ls H locs hL hp hS hz)
  · exact hP.elim
theorem z_getR (F : zFx X p s m args meth c cc nL own ret nm) {k : ZK} {C : String} {T : u_T} {N ci f i : Nat} (hd : decode cc pc = .ok (.getfield i, 3)) (hc : vwCl[ci]? = some (C, T, N)) (hin : ∀ w ∈ u_ws C T N, w ∈ zG) (hf : f < N) (hC : (T f).1 = C) (hw : Cond.fieldLink own i C (T f).2.1 (T f).2.2.1 ∈ zG) (ht : (zft ci)[f]? = some 2) (h : zOK X p l e R s m args below meth c nL Q cells slots (pc + 3) k) : zOK X p l e R s m args below meth c nL Q cells slots pc (i_getR ci f k) := by
  intro L st S I J hP ls H locs hL hp hS hz
  simp only [i_getR] at hP
  split at hP
  · obtain ⟨hk, hP⟩ := hP
    obtain ⟨d, h1, h2, h3⟩ := zobj (X := X) I J hc hk
    rw [zrf_of h1] at hP
    refine va_get F.x F.b F.ts hin F.ow F.K hp _ h3 hc f hf (F.ts _ hw) (by rw [hC]; exact fun _ q => q) (zfs_at ht) hd ?_
    split at hP
    · rename_i b hb
      simp only [zfv, hb]
      exact (h _ _ _ _ _ hP ls H locs hL hp hS hz)
    · rename_i hb
      simp only [zfv, hb]
      exact (h _ _ _ _ _ hP ls H locs hL hp hS hz)
  · exact hP.elim
theorem z_getIN (F : zFx X p s m args meth c cc nL own ret nm) {host : String} {k : ZK} {C : String} {T : u_T} {N ci f i : Nat} (hd : decode cc pc = .ok (.getfield i, 3)) (hc : vwCl[ci]? = some (C, T, N)) (hin : ∀ w ∈ u_ws C T N, w ∈ zG) (hf : f < N) (hC : (T f).1 = C) (hw : (own, i, C, (T f).2.1, (T f).2.2.1, host) ∈ znF) (ht : (zft ci)[f]? = some 0) (h : zOK X p l e R s m args below meth c nL Q cells slots (pc + 3) k) : zOK X p l e R s m args below meth c nL Q cells slots pc (i_getI ci f k) := by
  intro L st S I J hP ls H locs hL hp hS hz
  simp only [i_getI] at hP
  split at hP
  · obtain ⟨hk, hP⟩ := hP
    obtain ⟨d, h1, h2, h3⟩ := zobj (X := X) I J hc hk
    exact va_getN F.x F.b F.ts hin F.ow F.K hp _ h3 hc f hf ((F.E.2.2.2.1 _ hw).use rfl) (by rw [hC]; exact fun _ q => q) (zfs_at ht) hd (h _ _ _ _ _ hP ls H locs hL hp hS hz)
  · exact hP.elim
theorem z_getJN (F : zFx X p s m args meth c cc nL own ret nm) {host : String} {k : ZK} {C : String} {T : u_T} {N ci f i : Nat} (hd : decode cc pc = .ok (.getfield i, 3)) (hc : vwCl[ci]? = some (C, T, N)) (hin : ∀ w ∈ u_ws C T N, w ∈ zG) (hf : f < N) (hC : (T f).1 = C) (hw : (own, i, C, (T f).2.1, (T f).2.2.1, host) ∈ znF) (ht : (zft ci)[f]? = some 1) (h : zOK X p l e R s m args below meth c nL Q cells slots (pc + 3) k) : zOK X p l e R s m args below meth c nL Q cells slots pc (i_getJ ci f k) := by
  intro L st S I J hP ls H locs hL hp hS hz
  simp only [i_getJ] at hP
  split at hP
  · obtain ⟨hk, hP⟩ := hP
    obtain ⟨d, h1, h2, h3⟩ := zobj (X := X) I J hc hk
    exact va_getN F.x F.b F.ts hin F.ow F.K hp _ h3 hc f hf ((F.E.2.2.2.1 _ hw).use rfl) (by rw [hC]; exact fun _ q => q) (zfs_at ht) hd (h _ _ _ _ _ hP ls H locs hL hp hS hz)
  · exact hP.elim
theorem z_getRN (F : zFx X p s m args meth c cc nL own ret nm) {host : String} {k : ZK} {C : String} {T : u_T} {N ci f i : Nat} (hd : decode cc pc = .ok (.getfield i, 3)) (hc : vwCl[ci]? = some (C, T, N)) (hin : ∀ w ∈ u_ws C T N, w ∈ zG) (hf : f < N) (hC : (T f).1 = C) (hw : (own, i, C, (T f).2.1, (T f).2.2.1, host) ∈ znF) (ht : (zft ci)[f]? = some 2) (h : zOK X p l e R s m args below meth c nL Q cells slots (pc + 3) k) : zOK X p l e R s m args below meth c nL Q cells slots pc (i_getR ci f k) := by
  intro L st S I J hP ls H locs hL hp hS hz
  simp only [i_getR] at hP
  split at hP
  · obtain ⟨hk, hP⟩ := hP
    obtain ⟨d, h1, h2, h3⟩ := zobj (X := X) I J hc hk
    rw [zrf_of h1] at hP
    refine va_getN F.x F.b F.ts hin F.ow F.K hp _ h3 hc f hf ((F.E.2.2.2.1 _ hw).use rfl) (by rw [hC]; exact fun _ q => q) (zfs_at ht) hd ?_
    split at hP
    · rename_i b hb
      simp only [zfv, hb]
      exact (h _ _ _ _ _ hP ls H locs hL hp hS hz)
    · rename_i hb
      simp only [zfv, hb]
      exact (h _ _ _ _ _ hP ls H locs hL hp hS hz)
  · exact hP.elim
theorem z_putI (F : zFx X p s m args meth c cc nL own ret nm) {k : ZK} {C : String} {T : u_T} {N ci f i : Nat} (ty : Nat → FieldType) (hty : ∀ k, k < N → parseFieldDescriptor (T k).2.2.1 = some (ty k)) (hnm : ∀ a, a < N → ∀ b, b < N → a ≠ b → (T a).2.1 ≠ (T b).2.1) (hd : decode cc pc = .ok (.putfield i, 3)) (hc : vwCl[ci]? = some (C, T, N)) (hin : ∀ w ∈ u_ws C T N, w ∈ zG) (hf : f < N) (hC : (T f).1 = C) (hw : (Cond.fieldLink own i C (T f).2.1 (T f).2.2.1 ∈ zG) ∨ ∃ host, (own, i, C, (T f).2.1, (T f).2.2.1, host) ∈ znF) (ht : (zft ci)[f]? = some 0) (hfin : (T f).2.2.2 = false) (hpd : parseFieldDescriptor (T f).2.2.1 = some .int) (h : zOK X p l e R s m args below meth c nL Q cells slots (pc + 3) k) : zOK X p l e R s m args below meth c nL Q cells slots pc (i_putI ci f k) := by
  intro L st S I J hP ls H locs hL hp hS hz
  simp only [i_putI] at hP
  split at hP
  · rename_i v a r
    obtain ⟨hk, hP⟩ := hP
    obtain ⟨d, h1, h2, h3⟩ := zobj (X := X) I J hc hk
    have hlen : f < (zfs X d.2.2 (I a) (J a) (zft ci)).length := by simpa [zfs] using (List.getElem?_eq_some_iff.mp ht).1
    refine zputW F ty hty hnm hd hc hin hf hC hw hfin hpd (v := .int v) rfl rfl (hp _ _ h3) hlen (fun H1 kk hat e2 e3 => ?_)
    rw [zfs_setI ht] at hat
    obtain ⟨g1, g2, g3⟩ := zstored (k := kk) (I' := zu I a f v) (J' := J) hz hp hS h1 e2 e3 (by rw [zel_obj (by rw [h2]; exact zcl_lt hc), h2, zu_at]; exact hat) rfl (fun _ _ => rfl) h1 (fun i hi => zu_ne I f v hi) (fun i hi => rfl)
    exact h _ _ _ _ _ hP ls H1 _ hL g1 g2 g3
  · exact hP.elim
theorem z_putJ (F : zFx X p s m args meth c cc nL own ret nm) {k : ZK} {C : String} {T : u_T} {N ci f i : Nat} (ty : Nat → FieldType) (hty : ∀ k, k < N → parseFieldDescriptor (T k).2.2.1 = some (ty k)) (hnm : ∀ a, a < N → ∀ b, b < N → a ≠ b → (T a).2.1 ≠ (T b).2.1) (hd : decode cc pc = .ok (.putfield i, 3)) (hc : vwCl[ci]? = some (C, T, N)) (hin : ∀ w ∈ u_ws C T N, w ∈ zG) (hf : f < N) (hC : (T f).1 = C) (hw : (Cond.fieldLink own i C (T f).2.1 (T f).2.2.1 ∈ zG) ∨ ∃ host, (own, i, C, (T f).2.1, (T f).2.2.1, host) ∈ znF) (ht : (zft ci)[f]? = some 1) (hfin : (T f).2.2.2 = false) (hpd : parseFieldDescriptor (T f).2.2.1 = some .long) (h : zOK X p l e R s m args below meth c nL Q cells slots (pc + 3) k) : zOK X p l e R s m args below meth c nL Q cells slots pc (i_putJ ci f k) := by
  intro L st S I J hP ls H locs hL hp hS hz
  simp only [i_putJ] at hP
  split at hP
  · rename_i v a r
    obtain ⟨hk, hP⟩ := hP
    obtain ⟨d, h1, h2, h3⟩ := zobj (X := X) I J hc hk
    have hlen : f < (zfs X d.2.2 (I a) (J a) (zft ci)).length := by simpa [zfs] using (List.getElem?_eq_some_iff.mp ht).1
    refine zputW F ty hty hnm hd hc hin hf hC hw hfin hpd (v := .long v) rfl rfl (hp _ _ h3) hlen (fun H1 kk hat e2 e3 => ?_)
    rw [zfs_setJ ht] at hat
    obtain ⟨g1, g2, g3⟩ := zstored (k := kk) (I' := I) (J' := zuJ J a f v) hz hp hS h1 e2 e3 (by rw [zel_obj (by rw [h2]; exact zcl_lt hc), h2, zuJ_at]; exact hat) rfl (fun _ _ => rfl) h1 (fun i hi => rfl) (fun i hi => zuJ_ne J f v hi)
    exact h _ _ _ _ _ hP ls H1 _ hL g1 g2 g3
  · exact hP.elim
theorem z_putFR (F : zFx X p s m args meth c cc nL own ret nm) {k : ZK} {C : String} {T : u_T} {N ci f i : Nat} (ty : Nat → FieldType) (hty : ∀ k, k < N → parseFieldDescriptor (T k).2.2.1 = some (ty k)) (hnm : ∀ a, a < N → ∀ b, b < N → a ≠ b → (T a).2.1 ≠ (T b).2.1) (hd : decode cc pc = .ok (.putfield i, 3)) (hc : vwCl[ci]? = some (C, T, N)) (hin : ∀ w ∈ u_ws C T N, w ∈ zG) (hf : f < N) (hC : (T f).1 = C) (hCo : C = own) (hini : nm = "<init>") (hw : Cond.fieldLink own i C (T f).2.1 (T f).2.2.1 ∈ zG) (ht : (zft ci)[f]? = some 2) (hfin : (T f).2.2.2 = true) {fty : FieldType} (hpd : parseFieldDescriptor (T f).2.2.1 = some fty) (hrf : ∀ b : Nat, narrow fty (.ref b) = .ref b ∧ fits fty (.ref b) = true) (h : zOK X p l e R s m args below meth c nL Q cells slots (pc + 3) k) : zOK X p l e R s m args below meth c nL Q cells slots pc (i_putR ci f k) := by
  intro L st S I J hP ls H locs hL hp hS hz
  simp only [i_putR] at hP
  split at hP
  · rename_i b a r
    obtain ⟨⟨hk, hlt⟩, hP⟩ := hP
    obtain ⟨d, h1, h2, h3⟩ := zobj (X := X) I J hc hk
    have hlen : f < (zfs X d.2.2 (I a) (J a) (zft ci)).length := by simpa [zfs] using (List.getElem?_eq_some_iff.mp ht).1
    rw [List.getD_eq_getElem?_getD, h1] at hlt
    simp only [Option.getD_some] at hlt
    refine zputFW F ty hty hnm hd hc hin hf hC hCo hini hw hfin hpd (v := .ref (zB X + b)) (hrf _).1 (hrf _).2 (hp _ _ h3) hlen (fun H1 kk hat e2 e3 => ?_)
    have hat : va_at X.1 vwCl (zB X + a, .inr (ci, (zfs X d.2.2 (I a) (J a) (zft ci)).set f (va_rf ((some b).map (zB X + ·))))) H1 := hat
    rw [zfs_setR ht hlt] at hat
    have hal : a < S.length := (List.getElem?_eq_some_iff.mp h1).1
    obtain ⟨g1, g2, g3⟩ := zstored (k := kk) (S' := zsr S a f (some b)) (I' := I) (J' := J) (d' := (d.1, d.2.1, d.2.2.set f (some b))) hz hp hS h1 e2 e3 (by rw [zel_obj (by show d.1 < 13; rw [h2]; exact zcl_lt hc)]; show va_at _ _ (_, .inr (d.1, zfs X (d.2.2.set f (some b)) (I a) (J a) (zft d.1))) _; rw [h2]; exact hat) (by rw [zsr_of h1, List.length_set]) (fun i hi => by rw [zsr_of h1, List.getElem?_set_ne (fun q => hi q.symm)]) (by rw [zsr_of h1, List.getElem?_set_self hal]) (fun _ _ => rfl) (fun _ _ => rfl)
    exact h _ _ _ _ _ hP ls H1 _ hL g1 g2 g3
  · exact hP.elim
end ZM
end
