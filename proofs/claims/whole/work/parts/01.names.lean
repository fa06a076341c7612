/-! names and tables, by program (wip/whole/gen1.py) out of the task; the first rows are the skeleton's PART A, given for pasting -/
-- ===== PART A: goes FIRST, ahead of the names: the tables' words, and 'selects' of the private methods out of them =====
/-- a private method of a class that the tables say can be made, by its rows of tables_1 -/
def lw_okq (q : MethodName × Nat) : Prop := (q.1.cls ≠ "java/lang/invoke/MethodHandle" ∧ q.1.cls ≠ "java/lang/invoke/VarHandle") ∧ Cond.instantiable q.1.cls q.2 ∈ tables_1 ∧ Cond.privateMethod q.1 ∈ tables_1 ∧ Cond.instanceMethod q.1 ∈ tables_1
theorem lw_p0 : lw_okq (⟨"ShapeDuel", "layAnew", "([LShapeDuel$Strip;III)I"⟩, 16) := ⟨⟨by decide +kernel, by decide +kernel⟩, List.mem_of_getElem? (i := 18) (by decide +kernel), List.mem_of_getElem? (i := 345) (by decide +kernel), List.mem_of_getElem? (i := 346) (by decide +kernel)⟩
theorem lw_p1 : lw_okq (⟨"ShapeDuel", "find", "(I)I"⟩, 16) := ⟨⟨by decide +kernel, by decide +kernel⟩, List.mem_of_getElem? (i := 18) (by decide +kernel), List.mem_of_getElem? (i := 352) (by decide +kernel), List.mem_of_getElem? (i := 353) (by decide +kernel)⟩
theorem lw_p2 : lw_okq (⟨"ShapeDuel$Strip", "fillAnew", "(II)V"⟩, 2) := ⟨⟨by decide +kernel, by decide +kernel⟩, List.mem_of_getElem? (i := 270) (by decide +kernel), List.mem_of_getElem? (i := 356) (by decide +kernel), List.mem_of_getElem? (i := 357) (by decide +kernel)⟩
theorem lw_p3 : lw_okq (⟨"ShapeDuel", "refusePlace", "([LShapeDuel$Strip;II)I"⟩, 16) := ⟨⟨by decide +kernel, by decide +kernel⟩, List.mem_of_getElem? (i := 18) (by decide +kernel), List.mem_of_getElem? (i := 370) (by decide +kernel), List.mem_of_getElem? (i := 371) (by decide +kernel)⟩
theorem lw_p4 : lw_okq (⟨"ShapeDuel", "refuseStrip", "([LShapeDuel$Strip;I)I"⟩, 16) := ⟨⟨by decide +kernel, by decide +kernel⟩, List.mem_of_getElem? (i := 18) (by decide +kernel), List.mem_of_getElem? (i := 374) (by decide +kernel), List.mem_of_getElem? (i := 375) (by decide +kernel)⟩
theorem lw_p5 : lw_okq (⟨"ShapeDuel", "tell", "(I)I"⟩, 16) := ⟨⟨by decide +kernel, by decide +kernel⟩, List.mem_of_getElem? (i := 18) (by decide +kernel), List.mem_of_getElem? (i := 382) (by decide +kernel), List.mem_of_getElem? (i := 383) (by decide +kernel)⟩
theorem lw_p6 : lw_okq (⟨"ShapeDuel$Strip", "holds", "(II)Z"⟩, 2) := ⟨⟨by decide +kernel, by decide +kernel⟩, List.mem_of_getElem? (i := 270) (by decide +kernel), List.mem_of_getElem? (i := 394) (by decide +kernel), List.mem_of_getElem? (i := 395) (by decide +kernel)⟩
theorem lw_p7 : lw_okq (⟨"ShapeDuel$Strip", "sum", "()J"⟩, 2) := ⟨⟨by decide +kernel, by decide +kernel⟩, List.mem_of_getElem? (i := 270) (by decide +kernel), List.mem_of_getElem? (i := 405) (by decide +kernel), List.mem_of_getElem? (i := 406) (by decide +kernel)⟩
theorem lw_p8 : lw_okq (⟨"ShapeDuel$Reader", "read", "(LShapeDuel$Strip;)I"⟩, 5) := ⟨⟨by decide +kernel, by decide +kernel⟩, List.mem_of_getElem? (i := 143) (by decide +kernel), List.mem_of_getElem? (i := 421) (by decide +kernel), List.mem_of_getElem? (i := 422) (by decide +kernel)⟩
theorem lw_p9 : lw_okq (⟨"ShapeDuel$Reader", "readItem", "(LShapeDuel$Strip;I)Z"⟩, 5) := ⟨⟨by decide +kernel, by decide +kernel⟩, List.mem_of_getElem? (i := 143) (by decide +kernel), List.mem_of_getElem? (i := 425) (by decide +kernel), List.mem_of_getElem? (i := 426) (by decide +kernel)⟩
theorem lw_p10 : lw_okq (⟨"ShapeDuel$Reader", "readChange", "(LShapeDuel$Strip;)Z"⟩, 5) := ⟨⟨by decide +kernel, by decide +kernel⟩, List.mem_of_getElem? (i := 143) (by decide +kernel), List.mem_of_getElem? (i := 429) (by decide +kernel), List.mem_of_getElem? (i := 430) (by decide +kernel)⟩
theorem lw_p11 : lw_okq (⟨"ShapeDuel$Reader", "figureFrom", "(LShapeDuel$Strip;II)I"⟩, 5) := ⟨⟨by decide +kernel, by decide +kernel⟩, List.mem_of_getElem? (i := 143) (by decide +kernel), List.mem_of_getElem? (i := 433) (by decide +kernel), List.mem_of_getElem? (i := 434) (by decide +kernel)⟩
theorem lw_p12 : lw_okq (⟨"ShapeDuel$Table", "changesFrom", "(I)I"⟩, 7) := ⟨⟨by decide +kernel, by decide +kernel⟩, List.mem_of_getElem? (i := 28) (by decide +kernel), List.mem_of_getElem? (i := 437) (by decide +kernel), List.mem_of_getElem? (i := 438) (by decide +kernel)⟩
theorem lw_p13 : lw_okq (⟨"ShapeDuel$Reader", "readFighter", "(LShapeDuel$Strip;)Z"⟩, 5) := ⟨⟨by decide +kernel, by decide +kernel⟩, List.mem_of_getElem? (i := 143) (by decide +kernel), List.mem_of_getElem? (i := 441) (by decide +kernel), List.mem_of_getElem? (i := 442) (by decide +kernel)⟩
theorem lw_p14 : lw_okq (⟨"ShapeDuel$Reader", "readShape", "(LShapeDuel$Strip;I)Z"⟩, 5) := ⟨⟨by decide +kernel, by decide +kernel⟩, List.mem_of_getElem? (i := 143) (by decide +kernel), List.mem_of_getElem? (i := 447) (by decide +kernel), List.mem_of_getElem? (i := 448) (by decide +kernel)⟩
theorem lw_p15 : lw_okq (⟨"ShapeDuel$Table", "takeOver", "(LShapeDuel$Table;)V"⟩, 7) := ⟨⟨by decide +kernel, by decide +kernel⟩, List.mem_of_getElem? (i := 28) (by decide +kernel), List.mem_of_getElem? (i := 455) (by decide +kernel), List.mem_of_getElem? (i := 456) (by decide +kernel)⟩
def lw_privs_1 : List (MethodName × Nat) := [(⟨"ShapeDuel", "layAnew", "([LShapeDuel$Strip;III)I"⟩, 16), (⟨"ShapeDuel", "find", "(I)I"⟩, 16), (⟨"ShapeDuel$Strip", "fillAnew", "(II)V"⟩, 2), (⟨"ShapeDuel", "refusePlace", "([LShapeDuel$Strip;II)I"⟩, 16), (⟨"ShapeDuel", "refuseStrip", "([LShapeDuel$Strip;I)I"⟩, 16), (⟨"ShapeDuel", "tell", "(I)I"⟩, 16), (⟨"ShapeDuel$Strip", "holds", "(II)Z"⟩, 2), (⟨"ShapeDuel$Strip", "sum", "()J"⟩, 2), (⟨"ShapeDuel$Reader", "read", "(LShapeDuel$Strip;)I"⟩, 5), (⟨"ShapeDuel$Reader", "readItem", "(LShapeDuel$Strip;I)Z"⟩, 5), (⟨"ShapeDuel$Reader", "readChange", "(LShapeDuel$Strip;)Z"⟩, 5), (⟨"ShapeDuel$Reader", "figureFrom", "(LShapeDuel$Strip;II)I"⟩, 5), (⟨"ShapeDuel$Table", "changesFrom", "(I)I"⟩, 7), (⟨"ShapeDuel$Reader", "readFighter", "(LShapeDuel$Strip;)Z"⟩, 5), (⟨"ShapeDuel$Reader", "readShape", "(LShapeDuel$Strip;I)Z"⟩, 5), (⟨"ShapeDuel$Table", "takeOver", "(LShapeDuel$Table;)V"⟩, 7)]
theorem lw_r1 : ∀ q ∈ lw_privs_1, lw_okq q := List.forall_mem_cons.mpr ⟨lw_p0, List.forall_mem_cons.mpr ⟨lw_p1, List.forall_mem_cons.mpr ⟨lw_p2, List.forall_mem_cons.mpr ⟨lw_p3, List.forall_mem_cons.mpr ⟨lw_p4, List.forall_mem_cons.mpr ⟨lw_p5, List.forall_mem_cons.mpr ⟨lw_p6, List.forall_mem_cons.mpr ⟨lw_p7, List.forall_mem_cons.mpr ⟨lw_p8, List.forall_mem_cons.mpr ⟨lw_p9, List.forall_mem_cons.mpr ⟨lw_p10, List.forall_mem_cons.mpr ⟨lw_p11, List.forall_mem_cons.mpr ⟨lw_p12, List.forall_mem_cons.mpr ⟨lw_p13, List.forall_mem_cons.mpr ⟨lw_p14, List.forall_mem_cons.mpr ⟨lw_p15, fun _ h => absurd h List.not_mem_nil⟩⟩⟩⟩⟩⟩⟩⟩⟩⟩⟩⟩⟩⟩⟩⟩
theorem lw_p16 : lw_okq (⟨"ShapeDuel$Fight", "begin", "([I[I)V"⟩, 6) := ⟨⟨by decide +kernel, by decide +kernel⟩, List.mem_of_getElem? (i := 78) (by decide +kernel), List.mem_of_getElem? (i := 460) (by decide +kernel), List.mem_of_getElem? (i := 461) (by decide +kernel)⟩
theorem lw_p17 : lw_okq (⟨"ShapeDuel$Table", "aboutShape", "(II)I"⟩, 7) := ⟨⟨by decide +kernel, by decide +kernel⟩, List.mem_of_getElem? (i := 28) (by decide +kernel), List.mem_of_getElem? (i := 468) (by decide +kernel), List.mem_of_getElem? (i := 469) (by decide +kernel)⟩
theorem lw_p18 : lw_okq (⟨"ShapeDuel$Table", "beatenBy", "(I)I"⟩, 7) := ⟨⟨by decide +kernel, by decide +kernel⟩, List.mem_of_getElem? (i := 28) (by decide +kernel), List.mem_of_getElem? (i := 472) (by decide +kernel), List.mem_of_getElem? (i := 473) (by decide +kernel)⟩
theorem lw_p19 : lw_okq (⟨"ShapeDuel$Table", "beats", "(II)Z"⟩, 7) := ⟨⟨by decide +kernel, by decide +kernel⟩, List.mem_of_getElem? (i := 28) (by decide +kernel), List.mem_of_getElem? (i := 476) (by decide +kernel), List.mem_of_getElem? (i := 477) (by decide +kernel)⟩
theorem lw_p20 : lw_okq (⟨"ShapeDuel$Table", "beatersOf", "(I)I"⟩, 7) := ⟨⟨by decide +kernel, by decide +kernel⟩, List.mem_of_getElem? (i := 28) (by decide +kernel), List.mem_of_getElem? (i := 483) (by decide +kernel), List.mem_of_getElem? (i := 484) (by decide +kernel)⟩
theorem lw_p21 : lw_okq (⟨"ShapeDuel$Table", "changesInto", "(I)I"⟩, 7) := ⟨⟨by decide +kernel, by decide +kernel⟩, List.mem_of_getElem? (i := 28) (by decide +kernel), List.mem_of_getElem? (i := 487) (by decide +kernel), List.mem_of_getElem? (i := 488) (by decide +kernel)⟩
theorem lw_p22 : lw_okq (⟨"ShapeDuel", "aboutChange", "(II)I"⟩, 16) := ⟨⟨by decide +kernel, by decide +kernel⟩, List.mem_of_getElem? (i := 18) (by decide +kernel), List.mem_of_getElem? (i := 495) (by decide +kernel), List.mem_of_getElem? (i := 496) (by decide +kernel)⟩
theorem lw_p23 : lw_okq (⟨"ShapeDuel$Fight", "whoKnows", "(I)I"⟩, 6) := ⟨⟨by decide +kernel, by decide +kernel⟩, List.mem_of_getElem? (i := 78) (by decide +kernel), List.mem_of_getElem? (i := 499) (by decide +kernel), List.mem_of_getElem? (i := 500) (by decide +kernel)⟩
theorem lw_p24 : lw_okq (⟨"ShapeDuel$Table", "isOf", "(II)Z"⟩, 7) := ⟨⟨by decide +kernel, by decide +kernel⟩, List.mem_of_getElem? (i := 28) (by decide +kernel), List.mem_of_getElem? (i := 508) (by decide +kernel), List.mem_of_getElem? (i := 509) (by decide +kernel)⟩
theorem lw_p25 : lw_okq (⟨"ShapeDuel$Table", "cheapestInto", "(I)I"⟩, 7) := ⟨⟨by decide +kernel, by decide +kernel⟩, List.mem_of_getElem? (i := 28) (by decide +kernel), List.mem_of_getElem? (i := 514) (by decide +kernel), List.mem_of_getElem? (i := 515) (by decide +kernel)⟩
theorem lw_p26 : lw_okq (⟨"ShapeDuel$Fight", "whoUsed", "(I)I"⟩, 6) := ⟨⟨by decide +kernel, by decide +kernel⟩, List.mem_of_getElem? (i := 78) (by decide +kernel), List.mem_of_getElem? (i := 518) (by decide +kernel), List.mem_of_getElem? (i := 519) (by decide +kernel)⟩
theorem lw_p27 : lw_okq (⟨"ShapeDuel$Table", "beastsToldToBeat", "(I)I"⟩, 7) := ⟨⟨by decide +kernel, by decide +kernel⟩, List.mem_of_getElem? (i := 28) (by decide +kernel), List.mem_of_getElem? (i := 530) (by decide +kernel), List.mem_of_getElem? (i := 531) (by decide +kernel)⟩
theorem lw_p28 : lw_okq (⟨"ShapeDuel", "isFighter", "(I)Z"⟩, 16) := ⟨⟨by decide +kernel, by decide +kernel⟩, List.mem_of_getElem? (i := 18) (by decide +kernel), List.mem_of_getElem? (i := 538) (by decide +kernel), List.mem_of_getElem? (i := 539) (by decide +kernel)⟩
theorem lw_p29 : lw_okq (⟨"ShapeDuel$Side", "about", "(I)I"⟩, 4) := ⟨⟨by decide +kernel, by decide +kernel⟩, List.mem_of_getElem? (i := 85) (by decide +kernel), List.mem_of_getElem? (i := 542) (by decide +kernel), List.mem_of_getElem? (i := 543) (by decide +kernel)⟩
theorem lw_p30 : lw_okq (⟨"ShapeDuel$Fight", "options", "(I)I"⟩, 6) := ⟨⟨by decide +kernel, by decide +kernel⟩, List.mem_of_getElem? (i := 78) (by decide +kernel), List.mem_of_getElem? (i := 566) (by decide +kernel), List.mem_of_getElem? (i := 567) (by decide +kernel)⟩
theorem lw_p31 : lw_okq (⟨"ShapeDuel$Fight", "takes", "(II)I"⟩, 6) := ⟨⟨by decide +kernel, by decide +kernel⟩, List.mem_of_getElem? (i := 78) (by decide +kernel), List.mem_of_getElem? (i := 570) (by decide +kernel), List.mem_of_getElem? (i := 571) (by decide +kernel)⟩
def lw_privs_2 : List (MethodName × Nat) := [(⟨"ShapeDuel$Fight", "begin", "([I[I)V"⟩, 6), (⟨"ShapeDuel$Table", "aboutShape", "(II)I"⟩, 7), (⟨"ShapeDuel$Table", "beatenBy", "(I)I"⟩, 7), (⟨"ShapeDuel$Table", "beats", "(II)Z"⟩, 7), (⟨"ShapeDuel$Table", "beatersOf", "(I)I"⟩, 7), (⟨"ShapeDuel$Table", "changesInto", "(I)I"⟩, 7), (⟨"ShapeDuel", "aboutChange", "(II)I"⟩, 16), (⟨"ShapeDuel$Fight", "whoKnows", "(I)I"⟩, 6), (⟨"ShapeDuel$Table", "isOf", "(II)Z"⟩, 7), (⟨"ShapeDuel$Table", "cheapestInto", "(I)I"⟩, 7), (⟨"ShapeDuel$Fight", "whoUsed", "(I)I"⟩, 6), (⟨"ShapeDuel$Table", "beastsToldToBeat", "(I)I"⟩, 7), (⟨"ShapeDuel", "isFighter", "(I)Z"⟩, 16), (⟨"ShapeDuel$Side", "about", "(I)I"⟩, 4), (⟨"ShapeDuel$Fight", "options", "(I)I"⟩, 6), (⟨"ShapeDuel$Fight", "takes", "(II)I"⟩, 6)]
theorem lw_r2 : ∀ q ∈ lw_privs_2, lw_okq q := List.forall_mem_cons.mpr ⟨lw_p16, List.forall_mem_cons.mpr ⟨lw_p17, List.forall_mem_cons.mpr ⟨lw_p18, List.forall_mem_cons.mpr ⟨lw_p19, List.forall_mem_cons.mpr ⟨lw_p20, List.forall_mem_cons.mpr ⟨lw_p21, List.forall_mem_cons.mpr ⟨lw_p22, List.forall_mem_cons.mpr ⟨lw_p23, List.forall_mem_cons.mpr ⟨lw_p24, List.forall_mem_cons.mpr ⟨lw_p25, List.forall_mem_cons.mpr ⟨lw_p26, List.forall_mem_cons.mpr ⟨lw_p27, List.forall_mem_cons.mpr ⟨lw_p28, List.forall_mem_cons.mpr ⟨lw_p29, List.forall_mem_cons.mpr ⟨lw_p30, List.forall_mem_cons.mpr ⟨lw_p31, fun _ h => absurd h List.not_mem_nil⟩⟩⟩⟩⟩⟩⟩⟩⟩⟩⟩⟩⟩⟩⟩⟩
theorem lw_p32 : lw_okq (⟨"ShapeDuel$Table", "price", "(II)I"⟩, 7) := ⟨⟨by decide +kernel, by decide +kernel⟩, List.mem_of_getElem? (i := 28) (by decide +kernel), List.mem_of_getElem? (i := 576) (by decide +kernel), List.mem_of_getElem? (i := 577) (by decide +kernel)⟩
theorem lw_p33 : lw_okq (⟨"ShapeDuel$Fight", "mover", "()I"⟩, 6) := ⟨⟨by decide +kernel, by decide +kernel⟩, List.mem_of_getElem? (i := 78) (by decide +kernel), List.mem_of_getElem? (i := 588) (by decide +kernel), List.mem_of_getElem? (i := 589) (by decide +kernel)⟩
theorem lw_p34 : lw_okq (⟨"ShapeDuel$Fight", "perform", "(II)Z"⟩, 6) := ⟨⟨by decide +kernel, by decide +kernel⟩, List.mem_of_getElem? (i := 78) (by decide +kernel), List.mem_of_getElem? (i := 597) (by decide +kernel), List.mem_of_getElem? (i := 598) (by decide +kernel)⟩
theorem lw_p35 : lw_okq (⟨"ShapeDuel$Fight", "packed", "()I"⟩, 6) := ⟨⟨by decide +kernel, by decide +kernel⟩, List.mem_of_getElem? (i := 78) (by decide +kernel), List.mem_of_getElem? (i := 601) (by decide +kernel), List.mem_of_getElem? (i := 602) (by decide +kernel)⟩
theorem lw_p36 : lw_okq (⟨"ShapeDuel$Side", "packed", "()I"⟩, 4) := ⟨⟨by decide +kernel, by decide +kernel⟩, List.mem_of_getElem? (i := 85) (by decide +kernel), List.mem_of_getElem? (i := 605) (by decide +kernel), List.mem_of_getElem? (i := 606) (by decide +kernel)⟩
theorem lw_p37 : lw_okq (⟨"ShapeDuel$Fight", "step", "(III)V"⟩, 6) := ⟨⟨by decide +kernel, by decide +kernel⟩, List.mem_of_getElem? (i := 78) (by decide +kernel), List.mem_of_getElem? (i := 610) (by decide +kernel), List.mem_of_getElem? (i := 611) (by decide +kernel)⟩
theorem lw_p38 : lw_okq (⟨"ShapeDuel$Fight", "takeBack", "(I)I"⟩, 6) := ⟨⟨by decide +kernel, by decide +kernel⟩, List.mem_of_getElem? (i := 78) (by decide +kernel), List.mem_of_getElem? (i := 618) (by decide +kernel), List.mem_of_getElem? (i := 619) (by decide +kernel)⟩
theorem lw_p39 : lw_okq (⟨"ShapeDuel$Fight", "unpack", "(I)V"⟩, 6) := ⟨⟨by decide +kernel, by decide +kernel⟩, List.mem_of_getElem? (i := 78) (by decide +kernel), List.mem_of_getElem? (i := 622) (by decide +kernel), List.mem_of_getElem? (i := 623) (by decide +kernel)⟩
theorem lw_p40 : lw_okq (⟨"ShapeDuel$Side", "unpack", "(I)V"⟩, 4) := ⟨⟨by decide +kernel, by decide +kernel⟩, List.mem_of_getElem? (i := 85) (by decide +kernel), List.mem_of_getElem? (i := 626) (by decide +kernel), List.mem_of_getElem? (i := 627) (by decide +kernel)⟩
theorem lw_p41 : lw_okq (⟨"ShapeDuel$Strip", "setTo", "([II)V"⟩, 2) := ⟨⟨by decide +kernel, by decide +kernel⟩, List.mem_of_getElem? (i := 270) (by decide +kernel), List.mem_of_getElem? (i := 634) (by decide +kernel), List.mem_of_getElem? (i := 635) (by decide +kernel)⟩
theorem lw_p42 : lw_okq (⟨"ShapeDuel$Fight", "takeOver", "(LShapeDuel$Fight;)V"⟩, 6) := ⟨⟨by decide +kernel, by decide +kernel⟩, List.mem_of_getElem? (i := 78) (by decide +kernel), List.mem_of_getElem? (i := 643) (by decide +kernel), List.mem_of_getElem? (i := 644) (by decide +kernel)⟩
theorem lw_p43 : lw_okq (⟨"ShapeDuel$Side", "takeOver", "(LShapeDuel$Side;)V"⟩, 4) := ⟨⟨by decide +kernel, by decide +kernel⟩, List.mem_of_getElem? (i := 85) (by decide +kernel), List.mem_of_getElem? (i := 647) (by decide +kernel), List.mem_of_getElem? (i := 648) (by decide +kernel)⟩
theorem lw_p44 : lw_okq (⟨"ShapeDuel$Search", "firstWinning", "()I"⟩, 4) := ⟨⟨by decide +kernel, by decide +kernel⟩, List.mem_of_getElem? (i := 189) (by decide +kernel), List.mem_of_getElem? (i := 660) (by decide +kernel), List.mem_of_getElem? (i := 661) (by decide +kernel)⟩
theorem lw_p45 : lw_okq (⟨"ShapeDuel$Memo", "forget", "()V"⟩, 3) := ⟨⟨by decide +kernel, by decide +kernel⟩, List.mem_of_getElem? (i := 170) (by decide +kernel), List.mem_of_getElem? (i := 664) (by decide +kernel), List.mem_of_getElem? (i := 665) (by decide +kernel)⟩
theorem lw_p46 : lw_okq (⟨"ShapeDuel$Search", "endsBehind", "(IIII)I"⟩, 4) := ⟨⟨by decide +kernel, by decide +kernel⟩, List.mem_of_getElem? (i := 189) (by decide +kernel), List.mem_of_getElem? (i := 670) (by decide +kernel), List.mem_of_getElem? (i := 671) (by decide +kernel)⟩
theorem lw_p47 : lw_okq (⟨"ShapeDuel$Search", "endsIn", "(II)I"⟩, 4) := ⟨⟨by decide +kernel, by decide +kernel⟩, List.mem_of_getElem? (i := 189) (by decide +kernel), List.mem_of_getElem? (i := 676) (by decide +kernel), List.mem_of_getElem? (i := 677) (by decide +kernel)⟩
def lw_privs_3 : List (MethodName × Nat) := [(⟨"ShapeDuel$Table", "price", "(II)I"⟩, 7), (⟨"ShapeDuel$Fight", "mover", "()I"⟩, 6), (⟨"ShapeDuel$Fight", "perform", "(II)Z"⟩, 6), (⟨"ShapeDuel$Fight", "packed", "()I"⟩, 6), (⟨"ShapeDuel$Side", "packed", "()I"⟩, 4), (⟨"ShapeDuel$Fight", "step", "(III)V"⟩, 6), (⟨"ShapeDuel$Fight", "takeBack", "(I)I"⟩, 6), (⟨"ShapeDuel$Fight", "unpack", "(I)V"⟩, 6), (⟨"ShapeDuel$Side", "unpack", "(I)V"⟩, 4), (⟨"ShapeDuel$Strip", "setTo", "([II)V"⟩, 2), (⟨"ShapeDuel$Fight", "takeOver", "(LShapeDuel$Fight;)V"⟩, 6), (⟨"ShapeDuel$Side", "takeOver", "(LShapeDuel$Side;)V"⟩, 4), (⟨"ShapeDuel$Search", "firstWinning", "()I"⟩, 4), (⟨"ShapeDuel$Memo", "forget", "()V"⟩, 3), (⟨"ShapeDuel$Search", "endsBehind", "(IIII)I"⟩, 4), (⟨"ShapeDuel$Search", "endsIn", "(II)I"⟩, 4)]
theorem lw_r3 : ∀ q ∈ lw_privs_3, lw_okq q := List.forall_mem_cons.mpr ⟨lw_p32, List.forall_mem_cons.mpr ⟨lw_p33, List.forall_mem_cons.mpr ⟨lw_p34, List.forall_mem_cons.mpr ⟨lw_p35, List.forall_mem_cons.mpr ⟨lw_p36, List.forall_mem_cons.mpr ⟨lw_p37, List.forall_mem_cons.mpr ⟨lw_p38, List.forall_mem_cons.mpr ⟨lw_p39, List.forall_mem_cons.mpr ⟨lw_p40, List.forall_mem_cons.mpr ⟨lw_p41, List.forall_mem_cons.mpr ⟨lw_p42, List.forall_mem_cons.mpr ⟨lw_p43, List.forall_mem_cons.mpr ⟨lw_p44, List.forall_mem_cons.mpr ⟨lw_p45, List.forall_mem_cons.mpr ⟨lw_p46, List.forall_mem_cons.mpr ⟨lw_p47, fun _ h => absurd h List.not_mem_nil⟩⟩⟩⟩⟩⟩⟩⟩⟩⟩⟩⟩⟩⟩⟩⟩
theorem lw_p48 : lw_okq (⟨"ShapeDuel$Memo", "keyOf", "(II)J"⟩, 3) := ⟨⟨by decide +kernel, by decide +kernel⟩, List.mem_of_getElem? (i := 170) (by decide +kernel), List.mem_of_getElem? (i := 680) (by decide +kernel), List.mem_of_getElem? (i := 681) (by decide +kernel)⟩
theorem lw_p49 : lw_okq (⟨"ShapeDuel$Memo", "slotFor", "(J)I"⟩, 3) := ⟨⟨by decide +kernel, by decide +kernel⟩, List.mem_of_getElem? (i := 170) (by decide +kernel), List.mem_of_getElem? (i := 684) (by decide +kernel), List.mem_of_getElem? (i := 685) (by decide +kernel)⟩
theorem lw_p50 : lw_okq (⟨"ShapeDuel$Memo", "has", "(IJ)Z"⟩, 3) := ⟨⟨by decide +kernel, by decide +kernel⟩, List.mem_of_getElem? (i := 170) (by decide +kernel), List.mem_of_getElem? (i := 689) (by decide +kernel), List.mem_of_getElem? (i := 690) (by decide +kernel)⟩
theorem lw_p51 : lw_okq (⟨"ShapeDuel$Memo", "store", "(JJ)V"⟩, 3) := ⟨⟨by decide +kernel, by decide +kernel⟩, List.mem_of_getElem? (i := 170) (by decide +kernel), List.mem_of_getElem? (i := 700) (by decide +kernel), List.mem_of_getElem? (i := 701) (by decide +kernel)⟩
theorem lw_p52 : lw_okq (⟨"ShapeDuel$Search", "length", "()I"⟩, 4) := ⟨⟨by decide +kernel, by decide +kernel⟩, List.mem_of_getElem? (i := 189) (by decide +kernel), List.mem_of_getElem? (i := 710) (by decide +kernel), List.mem_of_getElem? (i := 711) (by decide +kernel)⟩
theorem lw_p53 : lw_okq (⟨"ShapeDuel$Search", "bestLine", "(LShapeDuel$Strip;)V"⟩, 4) := ⟨⟨by decide +kernel, by decide +kernel⟩, List.mem_of_getElem? (i := 189) (by decide +kernel), List.mem_of_getElem? (i := 718) (by decide +kernel), List.mem_of_getElem? (i := 719) (by decide +kernel)⟩
theorem lw_p54 : lw_okq (⟨"ShapeDuel$Search", "firstWithRest", "(III)I"⟩, 4) := ⟨⟨by decide +kernel, by decide +kernel⟩, List.mem_of_getElem? (i := 189) (by decide +kernel), List.mem_of_getElem? (i := 724) (by decide +kernel), List.mem_of_getElem? (i := 725) (by decide +kernel)⟩
theorem lw_p55 : lw_okq (⟨"ShapeDuel$Search", "leastFire", "(I)I"⟩, 4) := ⟨⟨by decide +kernel, by decide +kernel⟩, List.mem_of_getElem? (i := 189) (by decide +kernel), List.mem_of_getElem? (i := 732) (by decide +kernel), List.mem_of_getElem? (i := 733) (by decide +kernel)⟩
theorem lw_p56 : lw_okq (⟨"ShapeDuel$Search", "isWonBy", "(I)Z"⟩, 4) := ⟨⟨by decide +kernel, by decide +kernel⟩, List.mem_of_getElem? (i := 189) (by decide +kernel), List.mem_of_getElem? (i := 736) (by decide +kernel), List.mem_of_getElem? (i := 737) (by decide +kernel)⟩
theorem lw_p57 : lw_okq (⟨"ShapeDuel$Search", "firstToLearn", "(I)I"⟩, 4) := ⟨⟨by decide +kernel, by decide +kernel⟩, List.mem_of_getElem? (i := 189) (by decide +kernel), List.mem_of_getElem? (i := 744) (by decide +kernel), List.mem_of_getElem? (i := 745) (by decide +kernel)⟩
theorem lw_p58 : lw_okq (⟨"ShapeDuel$Search", "needed", "(I)I"⟩, 4) := ⟨⟨by decide +kernel, by decide +kernel⟩, List.mem_of_getElem? (i := 189) (by decide +kernel), List.mem_of_getElem? (i := 753) (by decide +kernel), List.mem_of_getElem? (i := 754) (by decide +kernel)⟩
theorem lw_p59 : lw_okq (⟨"ShapeDuel$Search", "countRows", "(I)I"⟩, 4) := ⟨⟨by decide +kernel, by decide +kernel⟩, List.mem_of_getElem? (i := 189) (by decide +kernel), List.mem_of_getElem? (i := 761) (by decide +kernel), List.mem_of_getElem? (i := 762) (by decide +kernel)⟩
theorem lw_p60 : lw_okq (⟨"ShapeDuel$Search", "rowsFrom", "(II)I"⟩, 4) := ⟨⟨by decide +kernel, by decide +kernel⟩, List.mem_of_getElem? (i := 189) (by decide +kernel), List.mem_of_getElem? (i := 765) (by decide +kernel), List.mem_of_getElem? (i := 766) (by decide +kernel)⟩
theorem lw_p61 : lw_okq (⟨"ShapeDuel", "refuseTold", "(III)I"⟩, 16) := ⟨⟨by decide +kernel, by decide +kernel⟩, List.mem_of_getElem? (i := 18) (by decide +kernel), List.mem_of_getElem? (i := 774) (by decide +kernel), List.mem_of_getElem? (i := 775) (by decide +kernel)⟩
theorem lw_p62 : lw_okq (⟨"ShapeDuel$Strip", "allWithin", "(I)Z"⟩, 2) := ⟨⟨by decide +kernel, by decide +kernel⟩, List.mem_of_getElem? (i := 270) (by decide +kernel), List.mem_of_getElem? (i := 778) (by decide +kernel), List.mem_of_getElem? (i := 779) (by decide +kernel)⟩
theorem lw_p63 : lw_okq (⟨"ShapeDuel$Fight", "follow", "(LShapeDuel$Strip;)I"⟩, 6) := ⟨⟨by decide +kernel, by decide +kernel⟩, List.mem_of_getElem? (i := 78) (by decide +kernel), List.mem_of_getElem? (i := 784) (by decide +kernel), List.mem_of_getElem? (i := 785) (by decide +kernel)⟩
def lw_privs_4 : List (MethodName × Nat) := [(⟨"ShapeDuel$Memo", "keyOf", "(II)J"⟩, 3), (⟨"ShapeDuel$Memo", "slotFor", "(J)I"⟩, 3), (⟨"ShapeDuel$Memo", "has", "(IJ)Z"⟩, 3), (⟨"ShapeDuel$Memo", "store", "(JJ)V"⟩, 3), (⟨"ShapeDuel$Search", "length", "()I"⟩, 4), (⟨"ShapeDuel$Search", "bestLine", "(LShapeDuel$Strip;)V"⟩, 4), (⟨"ShapeDuel$Search", "firstWithRest", "(III)I"⟩, 4), (⟨"ShapeDuel$Search", "leastFire", "(I)I"⟩, 4), (⟨"ShapeDuel$Search", "isWonBy", "(I)Z"⟩, 4), (⟨"ShapeDuel$Search", "firstToLearn", "(I)I"⟩, 4), (⟨"ShapeDuel$Search", "needed", "(I)I"⟩, 4), (⟨"ShapeDuel$Search", "countRows", "(I)I"⟩, 4), (⟨"ShapeDuel$Search", "rowsFrom", "(II)I"⟩, 4), (⟨"ShapeDuel", "refuseTold", "(III)I"⟩, 16), (⟨"ShapeDuel$Strip", "allWithin", "(I)Z"⟩, 2), (⟨"ShapeDuel$Fight", "follow", "(LShapeDuel$Strip;)I"⟩, 6)]
theorem lw_r4 : ∀ q ∈ lw_privs_4, lw_okq q := List.forall_mem_cons.mpr ⟨lw_p48, List.forall_mem_cons.mpr ⟨lw_p49, List.forall_mem_cons.mpr ⟨lw_p50, List.forall_mem_cons.mpr ⟨lw_p51, List.forall_mem_cons.mpr ⟨lw_p52, List.forall_mem_cons.mpr ⟨lw_p53, List.forall_mem_cons.mpr ⟨lw_p54, List.forall_mem_cons.mpr ⟨lw_p55, List.forall_mem_cons.mpr ⟨lw_p56, List.forall_mem_cons.mpr ⟨lw_p57, List.forall_mem_cons.mpr ⟨lw_p58, List.forall_mem_cons.mpr ⟨lw_p59, List.forall_mem_cons.mpr ⟨lw_p60, List.forall_mem_cons.mpr ⟨lw_p61, List.forall_mem_cons.mpr ⟨lw_p62, List.forall_mem_cons.mpr ⟨lw_p63, fun _ h => absurd h List.not_mem_nil⟩⟩⟩⟩⟩⟩⟩⟩⟩⟩⟩⟩⟩⟩⟩⟩
theorem lw_p64 : lw_okq (⟨"ShapeDuel$Showing", "see", "(LShapeDuel$Strip;)V"⟩, 5) := ⟨⟨by decide +kernel, by decide +kernel⟩, List.mem_of_getElem? (i := 232) (by decide +kernel), List.mem_of_getElem? (i := 793) (by decide +kernel), List.mem_of_getElem? (i := 794) (by decide +kernel)⟩
theorem lw_p65 : lw_okq (⟨"ShapeDuel$Showing", "countWays", "()I"⟩, 5) := ⟨⟨by decide +kernel, by decide +kernel⟩, List.mem_of_getElem? (i := 232) (by decide +kernel), List.mem_of_getElem? (i := 799) (by decide +kernel), List.mem_of_getElem? (i := 800) (by decide +kernel)⟩
theorem lw_p66 : lw_okq (⟨"ShapeDuel$Showing", "waysFrom", "(I)I"⟩, 5) := ⟨⟨by decide +kernel, by decide +kernel⟩, List.mem_of_getElem? (i := 232) (by decide +kernel), List.mem_of_getElem? (i := 806) (by decide +kernel), List.mem_of_getElem? (i := 807) (by decide +kernel)⟩
theorem lw_p67 : lw_okq (⟨"ShapeDuel$Showing", "waysBy", "(II)I"⟩, 5) := ⟨⟨by decide +kernel, by decide +kernel⟩, List.mem_of_getElem? (i := 232) (by decide +kernel), List.mem_of_getElem? (i := 810) (by decide +kernel), List.mem_of_getElem? (i := 811) (by decide +kernel)⟩
theorem lw_p68 : lw_okq (⟨"ShapeDuel$Showing", "whoAt", "(I)I"⟩, 5) := ⟨⟨by decide +kernel, by decide +kernel⟩, List.mem_of_getElem? (i := 232) (by decide +kernel), List.mem_of_getElem? (i := 814) (by decide +kernel), List.mem_of_getElem? (i := 815) (by decide +kernel)⟩
theorem lw_p69 : lw_okq (⟨"ShapeDuel$Showing", "firstWay", "(LShapeDuel$Strip;)V"⟩, 5) := ⟨⟨by decide +kernel, by decide +kernel⟩, List.mem_of_getElem? (i := 232) (by decide +kernel), List.mem_of_getElem? (i := 823) (by decide +kernel), List.mem_of_getElem? (i := 824) (by decide +kernel)⟩
theorem lw_p70 : lw_okq (⟨"ShapeDuel$Showing", "firstAt", "(I)I"⟩, 5) := ⟨⟨by decide +kernel, by decide +kernel⟩, List.mem_of_getElem? (i := 232) (by decide +kernel), List.mem_of_getElem? (i := 828) (by decide +kernel), List.mem_of_getElem? (i := 829) (by decide +kernel)⟩
theorem lw_p71 : lw_okq (⟨"ShapeDuel$Showing", "inAllWays", "(I)I"⟩, 5) := ⟨⟨by decide +kernel, by decide +kernel⟩, List.mem_of_getElem? (i := 232) (by decide +kernel), List.mem_of_getElem? (i := 836) (by decide +kernel), List.mem_of_getElem? (i := 837) (by decide +kernel)⟩
theorem lw_p72 : lw_okq (⟨"ShapeDuel$Lottery", "chanceByLots", "()J"⟩, 5) := ⟨⟨by decide +kernel, by decide +kernel⟩, List.mem_of_getElem? (i := 209) (by decide +kernel), List.mem_of_getElem? (i := 846) (by decide +kernel), List.mem_of_getElem? (i := 847) (by decide +kernel)⟩
theorem lw_p73 : lw_okq (⟨"ShapeDuel$Lottery", "chance", "(II)J"⟩, 5) := ⟨⟨by decide +kernel, by decide +kernel⟩, List.mem_of_getElem? (i := 209) (by decide +kernel), List.mem_of_getElem? (i := 852) (by decide +kernel), List.mem_of_getElem? (i := 853) (by decide +kernel)⟩
theorem lw_p74 : lw_okq (⟨"ShapeDuel$Lottery", "chanceBy", "(IIII)J"⟩, 5) := ⟨⟨by decide +kernel, by decide +kernel⟩, List.mem_of_getElem? (i := 209) (by decide +kernel), List.mem_of_getElem? (i := 861) (by decide +kernel), List.mem_of_getElem? (i := 862) (by decide +kernel)⟩
theorem lw_p75 : lw_okq (⟨"ShapeDuel", "tellChance", "(J)V"⟩, 16) := ⟨⟨by decide +kernel, by decide +kernel⟩, List.mem_of_getElem? (i := 18) (by decide +kernel), List.mem_of_getElem? (i := 872) (by decide +kernel), List.mem_of_getElem? (i := 873) (by decide +kernel)⟩
theorem lw_p76 : lw_okq (⟨"ShapeDuel$Lottery", "bestChance", "()J"⟩, 5) := ⟨⟨by decide +kernel, by decide +kernel⟩, List.mem_of_getElem? (i := 209) (by decide +kernel), List.mem_of_getElem? (i := 885) (by decide +kernel), List.mem_of_getElem? (i := 886) (by decide +kernel)⟩
theorem lw_p77 : lw_okq (⟨"ShapeDuel$Lottery", "draw", "(II)I"⟩, 5) := ⟨⟨by decide +kernel, by decide +kernel⟩, List.mem_of_getElem? (i := 209) (by decide +kernel), List.mem_of_getElem? (i := 894) (by decide +kernel), List.mem_of_getElem? (i := 895) (by decide +kernel)⟩
theorem lw_p78 : lw_okq (⟨"ShapeDuel$Patterns", "countRings", "()I"⟩, 3) := ⟨⟨by decide +kernel, by decide +kernel⟩, List.mem_of_getElem? (i := 254) (by decide +kernel), List.mem_of_getElem? (i := 914) (by decide +kernel), List.mem_of_getElem? (i := 915) (by decide +kernel)⟩
theorem lw_p79 : lw_okq (⟨"ShapeDuel$Patterns", "smallestCover", "()I"⟩, 3) := ⟨⟨by decide +kernel, by decide +kernel⟩, List.mem_of_getElem? (i := 254) (by decide +kernel), List.mem_of_getElem? (i := 923) (by decide +kernel), List.mem_of_getElem? (i := 924) (by decide +kernel)⟩
def lw_privs_5 : List (MethodName × Nat) := [(⟨"ShapeDuel$Showing", "see", "(LShapeDuel$Strip;)V"⟩, 5), (⟨"ShapeDuel$Showing", "countWays", "()I"⟩, 5), (⟨"ShapeDuel$Showing", "waysFrom", "(I)I"⟩, 5), (⟨"ShapeDuel$Showing", "waysBy", "(II)I"⟩, 5), (⟨"ShapeDuel$Showing", "whoAt", "(I)I"⟩, 5), (⟨"ShapeDuel$Showing", "firstWay", "(LShapeDuel$Strip;)V"⟩, 5), (⟨"ShapeDuel$Showing", "firstAt", "(I)I"⟩, 5), (⟨"ShapeDuel$Showing", "inAllWays", "(I)I"⟩, 5), (⟨"ShapeDuel$Lottery", "chanceByLots", "()J"⟩, 5), (⟨"ShapeDuel$Lottery", "chance", "(II)J"⟩, 5), (⟨"ShapeDuel$Lottery", "chanceBy", "(IIII)J"⟩, 5), (⟨"ShapeDuel", "tellChance", "(J)V"⟩, 16), (⟨"ShapeDuel$Lottery", "bestChance", "()J"⟩, 5), (⟨"ShapeDuel$Lottery", "draw", "(II)I"⟩, 5), (⟨"ShapeDuel$Patterns", "countRings", "()I"⟩, 3), (⟨"ShapeDuel$Patterns", "smallestCover", "()I"⟩, 3)]
theorem lw_r5 : ∀ q ∈ lw_privs_5, lw_okq q := List.forall_mem_cons.mpr ⟨lw_p64, List.forall_mem_cons.mpr ⟨lw_p65, List.forall_mem_cons.mpr ⟨lw_p66, List.forall_mem_cons.mpr ⟨lw_p67, List.forall_mem_cons.mpr ⟨lw_p68, List.forall_mem_cons.mpr ⟨lw_p69, List.forall_mem_cons.mpr ⟨lw_p70, List.forall_mem_cons.mpr ⟨lw_p71, List.forall_mem_cons.mpr ⟨lw_p72, List.forall_mem_cons.mpr ⟨lw_p73, List.forall_mem_cons.mpr ⟨lw_p74, List.forall_mem_cons.mpr ⟨lw_p75, List.forall_mem_cons.mpr ⟨lw_p76, List.forall_mem_cons.mpr ⟨lw_p77, List.forall_mem_cons.mpr ⟨lw_p78, List.forall_mem_cons.mpr ⟨lw_p79, fun _ h => absurd h List.not_mem_nil⟩⟩⟩⟩⟩⟩⟩⟩⟩⟩⟩⟩⟩⟩⟩⟩
theorem lw_p80 : lw_okq (⟨"ShapeDuel$Patterns", "beatenByAny", "(I)I"⟩, 3) := ⟨⟨by decide +kernel, by decide +kernel⟩, List.mem_of_getElem? (i := 254) (by decide +kernel), List.mem_of_getElem? (i := 927) (by decide +kernel), List.mem_of_getElem? (i := 928) (by decide +kernel)⟩
theorem lw_p81 : lw_okq (⟨"ShapeDuel$Patterns", "countAlike", "()I"⟩, 3) := ⟨⟨by decide +kernel, by decide +kernel⟩, List.mem_of_getElem? (i := 254) (by decide +kernel), List.mem_of_getElem? (i := 938) (by decide +kernel), List.mem_of_getElem? (i := 939) (by decide +kernel)⟩
theorem lw_p82 : lw_okq (⟨"ShapeDuel$Patterns", "placingsFrom", "(II)I"⟩, 3) := ⟨⟨by decide +kernel, by decide +kernel⟩, List.mem_of_getElem? (i := 254) (by decide +kernel), List.mem_of_getElem? (i := 942) (by decide +kernel), List.mem_of_getElem? (i := 943) (by decide +kernel)⟩
theorem lw_p83 : lw_okq (⟨"ShapeDuel$Patterns", "noteMoved", "()V"⟩, 3) := ⟨⟨by decide +kernel, by decide +kernel⟩, List.mem_of_getElem? (i := 254) (by decide +kernel), List.mem_of_getElem? (i := 946) (by decide +kernel), List.mem_of_getElem? (i := 947) (by decide +kernel)⟩
theorem lw_p84 : lw_okq (⟨"ShapeDuel$Patterns", "fits", "(II)Z"⟩, 3) := ⟨⟨by decide +kernel, by decide +kernel⟩, List.mem_of_getElem? (i := 254) (by decide +kernel), List.mem_of_getElem? (i := 950) (by decide +kernel), List.mem_of_getElem? (i := 951) (by decide +kernel)⟩
theorem lw_p85 : lw_okq (⟨"ShapeDuel$Patterns", "firstBest", "()I"⟩, 3) := ⟨⟨by decide +kernel, by decide +kernel⟩, List.mem_of_getElem? (i := 254) (by decide +kernel), List.mem_of_getElem? (i := 958) (by decide +kernel), List.mem_of_getElem? (i := 959) (by decide +kernel)⟩
theorem lw_p86 : lw_okq (⟨"ShapeDuel$Table", "lead", "(I)I"⟩, 7) := ⟨⟨by decide +kernel, by decide +kernel⟩, List.mem_of_getElem? (i := 28) (by decide +kernel), List.mem_of_getElem? (i := 962) (by decide +kernel), List.mem_of_getElem? (i := 963) (by decide +kernel)⟩
theorem lw_p87 : lw_okq (⟨"ShapeDuel$Table", "countOf", "(I)I"⟩, 7) := ⟨⟨by decide +kernel, by decide +kernel⟩, List.mem_of_getElem? (i := 28) (by decide +kernel), List.mem_of_getElem? (i := 984) (by decide +kernel), List.mem_of_getElem? (i := 985) (by decide +kernel)⟩
theorem lw_p88 : lw_okq (⟨"ShapeDuel", "countKept", "()I"⟩, 16) := ⟨⟨by decide +kernel, by decide +kernel⟩, List.mem_of_getElem? (i := 18) (by decide +kernel), List.mem_of_getElem? (i := 991) (by decide +kernel), List.mem_of_getElem? (i := 992) (by decide +kernel)⟩
theorem lw_p89 : lw_okq (⟨"ShapeDuel", "digestNight", "(J)J"⟩, 16) := ⟨⟨by decide +kernel, by decide +kernel⟩, List.mem_of_getElem? (i := 18) (by decide +kernel), List.mem_of_getElem? (i := 1010) (by decide +kernel), List.mem_of_getElem? (i := 1011) (by decide +kernel)⟩
theorem lw_p90 : lw_okq (⟨"ShapeDuel$Strip", "mixInto", "(J)J"⟩, 2) := ⟨⟨by decide +kernel, by decide +kernel⟩, List.mem_of_getElem? (i := 270) (by decide +kernel), List.mem_of_getElem? (i := 1014) (by decide +kernel), List.mem_of_getElem? (i := 1015) (by decide +kernel)⟩
theorem lw_p91 : lw_okq (⟨"ShapeDuelModel", "found", "(I)I"⟩, 47) := ⟨⟨by decide +kernel, by decide +kernel⟩, List.mem_of_getElem? (i := 1019) (by decide +kernel), List.mem_of_getElem? (i := 1179) (by decide +kernel), List.mem_of_getElem? (i := 1180) (by decide +kernel)⟩
theorem lw_p92 : lw_okq (⟨"ShapeDuelModel", "anew", "(II)V"⟩, 47) := ⟨⟨by decide +kernel, by decide +kernel⟩, List.mem_of_getElem? (i := 1019) (by decide +kernel), List.mem_of_getElem? (i := 1183) (by decide +kernel), List.mem_of_getElem? (i := 1184) (by decide +kernel)⟩
theorem lw_p93 : lw_okq (⟨"ShapeDuelModel", "says", "(II)I"⟩, 47) := ⟨⟨by decide +kernel, by decide +kernel⟩, List.mem_of_getElem? (i := 1019) (by decide +kernel), List.mem_of_getElem? (i := 1191) (by decide +kernel), List.mem_of_getElem? (i := 1192) (by decide +kernel)⟩
theorem lw_p94 : lw_okq (⟨"ShapeDuelModel", "isPart", "(III)Z"⟩, 47) := ⟨⟨by decide +kernel, by decide +kernel⟩, List.mem_of_getElem? (i := 1019) (by decide +kernel), List.mem_of_getElem? (i := 1207) (by decide +kernel), List.mem_of_getElem? (i := 1208) (by decide +kernel)⟩
theorem lw_p95 : lw_okq (⟨"ShapeDuelModel", "faultOf", "(I)I"⟩, 47) := ⟨⟨by decide +kernel, by decide +kernel⟩, List.mem_of_getElem? (i := 1019) (by decide +kernel), List.mem_of_getElem? (i := 1231) (by decide +kernel), List.mem_of_getElem? (i := 1232) (by decide +kernel)⟩
def lw_privs_6 : List (MethodName × Nat) := [(⟨"ShapeDuel$Patterns", "beatenByAny", "(I)I"⟩, 3), (⟨"ShapeDuel$Patterns", "countAlike", "()I"⟩, 3), (⟨"ShapeDuel$Patterns", "placingsFrom", "(II)I"⟩, 3), (⟨"ShapeDuel$Patterns", "noteMoved", "()V"⟩, 3), (⟨"ShapeDuel$Patterns", "fits", "(II)Z"⟩, 3), (⟨"ShapeDuel$Patterns", "firstBest", "()I"⟩, 3), (⟨"ShapeDuel$Table", "lead", "(I)I"⟩, 7), (⟨"ShapeDuel$Table", "countOf", "(I)I"⟩, 7), (⟨"ShapeDuel", "countKept", "()I"⟩, 16), (⟨"ShapeDuel", "digestNight", "(J)J"⟩, 16), (⟨"ShapeDuel$Strip", "mixInto", "(J)J"⟩, 2), (⟨"ShapeDuelModel", "found", "(I)I"⟩, 47), (⟨"ShapeDuelModel", "anew", "(II)V"⟩, 47), (⟨"ShapeDuelModel", "says", "(II)I"⟩, 47), (⟨"ShapeDuelModel", "isPart", "(III)Z"⟩, 47), (⟨"ShapeDuelModel", "faultOf", "(I)I"⟩, 47)]
theorem lw_r6 : ∀ q ∈ lw_privs_6, lw_okq q := List.forall_mem_cons.mpr ⟨lw_p80, List.forall_mem_cons.mpr ⟨lw_p81, List.forall_mem_cons.mpr ⟨lw_p82, List.forall_mem_cons.mpr ⟨lw_p83, List.forall_mem_cons.mpr ⟨lw_p84, List.forall_mem_cons.mpr ⟨lw_p85, List.forall_mem_cons.mpr ⟨lw_p86, List.forall_mem_cons.mpr ⟨lw_p87, List.forall_mem_cons.mpr ⟨lw_p88, List.forall_mem_cons.mpr ⟨lw_p89, List.forall_mem_cons.mpr ⟨lw_p90, List.forall_mem_cons.mpr ⟨lw_p91, List.forall_mem_cons.mpr ⟨lw_p92, List.forall_mem_cons.mpr ⟨lw_p93, List.forall_mem_cons.mpr ⟨lw_p94, List.forall_mem_cons.mpr ⟨lw_p95, fun _ h => absurd h List.not_mem_nil⟩⟩⟩⟩⟩⟩⟩⟩⟩⟩⟩⟩⟩⟩⟩⟩
theorem lw_p96 : lw_okq (⟨"ShapeDuelModel", "byteAt", "()I"⟩, 47) := ⟨⟨by decide +kernel, by decide +kernel⟩, List.mem_of_getElem? (i := 1019) (by decide +kernel), List.mem_of_getElem? (i := 1235) (by decide +kernel), List.mem_of_getElem? (i := 1236) (by decide +kernel)⟩
theorem lw_p97 : lw_okq (⟨"ShapeDuelModel", "takesItem", "()Z"⟩, 47) := ⟨⟨by decide +kernel, by decide +kernel⟩, List.mem_of_getElem? (i := 1019) (by decide +kernel), List.mem_of_getElem? (i := 1239) (by decide +kernel), List.mem_of_getElem? (i := 1240) (by decide +kernel)⟩
theorem lw_p98 : lw_okq (⟨"ShapeDuelModel", "takesChange", "()Z"⟩, 47) := ⟨⟨by decide +kernel, by decide +kernel⟩, List.mem_of_getElem? (i := 1019) (by decide +kernel), List.mem_of_getElem? (i := 1243) (by decide +kernel), List.mem_of_getElem? (i := 1244) (by decide +kernel)⟩
theorem lw_p99 : lw_okq (⟨"ShapeDuelModel", "fromMany", "(I)I"⟩, 47) := ⟨⟨by decide +kernel, by decide +kernel⟩, List.mem_of_getElem? (i := 1019) (by decide +kernel), List.mem_of_getElem? (i := 1247) (by decide +kernel), List.mem_of_getElem? (i := 1248) (by decide +kernel)⟩
theorem lw_p100 : lw_okq (⟨"ShapeDuelModel", "takesFigure", "(II)I"⟩, 47) := ⟨⟨by decide +kernel, by decide +kernel⟩, List.mem_of_getElem? (i := 1019) (by decide +kernel), List.mem_of_getElem? (i := 1251) (by decide +kernel), List.mem_of_getElem? (i := 1252) (by decide +kernel)⟩
theorem lw_p101 : lw_okq (⟨"ShapeDuelModel", "takesFighter", "()Z"⟩, 47) := ⟨⟨by decide +kernel, by decide +kernel⟩, List.mem_of_getElem? (i := 1019) (by decide +kernel), List.mem_of_getElem? (i := 1255) (by decide +kernel), List.mem_of_getElem? (i := 1256) (by decide +kernel)⟩
theorem lw_p102 : lw_okq (⟨"ShapeDuelModel", "takesShape", "(I)Z"⟩, 47) := ⟨⟨by decide +kernel, by decide +kernel⟩, List.mem_of_getElem? (i := 1019) (by decide +kernel), List.mem_of_getElem? (i := 1262) (by decide +kernel), List.mem_of_getElem? (i := 1263) (by decide +kernel)⟩
theorem lw_p103 : lw_okq (⟨"ShapeDuelModel", "isShape", "(I)Z"⟩, 47) := ⟨⟨by decide +kernel, by decide +kernel⟩, List.mem_of_getElem? (i := 1019) (by decide +kernel), List.mem_of_getElem? (i := 1276) (by decide +kernel), List.mem_of_getElem? (i := 1277) (by decide +kernel)⟩
theorem lw_p104 : lw_okq (⟨"ShapeDuelModel", "shapeOf", "(II)I"⟩, 47) := ⟨⟨by decide +kernel, by decide +kernel⟩, List.mem_of_getElem? (i := 1019) (by decide +kernel), List.mem_of_getElem? (i := 1280) (by decide +kernel), List.mem_of_getElem? (i := 1281) (by decide +kernel)⟩
theorem lw_p105 : lw_okq (⟨"ShapeDuelModel", "beatsOf", "(I)I"⟩, 47) := ⟨⟨by decide +kernel, by decide +kernel⟩, List.mem_of_getElem? (i := 1019) (by decide +kernel), List.mem_of_getElem? (i := 1284) (by decide +kernel), List.mem_of_getElem? (i := 1285) (by decide +kernel)⟩
theorem lw_p106 : lw_okq (⟨"ShapeDuelModel", "beats", "(II)Z"⟩, 47) := ⟨⟨by decide +kernel, by decide +kernel⟩, List.mem_of_getElem? (i := 1019) (by decide +kernel), List.mem_of_getElem? (i := 1288) (by decide +kernel), List.mem_of_getElem? (i := 1289) (by decide +kernel)⟩
theorem lw_p107 : lw_okq (⟨"ShapeDuelModel", "beatenBy", "(I)I"⟩, 47) := ⟨⟨by decide +kernel, by decide +kernel⟩, List.mem_of_getElem? (i := 1019) (by decide +kernel), List.mem_of_getElem? (i := 1295) (by decide +kernel), List.mem_of_getElem? (i := 1296) (by decide +kernel)⟩
theorem lw_p108 : lw_okq (⟨"ShapeDuelModel", "leading", "(I)I"⟩, 47) := ⟨⟨by decide +kernel, by decide +kernel⟩, List.mem_of_getElem? (i := 1019) (by decide +kernel), List.mem_of_getElem? (i := 1299) (by decide +kernel), List.mem_of_getElem? (i := 1300) (by decide +kernel)⟩
theorem lw_p109 : lw_okq (⟨"ShapeDuelModel", "isChange", "(I)Z"⟩, 47) := ⟨⟨by decide +kernel, by decide +kernel⟩, List.mem_of_getElem? (i := 1019) (by decide +kernel), List.mem_of_getElem? (i := 1307) (by decide +kernel), List.mem_of_getElem? (i := 1308) (by decide +kernel)⟩
theorem lw_p110 : lw_okq (⟨"ShapeDuelModel", "changeOf", "(II)I"⟩, 47) := ⟨⟨by decide +kernel, by decide +kernel⟩, List.mem_of_getElem? (i := 1019) (by decide +kernel), List.mem_of_getElem? (i := 1311) (by decide +kernel), List.mem_of_getElem? (i := 1312) (by decide +kernel)⟩
theorem lw_p111 : lw_okq (⟨"ShapeDuelModel", "markOf", "(II)I"⟩, 47) := ⟨⟨by decide +kernel, by decide +kernel⟩, List.mem_of_getElem? (i := 1019) (by decide +kernel), List.mem_of_getElem? (i := 1319) (by decide +kernel), List.mem_of_getElem? (i := 1320) (by decide +kernel)⟩
def lw_privs_7 : List (MethodName × Nat) := [(⟨"ShapeDuelModel", "byteAt", "()I"⟩, 47), (⟨"ShapeDuelModel", "takesItem", "()Z"⟩, 47), (⟨"ShapeDuelModel", "takesChange", "()Z"⟩, 47), (⟨"ShapeDuelModel", "fromMany", "(I)I"⟩, 47), (⟨"ShapeDuelModel", "takesFigure", "(II)I"⟩, 47), (⟨"ShapeDuelModel", "takesFighter", "()Z"⟩, 47), (⟨"ShapeDuelModel", "takesShape", "(I)Z"⟩, 47), (⟨"ShapeDuelModel", "isShape", "(I)Z"⟩, 47), (⟨"ShapeDuelModel", "shapeOf", "(II)I"⟩, 47), (⟨"ShapeDuelModel", "beatsOf", "(I)I"⟩, 47), (⟨"ShapeDuelModel", "beats", "(II)Z"⟩, 47), (⟨"ShapeDuelModel", "beatenBy", "(I)I"⟩, 47), (⟨"ShapeDuelModel", "leading", "(I)I"⟩, 47), (⟨"ShapeDuelModel", "isChange", "(I)Z"⟩, 47), (⟨"ShapeDuelModel", "changeOf", "(II)I"⟩, 47), (⟨"ShapeDuelModel", "markOf", "(II)I"⟩, 47)]
theorem lw_r7 : ∀ q ∈ lw_privs_7, lw_okq q := List.forall_mem_cons.mpr ⟨lw_p96, List.forall_mem_cons.mpr ⟨lw_p97, List.forall_mem_cons.mpr ⟨lw_p98, List.forall_mem_cons.mpr ⟨lw_p99, List.forall_mem_cons.mpr ⟨lw_p100, List.forall_mem_cons.mpr ⟨lw_p101, List.forall_mem_cons.mpr ⟨lw_p102, List.forall_mem_cons.mpr ⟨lw_p103, List.forall_mem_cons.mpr ⟨lw_p104, List.forall_mem_cons.mpr ⟨lw_p105, List.forall_mem_cons.mpr ⟨lw_p106, List.forall_mem_cons.mpr ⟨lw_p107, List.forall_mem_cons.mpr ⟨lw_p108, List.forall_mem_cons.mpr ⟨lw_p109, List.forall_mem_cons.mpr ⟨lw_p110, List.forall_mem_cons.mpr ⟨lw_p111, fun _ h => absurd h List.not_mem_nil⟩⟩⟩⟩⟩⟩⟩⟩⟩⟩⟩⟩⟩⟩⟩⟩
theorem lw_p112 : lw_okq (⟨"ShapeDuelModel", "isFighter", "(I)Z"⟩, 47) := ⟨⟨by decide +kernel, by decide +kernel⟩, List.mem_of_getElem? (i := 1019) (by decide +kernel), List.mem_of_getElem? (i := 1330) (by decide +kernel), List.mem_of_getElem? (i := 1331) (by decide +kernel)⟩
theorem lw_p113 : lw_okq (⟨"ShapeDuelModel", "layRoot", "()V"⟩, 47) := ⟨⟨by decide +kernel, by decide +kernel⟩, List.mem_of_getElem? (i := 1019) (by decide +kernel), List.mem_of_getElem? (i := 1350) (by decide +kernel), List.mem_of_getElem? (i := 1351) (by decide +kernel)⟩
theorem lw_p114 : lw_okq (⟨"ShapeDuelModel", "canOf", "(II)I"⟩, 47) := ⟨⟨by decide +kernel, by decide +kernel⟩, List.mem_of_getElem? (i := 1019) (by decide +kernel), List.mem_of_getElem? (i := 1354) (by decide +kernel), List.mem_of_getElem? (i := 1355) (by decide +kernel)⟩
theorem lw_p115 : lw_okq (⟨"ShapeDuelModel", "canBe", "(III)Z"⟩, 47) := ⟨⟨by decide +kernel, by decide +kernel⟩, List.mem_of_getElem? (i := 1019) (by decide +kernel), List.mem_of_getElem? (i := 1358) (by decide +kernel), List.mem_of_getElem? (i := 1359) (by decide +kernel)⟩
theorem lw_p116 : lw_okq (⟨"ShapeDuelModel", "takes", "(III)I"⟩, 47) := ⟨⟨by decide +kernel, by decide +kernel⟩, List.mem_of_getElem? (i := 1019) (by decide +kernel), List.mem_of_getElem? (i := 1362) (by decide +kernel), List.mem_of_getElem? (i := 1363) (by decide +kernel)⟩
theorem lw_p117 : lw_okq (⟨"ShapeDuelModel", "does", "(I)V"⟩, 47) := ⟨⟨by decide +kernel, by decide +kernel⟩, List.mem_of_getElem? (i := 1019) (by decide +kernel), List.mem_of_getElem? (i := 1374) (by decide +kernel), List.mem_of_getElem? (i := 1375) (by decide +kernel)⟩
theorem lw_p118 : lw_okq (⟨"ShapeDuelModel", "dives", "(II)V"⟩, 47) := ⟨⟨by decide +kernel, by decide +kernel⟩, List.mem_of_getElem? (i := 1019) (by decide +kernel), List.mem_of_getElem? (i := 1378) (by decide +kernel), List.mem_of_getElem? (i := 1379) (by decide +kernel)⟩
theorem lw_p119 : lw_okq (⟨"ShapeDuelModel", "moverAt", "(I)I"⟩, 47) := ⟨⟨by decide +kernel, by decide +kernel⟩, List.mem_of_getElem? (i := 1019) (by decide +kernel), List.mem_of_getElem? (i := 1382) (by decide +kernel), List.mem_of_getElem? (i := 1383) (by decide +kernel)⟩
theorem lw_p120 : lw_okq (⟨"ShapeDuelModel", "score", "()I"⟩, 47) := ⟨⟨by decide +kernel, by decide +kernel⟩, List.mem_of_getElem? (i := 1019) (by decide +kernel), List.mem_of_getElem? (i := 1407) (by decide +kernel), List.mem_of_getElem? (i := 1408) (by decide +kernel)⟩
theorem lw_p121 : lw_okq (⟨"ShapeDuelModel", "nextChange", "(I)I"⟩, 47) := ⟨⟨by decide +kernel, by decide +kernel⟩, List.mem_of_getElem? (i := 1019) (by decide +kernel), List.mem_of_getElem? (i := 1411) (by decide +kernel), List.mem_of_getElem? (i := 1412) (by decide +kernel)⟩
theorem lw_p122 : lw_okq (⟨"ShapeDuelModel", "doesWin", "(I)Z"⟩, 47) := ⟨⟨by decide +kernel, by decide +kernel⟩, List.mem_of_getElem? (i := 1019) (by decide +kernel), List.mem_of_getElem? (i := 1430) (by decide +kernel), List.mem_of_getElem? (i := 1431) (by decide +kernel)⟩
theorem lw_p123 : lw_okq (⟨"ShapeDuelModel", "bars", "(III)I"⟩, 47) := ⟨⟨by decide +kernel, by decide +kernel⟩, List.mem_of_getElem? (i := 1019) (by decide +kernel), List.mem_of_getElem? (i := 1451) (by decide +kernel), List.mem_of_getElem? (i := 1452) (by decide +kernel)⟩
theorem lw_p124 : lw_okq (⟨"ShapeDuelModel", "findShown", "(I)V"⟩, 47) := ⟨⟨by decide +kernel, by decide +kernel⟩, List.mem_of_getElem? (i := 1019) (by decide +kernel), List.mem_of_getElem? (i := 1459) (by decide +kernel), List.mem_of_getElem? (i := 1460) (by decide +kernel)⟩
theorem lw_p125 : lw_okq (⟨"ShapeDuelModel", "notesShown", "(I)V"⟩, 47) := ⟨⟨by decide +kernel, by decide +kernel⟩, List.mem_of_getElem? (i := 1019) (by decide +kernel), List.mem_of_getElem? (i := 1463) (by decide +kernel), List.mem_of_getElem? (i := 1464) (by decide +kernel)⟩
theorem lw_p126 : lw_okq (⟨"ShapeDuelModel", "chancesTold", "(Z)I"⟩, 47) := ⟨⟨by decide +kernel, by decide +kernel⟩, List.mem_of_getElem? (i := 1019) (by decide +kernel), List.mem_of_getElem? (i := 1475) (by decide +kernel), List.mem_of_getElem? (i := 1476) (by decide +kernel)⟩
theorem lw_p127 : lw_okq (⟨"ShapeDuelModel", "chances", "(Z)I"⟩, 47) := ⟨⟨by decide +kernel, by decide +kernel⟩, List.mem_of_getElem? (i := 1019) (by decide +kernel), List.mem_of_getElem? (i := 1479) (by decide +kernel), List.mem_of_getElem? (i := 1480) (by decide +kernel)⟩
def lw_privs_8 : List (MethodName × Nat) := [(⟨"ShapeDuelModel", "isFighter", "(I)Z"⟩, 47), (⟨"ShapeDuelModel", "layRoot", "()V"⟩, 47), (⟨"ShapeDuelModel", "canOf", "(II)I"⟩, 47), (⟨"ShapeDuelModel", "canBe", "(III)Z"⟩, 47), (⟨"ShapeDuelModel", "takes", "(III)I"⟩, 47), (⟨"ShapeDuelModel", "does", "(I)V"⟩, 47), (⟨"ShapeDuelModel", "dives", "(II)V"⟩, 47), (⟨"ShapeDuelModel", "moverAt", "(I)I"⟩, 47), (⟨"ShapeDuelModel", "score", "()I"⟩, 47), (⟨"ShapeDuelModel", "nextChange", "(I)I"⟩, 47), (⟨"ShapeDuelModel", "doesWin", "(I)Z"⟩, 47), (⟨"ShapeDuelModel", "bars", "(III)I"⟩, 47), (⟨"ShapeDuelModel", "findShown", "(I)V"⟩, 47), (⟨"ShapeDuelModel", "notesShown", "(I)V"⟩, 47), (⟨"ShapeDuelModel", "chancesTold", "(Z)I"⟩, 47), (⟨"ShapeDuelModel", "chances", "(Z)I"⟩, 47)]
theorem lw_r8 : ∀ q ∈ lw_privs_8, lw_okq q := List.forall_mem_cons.mpr ⟨lw_p112, List.forall_mem_cons.mpr ⟨lw_p113, List.forall_mem_cons.mpr ⟨lw_p114, List.forall_mem_cons.mpr ⟨lw_p115, List.forall_mem_cons.mpr ⟨lw_p116, List.forall_mem_cons.mpr ⟨lw_p117, List.forall_mem_cons.mpr ⟨lw_p118, List.forall_mem_cons.mpr ⟨lw_p119, List.forall_mem_cons.mpr ⟨lw_p120, List.forall_mem_cons.mpr ⟨lw_p121, List.forall_mem_cons.mpr ⟨lw_p122, List.forall_mem_cons.mpr ⟨lw_p123, List.forall_mem_cons.mpr ⟨lw_p124, List.forall_mem_cons.mpr ⟨lw_p125, List.forall_mem_cons.mpr ⟨lw_p126, List.forall_mem_cons.mpr ⟨lw_p127, fun _ h => absurd h List.not_mem_nil⟩⟩⟩⟩⟩⟩⟩⟩⟩⟩⟩⟩⟩⟩⟩⟩
theorem lw_p128 : lw_okq (⟨"ShapeDuelModel", "isChance", "(IJ)V"⟩, 47) := ⟨⟨by decide +kernel, by decide +kernel⟩, List.mem_of_getElem? (i := 1019) (by decide +kernel), List.mem_of_getElem? (i := 1483) (by decide +kernel), List.mem_of_getElem? (i := 1484) (by decide +kernel)⟩
theorem lw_p129 : lw_okq (⟨"ShapeDuelModel", "closes", "(IZ)V"⟩, 47) := ⟨⟨by decide +kernel, by decide +kernel⟩, List.mem_of_getElem? (i := 1019) (by decide +kernel), List.mem_of_getElem? (i := 1487) (by decide +kernel), List.mem_of_getElem? (i := 1488) (by decide +kernel)⟩
theorem lw_p130 : lw_okq (⟨"ShapeDuelModel", "lowest", "(I)V"⟩, 47) := ⟨⟨by decide +kernel, by decide +kernel⟩, List.mem_of_getElem? (i := 1019) (by decide +kernel), List.mem_of_getElem? (i := 1491) (by decide +kernel), List.mem_of_getElem? (i := 1492) (by decide +kernel)⟩
theorem lw_p131 : lw_okq (⟨"ShapeDuelModel", "isMore", "(JJI)Z"⟩, 47) := ⟨⟨by decide +kernel, by decide +kernel⟩, List.mem_of_getElem? (i := 1019) (by decide +kernel), List.mem_of_getElem? (i := 1498) (by decide +kernel), List.mem_of_getElem? (i := 1499) (by decide +kernel)⟩
theorem lw_p132 : lw_okq (⟨"ShapeDuelModel", "adds", "(IJJ)V"⟩, 47) := ⟨⟨by decide +kernel, by decide +kernel⟩, List.mem_of_getElem? (i := 1019) (by decide +kernel), List.mem_of_getElem? (i := 1502) (by decide +kernel), List.mem_of_getElem? (i := 1503) (by decide +kernel)⟩
theorem lw_p133 : lw_okq (⟨"ShapeDuelModel", "countOf", "(I)I"⟩, 47) := ⟨⟨by decide +kernel, by decide +kernel⟩, List.mem_of_getElem? (i := 1019) (by decide +kernel), List.mem_of_getElem? (i := 1551) (by decide +kernel), List.mem_of_getElem? (i := 1552) (by decide +kernel)⟩
theorem lw_p134 : lw_okq (⟨"ShapeDuelModel", "kindsMany", "(II)I"⟩, 47) := ⟨⟨by decide +kernel, by decide +kernel⟩, List.mem_of_getElem? (i := 1019) (by decide +kernel), List.mem_of_getElem? (i := 1555) (by decide +kernel), List.mem_of_getElem? (i := 1556) (by decide +kernel)⟩
theorem lw_p135 : lw_okq (⟨"ShapeDuelModel", "thereMany", "(I)I"⟩, 47) := ⟨⟨by decide +kernel, by decide +kernel⟩, List.mem_of_getElem? (i := 1019) (by decide +kernel), List.mem_of_getElem? (i := 1559) (by decide +kernel), List.mem_of_getElem? (i := 1560) (by decide +kernel)⟩
theorem lw_p136 : lw_okq (⟨"ShapeDuelModel", "mix", "(J)V"⟩, 47) := ⟨⟨by decide +kernel, by decide +kernel⟩, List.mem_of_getElem? (i := 1019) (by decide +kernel), List.mem_of_getElem? (i := 1576) (by decide +kernel), List.mem_of_getElem? (i := 1577) (by decide +kernel)⟩
def lw_privs_9 : List (MethodName × Nat) := [(⟨"ShapeDuelModel", "isChance", "(IJ)V"⟩, 47), (⟨"ShapeDuelModel", "closes", "(IZ)V"⟩, 47), (⟨"ShapeDuelModel", "lowest", "(I)V"⟩, 47), (⟨"ShapeDuelModel", "isMore", "(JJI)Z"⟩, 47), (⟨"ShapeDuelModel", "adds", "(IJJ)V"⟩, 47), (⟨"ShapeDuelModel", "countOf", "(I)I"⟩, 47), (⟨"ShapeDuelModel", "kindsMany", "(II)I"⟩, 47), (⟨"ShapeDuelModel", "thereMany", "(I)I"⟩, 47), (⟨"ShapeDuelModel", "mix", "(J)V"⟩, 47)]
theorem lw_r9 : ∀ q ∈ lw_privs_9, lw_okq q := List.forall_mem_cons.mpr ⟨lw_p128, List.forall_mem_cons.mpr ⟨lw_p129, List.forall_mem_cons.mpr ⟨lw_p130, List.forall_mem_cons.mpr ⟨lw_p131, List.forall_mem_cons.mpr ⟨lw_p132, List.forall_mem_cons.mpr ⟨lw_p133, List.forall_mem_cons.mpr ⟨lw_p134, List.forall_mem_cons.mpr ⟨lw_p135, List.forall_mem_cons.mpr ⟨lw_p136, fun _ h => absurd h List.not_mem_nil⟩⟩⟩⟩⟩⟩⟩⟩⟩
def lw_privs : List (MethodName × Nat) := lw_privs_1 ++ (lw_privs_2 ++ (lw_privs_3 ++ (lw_privs_4 ++ (lw_privs_5 ++ (lw_privs_6 ++ (lw_privs_7 ++ (lw_privs_8 ++ (lw_privs_9))))))))
def lw_tbl : List Cond := k2_sels lw_privs ++ tables_1
theorem lw_privs_ok : ∀ q ∈ lw_privs, lw_okq q := by
  show ∀ q ∈ lw_privs_1 ++ (lw_privs_2 ++ (lw_privs_3 ++ (lw_privs_4 ++ (lw_privs_5 ++ (lw_privs_6 ++ (lw_privs_7 ++ (lw_privs_8 ++ (lw_privs_9)))))))), lw_okq q
  exact List.forall_mem_append.mpr ⟨lw_r1, List.forall_mem_append.mpr ⟨lw_r2, List.forall_mem_append.mpr ⟨lw_r3, List.forall_mem_append.mpr ⟨lw_r4, List.forall_mem_append.mpr ⟨lw_r5, List.forall_mem_append.mpr ⟨lw_r6, List.forall_mem_append.mpr ⟨lw_r7, List.forall_mem_append.mpr ⟨lw_r8, lw_r9⟩⟩⟩⟩⟩⟩⟩⟩
def RX0 : String := "ShapeDuel$Fight"
def TX0 : u_T := fun k => match k with
  | 0 => ("ShapeDuel$Fight", "table", "LShapeDuel$Table;", true)
  | 1 => ("ShapeDuel$Fight", "there", "Z", false)
  | 2 => ("ShapeDuel$Fight", "sides", "[LShapeDuel$Side;", true)
  | 3 => ("ShapeDuel$Fight", "done", "[I", true)
  | 4 => ("ShapeDuel$Fight", "ahead", "[I", true)
  | _ => ("ShapeDuel$Fight", "size", "I", false)
def tyX0 : Nat → FieldType := fun k => match k with
  | 0 => .object "ShapeDuel$Table"
  | 1 => .boolean
  | 2 => .array (.object "ShapeDuel$Side")
  | 3 => .array (.int)
  | 4 => .array (.int)
  | _ => .int
theorem nmX0 : ∀ a, a < 6 → ∀ b, b < 6 → a ≠ b → (TX0 a).2.1 ≠ (TX0 b).2.1 := by decide +kernel
theorem tyX0_ok : ∀ k, k < 6 → parseFieldDescriptor (TX0 k).2.2.1 = some (tyX0 k) := by decide +kernel
def RX1 : String := "ShapeDuel$Lottery"
def TX1 : u_T := fun k => match k with
  | 0 => ("ShapeDuel$Lottery", "fight", "LShapeDuel$Fight;", true)
  | 1 => ("ShapeDuel$Lottery", "table", "LShapeDuel$Table;", true)
  | 2 => ("ShapeDuel$Lottery", "memo", "LShapeDuel$Memo;", true)
  | 3 => ("ShapeDuel$Lottery", "chooser", "I", false)
  | _ => ("ShapeDuel$Lottery", "bestChange", "I", false)
def tyX1 : Nat → FieldType := fun k => match k with
  | 0 => .object "ShapeDuel$Fight"
  | 1 => .object "ShapeDuel$Table"
  | 2 => .object "ShapeDuel$Memo"
  | 3 => .int
  | _ => .int
theorem nmX1 : ∀ a, a < 5 → ∀ b, b < 5 → a ≠ b → (TX1 a).2.1 ≠ (TX1 b).2.1 := by decide +kernel
theorem tyX1_ok : ∀ k, k < 5 → parseFieldDescriptor (TX1 k).2.2.1 = some (tyX1 k) := by decide +kernel
def RX2 : String := "ShapeDuel$Memo"
def TX2 : u_T := fun k => match k with
  | 0 => ("ShapeDuel$Memo", "keys", "[J", true)
  | 1 => ("ShapeDuel$Memo", "values", "[J", true)
  | _ => ("ShapeDuel$Memo", "era", "J", false)
def tyX2 : Nat → FieldType := fun k => match k with
  | 0 => .array (.long)
  | 1 => .array (.long)
  | _ => .long
theorem nmX2 : ∀ a, a < 3 → ∀ b, b < 3 → a ≠ b → (TX2 a).2.1 ≠ (TX2 b).2.1 := by decide +kernel
theorem tyX2_ok : ∀ k, k < 3 → parseFieldDescriptor (TX2 k).2.2.1 = some (tyX2 k) := by decide +kernel
def RX3 : String := "ShapeDuel$Patterns"
def TX3 : u_T := fun k => match k with
  | 0 => ("ShapeDuel$Patterns", "table", "LShapeDuel$Table;", true)
  | 1 => ("ShapeDuel$Patterns", "newPlace", "[I", true)
  | _ => ("ShapeDuel$Patterns", "which", "I", false)
def tyX3 : Nat → FieldType := fun k => match k with
  | 0 => .object "ShapeDuel$Table"
  | 1 => .array (.int)
  | _ => .int
theorem nmX3 : ∀ a, a < 3 → ∀ b, b < 3 → a ≠ b → (TX3 a).2.1 ≠ (TX3 b).2.1 := by decide +kernel
theorem tyX3_ok : ∀ k, k < 3 → parseFieldDescriptor (TX3 k).2.2.1 = some (tyX3 k) := by decide +kernel
def RX4 : String := "ShapeDuel$Reader"
def TX4 : u_T := fun k => match k with
  | 0 => ("ShapeDuel$Reader", "draft", "LShapeDuel$Table;", true)
  | 1 => ("ShapeDuel$Reader", "startShape", "[I", true)
  | 2 => ("ShapeDuel$Reader", "startFire", "[I", true)
  | 3 => ("ShapeDuel$Reader", "fighters", "I", false)
  | _ => ("ShapeDuel$Reader", "place", "I", false)
def tyX4 : Nat → FieldType := fun k => match k with
  | 0 => .object "ShapeDuel$Table"
  | 1 => .array (.int)
  | 2 => .array (.int)
  | 3 => .int
  | _ => .int
theorem nmX4 : ∀ a, a < 5 → ∀ b, b < 5 → a ≠ b → (TX4 a).2.1 ≠ (TX4 b).2.1 := by decide +kernel
theorem tyX4_ok : ∀ k, k < 5 → parseFieldDescriptor (TX4 k).2.2.1 = some (tyX4 k) := by decide +kernel
def RX5 : String := "ShapeDuel$Search"
def TX5 : u_T := fun k => match k with
  | 0 => ("ShapeDuel$Search", "fight", "LShapeDuel$Fight;", true)
  | 1 => ("ShapeDuel$Search", "table", "LShapeDuel$Table;", true)
  | 2 => ("ShapeDuel$Search", "memo", "LShapeDuel$Memo;", true)
  | _ => ("ShapeDuel$Search", "endedRows", "I", false)
def tyX5 : Nat → FieldType := fun k => match k with
  | 0 => .object "ShapeDuel$Fight"
  | 1 => .object "ShapeDuel$Table"
  | 2 => .object "ShapeDuel$Memo"
  | _ => .int
theorem nmX5 : ∀ a, a < 4 → ∀ b, b < 4 → a ≠ b → (TX5 a).2.1 ≠ (TX5 b).2.1 := by decide +kernel
theorem tyX5_ok : ∀ k, k < 4 → parseFieldDescriptor (TX5 k).2.2.1 = some (tyX5 k) := by decide +kernel
def RX6 : String := "ShapeDuel$Showing"
def TX6 : u_T := fun k => match k with
  | 0 => ("ShapeDuel$Showing", "fight", "LShapeDuel$Fight;", true)
  | 1 => ("ShapeDuel$Showing", "table", "LShapeDuel$Table;", true)
  | 2 => ("ShapeDuel$Showing", "shapes", "[I", true)
  | 3 => ("ShapeDuel$Showing", "size", "I", false)
  | _ => ("ShapeDuel$Showing", "ways", "[I", true)
def tyX6 : Nat → FieldType := fun k => match k with
  | 0 => .object "ShapeDuel$Fight"
  | 1 => .object "ShapeDuel$Table"
  | 2 => .array (.int)
  | 3 => .int
  | _ => .array (.int)
theorem nmX6 : ∀ a, a < 5 → ∀ b, b < 5 → a ≠ b → (TX6 a).2.1 ≠ (TX6 b).2.1 := by decide +kernel
theorem tyX6_ok : ∀ k, k < 5 → parseFieldDescriptor (TX6 k).2.2.1 = some (tyX6 k) := by decide +kernel
def RX7 : String := "ShapeDuel$Side"
def TX7 : u_T := fun k => match k with
  | 0 => ("ShapeDuel$Side", "shape", "I", false)
  | 1 => ("ShapeDuel$Side", "fire", "I", false)
  | 2 => ("ShapeDuel$Side", "used", "I", false)
  | _ => ("ShapeDuel$Side", "knows", "I", false)
def tyX7 : Nat → FieldType := fun k => match k with
  | 0 => .int
  | 1 => .int
  | 2 => .int
  | _ => .int
theorem nmX7 : ∀ a, a < 4 → ∀ b, b < 4 → a ≠ b → (TX7 a).2.1 ≠ (TX7 b).2.1 := by decide +kernel
theorem tyX7_ok : ∀ k, k < 4 → parseFieldDescriptor (TX7 k).2.2.1 = some (tyX7 k) := by decide +kernel
def RX8 : String := "ShapeDuel$Strip"
def TX8 : u_T := fun k => match k with
  | 0 => ("ShapeDuel$Strip", "cells", "[I", true)
  | _ => ("ShapeDuel$Strip", "size", "I", false)
def tyX8 : Nat → FieldType := fun k => match k with
  | 0 => .array (.int)
  | _ => .int
theorem nmX8 : ∀ a, a < 2 → ∀ b, b < 2 → a ≠ b → (TX8 a).2.1 ≠ (TX8 b).2.1 := by decide +kernel
theorem tyX8_ok : ∀ k, k < 2 → parseFieldDescriptor (TX8 k).2.2.1 = some (tyX8 k) := by decide +kernel
def RX9 : String := "ShapeDuel$Table"
def TX9 : u_T := fun k => match k with
  | 0 => ("ShapeDuel$Table", "shapes", "I", false)
  | 1 => ("ShapeDuel$Table", "kinds", "[I", true)
  | 2 => ("ShapeDuel$Table", "told", "[I", true)
  | 3 => ("ShapeDuel$Table", "changes", "I", false)
  | 4 => ("ShapeDuel$Table", "from", "[I", true)
  | 5 => ("ShapeDuel$Table", "into", "[I", true)
  | _ => ("ShapeDuel$Table", "cost", "[I", true)
def tyX9 : Nat → FieldType := fun k => match k with
  | 0 => .int
  | 1 => .array (.int)
  | 2 => .array (.int)
  | 3 => .int
  | 4 => .array (.int)
  | 5 => .array (.int)
  | _ => .array (.int)
theorem nmX9 : ∀ a, a < 7 → ∀ b, b < 7 → a ≠ b → (TX9 a).2.1 ≠ (TX9 b).2.1 := by decide +kernel
theorem tyX9_ok : ∀ k, k < 7 → parseFieldDescriptor (TX9 k).2.2.1 = some (tyX9 k) := by decide +kernel
def RX10 : String := "ShapeDuel"
def TX10 : u_T := fun k => match k with
  | 0 => ("ShapeDuel", "rows", "[LShapeDuel$Strip;", true)
  | 1 => ("ShapeDuel", "texts", "[LShapeDuel$Strip;", true)
  | 2 => ("ShapeDuel", "table", "LShapeDuel$Table;", true)
  | 3 => ("ShapeDuel", "fight", "LShapeDuel$Fight;", true)
  | 4 => ("ShapeDuel", "kept", "[LShapeDuel$Fight;", true)
  | 5 => ("ShapeDuel", "reader", "LShapeDuel$Reader;", true)
  | 6 => ("ShapeDuel", "memo", "LShapeDuel$Memo;", true)
  | 7 => ("ShapeDuel", "search", "LShapeDuel$Search;", true)
  | 8 => ("ShapeDuel", "lottery", "LShapeDuel$Lottery;", true)
  | 9 => ("ShapeDuel", "showing", "LShapeDuel$Showing;", true)
  | 10 => ("ShapeDuel", "patterns", "LShapeDuel$Patterns;", true)
  | 11 => ("ShapeDuel", "foundTimes", "[I", true)
  | 12 => ("ShapeDuel", "lastFound", "I", false)
  | 13 => ("ShapeDuel", "lastAsked", "I", false)
  | 14 => ("ShapeDuel", "chanceUpper", "J", false)
  | _ => ("ShapeDuel", "chanceLower", "J", false)
def tyX10 : Nat → FieldType := fun k => match k with
  | 0 => .array (.object "ShapeDuel$Strip")
  | 1 => .array (.object "ShapeDuel$Strip")
  | 2 => .object "ShapeDuel$Table"
  | 3 => .object "ShapeDuel$Fight"
  | 4 => .array (.object "ShapeDuel$Fight")
  | 5 => .object "ShapeDuel$Reader"
  | 6 => .object "ShapeDuel$Memo"
  | 7 => .object "ShapeDuel$Search"
  | 8 => .object "ShapeDuel$Lottery"
  | 9 => .object "ShapeDuel$Showing"
  | 10 => .object "ShapeDuel$Patterns"
  | 11 => .array (.int)
  | 12 => .int
  | 13 => .int
  | 14 => .long
  | _ => .long
theorem nmX10 : ∀ a, a < 16 → ∀ b, b < 16 → a ≠ b → (TX10 a).2.1 ≠ (TX10 b).2.1 := by decide +kernel
theorem tyX10_ok : ∀ k, k < 16 → parseFieldDescriptor (TX10 k).2.2.1 = some (tyX10 k) := by decide +kernel
def RX11 : String := "ShapeDuelModel"
def TX11 : u_T := fun k => match k with
  | 0 => ("ShapeDuelModel", "w", "[I", true)
  | 1 => ("ShapeDuelModel", "isKept", "[Z", true)
  | 2 => ("ShapeDuelModel", "areFighters", "Z", false)
  | 3 => ("ShapeDuelModel", "shapes", "I", false)
  | 4 => ("ShapeDuelModel", "kinds", "[I", true)
  | 5 => ("ShapeDuelModel", "tells", "[I", true)
  | 6 => ("ShapeDuelModel", "changes", "I", false)
  | 7 => ("ShapeDuelModel", "from", "[I", true)
  | 8 => ("ShapeDuelModel", "into", "[I", true)
  | 9 => ("ShapeDuelModel", "cost", "[I", true)
  | 10 => ("ShapeDuelModel", "latest", "I", false)
  | 11 => ("ShapeDuelModel", "times", "[I", true)
  | 12 => ("ShapeDuelModel", "asked", "I", false)
  | 13 => ("ShapeDuelModel", "upper", "J", false)
  | 14 => ("ShapeDuelModel", "lower", "J", false)
  | 15 => ("ShapeDuelModel", "rowSize", "[I", true)
  | 16 => ("ShapeDuelModel", "rows", "[I", true)
  | 17 => ("ShapeDuelModel", "textSize", "[I", true)
  | 18 => ("ShapeDuelModel", "texts", "[I", true)
  | 19 => ("ShapeDuelModel", "taken", "[I", true)
  | 20 => ("ShapeDuelModel", "readShapes", "I", false)
  | 21 => ("ShapeDuelModel", "readChanges", "I", false)
  | 22 => ("ShapeDuelModel", "readFighters", "I", false)
  | 23 => ("ShapeDuelModel", "readKinds", "[I", true)
  | 24 => ("ShapeDuelModel", "readTells", "[I", true)
  | 25 => ("ShapeDuelModel", "readFrom", "[I", true)
  | 26 => ("ShapeDuelModel", "readInto", "[I", true)
  | 27 => ("ShapeDuelModel", "readCost", "[I", true)
  | 28 => ("ShapeDuelModel", "readFighter", "[I", true)
  | 29 => ("ShapeDuelModel", "place", "I", false)
  | 30 => ("ShapeDuelModel", "text", "I", false)
  | 31 => ("ShapeDuelModel", "pile", "[I", true)
  | 32 => ("ShapeDuelModel", "nextOf", "[I", true)
  | 33 => ("ShapeDuelModel", "knows", "[I", true)
  | 34 => ("ShapeDuelModel", "first", "I", false)
  | 35 => ("ShapeDuelModel", "scores", "[I", true)
  | 36 => ("ShapeDuelModel", "wonBy", "[I", true)
  | 37 => ("ShapeDuelModel", "bestBy", "[I", true)
  | 38 => ("ShapeDuelModel", "wentBy", "[I", true)
  | 39 => ("ShapeDuelModel", "shownMany", "I", false)
  | 40 => ("ShapeDuelModel", "shownFirst", "[I", true)
  | 41 => ("ShapeDuelModel", "shownAll", "[I", true)
  | 42 => ("ShapeDuelModel", "sofar", "[I", true)
  | 43 => ("ShapeDuelModel", "ups", "[J", true)
  | 44 => ("ShapeDuelModel", "downs", "[J", true)
  | 45 => ("ShapeDuelModel", "manyOf", "[I", true)
  | _ => ("ShapeDuelModel", "h", "J", false)
def tyX11 : Nat → FieldType := fun k => match k with
  | 0 => .array (.int)
  | 1 => .array (.boolean)
  | 2 => .boolean
  | 3 => .int
  | 4 => .array (.int)
  | 5 => .array (.int)
  | 6 => .int
  | 7 => .array (.int)
  | 8 => .array (.int)
  | 9 => .array (.int)
  | 10 => .int
  | 11 => .array (.int)
  | 12 => .int
  | 13 => .long
  | 14 => .long
  | 15 => .array (.int)
  | 16 => .array (.int)
  | 17 => .array (.int)
  | 18 => .array (.int)
  | 19 => .array (.int)
  | 20 => .int
  | 21 => .int
  | 22 => .int
  | 23 => .array (.int)
  | 24 => .array (.int)
  | 25 => .array (.int)
  | 26 => .array (.int)
  | 27 => .array (.int)
  | 28 => .array (.int)
  | 29 => .int
  | 30 => .int
  | 31 => .array (.int)
  | 32 => .array (.int)
  | 33 => .array (.int)
  | 34 => .int
  | 35 => .array (.int)
  | 36 => .array (.int)
  | 37 => .array (.int)
  | 38 => .array (.int)
  | 39 => .int
  | 40 => .array (.int)
  | 41 => .array (.int)
  | 42 => .array (.int)
  | 43 => .array (.long)
  | 44 => .array (.long)
  | 45 => .array (.int)
  | _ => .long
theorem nmX11 : ∀ a, a < 47 → ∀ b, b < 47 → a ≠ b → (TX11 a).2.1 ≠ (TX11 b).2.1 := by decide +kernel
theorem tyX11_ok : ∀ k, k < 47 → parseFieldDescriptor (TX11 k).2.2.1 = some (tyX11 k) := by decide +kernel
abbrev vwCl : List vw_C := [(RX0, TX0, 6), (RX1, TX1, 5), (RX2, TX2, 3), (RX3, TX3, 3), (RX4, TX4, 5), (RX5, TX5, 4), (RX6, TX6, 5), (RX7, TX7, 4), (RX8, TX8, 2), (RX9, TX9, 7), (RX10, TX10, 16), (RX11, TX11, 47)]
def tyL : List (Nat → FieldType) := [tyX0, tyX1, tyX2, tyX3, tyX4, tyX5, tyX6, tyX7, tyX8, tyX9, tyX10, tyX11]
def cnL : List String := ["ShapeDuel$Fight", "ShapeDuel$Lottery", "ShapeDuel$Memo", "ShapeDuel$Patterns", "ShapeDuel$Reader", "ShapeDuel$Search", "ShapeDuel$Showing", "ShapeDuel$Side", "ShapeDuel$Strip", "ShapeDuel$Table", "ShapeDuel", "ShapeDuelModel", "ShapeDuelLaw", "java/lang/Integer", "java/lang/Math", "java/util/Arrays"]
/-- a method: name, bytes, locals, answer, new cells, new slots, how many arguments, 0 static 1 instance 2 init, its class -/
abbrev MTH : Type := MethodName × ByteArray × Nat × Option FieldType × Nat × Nat × Nat × Nat × Nat
def m0 : MTH := (⟨"ShapeDuel$Fight", "<init>", "(LShapeDuel$Table;)V"⟩, prog_2_method_1_code, 2, none, 5, 90, 1, 2, 0)
def m1 : MTH := (⟨"ShapeDuel$Fight", "begin", "([I[I)V"⟩, prog_2_method_2_code, 4, none, 0, 0, 2, 1, 0)
def m2 : MTH := (⟨"ShapeDuel$Fight", "takeOver", "(LShapeDuel$Fight;)V"⟩, prog_2_method_3_code, 2, none, 0, 0, 1, 1, 0)
def m3 : MTH := (⟨"ShapeDuel$Fight", "mover", "()I"⟩, prog_2_method_4_code, 1, (some .int), 0, 0, 0, 1, 0)
def m4 : MTH := (⟨"ShapeDuel$Fight", "packed", "()I"⟩, prog_2_method_5_code, 1, (some .int), 0, 0, 0, 1, 0)
def m5 : MTH := (⟨"ShapeDuel$Fight", "unpack", "(I)V"⟩, prog_2_method_6_code, 2, none, 0, 0, 1, 1, 0)
def m6 : MTH := (⟨"ShapeDuel$Fight", "takes", "(II)I"⟩, prog_2_method_7_code, 7, (some .int), 0, 0, 2, 1, 0)
def m7 : MTH := (⟨"ShapeDuel$Fight", "options", "(I)I"⟩, prog_2_method_8_code, 4, (some .int), 0, 0, 1, 1, 0)
def m8 : MTH := (⟨"ShapeDuel$Fight", "step", "(III)V"⟩, prog_2_method_9_code, 5, none, 0, 0, 3, 1, 0)
def m9 : MTH := (⟨"ShapeDuel$Fight", "perform", "(II)Z"⟩, prog_2_method_10_code, 3, (some .boolean), 0, 0, 2, 1, 0)
def m10 : MTH := (⟨"ShapeDuel$Fight", "takeBack", "(I)I"⟩, prog_2_method_11_code, 3, (some .int), 0, 0, 1, 1, 0)
def m11 : MTH := (⟨"ShapeDuel$Fight", "follow", "(LShapeDuel$Strip;)I"⟩, prog_2_method_12_code, 5, (some .int), 0, 0, 1, 1, 0)
def m12 : MTH := (⟨"ShapeDuel$Fight", "whoUsed", "(I)I"⟩, prog_2_method_13_code, 2, (some .int), 0, 0, 1, 1, 0)
def m13 : MTH := (⟨"ShapeDuel$Fight", "whoKnows", "(I)I"⟩, prog_2_method_14_code, 2, (some .int), 0, 0, 1, 1, 0)
def m14 : MTH := (⟨"ShapeDuel$Lottery", "<init>", "(LShapeDuel$Fight;LShapeDuel$Memo;)V"⟩, prog_3_method_1_code, 3, none, 0, 0, 2, 2, 1)
def m15 : MTH := (⟨"ShapeDuel$Lottery", "chanceByLots", "()J"⟩, prog_3_method_2_code, 1, (some .long), 0, 0, 0, 1, 1)
def m16 : MTH := (⟨"ShapeDuel$Lottery", "bestChance", "()J"⟩, prog_3_method_3_code, 7, (some .long), 0, 0, 0, 1, 1)
def m17 : MTH := (⟨"ShapeDuel$Lottery", "chance", "(II)J"⟩, prog_3_method_4_code, 15, (some .long), 0, 0, 2, 1, 1)
def m18 : MTH := (⟨"ShapeDuel$Lottery", "chanceBy", "(IIII)J"⟩, prog_3_method_5_code, 8, (some .long), 0, 0, 4, 1, 1)
def m19 : MTH := (⟨"ShapeDuel$Lottery", "draw", "(II)I"⟩, prog_3_method_6_code, 9, (some .int), 0, 0, 2, 1, 1)
def m20 : MTH := (⟨"ShapeDuel$Lottery", "nthBit", "(II)I"⟩, prog_3_method_7_code, 4, (some .int), 0, 0, 2, 0, 1)
def m21 : MTH := (⟨"ShapeDuel$Memo", "<init>", "()V"⟩, prog_4_method_1_code, 1, none, 2, 4096, 0, 2, 2)
def m22 : MTH := (⟨"ShapeDuel$Memo", "forget", "()V"⟩, prog_4_method_2_code, 1, none, 0, 0, 0, 1, 2)
def m23 : MTH := (⟨"ShapeDuel$Memo", "keyOf", "(II)J"⟩, prog_4_method_3_code, 3, (some .long), 0, 0, 2, 1, 2)
def m24 : MTH := (⟨"ShapeDuel$Memo", "slotFor", "(J)I"⟩, prog_4_method_4_code, 5, (some .int), 0, 0, 1, 1, 2)
def m25 : MTH := (⟨"ShapeDuel$Memo", "has", "(IJ)Z"⟩, prog_4_method_5_code, 4, (some .boolean), 0, 0, 2, 1, 2)
def m26 : MTH := (⟨"ShapeDuel$Memo", "store", "(JJ)V"⟩, prog_4_method_6_code, 6, none, 0, 0, 2, 1, 2)
def m27 : MTH := (⟨"ShapeDuel$Patterns", "<init>", "(LShapeDuel$Table;)V"⟩, prog_5_method_1_code, 2, none, 1, 5, 1, 2, 3)
def m28 : MTH := (⟨"ShapeDuel$Patterns", "countRings", "()I"⟩, prog_5_method_2_code, 6, (some .int), 0, 0, 0, 1, 3)
def m29 : MTH := (⟨"ShapeDuel$Patterns", "smallestCover", "()I"⟩, prog_5_method_3_code, 5, (some .int), 0, 0, 0, 1, 3)
def m30 : MTH := (⟨"ShapeDuel$Patterns", "beatenByAny", "(I)I"⟩, prog_5_method_4_code, 4, (some .int), 0, 0, 1, 1, 3)
def m31 : MTH := (⟨"ShapeDuel$Patterns", "countAlike", "()I"⟩, prog_5_method_5_code, 1, (some .int), 0, 0, 0, 1, 3)
def m32 : MTH := (⟨"ShapeDuel$Patterns", "placingsFrom", "(II)I"⟩, prog_5_method_6_code, 5, (some .int), 0, 0, 2, 1, 3)
def m33 : MTH := (⟨"ShapeDuel$Patterns", "fits", "(II)Z"⟩, prog_5_method_7_code, 5, (some .boolean), 0, 0, 2, 1, 3)
def m34 : MTH := (⟨"ShapeDuel$Patterns", "noteMoved", "()V"⟩, prog_5_method_8_code, 2, none, 0, 0, 0, 1, 3)
def m35 : MTH := (⟨"ShapeDuel$Patterns", "firstBest", "()I"⟩, prog_5_method_9_code, 3, (some .int), 0, 0, 0, 1, 3)
def m36 : MTH := (⟨"ShapeDuel$Reader", "<init>", "()V"⟩, prog_6_method_1_code, 1, none, 8, 57, 0, 2, 4)
def m37 : MTH := (⟨"ShapeDuel$Reader", "read", "(LShapeDuel$Strip;)I"⟩, prog_6_method_2_code, 3, (some .int), 0, 0, 1, 1, 4)
def m38 : MTH := (⟨"ShapeDuel$Reader", "readItem", "(LShapeDuel$Strip;I)Z"⟩, prog_6_method_3_code, 4, (some .boolean), 0, 0, 2, 1, 4)
def m39 : MTH := (⟨"ShapeDuel$Reader", "readShape", "(LShapeDuel$Strip;I)Z"⟩, prog_6_method_4_code, 5, (some .boolean), 0, 0, 2, 1, 4)
def m40 : MTH := (⟨"ShapeDuel$Reader", "readChange", "(LShapeDuel$Strip;)Z"⟩, prog_6_method_5_code, 5, (some .boolean), 0, 0, 1, 1, 4)
def m41 : MTH := (⟨"ShapeDuel$Reader", "readFighter", "(LShapeDuel$Strip;)Z"⟩, prog_6_method_6_code, 4, (some .boolean), 0, 0, 1, 1, 4)
def m42 : MTH := (⟨"ShapeDuel$Reader", "figureFrom", "(LShapeDuel$Strip;II)I"⟩, prog_6_method_7_code, 5, (some .int), 0, 0, 3, 1, 4)
def m43 : MTH := (⟨"ShapeDuel$Search", "<init>", "(LShapeDuel$Fight;LShapeDuel$Memo;)V"⟩, prog_7_method_1_code, 3, none, 0, 0, 2, 2, 5)
def m44 : MTH := (⟨"ShapeDuel$Search", "length", "()I"⟩, prog_7_method_2_code, 1, (some .int), 0, 0, 0, 1, 5)
def m45 : MTH := (⟨"ShapeDuel$Search", "endsIn", "(II)I"⟩, prog_7_method_3_code, 9, (some .int), 0, 0, 2, 1, 5)
def m46 : MTH := (⟨"ShapeDuel$Search", "endsBehind", "(IIII)I"⟩, prog_7_method_4_code, 7, (some .int), 0, 0, 4, 1, 5)
def m47 : MTH := (⟨"ShapeDuel$Search", "better", "(II)I"⟩, prog_7_method_5_code, 3, (some .int), 0, 0, 2, 0, 5)
def m48 : MTH := (⟨"ShapeDuel$Search", "firstWinning", "()I"⟩, prog_7_method_6_code, 4, (some .int), 0, 0, 0, 1, 5)
def m49 : MTH := (⟨"ShapeDuel$Search", "bestLine", "(LShapeDuel$Strip;)V"⟩, prog_7_method_7_code, 7, none, 0, 0, 1, 1, 5)
def m50 : MTH := (⟨"ShapeDuel$Search", "firstWithRest", "(III)I"⟩, prog_7_method_8_code, 6, (some .int), 0, 0, 3, 1, 5)
def m51 : MTH := (⟨"ShapeDuel$Search", "isWonBy", "(I)Z"⟩, prog_7_method_9_code, 4, (some .boolean), 0, 0, 1, 1, 5)
def m52 : MTH := (⟨"ShapeDuel$Search", "leastFire", "(I)I"⟩, prog_7_method_10_code, 6, (some .int), 0, 0, 1, 1, 5)
def m53 : MTH := (⟨"ShapeDuel$Search", "firstToLearn", "(I)I"⟩, prog_7_method_11_code, 6, (some .int), 0, 0, 1, 1, 5)
def m54 : MTH := (⟨"ShapeDuel$Search", "needed", "(I)I"⟩, prog_7_method_12_code, 6, (some .int), 0, 0, 1, 1, 5)
def m55 : MTH := (⟨"ShapeDuel$Search", "countRows", "(I)I"⟩, prog_7_method_13_code, 2, (some .int), 0, 0, 1, 1, 5)
def m56 : MTH := (⟨"ShapeDuel$Search", "rowsFrom", "(II)I"⟩, prog_7_method_14_code, 7, (some .int), 0, 0, 2, 1, 5)
def m57 : MTH := (⟨"ShapeDuel$Showing", "<init>", "(LShapeDuel$Fight;)V"⟩, prog_8_method_1_code, 2, none, 2, 332, 1, 2, 6)
def m58 : MTH := (⟨"ShapeDuel$Showing", "see", "(LShapeDuel$Strip;)V"⟩, prog_8_method_2_code, 2, none, 0, 0, 1, 1, 6)
def m59 : MTH := (⟨"ShapeDuel$Showing", "countWays", "()I"⟩, prog_8_method_3_code, 1, (some .int), 0, 0, 0, 1, 6)
def m60 : MTH := (⟨"ShapeDuel$Showing", "waysFrom", "(I)I"⟩, prog_8_method_4_code, 5, (some .int), 0, 0, 1, 1, 6)
def m61 : MTH := (⟨"ShapeDuel$Showing", "waysBy", "(II)I"⟩, prog_8_method_5_code, 7, (some .int), 0, 0, 2, 1, 6)
def m62 : MTH := (⟨"ShapeDuel$Showing", "whoAt", "(I)I"⟩, prog_8_method_6_code, 2, (some .int), 0, 0, 1, 1, 6)
def m63 : MTH := (⟨"ShapeDuel$Showing", "firstWay", "(LShapeDuel$Strip;)V"⟩, prog_8_method_7_code, 5, none, 0, 0, 1, 1, 6)
def m64 : MTH := (⟨"ShapeDuel$Showing", "firstAt", "(I)I"⟩, prog_8_method_8_code, 3, (some .int), 0, 0, 1, 1, 6)
def m65 : MTH := (⟨"ShapeDuel$Showing", "inAllWays", "(I)I"⟩, prog_8_method_9_code, 6, (some .int), 0, 0, 1, 1, 6)
def m66 : MTH := (⟨"ShapeDuel$Side", "<init>", "()V"⟩, prog_9_method_1_code, 1, none, 0, 0, 0, 2, 7)
def m67 : MTH := (⟨"ShapeDuel$Side", "takeOver", "(LShapeDuel$Side;)V"⟩, prog_9_method_2_code, 2, none, 0, 0, 1, 1, 7)
def m68 : MTH := (⟨"ShapeDuel$Side", "about", "(I)I"⟩, prog_9_method_3_code, 2, (some .int), 0, 0, 1, 1, 7)
def m69 : MTH := (⟨"ShapeDuel$Side", "packed", "()I"⟩, prog_9_method_4_code, 1, (some .int), 0, 0, 0, 1, 7)
def m70 : MTH := (⟨"ShapeDuel$Side", "unpack", "(I)V"⟩, prog_9_method_5_code, 2, none, 0, 0, 1, 1, 7)
def m71 : MTH := (⟨"ShapeDuel$Strip", "<init>", "(I)V"⟩, prog_10_method_1_code, 2, none, 1, 80, 1, 2, 8)
def m72 : MTH := (⟨"ShapeDuel$Strip", "fillAnew", "(II)V"⟩, prog_10_method_2_code, 3, none, 0, 0, 2, 1, 8)
def m73 : MTH := (⟨"ShapeDuel$Strip", "setTo", "([II)V"⟩, prog_10_method_3_code, 3, none, 0, 0, 2, 1, 8)
def m74 : MTH := (⟨"ShapeDuel$Strip", "holds", "(II)Z"⟩, prog_10_method_4_code, 3, (some .boolean), 0, 0, 2, 1, 8)
def m75 : MTH := (⟨"ShapeDuel$Strip", "allWithin", "(I)Z"⟩, prog_10_method_5_code, 3, (some .boolean), 0, 0, 1, 1, 8)
def m76 : MTH := (⟨"ShapeDuel$Strip", "sum", "()J"⟩, prog_10_method_6_code, 4, (some .long), 0, 0, 0, 1, 8)
def m77 : MTH := (⟨"ShapeDuel$Strip", "mixInto", "(J)J"⟩, prog_10_method_7_code, 6, (some .long), 0, 0, 1, 1, 8)
def m78 : MTH := (⟨"ShapeDuel$Table", "<init>", "()V"⟩, prog_11_method_1_code, 1, none, 5, 46, 0, 2, 9)
def m79 : MTH := (⟨"ShapeDuel$Table", "takeOver", "(LShapeDuel$Table;)V"⟩, prog_11_method_2_code, 3, none, 0, 0, 1, 1, 9)
def m80 : MTH := (⟨"ShapeDuel$Table", "isOf", "(II)Z"⟩, prog_11_method_3_code, 3, (some .boolean), 0, 0, 2, 1, 9)
def m81 : MTH := (⟨"ShapeDuel$Table", "beats", "(II)Z"⟩, prog_11_method_4_code, 3, (some .boolean), 0, 0, 2, 1, 9)
def m82 : MTH := (⟨"ShapeDuel$Table", "beatenBy", "(I)I"⟩, prog_11_method_5_code, 4, (some .int), 0, 0, 1, 1, 9)
def m83 : MTH := (⟨"ShapeDuel$Table", "beatersOf", "(I)I"⟩, prog_11_method_6_code, 4, (some .int), 0, 0, 1, 1, 9)
def m84 : MTH := (⟨"ShapeDuel$Table", "lead", "(I)I"⟩, prog_11_method_7_code, 2, (some .int), 0, 0, 1, 1, 9)
def m85 : MTH := (⟨"ShapeDuel$Table", "aboutShape", "(II)I"⟩, prog_11_method_8_code, 3, (some .int), 0, 0, 2, 1, 9)
def m86 : MTH := (⟨"ShapeDuel$Table", "changesFrom", "(I)I"⟩, prog_11_method_9_code, 4, (some .int), 0, 0, 1, 1, 9)
def m87 : MTH := (⟨"ShapeDuel$Table", "changesInto", "(I)I"⟩, prog_11_method_10_code, 4, (some .int), 0, 0, 1, 1, 9)
def m88 : MTH := (⟨"ShapeDuel$Table", "cheapestInto", "(I)I"⟩, prog_11_method_11_code, 4, (some .int), 0, 0, 1, 1, 9)
def m89 : MTH := (⟨"ShapeDuel$Table", "beastsToldToBeat", "(I)I"⟩, prog_11_method_12_code, 4, (some .int), 0, 0, 1, 1, 9)
def m90 : MTH := (⟨"ShapeDuel$Table", "countOf", "(I)I"⟩, prog_11_method_13_code, 4, (some .int), 0, 0, 1, 1, 9)
def m91 : MTH := (⟨"ShapeDuel$Table", "price", "(II)I"⟩, prog_11_method_14_code, 4, (some .int), 0, 0, 2, 1, 9)
def m92 : MTH := (⟨"ShapeDuel", "<init>", "()V"⟩, prog_1_method_1_code, 2, none, 100, 10000, 0, 2, 10)
def m93 : MTH := (⟨"ShapeDuel", "row", "(II)I"⟩, prog_1_method_2_code, 3, (some .int), 0, 0, 2, 1, 10)
def m94 : MTH := (⟨"ShapeDuel", "lay", "(III)I"⟩, prog_1_method_3_code, 5, (some .int), 0, 0, 3, 1, 10)
def m95 : MTH := (⟨"ShapeDuel", "at", "(II)I"⟩, prog_1_method_4_code, 4, (some .int), 0, 0, 2, 1, 10)
def m96 : MTH := (⟨"ShapeDuel", "tear", "(I)I"⟩, prog_1_method_5_code, 3, (some .int), 0, 0, 1, 1, 10)
def m97 : MTH := (⟨"ShapeDuel", "copy", "(IIIII)I"⟩, prog_1_method_6_code, 6, (some .int), 0, 0, 5, 1, 10)
def m98 : MTH := (⟨"ShapeDuel", "mean", "(I)I"⟩, prog_1_method_7_code, 3, (some .int), 0, 0, 1, 1, 10)
def m99 : MTH := (⟨"ShapeDuel", "text", "(II)I"⟩, prog_1_method_8_code, 3, (some .int), 0, 0, 2, 1, 10)
def m100 : MTH := (⟨"ShapeDuel", "put", "(III)I"⟩, prog_1_method_9_code, 6, (some .int), 0, 0, 3, 1, 10)
def m101 : MTH := (⟨"ShapeDuel", "fault", "(I)I"⟩, prog_1_method_10_code, 3, (some .int), 0, 0, 1, 1, 10)
def m102 : MTH := (⟨"ShapeDuel", "night", "(I)I"⟩, prog_1_method_11_code, 4, (some .int), 0, 0, 1, 1, 10)
def m103 : MTH := (⟨"ShapeDuel", "shape", "(II)I"⟩, prog_1_method_12_code, 3, (some .int), 0, 0, 2, 1, 10)
def m104 : MTH := (⟨"ShapeDuel", "change", "(II)I"⟩, prog_1_method_13_code, 3, (some .int), 0, 0, 2, 1, 10)
def m105 : MTH := (⟨"ShapeDuel", "mark", "(II)I"⟩, prog_1_method_14_code, 3, (some .int), 0, 0, 2, 1, 10)
def m106 : MTH := (⟨"ShapeDuel", "fighter", "(II)I"⟩, prog_1_method_15_code, 3, (some .int), 0, 0, 2, 1, 10)
def m107 : MTH := (⟨"ShapeDuel", "teach", "(III)I"⟩, prog_1_method_16_code, 6, (some .int), 0, 0, 3, 1, 10)
def m108 : MTH := (⟨"ShapeDuel", "fire", "(II)I"⟩, prog_1_method_17_code, 4, (some .int), 0, 0, 2, 1, 10)
def m109 : MTH := (⟨"ShapeDuel", "beat", "(III)I"⟩, prog_1_method_18_code, 5, (some .int), 0, 0, 3, 1, 10)
def m110 : MTH := (⟨"ShapeDuel", "can", "(I)I"⟩, prog_1_method_19_code, 2, (some .int), 0, 0, 1, 1, 10)
def m111 : MTH := (⟨"ShapeDuel", "turn", "()I"⟩, prog_1_method_20_code, 2, (some .int), 0, 0, 0, 1, 10)
def m112 : MTH := (⟨"ShapeDuel", "go", "(I)I"⟩, prog_1_method_21_code, 3, (some .int), 0, 0, 1, 1, 10)
def m113 : MTH := (⟨"ShapeDuel", "undo", "(I)I"⟩, prog_1_method_22_code, 2, (some .int), 0, 0, 1, 1, 10)
def m114 : MTH := (⟨"ShapeDuel", "told", "(I)I"⟩, prog_1_method_23_code, 2, (some .int), 0, 0, 1, 1, 10)
def m115 : MTH := (⟨"ShapeDuel", "keep", "(I)I"⟩, prog_1_method_24_code, 2, (some .int), 0, 0, 1, 1, 10)
def m116 : MTH := (⟨"ShapeDuel", "on", "(I)I"⟩, prog_1_method_25_code, 2, (some .int), 0, 0, 1, 1, 10)
def m117 : MTH := (⟨"ShapeDuel", "wins", "()I"⟩, prog_1_method_26_code, 1, (some .int), 0, 0, 0, 1, 10)
def m118 : MTH := (⟨"ShapeDuel", "ends", "()I"⟩, prog_1_method_27_code, 2, (some .int), 0, 0, 0, 1, 10)
def m119 : MTH := (⟨"ShapeDuel", "line", "(I)I"⟩, prog_1_method_28_code, 2, (some .int), 0, 0, 1, 1, 10)
def m120 : MTH := (⟨"ShapeDuel", "least", "(I)I"⟩, prog_1_method_29_code, 2, (some .int), 0, 0, 1, 1, 10)
def m121 : MTH := (⟨"ShapeDuel", "learn", "(I)I"⟩, prog_1_method_30_code, 2, (some .int), 0, 0, 1, 1, 10)
def m122 : MTH := (⟨"ShapeDuel", "needs", "(I)I"⟩, prog_1_method_31_code, 2, (some .int), 0, 0, 1, 1, 10)
def m123 : MTH := (⟨"ShapeDuel", "lines", "(I)I"⟩, prog_1_method_32_code, 3, (some .int), 0, 0, 1, 1, 10)
def m124 : MTH := (⟨"ShapeDuel", "judge", "(I)I"⟩, prog_1_method_33_code, 6, (some .int), 0, 0, 1, 1, 10)
def m125 : MTH := (⟨"ShapeDuel", "shown", "(II)I"⟩, prog_1_method_34_code, 5, (some .int), 0, 0, 2, 1, 10)
def m126 : MTH := (⟨"ShapeDuel", "must", "(II)I"⟩, prog_1_method_35_code, 4, (some .int), 0, 0, 2, 1, 10)
def m127 : MTH := (⟨"ShapeDuel", "odds", "()I"⟩, prog_1_method_36_code, 1, (some .int), 0, 0, 0, 1, 10)
def m128 : MTH := (⟨"ShapeDuel", "hopes", "()I"⟩, prog_1_method_37_code, 1, (some .int), 0, 0, 0, 1, 10)
def m129 : MTH := (⟨"ShapeDuel", "lots", "(II)I"⟩, prog_1_method_38_code, 3, (some .int), 0, 0, 2, 1, 10)
def m130 : MTH := (⟨"ShapeDuel", "rings", "()I"⟩, prog_1_method_39_code, 2, (some .int), 0, 0, 0, 1, 10)
def m131 : MTH := (⟨"ShapeDuel", "cover", "()I"⟩, prog_1_method_40_code, 2, (some .int), 0, 0, 0, 1, 10)
def m132 : MTH := (⟨"ShapeDuel", "alike", "()I"⟩, prog_1_method_41_code, 2, (some .int), 0, 0, 0, 1, 10)
def m133 : MTH := (⟨"ShapeDuel", "best", "()I"⟩, prog_1_method_42_code, 2, (some .int), 0, 0, 0, 1, 10)
def m134 : MTH := (⟨"ShapeDuel", "asked", "()I"⟩, prog_1_method_43_code, 1, (some .int), 0, 0, 0, 1, 10)
def m135 : MTH := (⟨"ShapeDuel", "upper", "()J"⟩, prog_1_method_44_code, 1, (some .long), 0, 0, 0, 1, 10)
def m136 : MTH := (⟨"ShapeDuel", "lower", "()J"⟩, prog_1_method_45_code, 1, (some .long), 0, 0, 0, 1, 10)
def m137 : MTH := (⟨"ShapeDuel", "count", "(I)I"⟩, prog_1_method_46_code, 2, (some .int), 0, 0, 1, 1, 10)
def m138 : MTH := (⟨"ShapeDuel", "finding", "()I"⟩, prog_1_method_47_code, 1, (some .int), 0, 0, 0, 1, 10)
def m139 : MTH := (⟨"ShapeDuel", "findings", "(I)I"⟩, prog_1_method_48_code, 2, (some .int), 0, 0, 1, 1, 10)
def m140 : MTH := (⟨"ShapeDuel", "digest", "()J"⟩, prog_1_method_49_code, 4, (some .long), 0, 0, 0, 1, 10)
def m141 : MTH := (⟨"ShapeDuel", "digestNight", "(J)J"⟩, prog_1_method_50_code, 6, (some .long), 0, 0, 1, 1, 10)
def m142 : MTH := (⟨"ShapeDuel", "within", "(II)Z"⟩, prog_1_method_51_code, 2, (some .boolean), 0, 0, 2, 0, 10)
def m143 : MTH := (⟨"ShapeDuel", "bit", "(II)I"⟩, prog_1_method_52_code, 2, (some .int), 0, 0, 2, 0, 10)
def m144 : MTH := (⟨"ShapeDuel", "withBit", "(III)I"⟩, prog_1_method_53_code, 3, (some .int), 0, 0, 3, 0, 10)
def m145 : MTH := (⟨"ShapeDuel", "isFighter", "(I)Z"⟩, prog_1_method_54_code, 2, (some .boolean), 0, 0, 1, 1, 10)
def m146 : MTH := (⟨"ShapeDuel", "find", "(I)I"⟩, prog_1_method_55_code, 2, (some .int), 0, 0, 1, 1, 10)
def m147 : MTH := (⟨"ShapeDuel", "tell", "(I)I"⟩, prog_1_method_56_code, 2, (some .int), 0, 0, 1, 1, 10)
def m148 : MTH := (⟨"ShapeDuel", "tellChance", "(J)V"⟩, prog_1_method_57_code, 5, none, 0, 0, 1, 1, 10)
def m149 : MTH := (⟨"ShapeDuel", "greatestShared", "(JJ)J"⟩, prog_1_method_58_code, 11, (some .long), 0, 0, 2, 0, 10)
def m150 : MTH := (⟨"ShapeDuel", "layAnew", "([LShapeDuel$Strip;III)I"⟩, prog_1_method_59_code, 5, (some .int), 0, 0, 4, 1, 10)
def m151 : MTH := (⟨"ShapeDuel", "refuseStrip", "([LShapeDuel$Strip;I)I"⟩, prog_1_method_60_code, 3, (some .int), 0, 0, 2, 1, 10)
def m152 : MTH := (⟨"ShapeDuel", "refusePlace", "([LShapeDuel$Strip;II)I"⟩, prog_1_method_61_code, 5, (some .int), 0, 0, 3, 1, 10)
def m153 : MTH := (⟨"ShapeDuel", "refuseTold", "(III)I"⟩, prog_1_method_62_code, 4, (some .int), 0, 0, 3, 1, 10)
def m154 : MTH := (⟨"ShapeDuel", "aboutChange", "(II)I"⟩, prog_1_method_63_code, 3, (some .int), 0, 0, 2, 1, 10)
def m155 : MTH := (⟨"ShapeDuel", "countThere", "([LShapeDuel$Strip;)I"⟩, prog_1_method_64_code, 3, (some .int), 0, 0, 1, 0, 10)
def m156 : MTH := (⟨"ShapeDuel", "countKept", "()I"⟩, prog_1_method_65_code, 3, (some .int), 0, 0, 0, 1, 10)
def m157 : MTH := (⟨"ShapeDuelModel", "<init>", "()V"⟩, prog_13_method_1_code, 2, none, 60, 5000, 0, 2, 11)
def m158 : MTH := (⟨"ShapeDuelModel", "in", "(JJJ)Z"⟩, prog_13_method_3_code, 6, (some .boolean), 0, 0, 3, 0, 11)
def m159 : MTH := (⟨"ShapeDuelModel", "has", "(II)Z"⟩, prog_13_method_4_code, 2, (some .boolean), 0, 0, 2, 0, 11)
def m160 : MTH := (⟨"ShapeDuelModel", "ones", "(I)I"⟩, prog_13_method_5_code, 3, (some .int), 0, 0, 1, 0, 11)
def m161 : MTH := (⟨"ShapeDuelModel", "found", "(I)I"⟩, prog_13_method_6_code, 2, (some .int), 0, 0, 1, 1, 11)
def m162 : MTH := (⟨"ShapeDuelModel", "says", "(II)I"⟩, prog_13_method_7_code, 3, (some .int), 0, 0, 2, 1, 11)
def m163 : MTH := (⟨"ShapeDuelModel", "isRow", "(I)Z"⟩, prog_13_method_8_code, 1, (some .boolean), 0, 0, 1, 0, 11)
def m164 : MTH := (⟨"ShapeDuelModel", "isText", "(I)Z"⟩, prog_13_method_9_code, 1, (some .boolean), 0, 0, 1, 0, 11)
def m165 : MTH := (⟨"ShapeDuelModel", "anew", "(II)V"⟩, prog_13_method_10_code, 4, none, 0, 0, 2, 1, 11)
def m166 : MTH := (⟨"ShapeDuelModel", "row", "(II)I"⟩, prog_13_method_11_code, 3, (some .int), 0, 0, 2, 1, 11)
def m167 : MTH := (⟨"ShapeDuelModel", "lay", "(III)I"⟩, prog_13_method_12_code, 5, (some .int), 0, 0, 3, 1, 11)
def m168 : MTH := (⟨"ShapeDuelModel", "at", "(II)I"⟩, prog_13_method_13_code, 3, (some .int), 0, 0, 2, 1, 11)
def m169 : MTH := (⟨"ShapeDuelModel", "tear", "(I)I"⟩, prog_13_method_14_code, 2, (some .int), 0, 0, 1, 1, 11)
def m170 : MTH := (⟨"ShapeDuelModel", "isPart", "(III)Z"⟩, prog_13_method_15_code, 4, (some .boolean), 0, 0, 3, 1, 11)
def m171 : MTH := (⟨"ShapeDuelModel", "copy", "(IIIII)I"⟩, prog_13_method_16_code, 7, (some .int), 0, 0, 5, 1, 11)
def m172 : MTH := (⟨"ShapeDuelModel", "mean", "(I)I"⟩, prog_13_method_17_code, 5, (some .int), 0, 0, 1, 1, 11)
def m173 : MTH := (⟨"ShapeDuelModel", "text", "(II)I"⟩, prog_13_method_18_code, 4, (some .int), 0, 0, 2, 1, 11)
def m174 : MTH := (⟨"ShapeDuelModel", "put", "(III)I"⟩, prog_13_method_19_code, 5, (some .int), 0, 0, 3, 1, 11)
def m175 : MTH := (⟨"ShapeDuelModel", "byteAt", "()I"⟩, prog_13_method_20_code, 1, (some .int), 0, 0, 0, 1, 11)
def m176 : MTH := (⟨"ShapeDuelModel", "takesFigure", "(II)I"⟩, prog_13_method_21_code, 4, (some .int), 0, 0, 2, 1, 11)
def m177 : MTH := (⟨"ShapeDuelModel", "kindOf", "(I)I"⟩, prog_13_method_22_code, 1, (some .int), 0, 0, 1, 0, 11)
def m178 : MTH := (⟨"ShapeDuelModel", "takesShape", "(I)Z"⟩, prog_13_method_23_code, 4, (some .boolean), 0, 0, 1, 1, 11)
def m179 : MTH := (⟨"ShapeDuelModel", "fromMany", "(I)I"⟩, prog_13_method_24_code, 4, (some .int), 0, 0, 1, 1, 11)
def m180 : MTH := (⟨"ShapeDuelModel", "takesChange", "()Z"⟩, prog_13_method_25_code, 4, (some .boolean), 0, 0, 0, 1, 11)
def m181 : MTH := (⟨"ShapeDuelModel", "takesFighter", "()Z"⟩, prog_13_method_26_code, 3, (some .boolean), 0, 0, 0, 1, 11)
def m182 : MTH := (⟨"ShapeDuelModel", "takesItem", "()Z"⟩, prog_13_method_27_code, 2, (some .boolean), 0, 0, 0, 1, 11)
def m183 : MTH := (⟨"ShapeDuelModel", "faultOf", "(I)I"⟩, prog_13_method_28_code, 2, (some .int), 0, 0, 1, 1, 11)
def m184 : MTH := (⟨"ShapeDuelModel", "fault", "(I)I"⟩, prog_13_method_29_code, 2, (some .int), 0, 0, 1, 1, 11)
def m185 : MTH := (⟨"ShapeDuelModel", "night", "(I)I"⟩, prog_13_method_30_code, 3, (some .int), 0, 0, 1, 1, 11)
def m186 : MTH := (⟨"ShapeDuelModel", "isShape", "(I)Z"⟩, prog_13_method_31_code, 2, (some .boolean), 0, 0, 1, 1, 11)
def m187 : MTH := (⟨"ShapeDuelModel", "isChange", "(I)Z"⟩, prog_13_method_32_code, 2, (some .boolean), 0, 0, 1, 1, 11)
def m188 : MTH := (⟨"ShapeDuelModel", "isFighter", "(I)Z"⟩, prog_13_method_33_code, 2, (some .boolean), 0, 0, 1, 1, 11)
def m189 : MTH := (⟨"ShapeDuelModel", "beats", "(II)Z"⟩, prog_13_method_34_code, 3, (some .boolean), 0, 0, 2, 1, 11)
def m190 : MTH := (⟨"ShapeDuelModel", "beatsOf", "(I)I"⟩, prog_13_method_35_code, 4, (some .int), 0, 0, 1, 1, 11)
def m191 : MTH := (⟨"ShapeDuelModel", "beatenBy", "(I)I"⟩, prog_13_method_36_code, 4, (some .int), 0, 0, 1, 1, 11)
def m192 : MTH := (⟨"ShapeDuelModel", "leading", "(I)I"⟩, prog_13_method_37_code, 4, (some .int), 0, 0, 1, 1, 11)
def m193 : MTH := (⟨"ShapeDuelModel", "shapeOf", "(II)I"⟩, prog_13_method_38_code, 3, (some .int), 0, 0, 2, 1, 11)
def m194 : MTH := (⟨"ShapeDuelModel", "shape", "(II)I"⟩, prog_13_method_39_code, 3, (some .int), 0, 0, 2, 1, 11)
def m195 : MTH := (⟨"ShapeDuelModel", "changeOf", "(II)I"⟩, prog_13_method_40_code, 4, (some .int), 0, 0, 2, 1, 11)
def m196 : MTH := (⟨"ShapeDuelModel", "change", "(II)I"⟩, prog_13_method_41_code, 3, (some .int), 0, 0, 2, 1, 11)
def m197 : MTH := (⟨"ShapeDuelModel", "markOf", "(II)I"⟩, prog_13_method_42_code, 8, (some .int), 0, 0, 2, 1, 11)
def m198 : MTH := (⟨"ShapeDuelModel", "mark", "(II)I"⟩, prog_13_method_43_code, 4, (some .int), 0, 0, 2, 1, 11)
def m199 : MTH := (⟨"ShapeDuelModel", "fighter", "(II)I"⟩, prog_13_method_44_code, 3, (some .int), 0, 0, 2, 1, 11)
def m200 : MTH := (⟨"ShapeDuelModel", "teach", "(III)I"⟩, prog_13_method_45_code, 5, (some .int), 0, 0, 3, 1, 11)
def m201 : MTH := (⟨"ShapeDuelModel", "fire", "(II)I"⟩, prog_13_method_46_code, 4, (some .int), 0, 0, 2, 1, 11)
def m202 : MTH := (⟨"ShapeDuelModel", "beat", "(III)I"⟩, prog_13_method_47_code, 5, (some .int), 0, 0, 3, 1, 11)
def m203 : MTH := (⟨"ShapeDuelModel", "layRoot", "()V"⟩, prog_13_method_48_code, 2, none, 0, 0, 0, 1, 11)
def m204 : MTH := (⟨"ShapeDuelModel", "takes", "(III)I"⟩, prog_13_method_49_code, 8, (some .int), 0, 0, 3, 1, 11)
def m205 : MTH := (⟨"ShapeDuelModel", "canBe", "(III)Z"⟩, prog_13_method_50_code, 6, (some .boolean), 0, 0, 3, 1, 11)
def m206 : MTH := (⟨"ShapeDuelModel", "canOf", "(II)I"⟩, prog_13_method_51_code, 5, (some .int), 0, 0, 2, 1, 11)
def m207 : MTH := (⟨"ShapeDuelModel", "moverAt", "(I)I"⟩, prog_13_method_52_code, 2, (some .int), 0, 0, 1, 1, 11)
def m208 : MTH := (⟨"ShapeDuelModel", "dives", "(II)V"⟩, prog_13_method_53_code, 6, none, 0, 0, 2, 1, 11)
def m209 : MTH := (⟨"ShapeDuelModel", "nextChange", "(I)I"⟩, prog_13_method_54_code, 4, (some .int), 0, 0, 1, 1, 11)
def m210 : MTH := (⟨"ShapeDuelModel", "score", "()I"⟩, prog_13_method_55_code, 4, (some .int), 0, 0, 0, 1, 11)
def m211 : MTH := (⟨"ShapeDuelModel", "can", "(I)I"⟩, prog_13_method_56_code, 2, (some .int), 0, 0, 1, 1, 11)
def m212 : MTH := (⟨"ShapeDuelModel", "turn", "()I"⟩, prog_13_method_57_code, 1, (some .int), 0, 0, 0, 1, 11)
def m213 : MTH := (⟨"ShapeDuelModel", "does", "(I)V"⟩, prog_13_method_58_code, 3, none, 0, 0, 1, 1, 11)
def m214 : MTH := (⟨"ShapeDuelModel", "go", "(I)I"⟩, prog_13_method_59_code, 3, (some .int), 0, 0, 1, 1, 11)
def m215 : MTH := (⟨"ShapeDuelModel", "undo", "(I)I"⟩, prog_13_method_60_code, 4, (some .int), 0, 0, 1, 1, 11)
def m216 : MTH := (⟨"ShapeDuelModel", "told", "(I)I"⟩, prog_13_method_61_code, 3, (some .int), 0, 0, 1, 1, 11)
def m217 : MTH := (⟨"ShapeDuelModel", "keep", "(I)I"⟩, prog_13_method_62_code, 3, (some .int), 0, 0, 1, 1, 11)
def m218 : MTH := (⟨"ShapeDuelModel", "on", "(I)I"⟩, prog_13_method_63_code, 3, (some .int), 0, 0, 1, 1, 11)
def m219 : MTH := (⟨"ShapeDuelModel", "wins", "()I"⟩, prog_13_method_64_code, 2, (some .int), 0, 0, 0, 1, 11)
def m220 : MTH := (⟨"ShapeDuelModel", "lengthOf", "(I)I"⟩, prog_13_method_65_code, 1, (some .int), 0, 0, 1, 0, 11)
def m221 : MTH := (⟨"ShapeDuelModel", "ends", "()I"⟩, prog_13_method_66_code, 2, (some .int), 0, 0, 0, 1, 11)
def m222 : MTH := (⟨"ShapeDuelModel", "line", "(I)I"⟩, prog_13_method_67_code, 7, (some .int), 0, 0, 1, 1, 11)
def m223 : MTH := (⟨"ShapeDuelModel", "doesWin", "(I)Z"⟩, prog_13_method_68_code, 3, (some .boolean), 0, 0, 1, 1, 11)
def m224 : MTH := (⟨"ShapeDuelModel", "least", "(I)I"⟩, prog_13_method_69_code, 3, (some .int), 0, 0, 1, 1, 11)
def m225 : MTH := (⟨"ShapeDuelModel", "learn", "(I)I"⟩, prog_13_method_70_code, 3, (some .int), 0, 0, 1, 1, 11)
def m226 : MTH := (⟨"ShapeDuelModel", "needs", "(I)I"⟩, prog_13_method_71_code, 4, (some .int), 0, 0, 1, 1, 11)
def m227 : MTH := (⟨"ShapeDuelModel", "lines", "(I)I"⟩, prog_13_method_72_code, 6, (some .int), 0, 0, 1, 1, 11)
def m228 : MTH := (⟨"ShapeDuelModel", "bars", "(III)I"⟩, prog_13_method_73_code, 6, (some .int), 0, 0, 3, 1, 11)
def m229 : MTH := (⟨"ShapeDuelModel", "judge", "(I)I"⟩, prog_13_method_74_code, 4, (some .int), 0, 0, 1, 1, 11)
def m230 : MTH := (⟨"ShapeDuelModel", "findShown", "(I)V"⟩, prog_13_method_75_code, 5, none, 0, 0, 1, 1, 11)
def m231 : MTH := (⟨"ShapeDuelModel", "notesShown", "(I)V"⟩, prog_13_method_76_code, 5, none, 0, 0, 1, 1, 11)
def m232 : MTH := (⟨"ShapeDuelModel", "shown", "(II)I"⟩, prog_13_method_77_code, 6, (some .int), 0, 0, 2, 1, 11)
def m233 : MTH := (⟨"ShapeDuelModel", "must", "(II)I"⟩, prog_13_method_78_code, 4, (some .int), 0, 0, 2, 1, 11)
def m234 : MTH := (⟨"ShapeDuelModel", "common", "(JJ)J"⟩, prog_13_method_79_code, 10, (some .long), 0, 0, 2, 0, 11)
def m235 : MTH := (⟨"ShapeDuelModel", "lowest", "(I)V"⟩, prog_13_method_80_code, 4, none, 0, 0, 1, 1, 11)
def m236 : MTH := (⟨"ShapeDuelModel", "isChance", "(IJ)V"⟩, prog_13_method_81_code, 4, none, 0, 0, 2, 1, 11)
def m237 : MTH := (⟨"ShapeDuelModel", "adds", "(IJJ)V"⟩, prog_13_method_82_code, 8, none, 0, 0, 3, 1, 11)
def m238 : MTH := (⟨"ShapeDuelModel", "isMore", "(JJI)Z"⟩, prog_13_method_83_code, 8, (some .boolean), 0, 0, 3, 1, 11)
def m239 : MTH := (⟨"ShapeDuelModel", "chances", "(Z)I"⟩, prog_13_method_84_code, 7, (some .int), 0, 0, 1, 1, 11)
def m240 : MTH := (⟨"ShapeDuelModel", "closes", "(IZ)V"⟩, prog_13_method_85_code, 3, none, 0, 0, 2, 1, 11)
def m241 : MTH := (⟨"ShapeDuelModel", "chancesTold", "(Z)I"⟩, prog_13_method_86_code, 3, (some .int), 0, 0, 1, 1, 11)
def m242 : MTH := (⟨"ShapeDuelModel", "odds", "()I"⟩, prog_13_method_87_code, 2, (some .int), 0, 0, 0, 1, 11)
def m243 : MTH := (⟨"ShapeDuelModel", "hopes", "()I"⟩, prog_13_method_88_code, 1, (some .int), 0, 0, 0, 1, 11)
def m244 : MTH := (⟨"ShapeDuelModel", "lots", "(II)I"⟩, prog_13_method_89_code, 9, (some .int), 0, 0, 2, 1, 11)
def m245 : MTH := (⟨"ShapeDuelModel", "rings", "()I"⟩, prog_13_method_90_code, 8, (some .int), 0, 0, 0, 1, 11)
def m246 : MTH := (⟨"ShapeDuelModel", "cover", "()I"⟩, prog_13_method_91_code, 6, (some .int), 0, 0, 0, 1, 11)
def m247 : MTH := (⟨"ShapeDuelModel", "alike", "()I"⟩, prog_13_method_92_code, 9, (some .int), 0, 0, 0, 1, 11)
def m248 : MTH := (⟨"ShapeDuelModel", "best", "()I"⟩, prog_13_method_93_code, 5, (some .int), 0, 0, 0, 1, 11)
def m249 : MTH := (⟨"ShapeDuelModel", "asked", "()I"⟩, prog_13_method_94_code, 1, (some .int), 0, 0, 0, 1, 11)
def m250 : MTH := (⟨"ShapeDuelModel", "upper", "()J"⟩, prog_13_method_95_code, 1, (some .long), 0, 0, 0, 1, 11)
def m251 : MTH := (⟨"ShapeDuelModel", "lower", "()J"⟩, prog_13_method_96_code, 1, (some .long), 0, 0, 0, 1, 11)
def m252 : MTH := (⟨"ShapeDuelModel", "kindsMany", "(II)I"⟩, prog_13_method_97_code, 5, (some .int), 0, 0, 2, 1, 11)
def m253 : MTH := (⟨"ShapeDuelModel", "thereMany", "(I)I"⟩, prog_13_method_98_code, 4, (some .int), 0, 0, 1, 1, 11)
def m254 : MTH := (⟨"ShapeDuelModel", "countOf", "(I)I"⟩, prog_13_method_99_code, 2, (some .int), 0, 0, 1, 1, 11)
def m255 : MTH := (⟨"ShapeDuelModel", "count", "(I)I"⟩, prog_13_method_100_code, 2, (some .int), 0, 0, 1, 1, 11)
def m256 : MTH := (⟨"ShapeDuelModel", "finding", "()I"⟩, prog_13_method_101_code, 1, (some .int), 0, 0, 0, 1, 11)
def m257 : MTH := (⟨"ShapeDuelModel", "findings", "(I)I"⟩, prog_13_method_102_code, 2, (some .int), 0, 0, 1, 1, 11)
def m258 : MTH := (⟨"ShapeDuelModel", "mix", "(J)V"⟩, prog_13_method_103_code, 3, none, 0, 0, 1, 1, 11)
def m259 : MTH := (⟨"ShapeDuelModel", "digest", "()J"⟩, prog_13_method_104_code, 3, (some .long), 0, 0, 0, 1, 11)
def m260 : MTH := (⟨"java/lang/Integer", "numberOfTrailingZeros", "(I)I"⟩, prog_14_method_48_code, 2, (some .int), 0, 0, 1, 0, 13)
def m261 : MTH := (⟨"java/lang/Integer", "bitCount", "(I)I"⟩, prog_14_method_49_code, 1, (some .int), 0, 0, 1, 0, 13)
def m262 : MTH := (⟨"java/util/Arrays", "rangeCheck", "(III)V"⟩, prog_17_method_30_code, 3, none, 0, 0, 3, 0, 15)
def m263 : MTH := (⟨"java/util/Arrays", "fill", "([II)V"⟩, prog_17_method_103_code, 4, none, 0, 0, 2, 0, 15)
def m264 : MTH := (⟨"java/util/Arrays", "fill", "([IIII)V"⟩, prog_17_method_104_code, 5, none, 0, 0, 4, 0, 15)
def m265 : MTH := (⟨"ShapeDuelLaw", "law", "([I)Z"⟩, code, 4, (some .boolean), 600000, 7302249, 1, 0, 12)
def mL : List MTH := [m0, m1, m2, m3, m4, m5, m6, m7, m8, m9, m10, m11, m12, m13, m14, m15, m16, m17, m18, m19, m20, m21, m22, m23, m24, m25, m26, m27, m28, m29, m30, m31, m32, m33, m34, m35, m36, m37, m38, m39, m40, m41, m42, m43, m44, m45, m46, m47, m48, m49, m50, m51, m52, m53, m54, m55, m56, m57, m58, m59, m60, m61, m62, m63, m64, m65, m66, m67, m68, m69, m70, m71, m72, m73, m74, m75, m76, m77, m78, m79, m80, m81, m82, m83, m84, m85, m86, m87, m88, m89, m90, m91, m92, m93, m94, m95, m96, m97, m98, m99, m100, m101, m102, m103, m104, m105, m106, m107, m108, m109, m110, m111, m112, m113, m114, m115, m116, m117, m118, m119, m120, m121, m122, m123, m124, m125, m126, m127, m128, m129, m130, m131, m132, m133, m134, m135, m136, m137, m138, m139, m140, m141, m142, m143, m144, m145, m146, m147, m148, m149, m150, m151, m152, m153, m154, m155, m156, m157, m158, m159, m160, m161, m162, m163, m164, m165, m166, m167, m168, m169, m170, m171, m172, m173, m174, m175, m176, m177, m178, m179, m180, m181, m182, m183, m184, m185, m186, m187, m188, m189, m190, m191, m192, m193, m194, m195, m196, m197, m198, m199, m200, m201, m202, m203, m204, m205, m206, m207, m208, m209, m210, m211, m212, m213, m214, m215, m216, m217, m218, m219, m220, m221, m222, m223, m224, m225, m226, m227, m228, m229, m230, m231, m232, m233, m234, m235, m236, m237, m238, m239, m240, m241, m242, m243, m244, m245, m246, m247, m248, m249, m250, m251, m252, m253, m254, m255, m256, m257, m258, m259, m260, m261, m262, m263, m264, m265]
abbrev NMT : Nat := 265
def FL : Nat → List (Nat × Nat × Nat × Nat)
  | 0 => [(9, 0, 1, 254), (18, 0, 2, 256), (22, 0, 3, 260), (26, 0, 4, 262), (29, 0, 5, 263), (33, 0, 0, 253), (37, 7, 0, 228), (40, 7, 1, 230), (43, 7, 2, 235), (46, 9, 3, 181), (51, 7, 3, 237), (76, 9, 4, 188), (79, 9, 5, 193), (104, 8, 1, 422), (107, 8, 0, 417)]
  | 1 => [(9, 1, 3, 354), (15, 1, 4, 355), (18, 1, 0, 351), (22, 1, 2, 353), (26, 0, 0, 251), (32, 1, 1, 352), (46, 9, 3, 182), (75, 2, 1, 315)]
  | 2 => [(9, 2, 0, 312), (13, 2, 1, 313), (16, 2, 2, 316)]
  | 3 => [(9, 3, 1, 397), (15, 3, 2, 398), (19, 3, 0, 396), (23, 9, 0, 172)]
  | 4 => [(12, 4, 0, 287), (18, 4, 1, 289), (22, 4, 2, 291), (25, 4, 3, 293), (29, 4, 4, 294), (32, 9, 0, 171), (35, 9, 3, 180), (38, 8, 1, 420), (43, 8, 0, 414), (67, 9, 1, 175), (70, 9, 2, 177), (77, 9, 4, 187), (80, 9, 5, 192), (83, 9, 6, 196)]
  | 5 => [(9, 5, 3, 334), (15, 5, 0, 331), (19, 5, 2, 333), (23, 0, 0, 250), (29, 5, 1, 332), (58, 2, 1, 314), (62, 9, 3, 183), (110, 8, 0, 416), (114, 0, 2, 258), (118, 7, 1, 232), (127, 7, 3, 239)]
  | 6 => [(9, 6, 2, 376), (15, 6, 3, 377), (19, 6, 4, 378), (22, 6, 0, 374), (26, 0, 0, 252), (32, 6, 1, 375), (33, 8, 1, 419), (42, 8, 0, 413), (61, 0, 2, 257), (65, 7, 1, 231), (70, 9, 3, 184), (81, 9, 5, 191), (112, 7, 3, 238)]
  | 7 => [(7, 7, 0, 227), (13, 7, 1, 229), (16, 7, 2, 234), (19, 7, 3, 236)]
  | 8 => [(7, 8, 1, 418), (13, 8, 0, 412)]
  | 9 => [(9, 9, 0, 170), (15, 9, 1, 174), (19, 9, 2, 176), (22, 9, 3, 179), (25, 9, 4, 186), (28, 9, 5, 190), (31, 9, 6, 195)]
  | 10 => [(11, 10, 0, 428), (15, 10, 1, 429), (21, 10, 2, 430), (30, 10, 3, 431), (34, 10, 4, 432), (41, 10, 5, 433), (48, 10, 6, 434), (57, 10, 7, 435), (64, 10, 8, 436), (73, 10, 9, 437), (80, 10, 10, 438), (84, 10, 11, 439), (88, 10, 12, 440), (92, 10, 13, 441), (95, 10, 14, 442), (99, 10, 15, 443), (113, 8, 0, 415), (124, 8, 1, 421), (151, 4, 0, 288), (157, 4, 1, 290), (160, 4, 2, 292), (167, 0, 1, 255), (171, 9, 0, 173), (178, 9, 3, 185), (211, 0, 2, 259), (220, 7, 3, 240), (230, 7, 1, 233), (233, 9, 2, 178), (249, 0, 5, 264), (253, 0, 3, 261), (284, 5, 3, 335), (321, 1, 4, 356), (332, 3, 2, 399), (389, 9, 4, 189), (392, 9, 5, 194), (395, 9, 6, 197)]
  | 11 => [(7, 11, 0, 1161), (13, 11, 1, 1162), (17, 11, 4, 1165), (20, 11, 5, 1166), (23, 11, 7, 1168), (26, 11, 8, 1169), (29, 11, 9, 1170), (32, 11, 11, 1172), (35, 11, 14, 1175), (39, 11, 15, 1176), (42, 11, 16, 1177), (45, 11, 17, 1178), (48, 11, 18, 1179), (51, 11, 19, 1180), (54, 11, 23, 1184), (57, 11, 24, 1185), (60, 11, 25, 1186), (63, 11, 26, 1187), (66, 11, 27, 1188), (69, 11, 28, 1189), (72, 11, 31, 1192), (75, 11, 32, 1193), (78, 11, 33, 1194), (81, 11, 35, 1196), (84, 11, 36, 1197), (87, 11, 37, 1198), (90, 11, 38, 1199), (93, 11, 40, 1201), (96, 11, 41, 1202), (99, 11, 42, 1203), (102, 11, 43, 1204), (106, 11, 44, 1205), (109, 11, 45, 1206), (112, 11, 10, 1171), (116, 11, 12, 1173), (150, 11, 29, 1190), (153, 11, 30, 1191), (160, 11, 20, 1181), (163, 11, 21, 1182), (166, 11, 22, 1183), (198, 11, 3, 1164), (201, 11, 6, 1167), (204, 11, 2, 1163), (245, 11, 34, 1195), (290, 11, 39, 1200), (326, 11, 13, 1174), (353, 11, 46, 1207)]
  | _ => []
def ML : Nat → List (Nat × Nat × Nat)
  | 0 => [(3, 1000, 219), (17, 66, 223), (54, 67, 783), (58, 1001, 787), (64, 69, 741), (68, 70, 762), (72, 143, 639), (82, 80, 710), (86, 81, 711), (89, 91, 712), (92, 6, 706), (95, 4, 737), (96, 3, 745), (99, 8, 746), (103, 5, 758)]
  | 1 => [(3, 1000, 350), (33, 22, 986), (38, 3, 987), (42, 17, 988), (51, 6, 996), (55, 18, 997), (61, 4, 992), (64, 23, 993), (67, 24, 994), (71, 25, 995), (79, 1003, 1004), (85, 26, 1007), (89, 8, 1001), (93, 5, 1002), (99, 7, 1034), (107, 261, 1037), (112, 20, 1038), (115, 9, 1045), (119, 260, 1041)]
  | 2 => [(3, 1000, 311), (21, 24, 840)]
  | 3 => [(3, 1000, 395), (28, 81, 1054), (32, 30, 1063), (36, 261, 1069), (41, 143, 1067), (45, 82, 1068), (48, 32, 1078), (51, 34, 1082), (54, 33, 1086), (57, 84, 1098)]
  | 4 => [(3, 1000, 284), (11, 78, 286), (46, 38, 561), (50, 40, 565), (54, 41, 577), (60, 39, 583), (63, 42, 569), (73, 86, 573)]
  | 5 => [(3, 1000, 330), (30, 22, 800), (35, 3, 804), (39, 45, 812), (43, 4, 810), (46, 23, 816), (50, 24, 820), (54, 25, 825), (67, 6, 805), (70, 46, 806), (74, 47, 829), (77, 26, 836), (81, 8, 811), (85, 5, 841), (89, 1004, 832), (94, 1002, 835), (97, 44, 858), (100, 72, 859), (106, 50, 860), (123, 51, 872), (130, 143, 884), (133, 56, 901), (136, 7, 905)]
  | 6 => [(3, 1000, 373), (36, 1004, 933), (45, 1001, 934), (51, 263, 939), (57, 60, 942), (75, 61, 946), (78, 62, 950), (84, 6, 955), (87, 4, 956), (91, 8, 957), (95, 5, 958), (99, 3, 954), (102, 72, 963), (106, 64, 964), (109, 59, 976), (115, 143, 977)]
  | 7 => [(1, 1000, 226)]
  | 8 => [(1, 1000, 411), (17, 264, 496), (23, 1001, 774), (29, 142, 918)]
  | 9 => [(3, 1000, 169), (34, 1001, 595), (43, 143, 616), (47, 81, 612), (51, 82, 608), (55, 261, 1102), (60, 83, 619), (63, 87, 623), (66, 80, 716), (69, 1002, 717)]
  | 10 => [(1, 1000, 159), (20, 78, 166), (27, 0, 216), (40, 36, 281), (47, 21, 308), (54, 43, 327), (63, 14, 347), (70, 57, 370), (79, 27, 392), (102, 71, 408), (105, 150, 481), (109, 152, 506), (116, 147, 518), (120, 151, 510), (127, 142, 485), (131, 146, 488), (134, 74, 530), (137, 1001, 534), (143, 76, 541), (147, 37, 557), (154, 79, 591), (163, 1, 596), (174, 85, 604), (181, 154, 631), (184, 80, 644), (187, 88, 650), (190, 12, 654), (193, 86, 658), (196, 83, 659), (199, 261, 660), (204, 89, 666), (207, 145, 674), (215, 68, 678), (223, 143, 686), (226, 144, 687), (236, 7, 702), (239, 3, 724), (243, 6, 732), (246, 9, 733), (250, 10, 754), (256, 73, 770), (260, 2, 779), (262, 48, 796), (265, 44, 846), (268, 49, 854), (272, 52, 868), (275, 53, 880), (278, 54, 889), (281, 55, 897), (287, 153, 910), (290, 4, 919), (293, 11, 920), (296, 5, 924), (299, 58, 929), (302, 59, 935), (305, 63, 959), (308, 65, 972), (311, 15, 982), (314, 148, 1008), (318, 16, 1021), (326, 19, 1030), (329, 28, 1050), (335, 29, 1059), (338, 31, 1074), (341, 35, 1094), (344, 84, 1103), (347, 90, 1120), (350, 155, 1124), (354, 156, 1127), (361, 137, 1145), (364, 141, 1146), (368, 77, 1150), (373, 149, 1013), (377, 1003, 1016), (382, 72, 492), (386, 75, 914), (398, 13, 635)]
  | 11 => [(1, 1000, 1160), (121, 158, 1312), (127, 163, 1308), (131, 161, 1315), (135, 165, 1319), (139, 162, 1327), (143, 170, 1343), (147, 164, 1355), (156, 175, 1371), (173, 176, 1387), (176, 179, 1383), (179, 180, 1379), (183, 181, 1391), (186, 177, 1395), (189, 178, 1398), (192, 182, 1375), (195, 183, 1367), (208, 159, 1428), (212, 189, 1424), (215, 190, 1420), (218, 191, 1431), (221, 192, 1435), (224, 186, 1412), (227, 193, 1416), (230, 187, 1443), (233, 195, 1447), (236, 160, 1459), (239, 197, 1455), (242, 188, 1466), (248, 204, 1498), (252, 205, 1494), (255, 207, 1518), (258, 209, 1547), (261, 208, 1514), (264, 203, 1486), (267, 206, 1490), (270, 213, 1510), (276, 210, 1543), (279, 220, 1555), (282, 223, 1566), (287, 228, 1587), (293, 231, 1599), (296, 230, 1595), (299, 234, 1631), (303, 235, 1627), (306, 236, 1619), (310, 240, 1623), (314, 238, 1634), (318, 237, 1638), (322, 239, 1615), (329, 241, 1611), (340, 252, 1691), (343, 253, 1695), (348, 254, 1687), (358, 258, 1712)]
  | 12 => [(9, 92, 156), (12, 157, 1157), (13, 93, 477), (17, 166, 1304), (18, 94, 502), (22, 167, 1323), (23, 95, 514), (26, 168, 1331), (27, 96, 522), (31, 169, 1335), (32, 97, 526), (36, 171, 1339), (37, 98, 537), (40, 172, 1347), (41, 99, 545), (44, 173, 1351), (45, 100, 549), (48, 174, 1359), (49, 101, 553), (52, 184, 1363), (53, 102, 587), (56, 185, 1404), (57, 103, 600), (60, 194, 1408), (61, 104, 627), (64, 196, 1439), (65, 105, 640), (68, 198, 1451), (69, 106, 670), (72, 199, 1462), (73, 107, 682), (76, 200, 1470), (77, 108, 690), (80, 201, 1474), (81, 109, 694), (84, 202, 1478), (85, 110, 698), (88, 211, 1482), (89, 111, 720), (93, 212, 1502), (94, 112, 728), (97, 214, 1506), (98, 113, 750), (101, 215, 1522), (102, 114, 766), (105, 216, 1526), (106, 115, 775), (109, 217, 1530), (110, 116, 788), (113, 218, 1535), (114, 117, 792), (117, 219, 1539), (118, 118, 842), (121, 221, 1551), (122, 119, 850), (125, 222, 1558), (126, 120, 864), (129, 224, 1562), (130, 121, 876), (133, 225, 1570), (134, 122, 885), (137, 226, 1574), (138, 123, 893), (141, 227, 1578), (142, 124, 906), (145, 229, 1583), (146, 125, 925), (149, 232, 1591), (150, 126, 968), (153, 233, 1603), (154, 127, 978), (157, 242, 1607), (158, 128, 1017), (161, 243, 1642), (162, 129, 1025), (165, 244, 1646), (166, 130, 1046), (169, 245, 1654), (170, 131, 1055), (173, 246, 1658), (174, 132, 1070), (177, 247, 1662), (178, 133, 1090), (181, 248, 1666), (182, 134, 1104), (185, 249, 1670), (186, 135, 1108), (190, 250, 1674), (191, 136, 1112), (194, 251, 1678), (195, 137, 1116), (198, 255, 1682), (199, 138, 1131), (202, 256, 1699), (203, 139, 1135), (206, 257, 1703), (207, 140, 1139), (210, 259, 1707)]
  | 15 => [(13, 262, 499)]
  | _ => []
def SL : Nat → List (Nat × Nat × Nat)
  | 4 => [(57, 1, 581)]
  | 9 => [(40, 2, 648)]
  | _ => []
def NL : Nat → List (Nat × Nat × Nat)
  | 0 => [(15, 7, 220)]
  | 4 => [(9, 9, 285)]
  | 10 => [(9, 8, 162), (18, 9, 164), (25, 0, 214), (38, 4, 279), (45, 2, 306), (52, 5, 325), (61, 1, 345), (68, 6, 368), (77, 3, 390)]
  | 12 => [(7, 10, 154), (10, 11, 1155)]
  | _ => []
def AL : Nat → List (Nat × Nat × Nat)
  | 0 => [(15, 16, 220)]
  | 10 => [(9, 17, 162), (25, 15, 214)]
  | _ => []
def CL : Nat → List (Nat × Value × Nat)
  | 1 => [(97, .long (61917364224), 1003), (103, .long (48271), 1035), (105, .long (2147483647), 1036)]
  | 2 => [(20, .int (-1640531535), 824)]
  | 8 => [(35, .long (31), 1154)]
  | 10 => [(324, .long (2147483647), 1029), (357, .long (17), 1143), (359, .long (31), 1144), (371, .long (61917364224), 1012)]
  | 11 => [(119, .long (5), 1311), (125, .long (3), 1358), (169, .long (48), 1402), (171, .long (57), 1403), (274, .long (2), 1534), (285, .long (6), 1582), (332, .long (20), 1650), (334, .long (2147483646), 1651), (336, .long (48271), 1652), (338, .long (2147483647), 1653), (346, .long (8), 1686), (351, .long (31), 1716), (356, .long (17), 1711), (362, .long (-1), 1717)]
  | 13 => [(264, .int (65536), 1044), (265, .int (1431655765), 663), (266, .int (858993459), 664), (267, .int (252645135), 665)]
  | _ => []
/-- where a method's words stand: code, kind, selects, initialized -/
def YP : List (Nat × Nat × Nat × Nat) := [(218, 217, 0, 140), (599, 598, 16, 140), (782, 781, 42, 140), (727, 726, 33, 140), (740, 739, 35, 140), (761, 760, 39, 140), (709, 708, 31, 140), (705, 704, 30, 140), (749, 748, 37, 140), (736, 735, 34, 140), (757, 756, 38, 140), (923, 922, 63, 140), (657, 656, 26, 140), (638, 637, 23, 140), (349, 348, 0, 145), (985, 984, 72, 145), (1024, 1023, 76, 145), (991, 990, 73, 145), (1000, 999, 74, 145), (1033, 1032, 77, 145), (1040, 1039, 0, 145), (310, 309, 0, 143), (803, 802, 45, 143), (819, 818, 48, 143), (823, 822, 49, 143), (828, 827, 50, 143), (839, 838, 51, 143), (394, 393, 0, 147), (1053, 1052, 78, 147), (1062, 1061, 79, 147), (1066, 1065, 80, 147), (1077, 1076, 81, 147), (1081, 1080, 82, 147), (1089, 1088, 84, 147), (1085, 1084, 83, 147), (1097, 1096, 85, 147), (283, 282, 0, 142), (560, 559, 8, 142), (564, 563, 9, 142), (586, 585, 14, 142), (568, 567, 10, 142), (580, 579, 13, 142), (572, 571, 11, 142), (329, 328, 0, 144), (849, 848, 52, 144), (815, 814, 47, 144), (809, 808, 46, 144), (831, 830, 0, 144), (799, 798, 44, 144), (857, 856, 53, 144), (863, 862, 54, 144), (875, 874, 56, 144), (871, 870, 55, 144), (883, 882, 57, 144), (892, 891, 58, 144), (900, 899, 59, 144), (904, 903, 60, 144), (372, 371, 0, 146), (932, 931, 64, 146), (938, 937, 65, 146), (945, 944, 66, 146), (949, 948, 67, 146), (953, 952, 68, 146), (962, 961, 69, 146), (967, 966, 70, 146), (975, 974, 71, 146), (225, 224, 0, 141), (786, 785, 43, 141), (681, 680, 29, 141), (744, 743, 36, 141), (765, 764, 40, 141), (410, 409, 0, 148), (495, 494, 2, 148), (773, 772, 41, 148), (533, 532, 6, 148), (917, 916, 62, 148), (544, 543, 7, 148), (1153, 1152, 90, 148), (168, 167, 0, 139), (594, 593, 15, 139), (647, 646, 24, 139), (615, 614, 19, 139), (611, 610, 18, 139), (622, 621, 20, 139), (1101, 1100, 86, 139), (607, 606, 17, 139), (576, 575, 12, 139), (626, 625, 21, 139), (653, 652, 25, 139), (669, 668, 27, 139), (1123, 1122, 87, 139), (715, 714, 32, 139), (158, 157, 0, 138), (480, 478, 479, 138), (505, 503, 504, 138), (517, 515, 516, 138), (525, 523, 524, 138), (529, 527, 528, 138), (540, 538, 539, 138), (548, 546, 547, 138), (552, 550, 551, 138), (556, 554, 555, 138), (590, 588, 589, 138), (603, 601, 602, 138), (630, 628, 629, 138), (643, 641, 642, 138), (673, 671, 672, 138), (685, 683, 684, 138), (693, 691, 692, 138), (697, 695, 696, 138), (701, 699, 700, 138), (723, 721, 722, 138), (731, 729, 730, 138), (753, 751, 752, 138), (769, 767, 768, 138), (778, 776, 777, 138), (791, 789, 790, 138), (795, 793, 794, 138), (845, 843, 844, 138), (853, 851, 852, 138), (867, 865, 866, 138), (879, 877, 878, 138), (888, 886, 887, 138), (896, 894, 895, 138), (909, 907, 908, 138), (928, 926, 927, 138), (971, 969, 970, 138), (981, 979, 980, 138), (1020, 1018, 1019, 138), (1028, 1026, 1027, 138), (1049, 1047, 1048, 138), (1058, 1056, 1057, 138), (1073, 1071, 1072, 138), (1093, 1091, 1092, 138), (1107, 1105, 1106, 138), (1111, 1109, 1110, 138), (1115, 1113, 1114, 138), (1119, 1117, 1118, 138), (1134, 1132, 1133, 138), (1138, 1136, 1137, 138), (1142, 1140, 1141, 138), (1149, 1148, 89, 138), (487, 486, 0, 138), (618, 617, 0, 138), (689, 688, 0, 138), (677, 676, 28, 138), (491, 490, 1, 138), (521, 520, 5, 138), (1011, 1010, 75, 138), (1015, 1014, 0, 138), (484, 483, 0, 138), (513, 512, 4, 138), (509, 508, 3, 138), (913, 912, 61, 138), (634, 633, 22, 138), (1126, 1125, 0, 138), (1130, 1129, 88, 138), (1159, 1158, 0, 149), (1314, 1313, 0, 149), (1430, 1429, 0, 149), (1461, 1460, 0, 149), (1318, 1317, 91, 149), (1330, 1329, 93, 149), (1310, 1309, 0, 149), (1357, 1356, 0, 149), (1322, 1321, 92, 149), (1307, 1305, 1306, 149), (1326, 1324, 1325, 149), (1334, 1332, 1333, 149), (1338, 1336, 1337, 149), (1346, 1345, 94, 149), (1342, 1340, 1341, 149), (1350, 1348, 1349, 149), (1354, 1352, 1353, 149), (1362, 1360, 1361, 149), (1374, 1373, 96, 149), (1390, 1389, 100, 149), (1397, 1396, 0, 149), (1401, 1400, 102, 149), (1386, 1385, 99, 149), (1382, 1381, 98, 149), (1394, 1393, 101, 149), (1378, 1377, 97, 149), (1370, 1369, 95, 149), (1366, 1364, 1365, 149), (1407, 1405, 1406, 149), (1415, 1414, 103, 149), (1446, 1445, 109, 149), (1469, 1468, 112, 149), (1427, 1426, 106, 149), (1423, 1422, 105, 149), (1434, 1433, 107, 149), (1438, 1437, 108, 149), (1419, 1418, 104, 149), (1411, 1409, 1410, 149), (1450, 1449, 110, 149), (1442, 1440, 1441, 149), (1458, 1457, 111, 149), (1454, 1452, 1453, 149), (1465, 1463, 1464, 149), (1473, 1471, 1472, 149), (1477, 1475, 1476, 149), (1481, 1479, 1480, 149), (1489, 1488, 113, 149), (1501, 1500, 116, 149), (1497, 1496, 115, 149), (1493, 1492, 114, 149), (1521, 1520, 119, 149), (1517, 1516, 118, 149), (1550, 1549, 121, 149), (1546, 1545, 120, 149), (1485, 1483, 1484, 149), (1505, 1503, 1504, 149), (1513, 1512, 117, 149), (1509, 1507, 1508, 149), (1525, 1523, 1524, 149), (1529, 1527, 1528, 149), (1533, 1531, 1532, 149), (1538, 1536, 1537, 149), (1542, 1540, 1541, 149), (1557, 1556, 0, 149), (1554, 1552, 1553, 149), (1561, 1559, 1560, 149), (1569, 1568, 122, 149), (1565, 1563, 1564, 149), (1573, 1571, 1572, 149), (1577, 1575, 1576, 149), (1581, 1579, 1580, 149), (1590, 1589, 123, 149), (1586, 1584, 1585, 149), (1598, 1597, 124, 149), (1602, 1601, 125, 149), (1594, 1592, 1593, 149), (1606, 1604, 1605, 149), (1633, 1632, 0, 149), (1630, 1629, 130, 149), (1622, 1621, 128, 149), (1641, 1640, 132, 149), (1637, 1636, 131, 149), (1618, 1617, 127, 149), (1626, 1625, 129, 149), (1614, 1613, 126, 149), (1610, 1608, 1609, 149), (1645, 1643, 1644, 149), (1649, 1647, 1648, 149), (1657, 1655, 1656, 149), (1661, 1659, 1660, 149), (1665, 1663, 1664, 149), (1669, 1667, 1668, 149), (1673, 1671, 1672, 149), (1677, 1675, 1676, 149), (1681, 1679, 1680, 149), (1694, 1693, 134, 149), (1698, 1697, 135, 149), (1690, 1689, 133, 149), (1685, 1683, 1684, 149), (1702, 1700, 1701, 149), (1706, 1704, 1705, 149), (1715, 1714, 136, 149), (1710, 1708, 1709, 149), (1043, 1042, 0, 152), (662, 661, 0, 152), (501, 500, 0, 150), (941, 940, 0, 150), (498, 497, 0, 150)]
/-- an instruction: place, itself, length, two numbers, a value, the cases of a switch -/
abbrev CE : Type := Nat × Instr × Nat × Nat × Nat × Value × List (Int32 × Nat)
