section
/-! names and tables, by program (wip/whole/gen1.py) out of the task; the first rows are the skeleton's PART A, given for pasting -/
-- ===== PART A: goes FIRST, ahead of the names: the tables' words, and 'selects' of the private methods out of them =====
/-- a private method of a class that the tables say can be made, by its rows of tables_1 -/
def lw_okq (q : MethodName × Nat) : Prop := (q.1.cls ≠ "java/lang/invoke/MethodHandle" ∧ q.1.cls ≠ "java/lang/invoke/VarHandle") ∧ Cond.instantiable q.1.cls q.2 ∈ tables_1 ∧ Cond.privateMethod q.1 ∈ tables_1 ∧ Cond.instanceMethod q.1 ∈ tables_1
theorem lw_p0 : lw_okq (⟨"ShapeDuel", "layAnew", "([LShapeDuel$Strip;III)I"⟩, 16) := ⟨⟨by decide +kernel, by decide +kernel⟩, List.mem_of_getElem? (i := 18) (by decide +kernel), List.mem_of_getElem? (i := 345) (by decide +kernel), List.mem_of_getElem? (i := 346) (by decide +kernel)⟩
theorem lw_p1 : lw_okq (⟨"ShapeDuel", "find", "(I)I"⟩, 16) := ⟨⟨by decide +kernel, by decide +kernel⟩, List.mem_of_getElem? (i := 18) (by decide +kernel), List.mem_of_getElem? (i := 352) (by decide +kernel), List.mem_of_getElem? (i := 353) (by decide +kernel)⟩
theorem lw_p2 : lw_okq (⟨"ShapeDuel$Strip", "fillAnew", "(II)V"⟩, 2) := ⟨⟨by decide +kernel, by decide +kernel⟩, List.mem_of_getElem? (i := 270) (by decide +kernel), List.mem_of_getElem? (i := 356) (by decide +kernel), List.mem_of_getElem? (i := 357) (by decide +kernel)⟩
theorem lw_p3 : lw_okq (⟨"ShapeDuel", "refusePlace", "([LShapeDuel$Strip;II)I"⟩, 16) := ⟨⟨by decide +kernel, by decide +kernel⟩, List.mem_of_getElem? (i := 18) (by decide +kernel), List.mem_of_getElem? (i := 370) (by decide +kernel), List.mem_of_getElem? (i := 371) (by decide +kernel)⟩
theorem lw_p4 : lw_okq (⟨"ShapeDuel", "refuseStrip", "([LShapeDuel$Strip;I)I"⟩, 16) := ⟨⟨by decide +kernel, by decide +kernel⟩, List.mem_of_getElem? (i := 18) (by decide +kernel), List.mem_of_getElem? (i := 374) (by decide +kernel), List.mem_of_getElem? (i := 375) (by decide +kernel)⟩
theorem lw_p5 : lw_okq (⟨"ShapeDuel", "tell", "(I)I"⟩, 16) := ⟨⟨by decide +kernel, by decide +kernel⟩, List.mem_of_getElem? (i := 18) (by decide +kernel), List.mem_of_getElem? (i := 382) (by decide +kernel), List.mem_of_getElem? (i := 383) (by decide +kernel)⟩
theorem lw_p6 : lw_okq (⟨"ShapeDuel$Strip", "holds", "(II)Z"⟩, 2) := ⟨⟨by decide +kernel, by decide +kernel⟩, List.mem_of_getElem? (i := 270) (by decide +kernel), List.mem_of_getElem? (i := 394) (by decide +kernel), List.mem_of_getElem? (i := 395) (by decide +kernel)⟩
theorem lw_p7 : lw_okq (⟨"ShapeDuel$Strip", "sum", "()J"⟩, 2) := ⟨⟨by decide +kernel, by decide +kernel⟩, List.mem_of_getElem? (i := 270) (by decide +kernel), List.mem_of_getElem? (i := 405) (by decide +kernel), List.mem_of_getElem? (i := 406) (by decide +kernel)⟩
theorem lw_p8 : lw_okq (⟨"ShapeDuel$Reader", "read", "(LShapeDuel$Strip;)I"⟩, 5) := ⟨⟨by decide +kernel, by decide +kernel⟩, List.mem_of_getElem? (i := 143) (by decide +kernel), List.mem_of_getElem? (i := 421) (by decide +kernel), List.mem_of_getElem? (i := 422) (by decide +kernel)⟩
theorem lw_p9 : lw_okq (⟨"ShapeDuel$Reader", "readItem", "(LShapeDuel$Strip;I)Z"⟩, 5) := ⟨⟨by decide +kernel, by decide +kernel⟩, List.mem_of_getElem? (i := 143) (by decide +kernel), List.mem_of_getElem? (i := 425) (by decide +kernel), List.mem_of_getElem? (i := 426) (by decide +kernel)⟩
theorem lw_p10 : lw_okq (⟨"ShapeDuel$Reader", "readChange", "(LShapeDuel$Strip;)Z"⟩, 5) := ⟨⟨by decide +kernel, by decide +kernel⟩, List.mem_of_getElem? (i := 143) (by decide +kernel), List.mem_of_getElem? (i := 429) (by decide +kernel), List.mem_of_getElem? (i := 430) (by decide +kernel)⟩
theorem lw_p11 : lw_okq (⟨"ShapeDuel$Reader", "figureFrom", "(LShapeDuel$Strip;II)I"⟩, 5) := ⟨⟨by decide +kernel, by decide +kernel⟩, List.mem_of_getElem? (i := 143) (by decide +kernel), List.mem_of_getElem? (i := 433) (by decide +kernel), List.mem_of_getElem? (i := 434) (by decide +kernel)⟩
theorem lw_p12 : lw_okq (⟨"ShapeDuel$Table", "changesFrom", "(I)I"⟩, 7) := ⟨⟨by decide +kernel, by decide +kernel⟩, List.mem_of_getElem? (i := 28) (by decide +kernel), List.mem_of_getElem? (i := 437) (by decide +kernel), List.mem_of_getElem? (i := 438) (by decide +kernel)⟩
theorem lw_p13 : lw_okq (⟨"ShapeDuel$Reader", "readFighter", "(LShapeDuel$Strip;)Z"⟩, 5) := ⟨⟨by decide +kernel, by decide +kernel⟩, List.mem_of_getElem? (i := 143) (by decide +kernel), List.mem_of_getElem? (i := 441) (by decide +kernel), List.mem_of_getElem? (i := 442) (by decide +kernel)⟩
theorem lw_p14 : lw_okq (⟨"ShapeDuel$Reader", "readShape", "(LShapeDuel$Strip;I)Z"⟩, 5) := ⟨⟨by decide +kernel, by decide +kernel⟩, List.mem_of_getElem? (i := 143) (by decide +kernel), List.mem_of_getElem? (i := 447) (by decide +kernel), List.mem_of_getElem? (i := 448) (by decide +kernel)⟩
theorem lw_p15 : lw_okq (⟨"ShapeDuel$Table", "takeOver", "(LShapeDuel$Table;)V"⟩, 7) := ⟨⟨by decide +kernel, by decide +kernel⟩, List.mem_of_getElem? (i := 28) (by decide +kernel), List.mem_of_getElem? (i := 455) (by decide +kernel), List.mem_of_getElem? (i := 456) (by decide +kernel)⟩
def lw_privs_1 : List (MethodName × Nat) := [(⟨"ShapeDuel", "layAnew", "([LShapeDuel$Strip;III)I"⟩, 16), (⟨"ShapeDuel", "find", "(I)I"⟩, 16), (⟨"ShapeDuel$Strip", "fillAnew", "(II)V"⟩, 2), (⟨"ShapeDuel", "refusePlace", "([LShapeDuel$Strip;II)I"⟩, 16), (⟨"ShapeDuel", "refuseStrip", "([LShapeDuel$Strip;I)I"⟩, 16), (⟨"ShapeDuel", "tell", "(I)I"⟩, 16), (⟨"ShapeDuel$Strip", "holds", "(II)Z"⟩, 2), (⟨"ShapeDuel$Strip", "sum", "()J"⟩, 2), (⟨"ShapeDuel$Reader", "read", "(LShapeDuel$Strip;)I"⟩, 5), (⟨"ShapeDuel$Reader", "readItem", "(LShapeDuel$Strip;I)Z"⟩, 5), (⟨"ShapeDuel$Reader", "readChange", "(LShapeDuel$Strip;)Z"⟩, 5), (⟨"ShapeDuel$Reader", "figureFrom", "(LShapeDuel$Strip;II)I"⟩, 5), (⟨"ShapeDuel$Table", "changesFrom", "(I)I"⟩, 7), (⟨"ShapeDuel$Reader", "readFighter", "(LShapeDuel$Strip;)Z"⟩, 5), (⟨"ShapeDuel$Reader", "readShape", "(LShapeDuel$Strip;I)Z"⟩, 5), (⟨"ShapeDuel$Table", "takeOver", "(LShapeDuel$Table;)V"⟩, 7)]
theorem lw_r1 : ∀ q ∈ lw_privs_1, lw_okq q := List.forall_mem_cons.mpr ⟨lw_p0, List.forall_mem_cons.mpr ⟨lw_p1, List.forall_mem_cons.mpr ⟨lw_p2, List.forall_mem_cons.mpr ⟨lw_p3, List.forall_mem_cons.mpr ⟨lw_p4, List.forall_mem_cons.mpr ⟨lw_p5, List.forall_mem_cons.mpr ⟨lw_p6, List.forall_mem_cons.mpr ⟨lw_p7, List.forall_mem_cons.mpr ⟨lw_p8, List.forall_mem_cons.mpr ⟨lw_p9, List.forall_mem_cons.mpr ⟨lw_p10, List.forall_mem_cons.mpr ⟨lw_p11, List.forall_mem_cons.mpr ⟨lw_p12, List.forall_mem_cons.mpr ⟨lw_p13, List.forall_mem_cons.mpr ⟨lw_p14, List.forall_mem_cons.mpr ⟨lw_p15, fun _ h => absurd h List.not_mem_nil⟩⟩⟩⟩⟩⟩⟩⟩⟩⟩⟩⟩⟩⟩⟩⟩
theorem lw_p16 : lw_okq (⟨"ShapeDuel$Fight", "begin", "([I[I)V"⟩, 6) := ⟨⟨by decide +kernel, by decide +kernel⟩, List.mem_of_getElem? (i := 78) (by decide +kernel), List.mem_of_getElem? (i := 460) (by decide +kernel), List.mem_of_getElem? (i := 461) (by decide +kernel)⟩
theorem lw_p17 : lw_okq (⟨"ShapeDuel$Table", "aboutShape", "(II)I"⟩, 7) := ⟨⟨by decide +kernel, by decide +kernel⟩, List.mem_of_getElem? (i := 28) (by decide +kernel), List.mem_of_getElem? (i := 468) (by decide +kernel), List.mem_of_getElem? (i := 469) (by decide +kernel)⟩
theorem lw_p18 : lw_okq (⟨"ShapeDuel$Table", "beatenBy", "(I)I"⟩, 7) := ⟨⟨by decide +kernel, by decide +kernel⟩, List.mem_of_getElem? (i := 28) (by decide +kernel), List.mem_of_getElem? (i := 472) (by decide +kernel), List.mem_of_getElem? (i := 473) (by decide +kernel)⟩
theorem lw_p19 : lw_okq (⟨"ShapeDuel$Table", "beats", "(II)Z"⟩, 7) := ⟨⟨by decide +kernel, by decide +kernel⟩, List.mem_of_getElem? (i := 28) (by decide +kernel), List.mem_of_getElem? (i := 476) (by decide +kernel), List.mem_of_getElem? (i := 477) (by decide +kernel)⟩
theorem lw_p20 : lw_okq (⟨"ShapeDuel$Table", "beatersOf", "(I)I"⟩, 7) := ⟨⟨by decide +kernel, by decide +kernel⟩, List.mem_of_getElem? (i := 28) (by decide +kernel), List.mem_of_getElem? (i := 483) (by decide +kernel), List.mem_of_getElem? (i := 484) (by decide +kernel)⟩
theorem lw_p21 : lw_okq (⟨"ShapeDuel$Table", "changesInto", "(I)I"⟩, 7) := ⟨⟨by decide +kernel, by decide +kernel⟩, List.mem_of_getElem? (i := 28) (by decide +kernel), List.mem_of_getElem? (i := 487) (by decide +kernel), List.mem_of_getElem? (i := 488) (by decide +kernel)⟩
theorem lw_p22 : lw_okq (⟨"ShapeDuel", "aboutChange", "(II)I"⟩, 16) := ⟨⟨by decide +kernel, by decide +kernel⟩, List.mem_of_getElem? (i := 18) (by decide +kernel), List.mem_of_getElem? (i := 495) (by decide +kernel), List.mem_of_getElem? (i := 496) (by decide +kernel)⟩
theorem lw_p23 : lw_okq (⟨"ShapeDuel$Fight", "whoKnows", "(I)I"⟩, 6) := ⟨⟨by decide +kernel, by decide +kernel⟩, List.mem_of_getElem? (i := 78) (by decide +kernel), List.mem_of_getElem? (i := 499) (by decide +kernel), List.mem_of_getElem? (i := 500) (by decide +kernel)⟩
theorem lw_p24 : lw_okq (⟨"ShapeDuel$Table", "isOf", "(II)Z"⟩, 7) := ⟨⟨by decide +kernel, by decide +kernel⟩, List.mem_of_getElem? (i := 28) (by decide +kernel), List.mem_of_getElem? (i := 508) (by decide +kernel), List.mem_of_getElem? (i := 509) (by decide +kernel)⟩
theorem lw_p25 : lw_okq (⟨"ShapeDuel$Table", "cheapestInto", "(I)I"⟩, 7) := ⟨⟨by decide +kernel, by decide +kernel⟩, List.mem_of_getElem? (i := 28) (by decide +kernel), List.mem_of_getElem? (i := 514) (by decide +kernel), List.mem_of_getElem? (i := 515) (by decide +kernel)⟩
theorem lw_p26 : lw_okq (⟨"ShapeDuel$Fight", "whoUsed", "(I)I"⟩, 6) := ⟨⟨by decide +kernel, by decide +kernel⟩, List.mem_of_getElem? (i := 78) (by decide +kernel), List.mem_of_getElem? (i := 518) (by decide +kernel), List.mem_of_getElem? (i := 519) (by decide +kernel)⟩
theorem lw_p27 : lw_okq (⟨"ShapeDuel$Table", "beastsToldToBeat", "(I)I"⟩, 7) := ⟨⟨by decide +kernel, by decide +kernel⟩, List.mem_of_getElem? (i := 28) (by decide +kernel), List.mem_of_getElem? (i := 530) (by decide +kernel), List.mem_of_getElem? (i := 531) (by decide +kernel)⟩
theorem lw_p28 : lw_okq (⟨"ShapeDuel", "isFighter", "(I)Z"⟩, 16) := ⟨⟨by decide +kernel, by decide +kernel⟩, List.mem_of_getElem? (i := 18) (by decide +kernel), List.mem_of_getElem? (i := 538) (by decide +kernel), List.mem_of_getElem? (i := 539) (by decide +kernel)⟩
theorem lw_p29 : lw_okq (⟨"ShapeDuel$Side", "about", "(I)I"⟩, 4) := ⟨⟨by decide +kernel, by decide +kernel⟩, List.mem_of_getElem? (i := 85) (by decide +kernel), List.mem_of_getElem? (i := 542) (by decide +kernel), List.mem_of_getElem? (i := 543) (by decide +kernel)⟩
theorem lw_p30 : lw_okq (⟨"ShapeDuel$Fight", "options", "(I)I"⟩, 6) := ⟨⟨by decide +kernel, by decide +kernel⟩, List.mem_of_getElem? (i := 78) (by decide +kernel), List.mem_of_getElem? (i := 566) (by decide +kernel), List.mem_of_getElem? (i := 567) (by decide +kernel)⟩
theorem lw_p31 : lw_okq (⟨"ShapeDuel$Fight", "takes", "(II)I"⟩, 6) := ⟨⟨by decide +kernel, by decide +kernel⟩, List.mem_of_getElem? (i := 78) (by decide +kernel), List.mem_of_getElem? (i := 570) (by decide +kernel), List.mem_of_getElem? (i := 571) (by decide +kernel)⟩
def lw_privs_2 : List (MethodName × Nat) := [(⟨"ShapeDuel$Fight", "begin", "([I[I)V"⟩, 6), (⟨"ShapeDuel$Table", "aboutShape", "(II)I"⟩, 7), (⟨"ShapeDuel$Table", "beatenBy", "(I)I"⟩, 7), (⟨"ShapeDuel$Table", "beats", "(II)Z"⟩, 7), (⟨"ShapeDuel$Table", "beatersOf", "(I)I"⟩, 7), (⟨"ShapeDuel$Table", "changesInto", "(I)I"⟩, 7), (⟨"ShapeDuel", "aboutChange", "(II)I"⟩, 16), (⟨"ShapeDuel$Fight", "whoKnows", "(I)I"⟩, 6), (⟨"ShapeDuel$Table", "isOf", "(II)Z"⟩, 7), (⟨"ShapeDuel$Table", "cheapestInto", "(I)I"⟩, 7), (⟨"ShapeDuel$Fight", "whoUsed", "(I)I"⟩, 6), (⟨"ShapeDuel$Table", "beastsToldToBeat", "(I)I"⟩, 7), (⟨"ShapeDuel", "isFighter", "(I)Z"⟩, 16), (⟨"ShapeDuel$Side", "about", "(I)I"⟩, 4), (⟨"ShapeDuel$Fight", "options", "(I)I"⟩, 6), (⟨"ShapeDuel$Fight", "takes", "(II)I"⟩, 6)]
theorem lw_r2 : ∀ q ∈ lw_privs_2, lw_okq q := List.forall_mem_cons.mpr ⟨lw_p16, List.forall_mem_cons.mpr ⟨lw_p17, List.forall_mem_cons.mpr ⟨lw_p18, List.forall_mem_cons.mpr ⟨lw_p19, List.forall_mem_cons.mpr ⟨lw_p20, List.forall_mem_cons.mpr ⟨lw_p21, List.forall_mem_cons.mpr ⟨lw_p22, List.forall_mem_cons.mpr ⟨lw_p23, List.forall_mem_cons.mpr ⟨lw_p24, List.forall_mem_cons.mpr ⟨lw_p25, List.forall_mem_cons.mpr ⟨lw_p26, List.forall_mem_cons.mpr ⟨lw_p27, List.forall_mem_cons.mpr ⟨lw_p28, List.forall_mem_cons.mpr ⟨lw_p29, List.forall_mem_cons.mpr ⟨lw_p30, List.forall_mem_cons.mpr ⟨lw_p31, fun _ h => absurd h List.not_mem_nil⟩⟩⟩⟩⟩⟩⟩⟩⟩⟩⟩⟩⟩⟩⟩⟩
theorem lw_p32 : lw_okq (⟨"ShapeDuel$Table", "price", "(II)I"⟩, 7) := ⟨⟨by decide +kernel, by decide +kernel⟩, List.mem_of_getElem? (i := 28) (by decide +kernel), List.mem_of_getElem? (i := 576) (by decide +kernel), List.mem_of_getElem? (i := 577) (by decide +kernel)⟩
theorem lw_p33 : lw_okq (⟨"ShapeDuel$Fight", "mover", "()I"⟩, 6) := ⟨⟨by decide +kernel, by decide +kernel⟩, List.mem_of_getElem? (i := 78) (by decide +kernel), List.mem_of_getElem? (i := 588) (by decide +kernel), List.mem_of_getElem? (i := 589) (by decide +kernel)⟩
theorem lw_p34 : lw_okq (⟨"ShapeDuel$Fight", "perform", "(II)Z"⟩, 6) := ⟨⟨by decide +kernel, by decide +kernel⟩, List.mem_of_getElem? (i := 78) (by decide +kernel), List.mem_of_getElem? (i := 597) (by decide +kernel), List.mem_of_getElem? (i := 598) (by decide +kernel)⟩
theorem lw_p35 : lw_okq (⟨"ShapeDuel$Fight", "packed", "()I"⟩, 6) := ⟨⟨by decide +kernel, by decide +kernel⟩, List.mem_of_getElem? (i := 78) (by decide +kernel), List.mem_of_getElem? (i := 601) (by decide +kernel), List.mem_of_getElem? (i := 602) (by decide +kernel)⟩
theorem lw_p36 : lw_okq (⟨"ShapeDuel$Side", "packed", "()I"⟩, 4) := ⟨⟨by decide +kernel, by decide +kernel⟩, List.mem_of_getElem? (i := 85) (by decide +kernel), List.mem_of_getElem? (i := 605) (by decide +kernel), List.mem_of_getElem? (i := 606) (by decide +kernel)⟩
theorem lw_p37 : lw_okq (⟨"ShapeDuel$Fight", "step", "(III)V"⟩, 6) := ⟨⟨by decide +kernel, by decide +kernel⟩, List.mem_of_getElem? (i := 78) (by decide +kernel), List.mem_of_getElem? (i := 610) (by decide +kernel), List.mem_of_getElem? (i := 611) (by decide +kernel)⟩
theorem lw_p38 : lw_okq (⟨"ShapeDuel$Fight", "takeBack", "(I)I"⟩, 6) := ⟨⟨by decide +kernel, by decide +kernel⟩, List.mem_of_getElem? (i := 78) (by decide +kernel), List.mem_of_getElem? (i := 618) (by decide +kernel), List.mem_of_getElem? (i := 619) (by decide +kernel)⟩
theorem lw_p39 : lw_okq (⟨"ShapeDuel$Fight", "unpack", "(I)V"⟩, 6) := ⟨⟨by decide +kernel, by decide +kernel⟩, List.mem_of_getElem? (i := 78) (by decide +kernel), List.mem_of_getElem? (i := 622) (by decide +kernel), List.mem_of_getElem? (i := 623) (by decide +kernel)⟩
theorem lw_p40 : lw_okq (⟨"ShapeDuel$Side", "unpack", "(I)V"⟩, 4) := ⟨⟨by decide +kernel, by decide +kernel⟩, List.mem_of_getElem? (i := 85) (by decide +kernel), List.mem_of_getElem? (i := 626) (by decide +kernel), List.mem_of_getElem? (i := 627) (by decide +kernel)⟩
theorem lw_p41 : lw_okq (⟨"ShapeDuel$Strip", "setTo", "([II)V"⟩, 2) := ⟨⟨by decide +kernel, by decide +kernel⟩, List.mem_of_getElem? (i := 270) (by decide +kernel), List.mem_of_getElem? (i := 634) (by decide +kernel), List.mem_of_getElem? (i := 635) (by decide +kernel)⟩
theorem lw_p42 : lw_okq (⟨"ShapeDuel$Fight", "takeOver", "(LShapeDuel$Fight;)V"⟩, 6) := ⟨⟨by decide +kernel, by decide +kernel⟩, List.mem_of_getElem? (i := 78) (by decide +kernel), List.mem_of_getElem? (i := 643) (by decide +kernel), List.mem_of_getElem? (i := 644) (by decide +kernel)⟩
theorem lw_p43 : lw_okq (⟨"ShapeDuel$Side", "takeOver", "(LShapeDuel$Side;)V"⟩, 4) := ⟨⟨by decide +kernel, by decide +kernel⟩, List.mem_of_getElem? (i := 85) (by decide +kernel), List.mem_of_getElem? (i := 647) (by decide +kernel), List.mem_of_getElem? (i := 648) (by decide +kernel)⟩
theorem lw_p44 : lw_okq (⟨"ShapeDuel$Search", "firstWinning", "()I"⟩, 4) := ⟨⟨by decide +kernel, by decide +kernel⟩, List.mem_of_getElem? (i := 189) (by decide +kernel), List.mem_of_getElem? (i := 660) (by decide +kernel), List.mem_of_getElem? (i := 661) (by decide +kernel)⟩
theorem lw_p45 : lw_okq (⟨"ShapeDuel$Memo", "forget", "()V"⟩, 3) := ⟨⟨by decide +kernel, by decide +kernel⟩, List.mem_of_getElem? (i := 170) (by decide +kernel), List.mem_of_getElem? (i := 664) (by decide +kernel), List.mem_of_getElem? (i := 665) (by decide +kernel)⟩
theorem lw_p46 : lw_okq (⟨"ShapeDuel$Search", "endsBehind", "(IIII)I"⟩, 4) := ⟨⟨by decide +kernel, by decide +kernel⟩, List.mem_of_getElem? (i := 189) (by decide +kernel), List.mem_of_getElem? (i := 670) (by decide +kernel), List.mem_of_getElem? (i := 671) (by decide +kernel)⟩
theorem lw_p47 : lw_okq (⟨"ShapeDuel$Search", "endsIn", "(II)I"⟩, 4) := ⟨⟨by decide +kernel, by decide +kernel⟩, List.mem_of_getElem? (i := 189) (by decide +kernel), List.mem_of_getElem? (i := 676) (by decide +kernel), List.mem_of_getElem? (i := 677) (by decide +kernel)⟩
def lw_privs_3 : List (MethodName × Nat) := [(⟨"ShapeDuel$Table", "price", "(II)I"⟩, 7), (⟨"ShapeDuel$Fight", "mover", "()I"⟩, 6), (⟨"ShapeDuel$Fight", "perform", "(II)Z"⟩, 6), (⟨"ShapeDuel$Fight", "packed", "()I"⟩, 6), (⟨"ShapeDuel$Side", "packed", "()I"⟩, 4), (⟨"ShapeDuel$Fight", "step", "(III)V"⟩, 6), (⟨"ShapeDuel$Fight", "takeBack", "(I)I"⟩, 6), (⟨"ShapeDuel$Fight", "unpack", "(I)V"⟩, 6), (⟨"ShapeDuel$Side", "unpack", "(I)V"⟩, 4), (⟨"ShapeDuel$Strip", "setTo", "([II)V"⟩, 2), (⟨"ShapeDuel$Fight", "takeOver", "(LShapeDuel$Fight;)V"⟩, 6), (⟨"ShapeDuel$Side", "takeOver", "(LShapeDuel$Side;)V"⟩, 4), (⟨"ShapeDuel$Search", "firstWinning", "()I"⟩, 4), (⟨"ShapeDuel$Memo", "forget", "()V"⟩, 3), (⟨"ShapeDuel$Search", "endsBehind", "(IIII)I"⟩, 4), (⟨"ShapeDuel$Search", "endsIn", "(II)I"⟩, 4)]
theorem lw_r3 : ∀ q ∈ lw_privs_3, lw_okq q := List.forall_mem_cons.mpr ⟨lw_p32, List.forall_mem_cons.mpr ⟨lw_p33, List.forall_mem_cons.mpr ⟨lw_p34, List.forall_mem_cons.mpr ⟨lw_p35, List.forall_mem_cons.mpr ⟨lw_p36, List.forall_mem_cons.mpr ⟨lw_p37, List.forall_mem_cons.mpr ⟨lw_p38, List.forall_mem_cons.mpr ⟨lw_p39, List.forall_mem_cons.mpr ⟨lw_p40, List.forall_mem_cons.mpr ⟨lw_p41, List.forall_mem_cons.mpr ⟨lw_p42, List.forall_mem_cons.mpr ⟨lw_p43, List.forall_mem_cons.mpr ⟨lw_p44, List.forall_mem_cons.mpr ⟨lw_p45, List.forall_mem_cons.mpr ⟨lw_p46, List.forall_mem_cons.mpr ⟨lw_p47, fun _ h => absurd h List.not_mem_nil⟩⟩⟩⟩⟩⟩⟩⟩⟩⟩⟩⟩⟩⟩⟩⟩
theorem lw_p48 : lw_okq (⟨"ShapeDuel$Memo", "keyOf", "(II)J"⟩, 3) := ⟨⟨by decide +kernel, by decide +kernel⟩, List.mem_of_getElem? (i := 170) (by decide +kernel), List.mem_of_getElem? (i := 680) (by decide +kernel), List.mem_of_getElem? (i := 681) (by decide +kernel)⟩
theorem lw_p49 : lw_okq (⟨"ShapeDuel$Memo", "slotFor", "(J)I"⟩, 3) := ⟨⟨by decide +kernel, by decide +kernel⟩, List.mem_of_getElem? (i := 170) (by decide +kernel), List.mem_of_getElem? (i := 684) (by decide +kernel), List.mem_of_getElem? (i := 685) (by decide +kernel)⟩
theorem lw_p50 : lw_okq (⟨"ShapeDuel$Memo", "has", "(IJ)Z"⟩, 3) := ⟨⟨by decide +kernel, by decide +kernel⟩, List.mem_of_getElem? (i := 170) (by decide +kernel), List.mem_of_getElem? (i := 689) (by decide +kernel), List.mem_of_getElem? (i := 690) (by decide +kernel)⟩
theorem lw_p51 : lw_okq (⟨"ShapeDuel$Memo", "store", "(JJ)V"⟩, 3) := ⟨⟨by decide +kernel, by decide +kernel⟩, List.mem_of_getElem? (i := 170) (by decide +kernel), List.mem_of_getElem? (i := 700) (by decide +kernel), List.mem_of_getElem? (i := 701) (by decide +kernel)⟩
theorem lw_p52 : lw_okq (⟨"ShapeDuel$Search", "length", "()I"⟩, 4) := ⟨⟨by decide +kernel, by decide +kernel⟩, List.mem_of_getElem? (i := 189) (by decide +kernel), List.mem_of_getElem? (i := 710) (by decide +kernel), List.mem_of_getElem? (i := 711) (by decide +kernel)⟩
theorem lw_p53 : lw_okq (⟨"ShapeDuel$Search", "bestLine", "(LShapeDuel$Strip;)V"⟩, 4) := ⟨⟨by decide +kernel, by decide +kernel⟩, List.mem_of_getElem? (i := 189) (by decide +kernel), List.mem_of_getElem? (i := 718) (by decide +kernel), List.mem_of_getElem? (i := 719) (by decide +kernel)⟩
theorem lw_p54 : lw_okq (⟨"ShapeDuel$Search", "firstWithRest", "(III)I"⟩, 4) := ⟨⟨by decide +kernel, by decide +kernel⟩, List.mem_of_getElem? (i := 189) (by decide +kernel), List.mem_of_getElem? (i := 724) (by decide +kernel), List.mem_of_getElem? (i := 725) (by decide +kernel)⟩
theorem lw_p55 : lw_okq (⟨"ShapeDuel$Search", "leastFire", "(I)I"⟩, 4) := ⟨⟨by decide +kernel, by decide +kernel⟩, List.mem_of_getElem? (i := 189) (by decide +kernel), List.mem_of_getElem? (i := 732) (by decide +kernel), List.mem_of_getElem? (i := 733) (by decide +kernel)⟩
theorem lw_p56 : lw_okq (⟨"ShapeDuel$Search", "isWonBy", "(I)Z"⟩, 4) := ⟨⟨by decide +kernel, by decide +kernel⟩, List.mem_of_getElem? (i := 189) (by decide +kernel), List.mem_of_getElem? (i := 736) (by decide +kernel), List.mem_of_getElem? (i := 737) (by decide +kernel)⟩
theorem lw_p57 : lw_okq (⟨"ShapeDuel$Search", "firstToLearn", "(I)I"⟩, 4) := ⟨⟨by decide +kernel, by decide +kernel⟩, List.mem_of_getElem? (i := 189) (by decide +kernel), List.mem_of_getElem? (i := 744) (by decide +kernel), List.mem_of_getElem? (i := 745) (by decide +kernel)⟩
theorem lw_p58 : lw_okq (⟨"ShapeDuel$Search", "needed", "(I)I"⟩, 4) := ⟨⟨by decide +kernel, by decide +kernel⟩, List.mem_of_getElem? (i := 189) (by decide +kernel), List.mem_of_getElem? (i := 753) (by decide +kernel), List.mem_of_getElem? (i := 754) (by decide +kernel)⟩
theorem lw_p59 : lw_okq (⟨"ShapeDuel$Search", "countRows", "(I)I"⟩, 4) := ⟨⟨by decide +kernel, by decide +kernel⟩, List.mem_of_getElem? (i := 189) (by decide +kernel), List.mem_of_getElem? (i := 761) (by decide +kernel), List.mem_of_getElem? (i := 762) (by decide +kernel)⟩
theorem lw_p60 : lw_okq (⟨"ShapeDuel$Search", "rowsFrom", "(II)I"⟩, 4) := ⟨⟨by decide +kernel, by decide +kernel⟩, List.mem_of_getElem? (i := 189) (by decide +kernel), List.mem_of_getElem? (i := 765) (by decide +kernel), List.mem_of_getElem? (i := 766) (by decide +kernel)⟩
theorem lw_p61 : lw_okq (⟨"ShapeDuel", "refuseTold", "(III)I"⟩, 16) := ⟨⟨by decide +kernel, by decide +kernel⟩, List.mem_of_getElem? (i := 18) (by decide +kernel), List.mem_of_getElem? (i := 774) (by decide +kernel), List.mem_of_getElem? (i := 775) (by decide +kernel)⟩
theorem lw_p62 : lw_okq (⟨"ShapeDuel$Strip", "allWithin", "(I)Z"⟩, 2) := ⟨⟨by decide +kernel, by decide +kernel⟩, List.mem_of_getElem? (i := 270) (by decide +kernel), List.mem_of_getElem? (i := 778) (by decide +kernel), List.mem_of_getElem? (i := 779) (by decide +kernel)⟩
theorem lw_p63 : lw_okq (⟨"ShapeDuel$Fight", "follow", "(LShapeDuel$Strip;)I"⟩, 6) := ⟨⟨by decide +kernel, by decide +kernel⟩, List.mem_of_getElem? (i := 78) (by decide +kernel), List.mem_of_getElem? (i := 784) (by decide +kernel), List.mem_of_getElem? (i := 785) (by decide +kernel)⟩
def lw_privs_4 : List (MethodName × Nat) := [(⟨"ShapeDuel$Memo", "keyOf", "(II)J"⟩, 3), (⟨"ShapeDuel$Memo", "slotFor", "(J)I"⟩, 3), (⟨"ShapeDuel$Memo", "has", "(IJ)Z"⟩, 3), (⟨"ShapeDuel$Memo", "store", "(JJ)V"⟩, 3), (⟨"ShapeDuel$Search", "length", "()I"⟩, 4), (⟨"ShapeDuel$Search", "bestLine", "(LShapeDuel$Strip;)V"⟩, 4), (⟨"ShapeDuel$Search", "firstWithRest", "(III)I"⟩, 4), (⟨"ShapeDuel$Search", "leastFire", "(I)I"⟩, 4), (⟨"ShapeDuel$Search", "isWonBy", "(I)Z"⟩, 4), (⟨"ShapeDuel$Search", "firstToLearn", "(I)I"⟩, 4), (⟨"ShapeDuel$Search", "needed", "(I)I"⟩, 4), (⟨"ShapeDuel$Search", "countRows", "(I)I"⟩, 4), (⟨"ShapeDuel$Search", "rowsFrom", "(II)I"⟩, 4), (⟨"ShapeDuel", "refuseTold", "(III)I"⟩, 16), (⟨"ShapeDuel$Strip", "allWithin", "(I)Z"⟩, 2), (⟨"ShapeDuel$Fight", "follow", "(LShapeDuel$Strip;)I"⟩, 6)]
theorem lw_r4 : ∀ q ∈ lw_privs_4, lw_okq q := List.forall_mem_cons.mpr ⟨lw_p48, List.forall_mem_cons.mpr ⟨lw_p49, List.forall_mem_cons.mpr ⟨lw_p50, List.forall_mem_cons.mpr ⟨lw_p51, List.forall_mem_cons.mpr ⟨lw_p52, List.forall_mem_cons.mpr ⟨lw_p53, List.forall_mem_cons.mpr ⟨lw_p54, List.forall_mem_cons.mpr ⟨lw_p55, List.forall_mem_cons.mpr ⟨lw_p56, List.forall_mem_cons.mpr ⟨lw_p57, List.forall_mem_cons.mpr ⟨lw_p58, List.forall_mem_cons.mpr ⟨lw_p59, List.forall_mem_cons.mpr ⟨lw_p60, List.forall_mem_cons.mpr ⟨lw_p61, List.forall_mem_cons.mpr ⟨lw_p62, List.forall_mem_cons.mpr ⟨lw_p63, fun _ h => absurd h List.not_mem_nil⟩⟩⟩⟩⟩⟩⟩⟩⟩⟩⟩⟩⟩⟩⟩⟩
theorem lw_p64 : lw_okq (⟨"ShapeDuel$Showing", "see", "(LShapeDuel$Strip;)V"⟩, 5) := ⟨⟨by decide +kernel, by decide +kernel⟩, List.mem_of_getElem? (i := 232) (by decide +kernel), List.mem_of_getElem? (i := 793) (by decide +kernel), List.mem_of_getElem? (i := 794) (by decide +kernel)⟩
theorem lw_p65 : lw_okq (⟨"ShapeDuel$Showing", "countWays", "()I"⟩, 5) := ⟨⟨by decide +kernel, by decide +kernel⟩, List.mem_of_getElem? (i := 232) (by decide +kernel), List.mem_of_getElem? (i := 799) (by decide +kernel), List.mem_of_getElem? (i := 800) (by decide +kernel)⟩
theorem lw_p66 : lw_okq (⟨"ShapeDuel$Showing", "waysFrom", "(I)I"⟩, 5) := ⟨⟨by decide +kernel, by decide +kernel⟩, List.mem_of_getElem? (i := 232) (by decide +kernel), List.mem_of_getElem? (i := 806) (by decide +kernel), List.mem_of_getElem? (i := 807) (by decide +kernel)⟩
theorem lw_p67 : lw_okq (⟨"ShapeDuel$Showing", "waysBy", "(II)I"⟩, 5) := ⟨⟨by decide +kernel, by decide +kernel⟩, List.mem_of_getElem? (i := 232) (by decide +kernel), List.mem_of_getElem? (i := 810) (by decide +kernel), List.mem_of_getElem? (i := 811) (by decide +kernel)⟩
theorem lw_p68 : lw_okq (⟨"ShapeDuel$Showing", "whoAt", "(I)I"⟩, 5) := ⟨⟨by decide +kernel, by decide +kernel⟩, List.mem_of_getElem? (i := 232) (by decide +kernel), List.mem_of_getElem? (i := 814) (by decide +kernel), List.mem_of_getElem? (i := 815) (by decide +kernel)⟩
theorem lw_p69 : lw_okq (⟨"ShapeDuel$Showing", "firstWay", "(LShapeDuel$Strip;)V"⟩, 5) := ⟨⟨by decide +kernel, by decide +kernel⟩, List.mem_of_getElem? (i := 232) (by decide +kernel), List.mem_of_getElem? (i := 823) (by decide +kernel), List.mem_of_getElem? (i := 824) (by decide +kernel)⟩
theorem lw_p70 : lw_okq (⟨"ShapeDuel$Showing", "firstAt", "(I)I"⟩, 5) := ⟨⟨by decide +kernel, by decide +kernel⟩, List.mem_of_getElem? (i := 232) (by decide +kernel), List.mem_of_getElem? (i := 828) (by decide +kernel), List.mem_of_getElem? (i := 829) (by decide +kernel)⟩
theorem lw_p71 : lw_okq (⟨"ShapeDuel$Showing", "inAllWays", "(I)I"⟩, 5) := ⟨⟨by decide +kernel, by decide +kernel⟩, List.mem_of_getElem? (i := 232) (by decide +kernel), List.mem_of_getElem? (i := 836) (by decide +kernel), List.mem_of_getElem? (i := 837) (by decide +kernel)⟩
theorem lw_p72 : lw_okq (⟨"ShapeDuel$Lottery", "chanceByLots", "()J"⟩, 5) := ⟨⟨by decide +kernel, by decide +kernel⟩, List.mem_of_getElem? (i := 209) (by decide +kernel), List.mem_of_getElem? (i := 846) (by decide +kernel), List.mem_of_getElem? (i := 847) (by decide +kernel)⟩
theorem lw_p73 : lw_okq (⟨"ShapeDuel$Lottery", "chance", "(II)J"⟩, 5) := ⟨⟨by decide +kernel, by decide +kernel⟩, List.mem_of_getElem? (i := 209) (by decide +kernel), List.mem_of_getElem? (i := 852) (by decide +kernel), List.mem_of_getElem? (i := 853) (by decide +kernel)⟩
theorem lw_p74 : lw_okq (⟨"ShapeDuel$Lottery", "chanceBy", "(IIII)J"⟩, 5) := ⟨⟨by decide +kernel, by decide +kernel⟩, List.mem_of_getElem? (i := 209) (by decide +kernel), List.mem_of_getElem? (i := 861) (by decide +kernel), List.mem_of_getElem? (i := 862) (by decide +kernel)⟩
theorem lw_p75 : lw_okq (⟨"ShapeDuel", "tellChance", "(J)V"⟩, 16) := ⟨⟨by decide +kernel, by decide +kernel⟩, List.mem_of_getElem? (i := 18) (by decide +kernel), List.mem_of_getElem? (i := 872) (by decide +kernel), List.mem_of_getElem? (i := 873) (by decide +kernel)⟩
theorem lw_p76 : lw_okq (⟨"ShapeDuel$Lottery", "bestChance", "()J"⟩, 5) := ⟨⟨by decide +kernel, by decide +kernel⟩, List.mem_of_getElem? (i := 209) (by decide +kernel), List.mem_of_getElem? (i := 884) (by decide +kernel), List.mem_of_getElem? (i := 885) (by decide +kernel)⟩
theorem lw_p77 : lw_okq (⟨"ShapeDuel$Lottery", "draw", "(II)I"⟩, 5) := ⟨⟨by decide +kernel, by decide +kernel⟩, List.mem_of_getElem? (i := 209) (by decide +kernel), List.mem_of_getElem? (i := 893) (by decide +kernel), List.mem_of_getElem? (i := 894) (by decide +kernel)⟩
theorem lw_p78 : lw_okq (⟨"ShapeDuel$Patterns", "countRings", "()I"⟩, 3) := ⟨⟨by decide +kernel, by decide +kernel⟩, List.mem_of_getElem? (i := 254) (by decide +kernel), List.mem_of_getElem? (i := 913) (by decide +kernel), List.mem_of_getElem? (i := 914) (by decide +kernel)⟩
theorem lw_p79 : lw_okq (⟨"ShapeDuel$Patterns", "smallestCover", "()I"⟩, 3) := ⟨⟨by decide +kernel, by decide +kernel⟩, List.mem_of_getElem? (i := 254) (by decide +kernel), List.mem_of_getElem? (i := 922) (by decide +kernel), List.mem_of_getElem? (i := 923) (by decide +kernel)⟩
def lw_privs_5 : List (MethodName × Nat) := [(⟨"ShapeDuel$Showing", "see", "(LShapeDuel$Strip;)V"⟩, 5), (⟨"ShapeDuel$Showing", "countWays", "()I"⟩, 5), (⟨"ShapeDuel$Showing", "waysFrom", "(I)I"⟩, 5), (⟨"ShapeDuel$Showing", "waysBy", "(II)I"⟩, 5), (⟨"ShapeDuel$Showing", "whoAt", "(I)I"⟩, 5), (⟨"ShapeDuel$Showing", "firstWay", "(LShapeDuel$Strip;)V"⟩, 5), (⟨"ShapeDuel$Showing", "firstAt", "(I)I"⟩, 5), (⟨"ShapeDuel$Showing", "inAllWays", "(I)I"⟩, 5), (⟨"ShapeDuel$Lottery", "chanceByLots", "()J"⟩, 5), (⟨"ShapeDuel$Lottery", "chance", "(II)J"⟩, 5), (⟨"ShapeDuel$Lottery", "chanceBy", "(IIII)J"⟩, 5), (⟨"ShapeDuel", "tellChance", "(J)V"⟩, 16), (⟨"ShapeDuel$Lottery", "bestChance", "()J"⟩, 5), (⟨"ShapeDuel$Lottery", "draw", "(II)I"⟩, 5), (⟨"ShapeDuel$Patterns", "countRings", "()I"⟩, 3), (⟨"ShapeDuel$Patterns", "smallestCover", "()I"⟩, 3)]
theorem lw_r5 : ∀ q ∈ lw_privs_5, lw_okq q := List.forall_mem_cons.mpr ⟨lw_p64, List.forall_mem_cons.mpr ⟨lw_p65, List.forall_mem_cons.mpr ⟨lw_p66, List.forall_mem_cons.mpr ⟨lw_p67, List.forall_mem_cons.mpr ⟨lw_p68, List.forall_mem_cons.mpr ⟨lw_p69, List.forall_mem_cons.mpr ⟨lw_p70, List.forall_mem_cons.mpr ⟨lw_p71, List.forall_mem_cons.mpr ⟨lw_p72, List.forall_mem_cons.mpr ⟨lw_p73, List.forall_mem_cons.mpr ⟨lw_p74, List.forall_mem_cons.mpr ⟨lw_p75, List.forall_mem_cons.mpr ⟨lw_p76, List.forall_mem_cons.mpr ⟨lw_p77, List.forall_mem_cons.mpr ⟨lw_p78, List.forall_mem_cons.mpr ⟨lw_p79, fun _ h => absurd h List.not_mem_nil⟩⟩⟩⟩⟩⟩⟩⟩⟩⟩⟩⟩⟩⟩⟩⟩
theorem lw_p80 : lw_okq (⟨"ShapeDuel$Patterns", "beatenByAny", "(I)I"⟩, 3) := ⟨⟨by decide +kernel, by decide +kernel⟩, List.mem_of_getElem? (i := 254) (by decide +kernel), List.mem_of_getElem? (i := 926) (by decide +kernel), List.mem_of_getElem? (i := 927) (by decide +kernel)⟩
theorem lw_p81 : lw_okq (⟨"ShapeDuel$Patterns", "countAlike", "()I"⟩, 3) := ⟨⟨by decide +kernel, by decide +kernel⟩, List.mem_of_getElem? (i := 254) (by decide +kernel), List.mem_of_getElem? (i := 937) (by decide +kernel), List.mem_of_getElem? (i := 938) (by decide +kernel)⟩
theorem lw_p82 : lw_okq (⟨"ShapeDuel$Patterns", "placingsFrom", "(II)I"⟩, 3) := ⟨⟨by decide +kernel, by decide +kernel⟩, List.mem_of_getElem? (i := 254) (by decide +kernel), List.mem_of_getElem? (i := 941) (by decide +kernel), List.mem_of_getElem? (i := 942) (by decide +kernel)⟩
theorem lw_p83 : lw_okq (⟨"ShapeDuel$Patterns", "noteMoved", "()V"⟩, 3) := ⟨⟨by decide +kernel, by decide +kernel⟩, List.mem_of_getElem? (i := 254) (by decide +kernel), List.mem_of_getElem? (i := 945) (by decide +kernel), List.mem_of_getElem? (i := 946) (by decide +kernel)⟩
theorem lw_p84 : lw_okq (⟨"ShapeDuel$Patterns", "fits", "(II)Z"⟩, 3) := ⟨⟨by decide +kernel, by decide +kernel⟩, List.mem_of_getElem? (i := 254) (by decide +kernel), List.mem_of_getElem? (i := 949) (by decide +kernel), List.mem_of_getElem? (i := 950) (by decide +kernel)⟩
theorem lw_p85 : lw_okq (⟨"ShapeDuel$Patterns", "firstBest", "()I"⟩, 3) := ⟨⟨by decide +kernel, by decide +kernel⟩, List.mem_of_getElem? (i := 254) (by decide +kernel), List.mem_of_getElem? (i := 957) (by decide +kernel), List.mem_of_getElem? (i := 958) (by decide +kernel)⟩
theorem lw_p86 : lw_okq (⟨"ShapeDuel$Table", "lead", "(I)I"⟩, 7) := ⟨⟨by decide +kernel, by decide +kernel⟩, List.mem_of_getElem? (i := 28) (by decide +kernel), List.mem_of_getElem? (i := 961) (by decide +kernel), List.mem_of_getElem? (i := 962) (by decide +kernel)⟩
theorem lw_p87 : lw_okq (⟨"ShapeDuel$Table", "countOf", "(I)I"⟩, 7) := ⟨⟨by decide +kernel, by decide +kernel⟩, List.mem_of_getElem? (i := 28) (by decide +kernel), List.mem_of_getElem? (i := 983) (by decide +kernel), List.mem_of_getElem? (i := 984) (by decide +kernel)⟩
theorem lw_p88 : lw_okq (⟨"ShapeDuel", "countKept", "()I"⟩, 16) := ⟨⟨by decide +kernel, by decide +kernel⟩, List.mem_of_getElem? (i := 18) (by decide +kernel), List.mem_of_getElem? (i := 990) (by decide +kernel), List.mem_of_getElem? (i := 991) (by decide +kernel)⟩
theorem lw_p89 : lw_okq (⟨"ShapeDuel", "digestNight", "(J)J"⟩, 16) := ⟨⟨by decide +kernel, by decide +kernel⟩, List.mem_of_getElem? (i := 18) (by decide +kernel), List.mem_of_getElem? (i := 1009) (by decide +kernel), List.mem_of_getElem? (i := 1010) (by decide +kernel)⟩
theorem lw_p90 : lw_okq (⟨"ShapeDuel$Strip", "mixInto", "(J)J"⟩, 2) := ⟨⟨by decide +kernel, by decide +kernel⟩, List.mem_of_getElem? (i := 270) (by decide +kernel), List.mem_of_getElem? (i := 1013) (by decide +kernel), List.mem_of_getElem? (i := 1014) (by decide +kernel)⟩
theorem lw_p91 : lw_okq (⟨"ShapeDuelModel", "found", "(I)I"⟩, 47) := ⟨⟨by decide +kernel, by decide +kernel⟩, List.mem_of_getElem? (i := 1018) (by decide +kernel), List.mem_of_getElem? (i := 1178) (by decide +kernel), List.mem_of_getElem? (i := 1179) (by decide +kernel)⟩
theorem lw_p92 : lw_okq (⟨"ShapeDuelModel", "anew", "(II)V"⟩, 47) := ⟨⟨by decide +kernel, by decide +kernel⟩, List.mem_of_getElem? (i := 1018) (by decide +kernel), List.mem_of_getElem? (i := 1182) (by decide +kernel), List.mem_of_getElem? (i := 1183) (by decide +kernel)⟩
theorem lw_p93 : lw_okq (⟨"ShapeDuelModel", "says", "(II)I"⟩, 47) := ⟨⟨by decide +kernel, by decide +kernel⟩, List.mem_of_getElem? (i := 1018) (by decide +kernel), List.mem_of_getElem? (i := 1190) (by decide +kernel), List.mem_of_getElem? (i := 1191) (by decide +kernel)⟩
theorem lw_p94 : lw_okq (⟨"ShapeDuelModel", "isPart", "(III)Z"⟩, 47) := ⟨⟨by decide +kernel, by decide +kernel⟩, List.mem_of_getElem? (i := 1018) (by decide +kernel), List.mem_of_getElem? (i := 1206) (by decide +kernel), List.mem_of_getElem? (i := 1207) (by decide +kernel)⟩
theorem lw_p95 : lw_okq (⟨"ShapeDuelModel", "faultOf", "(I)I"⟩, 47) := ⟨⟨by decide +kernel, by decide +kernel⟩, List.mem_of_getElem? (i := 1018) (by decide +kernel), List.mem_of_getElem? (i := 1230) (by decide +kernel), List.mem_of_getElem? (i := 1231) (by decide +kernel)⟩
def lw_privs_6 : List (MethodName × Nat) := [(⟨"ShapeDuel$Patterns", "beatenByAny", "(I)I"⟩, 3), (⟨"ShapeDuel$Patterns", "countAlike", "()I"⟩, 3), (⟨"ShapeDuel$Patterns", "placingsFrom", "(II)I"⟩, 3), (⟨"ShapeDuel$Patterns", "noteMoved", "()V"⟩, 3), (⟨"ShapeDuel$Patterns", "fits", "(II)Z"⟩, 3), (⟨"ShapeDuel$Patterns", "firstBest", "()I"⟩, 3), (⟨"ShapeDuel$Table", "lead", "(I)I"⟩, 7), (⟨"ShapeDuel$Table", "countOf", "(I)I"⟩, 7), (⟨"ShapeDuel", "countKept", "()I"⟩, 16), (⟨"ShapeDuel", "digestNight", "(J)J"⟩, 16), (⟨"ShapeDuel$Strip", "mixInto", "(J)J"⟩, 2), (⟨"ShapeDuelModel", "found", "(I)I"⟩, 47), (⟨"ShapeDuelModel", "anew", "(II)V"⟩, 47), (⟨"ShapeDuelModel", "says", "(II)I"⟩, 47), (⟨"ShapeDuelModel", "isPart", "(III)Z"⟩, 47), (⟨"ShapeDuelModel", "faultOf", "(I)I"⟩, 47)]
theorem lw_r6 : ∀ q ∈ lw_privs_6, lw_okq q := List.forall_mem_cons.mpr ⟨lw_p80, List.forall_mem_cons.mpr ⟨lw_p81, List.forall_mem_cons.mpr ⟨lw_p82, List.forall_mem_cons.mpr ⟨lw_p83, List.forall_mem_cons.mpr ⟨lw_p84, List.forall_mem_cons.mpr ⟨lw_p85, List.forall_mem_cons.mpr ⟨lw_p86, List.forall_mem_cons.mpr ⟨lw_p87, List.forall_mem_cons.mpr ⟨lw_p88, List.forall_mem_cons.mpr ⟨lw_p89, List.forall_mem_cons.mpr ⟨lw_p90, List.forall_mem_cons.mpr ⟨lw_p91, List.forall_mem_cons.mpr ⟨lw_p92, List.forall_mem_cons.mpr ⟨lw_p93, List.forall_mem_cons.mpr ⟨lw_p94, List.forall_mem_cons.mpr ⟨lw_p95, fun _ h => absurd h List.not_mem_nil⟩⟩⟩⟩⟩⟩⟩⟩⟩⟩⟩⟩⟩⟩⟩⟩
theorem lw_p96 : lw_okq (⟨"ShapeDuelModel", "byteAt", "()I"⟩, 47) := ⟨⟨by decide +kernel, by decide +kernel⟩, List.mem_of_getElem? (i := 1018) (by decide +kernel), List.mem_of_getElem? (i := 1234) (by decide +kernel), List.mem_of_getElem? (i := 1235) (by decide +kernel)⟩
theorem lw_p97 : lw_okq (⟨"ShapeDuelModel", "takesItem", "()Z"⟩, 47) := ⟨⟨by decide +kernel, by decide +kernel⟩, List.mem_of_getElem? (i := 1018) (by decide +kernel), List.mem_of_getElem? (i := 1238) (by decide +kernel), List.mem_of_getElem? (i := 1239) (by decide +kernel)⟩
theorem lw_p98 : lw_okq (⟨"ShapeDuelModel", "takesChange", "()Z"⟩, 47) := ⟨⟨by decide +kernel, by decide +kernel⟩, List.mem_of_getElem? (i := 1018) (by decide +kernel), List.mem_of_getElem? (i := 1242) (by decide +kernel), List.mem_of_getElem? (i := 1243) (by decide +kernel)⟩
theorem lw_p99 : lw_okq (⟨"ShapeDuelModel", "fromMany", "(I)I"⟩, 47) := ⟨⟨by decide +kernel, by decide +kernel⟩, List.mem_of_getElem? (i := 1018) (by decide +kernel), List.mem_of_getElem? (i := 1246) (by decide +kernel), List.mem_of_getElem? (i := 1247) (by decide +kernel)⟩
theorem lw_p100 : lw_okq (⟨"ShapeDuelModel", "takesFigure", "(II)I"⟩, 47) := ⟨⟨by decide +kernel, by decide +kernel⟩, List.mem_of_getElem? (i := 1018) (by decide +kernel), List.mem_of_getElem? (i := 1250) (by decide +kernel), List.mem_of_getElem? (i := 1251) (by decide +kernel)⟩
theorem lw_p101 : lw_okq (⟨"ShapeDuelModel", "takesFighter", "()Z"⟩, 47) := ⟨⟨by decide +kernel, by decide +kernel⟩, List.mem_of_getElem? (i := 1018) (by decide +kernel), List.mem_of_getElem? (i := 1254) (by decide +kernel), List.mem_of_getElem? (i := 1255) (by decide +kernel)⟩
theorem lw_p102 : lw_okq (⟨"ShapeDuelModel", "takesShape", "(I)Z"⟩, 47) := ⟨⟨by decide +kernel, by decide +kernel⟩, List.mem_of_getElem? (i := 1018) (by decide +kernel), List.mem_of_getElem? (i := 1261) (by decide +kernel), List.mem_of_getElem? (i := 1262) (by decide +kernel)⟩
theorem lw_p103 : lw_okq (⟨"ShapeDuelModel", "isShape", "(I)Z"⟩, 47) := ⟨⟨by decide +kernel, by decide +kernel⟩, List.mem_of_getElem? (i := 1018) (by decide +kernel), List.mem_of_getElem? (i := 1275) (by decide +kernel), List.mem_of_getElem? (i := 1276) (by decide +kernel)⟩
theorem lw_p104 : lw_okq (⟨"ShapeDuelModel", "shapeOf", "(II)I"⟩, 47) := ⟨⟨by decide +kernel, by decide +kernel⟩, List.mem_of_getElem? (i := 1018) (by decide +kernel), List.mem_of_getElem? (i := 1279) (by decide +kernel), List.mem_of_getElem? (i := 1280) (by decide +kernel)⟩
theorem lw_p105 : lw_okq (⟨"ShapeDuelModel", "beatsOf", "(I)I"⟩, 47) := ⟨⟨by decide +kernel, by decide +kernel⟩, List.mem_of_getElem? (i := 1018) (by decide +kernel), List.mem_of_getElem? (i := 1283) (by decide +kernel), List.mem_of_getElem? (i := 1284) (by decide +kernel)⟩
theorem lw_p106 : lw_okq (⟨"ShapeDuelModel", "beats", "(II)Z"⟩, 47) := ⟨⟨by decide +kernel, by decide +kernel⟩, List.mem_of_getElem? (i := 1018) (by decide +kernel), List.mem_of_getElem? (i := 1287) (by decide +kernel), List.mem_of_getElem? (i := 1288) (by decide +kernel)⟩
theorem lw_p107 : lw_okq (⟨"ShapeDuelModel", "beatenBy", "(I)I"⟩, 47) := ⟨⟨by decide +kernel, by decide +kernel⟩, List.mem_of_getElem? (i := 1018) (by decide +kernel), List.mem_of_getElem? (i := 1294) (by decide +kernel), List.mem_of_getElem? (i := 1295) (by decide +kernel)⟩
theorem lw_p108 : lw_okq (⟨"ShapeDuelModel", "leading", "(I)I"⟩, 47) := ⟨⟨by decide +kernel, by decide +kernel⟩, List.mem_of_getElem? (i := 1018) (by decide +kernel), List.mem_of_getElem? (i := 1298) (by decide +kernel), List.mem_of_getElem? (i := 1299) (by decide +kernel)⟩
theorem lw_p109 : lw_okq (⟨"ShapeDuelModel", "isChange", "(I)Z"⟩, 47) := ⟨⟨by decide +kernel, by decide +kernel⟩, List.mem_of_getElem? (i := 1018) (by decide +kernel), List.mem_of_getElem? (i := 1306) (by decide +kernel), List.mem_of_getElem? (i := 1307) (by decide +kernel)⟩
theorem lw_p110 : lw_okq (⟨"ShapeDuelModel", "changeOf", "(II)I"⟩, 47) := ⟨⟨by decide +kernel, by decide +kernel⟩, List.mem_of_getElem? (i := 1018) (by decide +kernel), List.mem_of_getElem? (i := 1310) (by decide +kernel), List.mem_of_getElem? (i := 1311) (by decide +kernel)⟩
theorem lw_p111 : lw_okq (⟨"ShapeDuelModel", "markOf", "(II)I"⟩, 47) := ⟨⟨by decide +kernel, by decide +kernel⟩, List.mem_of_getElem? (i := 1018) (by decide +kernel), List.mem_of_getElem? (i := 1318) (by decide +kernel), List.mem_of_getElem? (i := 1319) (by decide +kernel)⟩
def lw_privs_7 : List (MethodName × Nat) := [(⟨"ShapeDuelModel", "byteAt", "()I"⟩, 47), (⟨"ShapeDuelModel", "takesItem", "()Z"⟩, 47), (⟨"ShapeDuelModel", "takesChange", "()Z"⟩, 47), (⟨"ShapeDuelModel", "fromMany", "(I)I"⟩, 47), (⟨"ShapeDuelModel", "takesFigure", "(II)I"⟩, 47), (⟨"ShapeDuelModel", "takesFighter", "()Z"⟩, 47), (⟨"ShapeDuelModel", "takesShape", "(I)Z"⟩, 47), (⟨"ShapeDuelModel", "isShape", "(I)Z"⟩, 47), (⟨"ShapeDuelModel", "shapeOf", "(II)I"⟩, 47), (⟨"ShapeDuelModel", "beatsOf", "(I)I"⟩, 47), (⟨"ShapeDuelModel", "beats", "(II)Z"⟩, 47), (⟨"ShapeDuelModel", "beatenBy", "(I)I"⟩, 47), (⟨"ShapeDuelModel", "leading", "(I)I"⟩, 47), (⟨"ShapeDuelModel", "isChange", "(I)Z"⟩, 47), (⟨"ShapeDuelModel", "changeOf", "(II)I"⟩, 47), (⟨"ShapeDuelModel", "markOf", "(II)I"⟩, 47)]
theorem lw_r7 : ∀ q ∈ lw_privs_7, lw_okq q := List.forall_mem_cons.mpr ⟨lw_p96, List.forall_mem_cons.mpr ⟨lw_p97, List.forall_mem_cons.mpr ⟨lw_p98, List.forall_mem_cons.mpr ⟨lw_p99, List.forall_mem_cons.mpr ⟨lw_p100, List.forall_mem_cons.mpr ⟨lw_p101, List.forall_mem_cons.mpr ⟨lw_p102, List.forall_mem_cons.mpr ⟨lw_p103, List.forall_mem_cons.mpr ⟨lw_p104, List.forall_mem_cons.mpr ⟨lw_p105, List.forall_mem_cons.mpr ⟨lw_p106, List.forall_mem_cons.mpr ⟨lw_p107, List.forall_mem_cons.mpr ⟨lw_p108, List.forall_mem_cons.mpr ⟨lw_p109, List.forall_mem_cons.mpr ⟨lw_p110, List.forall_mem_cons.mpr ⟨lw_p111, fun _ h => absurd h List.not_mem_nil⟩⟩⟩⟩⟩⟩⟩⟩⟩⟩⟩⟩⟩⟩⟩⟩
theorem lw_p112 : lw_okq (⟨"ShapeDuelModel", "isFighter", "(I)Z"⟩, 47) := ⟨⟨by decide +kernel, by decide +kernel⟩, List.mem_of_getElem? (i := 1018) (by decide +kernel), List.mem_of_getElem? (i := 1329) (by decide +kernel), List.mem_of_getElem? (i := 1330) (by decide +kernel)⟩
theorem lw_p113 : lw_okq (⟨"ShapeDuelModel", "layRoot", "()V"⟩, 47) := ⟨⟨by decide +kernel, by decide +kernel⟩, List.mem_of_getElem? (i := 1018) (by decide +kernel), List.mem_of_getElem? (i := 1349) (by decide +kernel), List.mem_of_getElem? (i := 1350) (by decide +kernel)⟩
theorem lw_p114 : lw_okq (⟨"ShapeDuelModel", "canOf", "(II)I"⟩, 47) := ⟨⟨by decide +kernel, by decide +kernel⟩, List.mem_of_getElem? (i := 1018) (by decide +kernel), List.mem_of_getElem? (i := 1353) (by decide +kernel), List.mem_of_getElem? (i := 1354) (by decide +kernel)⟩
theorem lw_p115 : lw_okq (⟨"ShapeDuelModel", "canBe", "(III)Z"⟩, 47) := ⟨⟨by decide +kernel, by decide +kernel⟩, List.mem_of_getElem? (i := 1018) (by decide +kernel), List.mem_of_getElem? (i := 1357) (by decide +kernel), List.mem_of_getElem? (i := 1358) (by decide +kernel)⟩
theorem lw_p116 : lw_okq (⟨"ShapeDuelModel", "takes", "(III)I"⟩, 47) := ⟨⟨by decide +kernel, by decide +kernel⟩, List.mem_of_getElem? (i := 1018) (by decide +kernel), List.mem_of_getElem? (i := 1361) (by decide +kernel), List.mem_of_getElem? (i := 1362) (by decide +kernel)⟩
theorem lw_p117 : lw_okq (⟨"ShapeDuelModel", "does", "(I)V"⟩, 47) := ⟨⟨by decide +kernel, by decide +kernel⟩, List.mem_of_getElem? (i := 1018) (by decide +kernel), List.mem_of_getElem? (i := 1373) (by decide +kernel), List.mem_of_getElem? (i := 1374) (by decide +kernel)⟩
theorem lw_p118 : lw_okq (⟨"ShapeDuelModel", "dives", "(II)V"⟩, 47) := ⟨⟨by decide +kernel, by decide +kernel⟩, List.mem_of_getElem? (i := 1018) (by decide +kernel), List.mem_of_getElem? (i := 1377) (by decide +kernel), List.mem_of_getElem? (i := 1378) (by decide +kernel)⟩
theorem lw_p119 : lw_okq (⟨"ShapeDuelModel", "moverAt", "(I)I"⟩, 47) := ⟨⟨by decide +kernel, by decide +kernel⟩, List.mem_of_getElem? (i := 1018) (by decide +kernel), List.mem_of_getElem? (i := 1381) (by decide +kernel), List.mem_of_getElem? (i := 1382) (by decide +kernel)⟩
theorem lw_p120 : lw_okq (⟨"ShapeDuelModel", "score", "()I"⟩, 47) := ⟨⟨by decide +kernel, by decide +kernel⟩, List.mem_of_getElem? (i := 1018) (by decide +kernel), List.mem_of_getElem? (i := 1406) (by decide +kernel), List.mem_of_getElem? (i := 1407) (by decide +kernel)⟩
theorem lw_p121 : lw_okq (⟨"ShapeDuelModel", "nextChange", "(I)I"⟩, 47) := ⟨⟨by decide +kernel, by decide +kernel⟩, List.mem_of_getElem? (i := 1018) (by decide +kernel), List.mem_of_getElem? (i := 1410) (by decide +kernel), List.mem_of_getElem? (i := 1411) (by decide +kernel)⟩
theorem lw_p122 : lw_okq (⟨"ShapeDuelModel", "doesWin", "(I)Z"⟩, 47) := ⟨⟨by decide +kernel, by decide +kernel⟩, List.mem_of_getElem? (i := 1018) (by decide +kernel), List.mem_of_getElem? (i := 1429) (by decide +kernel), List.mem_of_getElem? (i := 1430) (by decide +kernel)⟩
theorem lw_p123 : lw_okq (⟨"ShapeDuelModel", "bars", "(III)I"⟩, 47) := ⟨⟨by decide +kernel, by decide +kernel⟩, List.mem_of_getElem? (i := 1018) (by decide +kernel), List.mem_of_getElem? (i := 1450) (by decide +kernel), List.mem_of_getElem? (i := 1451) (by decide +kernel)⟩
theorem lw_p124 : lw_okq (⟨"ShapeDuelModel", "findShown", "(I)V"⟩, 47) := ⟨⟨by decide +kernel, by decide +kernel⟩, List.mem_of_getElem? (i := 1018) (by decide +kernel), List.mem_of_getElem? (i := 1458) (by decide +kernel), List.mem_of_getElem? (i := 1459) (by decide +kernel)⟩
theorem lw_p125 : lw_okq (⟨"ShapeDuelModel", "notesShown", "(I)V"⟩, 47) := ⟨⟨by decide +kernel, by decide +kernel⟩, List.mem_of_getElem? (i := 1018) (by decide +kernel), List.mem_of_getElem? (i := 1462) (by decide +kernel), List.mem_of_getElem? (i := 1463) (by decide +kernel)⟩
theorem lw_p126 : lw_okq (⟨"ShapeDuelModel", "chancesTold", "(Z)I"⟩, 47) := ⟨⟨by decide +kernel, by decide +kernel⟩, List.mem_of_getElem? (i := 1018) (by decide +kernel), List.mem_of_getElem? (i := 1474) (by decide +kernel), List.mem_of_getElem? (i := 1475) (by decide +kernel)⟩
theorem lw_p127 : lw_okq (⟨"ShapeDuelModel", "chances", "(Z)I"⟩, 47) := ⟨⟨by decide +kernel, by decide +kernel⟩, List.mem_of_getElem? (i := 1018) (by decide +kernel), List.mem_of_getElem? (i := 1478) (by decide +kernel), List.mem_of_getElem? (i := 1479) (by decide +kernel)⟩
def lw_privs_8 : List (MethodName × Nat) := [(⟨"ShapeDuelModel", "isFighter", "(I)Z"⟩, 47), (⟨"ShapeDuelModel", "layRoot", "()V"⟩, 47), (⟨"ShapeDuelModel", "canOf", "(II)I"⟩, 47), (⟨"ShapeDuelModel", "canBe", "(III)Z"⟩, 47), (⟨"ShapeDuelModel", "takes", "(III)I"⟩, 47), (⟨"ShapeDuelModel", "does", "(I)V"⟩, 47), (⟨"ShapeDuelModel", "dives", "(II)V"⟩, 47), (⟨"ShapeDuelModel", "moverAt", "(I)I"⟩, 47), (⟨"ShapeDuelModel", "score", "()I"⟩, 47), (⟨"ShapeDuelModel", "nextChange", "(I)I"⟩, 47), (⟨"ShapeDuelModel", "doesWin", "(I)Z"⟩, 47), (⟨"ShapeDuelModel", "bars", "(III)I"⟩, 47), (⟨"ShapeDuelModel", "findShown", "(I)V"⟩, 47), (⟨"ShapeDuelModel", "notesShown", "(I)V"⟩, 47), (⟨"ShapeDuelModel", "chancesTold", "(Z)I"⟩, 47), (⟨"ShapeDuelModel", "chances", "(Z)I"⟩, 47)]
theorem lw_r8 : ∀ q ∈ lw_privs_8, lw_okq q := List.forall_mem_cons.mpr ⟨lw_p112, List.forall_mem_cons.mpr ⟨lw_p113, List.forall_mem_cons.mpr ⟨lw_p114, List.forall_mem_cons.mpr ⟨lw_p115, List.forall_mem_cons.mpr ⟨lw_p116, List.forall_mem_cons.mpr ⟨lw_p117, List.forall_mem_cons.mpr ⟨lw_p118, List.forall_mem_cons.mpr ⟨lw_p119, List.forall_mem_cons.mpr ⟨lw_p120, List.forall_mem_cons.mpr ⟨lw_p121, List.forall_mem_cons.mpr ⟨lw_p122, List.forall_mem_cons.mpr ⟨lw_p123, List.forall_mem_cons.mpr ⟨lw_p124, List.forall_mem_cons.mpr ⟨lw_p125, List.forall_mem_cons.mpr ⟨lw_p126, List.forall_mem_cons.mpr ⟨lw_p127, fun _ h => absurd h List.not_mem_nil⟩⟩⟩⟩⟩⟩⟩⟩⟩⟩⟩⟩⟩⟩⟩⟩
theorem lw_p128 : lw_okq (⟨"ShapeDuelModel", "isChance", "(IJ)V"⟩, 47) := ⟨⟨by decide +kernel, by decide +kernel⟩, List.mem_of_getElem? (i := 1018) (by decide +kernel), List.mem_of_getElem? (i := 1482) (by decide +kernel), List.mem_of_getElem? (i := 1483) (by decide +kernel)⟩
theorem lw_p129 : lw_okq (⟨"ShapeDuelModel", "closes", "(IZ)V"⟩, 47) := ⟨⟨by decide +kernel, by decide +kernel⟩, List.mem_of_getElem? (i := 1018) (by decide +kernel), List.mem_of_getElem? (i := 1486) (by decide +kernel), List.mem_of_getElem? (i := 1487) (by decide +kernel)⟩
theorem lw_p130 : lw_okq (⟨"ShapeDuelModel", "lowest", "(I)V"⟩, 47) := ⟨⟨by decide +kernel, by decide +kernel⟩, List.mem_of_getElem? (i := 1018) (by decide +kernel), List.mem_of_getElem? (i := 1490) (by decide +kernel), List.mem_of_getElem? (i := 1491) (by decide +kernel)⟩
theorem lw_p131 : lw_okq (⟨"ShapeDuelModel", "isMore", "(JJI)Z"⟩, 47) := ⟨⟨by decide +kernel, by decide +kernel⟩, List.mem_of_getElem? (i := 1018) (by decide +kernel), List.mem_of_getElem? (i := 1497) (by decide +kernel), List.mem_of_getElem? (i := 1498) (by decide +kernel)⟩
theorem lw_p132 : lw_okq (⟨"ShapeDuelModel", "adds", "(IJJ)V"⟩, 47) := ⟨⟨by decide +kernel, by decide +kernel⟩, List.mem_of_getElem? (i := 1018) (by decide +kernel), List.mem_of_getElem? (i := 1501) (by decide +kernel), List.mem_of_getElem? (i := 1502) (by decide +kernel)⟩
theorem lw_p133 : lw_okq (⟨"ShapeDuelModel", "countOf", "(I)I"⟩, 47) := ⟨⟨by decide +kernel, by decide +kernel⟩, List.mem_of_getElem? (i := 1018) (by decide +kernel), List.mem_of_getElem? (i := 1550) (by decide +kernel), List.mem_of_getElem? (i := 1551) (by decide +kernel)⟩
theorem lw_p134 : lw_okq (⟨"ShapeDuelModel", "kindsMany", "(II)I"⟩, 47) := ⟨⟨by decide +kernel, by decide +kernel⟩, List.mem_of_getElem? (i := 1018) (by decide +kernel), List.mem_of_getElem? (i := 1554) (by decide +kernel), List.mem_of_getElem? (i := 1555) (by decide +kernel)⟩
theorem lw_p135 : lw_okq (⟨"ShapeDuelModel", "thereMany", "(I)I"⟩, 47) := ⟨⟨by decide +kernel, by decide +kernel⟩, List.mem_of_getElem? (i := 1018) (by decide +kernel), List.mem_of_getElem? (i := 1558) (by decide +kernel), List.mem_of_getElem? (i := 1559) (by decide +kernel)⟩
theorem lw_p136 : lw_okq (⟨"ShapeDuelModel", "mix", "(J)V"⟩, 47) := ⟨⟨by decide +kernel, by decide +kernel⟩, List.mem_of_getElem? (i := 1018) (by decide +kernel), List.mem_of_getElem? (i := 1575) (by decide +kernel), List.mem_of_getElem? (i := 1576) (by decide +kernel)⟩
def lw_privs_9 : List (MethodName × Nat) := [(⟨"ShapeDuelModel", "isChance", "(IJ)V"⟩, 47), (⟨"ShapeDuelModel", "closes", "(IZ)V"⟩, 47), (⟨"ShapeDuelModel", "lowest", "(I)V"⟩, 47), (⟨"ShapeDuelModel", "isMore", "(JJI)Z"⟩, 47), (⟨"ShapeDuelModel", "adds", "(IJJ)V"⟩, 47), (⟨"ShapeDuelModel", "countOf", "(I)I"⟩, 47), (⟨"ShapeDuelModel", "kindsMany", "(II)I"⟩, 47), (⟨"ShapeDuelModel", "thereMany", "(I)I"⟩, 47), (⟨"ShapeDuelModel", "mix", "(J)V"⟩, 47)]
theorem lw_r9 : ∀ q ∈ lw_privs_9, lw_okq q := List.forall_mem_cons.mpr ⟨lw_p128, List.forall_mem_cons.mpr ⟨lw_p129, List.forall_mem_cons.mpr ⟨lw_p130, List.forall_mem_cons.mpr ⟨lw_p131, List.forall_mem_cons.mpr ⟨lw_p132, List.forall_mem_cons.mpr ⟨lw_p133, List.forall_mem_cons.mpr ⟨lw_p134, List.forall_mem_cons.mpr ⟨lw_p135, List.forall_mem_cons.mpr ⟨lw_p136, fun _ h => absurd h List.not_mem_nil⟩⟩⟩⟩⟩⟩⟩⟩⟩
def lw_privs : List (MethodName × Nat) := lw_privs_1 ++ (lw_privs_2 ++ (lw_privs_3 ++ (lw_privs_4 ++ (lw_privs_5 ++ (lw_privs_6 ++ (lw_privs_7 ++ (lw_privs_8 ++ (lw_privs_9))))))))
def lw_tbl : List Cond := k2_sels lw_privs ++ tables_1
theorem lw_privs_ok : ∀ q ∈ lw_privs, lw_okq q := by
  show ∀ q ∈ lw_privs_1 ++ (lw_privs_2 ++ (lw_privs_3 ++ (lw_privs_4 ++ (lw_privs_5 ++ (lw_privs_6 ++ (lw_privs_7 ++ (lw_privs_8 ++ (lw_privs_9)))))))), lw_okq q
  exact List.forall_mem_append.mpr ⟨lw_r1, List.forall_mem_append.mpr ⟨lw_r2, List.forall_mem_append.mpr ⟨lw_r3, List.forall_mem_append.mpr ⟨lw_r4, List.forall_mem_append.mpr ⟨lw_r5, List.forall_mem_append.mpr ⟨lw_r6, List.forall_mem_append.mpr ⟨lw_r7, List.forall_mem_append.mpr ⟨lw_r8, lw_r9⟩⟩⟩⟩⟩⟩⟩⟩
def RX0 : String := "ShapeDuel$Fight"
def TX0 : u_T := fun k => match k with
  | 0 => ("ShapeDuel$Fight", "table", "LShapeDuel$Table;", true)
  | 1 => ("ShapeDuel$Fight", "there", "Z", false)
  | 2 => ("ShapeDuel$Fight", "sides", "[LShapeDuel$Side;", true)
  | 3 => ("ShapeDuel$Fight", "done", "[I", true)
  | 4 => ("ShapeDuel$Fight", "ahead", "[I", true)
  | _ => ("ShapeDuel$Fight", "size", "I", false)
def tyX0 : Nat → FieldType := fun k => match k with
  | 0 => .object "ShapeDuel$Table"
  | 1 => .boolean
  | 2 => .array (.object "ShapeDuel$Side")
  | 3 => .array (.int)
  | 4 => .array (.int)
  | _ => .int
theorem nmX0 : ∀ a, a < 6 → ∀ b, b < 6 → a ≠ b → (TX0 a).2.1 ≠ (TX0 b).2.1 := by decide +kernel
theorem tyX0_ok : ∀ k, k < 6 → parseFieldDescriptor (TX0 k).2.2.1 = some (tyX0 k) := by decide +kernel
def RX1 : String := "ShapeDuel$Lottery"
def TX1 : u_T := fun k => match k with
  | 0 => ("ShapeDuel$Lottery", "fight", "LShapeDuel$Fight;", true)
  | 1 => ("ShapeDuel$Lottery", "table", "LShapeDuel$Table;", true)
  | 2 => ("ShapeDuel$Lottery", "memo", "LShapeDuel$Memo;", true)
  | 3 => ("ShapeDuel$Lottery", "chooser", "I", false)
  | _ => ("ShapeDuel$Lottery", "bestChange", "I", false)
def tyX1 : Nat → FieldType := fun k => match k with
  | 0 => .object "ShapeDuel$Fight"
  | 1 => .object "ShapeDuel$Table"
  | 2 => .object "ShapeDuel$Memo"
  | 3 => .int
  | _ => .int
theorem nmX1 : ∀ a, a < 5 → ∀ b, b < 5 → a ≠ b → (TX1 a).2.1 ≠ (TX1 b).2.1 := by decide +kernel
theorem tyX1_ok : ∀ k, k < 5 → parseFieldDescriptor (TX1 k).2.2.1 = some (tyX1 k) := by decide +kernel
def RX2 : String := "ShapeDuel$Memo"
def TX2 : u_T := fun k => match k with
  | 0 => ("ShapeDuel$Memo", "keys", "[J", true)
  | 1 => ("ShapeDuel$Memo", "values", "[J", true)
  | _ => ("ShapeDuel$Memo", "era", "J", false)
def tyX2 : Nat → FieldType := fun k => match k with
  | 0 => .array (.long)
  | 1 => .array (.long)
  | _ => .long
theorem nmX2 : ∀ a, a < 3 → ∀ b, b < 3 → a ≠ b → (TX2 a).2.1 ≠ (TX2 b).2.1 := by decide +kernel
theorem tyX2_ok : ∀ k, k < 3 → parseFieldDescriptor (TX2 k).2.2.1 = some (tyX2 k) := by decide +kernel
def RX3 : String := "ShapeDuel$Patterns"
def TX3 : u_T := fun k => match k with
  | 0 => ("ShapeDuel$Patterns", "table", "LShapeDuel$Table;", true)
  | 1 => ("ShapeDuel$Patterns", "newPlace", "[I", true)
  | _ => ("ShapeDuel$Patterns", "which", "I", false)
def tyX3 : Nat → FieldType := fun k => match k with
  | 0 => .object "ShapeDuel$Table"
  | 1 => .array (.int)
  | _ => .int
theorem nmX3 : ∀ a, a < 3 → ∀ b, b < 3 → a ≠ b → (TX3 a).2.1 ≠ (TX3 b).2.1 := by decide +kernel
theorem tyX3_ok : ∀ k, k < 3 → parseFieldDescriptor (TX3 k).2.2.1 = some (tyX3 k) := by decide +kernel
def RX4 : String := "ShapeDuel$Reader"
def TX4 : u_T := fun k => match k with
  | 0 => ("ShapeDuel$Reader", "draft", "LShapeDuel$Table;", true)
  | 1 => ("ShapeDuel$Reader", "startShape", "[I", true)
  | 2 => ("ShapeDuel$Reader", "startFire", "[I", true)
  | 3 => ("ShapeDuel$Reader", "fighters", "I", false)
  | _ => ("ShapeDuel$Reader", "place", "I", false)
def tyX4 : Nat → FieldType := fun k => match k with
  | 0 => .object "ShapeDuel$Table"
  | 1 => .array (.int)
  | 2 => .array (.int)
  | 3 => .int
  | _ => .int
theorem nmX4 : ∀ a, a < 5 → ∀ b, b < 5 → a ≠ b → (TX4 a).2.1 ≠ (TX4 b).2.1 := by decide +kernel
theorem tyX4_ok : ∀ k, k < 5 → parseFieldDescriptor (TX4 k).2.2.1 = some (tyX4 k) := by decide +kernel
def RX5 : String := "ShapeDuel$Search"
def TX5 : u_T := fun k => match k with
  | 0 => ("ShapeDuel$Search", "fight", "LShapeDuel$Fight;", true)
  | 1 => ("ShapeDuel$Search", "table", "LShapeDuel$Table;", true)
  | 2 => ("ShapeDuel$Search", "memo", "LShapeDuel$Memo;", true)
  | _ => ("ShapeDuel$Search", "endedRows", "I", false)
def tyX5 : Nat → FieldType := fun k => match k with
  | 0 => .object "ShapeDuel$Fight"
  | 1 => .object "ShapeDuel$Table"
  | 2 => .object "ShapeDuel$Memo"
  | _ => .int
theorem nmX5 : ∀ a, a < 4 → ∀ b, b < 4 → a ≠ b → (TX5 a).2.1 ≠ (TX5 b).2.1 := by decide +kernel
theorem tyX5_ok : ∀ k, k < 4 → parseFieldDescriptor (TX5 k).2.2.1 = some (tyX5 k) := by decide +kernel
def RX6 : String := "ShapeDuel$Showing"
def TX6 : u_T := fun k => match k with
  | 0 => ("ShapeDuel$Showing", "fight", "LShapeDuel$Fight;", true)
  | 1 => ("ShapeDuel$Showing", "table", "LShapeDuel$Table;", true)
  | 2 => ("ShapeDuel$Showing", "shapes", "[I", true)
  | 3 => ("ShapeDuel$Showing", "size", "I", false)
  | _ => ("ShapeDuel$Showing", "ways", "[I", true)
def tyX6 : Nat → FieldType := fun k => match k with
  | 0 => .object "ShapeDuel$Fight"
  | 1 => .object "ShapeDuel$Table"
  | 2 => .array (.int)
  | 3 => .int
  | _ => .array (.int)
theorem nmX6 : ∀ a, a < 5 → ∀ b, b < 5 → a ≠ b → (TX6 a).2.1 ≠ (TX6 b).2.1 := by decide +kernel
theorem tyX6_ok : ∀ k, k < 5 → parseFieldDescriptor (TX6 k).2.2.1 = some (tyX6 k) := by decide +kernel
def RX7 : String := "ShapeDuel$Side"
def TX7 : u_T := fun k => match k with
  | 0 => ("ShapeDuel$Side", "shape", "I", false)
  | 1 => ("ShapeDuel$Side", "fire", "I", false)
  | 2 => ("ShapeDuel$Side", "used", "I", false)
  | _ => ("ShapeDuel$Side", "knows", "I", false)
def tyX7 : Nat → FieldType := fun k => match k with
  | 0 => .int
  | 1 => .int
  | 2 => .int
  | _ => .int
theorem nmX7 : ∀ a, a < 4 → ∀ b, b < 4 → a ≠ b → (TX7 a).2.1 ≠ (TX7 b).2.1 := by decide +kernel
theorem tyX7_ok : ∀ k, k < 4 → parseFieldDescriptor (TX7 k).2.2.1 = some (tyX7 k) := by decide +kernel
def RX8 : String := "ShapeDuel$Strip"
def TX8 : u_T := fun k => match k with
  | 0 => ("ShapeDuel$Strip", "cells", "[I", true)
  | _ => ("ShapeDuel$Strip", "size", "I", false)
def tyX8 : Nat → FieldType := fun k => match k with
  | 0 => .array (.int)
  | _ => .int
theorem nmX8 : ∀ a, a < 2 → ∀ b, b < 2 → a ≠ b → (TX8 a).2.1 ≠ (TX8 b).2.1 := by decide +kernel
theorem tyX8_ok : ∀ k, k < 2 → parseFieldDescriptor (TX8 k).2.2.1 = some (tyX8 k) := by decide +kernel
def RX9 : String := "ShapeDuel$Table"
def TX9 : u_T := fun k => match k with
  | 0 => ("ShapeDuel$Table", "shapes", "I", false)
  | 1 => ("ShapeDuel$Table", "kinds", "[I", true)
  | 2 => ("ShapeDuel$Table", "told", "[I", true)
  | 3 => ("ShapeDuel$Table", "changes", "I", false)
  | 4 => ("ShapeDuel$Table", "from", "[I", true)
  | 5 => ("ShapeDuel$Table", "into", "[I", true)
  | _ => ("ShapeDuel$Table", "cost", "[I", true)
def tyX9 : Nat → FieldType := fun k => match k with
  | 0 => .int
  | 1 => .array (.int)
  | 2 => .array (.int)
  | 3 => .int
  | 4 => .array (.int)
  | 5 => .array (.int)
  | _ => .array (.int)
theorem nmX9 : ∀ a, a < 7 → ∀ b, b < 7 → a ≠ b → (TX9 a).2.1 ≠ (TX9 b).2.1 := by decide +kernel
theorem tyX9_ok : ∀ k, k < 7 → parseFieldDescriptor (TX9 k).2.2.1 = some (tyX9 k) := by decide +kernel
def RX10 : String := "ShapeDuel"
def TX10 : u_T := fun k => match k with
  | 0 => ("ShapeDuel", "rows", "[LShapeDuel$Strip;", true)
  | 1 => ("ShapeDuel", "texts", "[LShapeDuel$Strip;", true)
  | 2 => ("ShapeDuel", "table", "LShapeDuel$Table;", true)
  | 3 => ("ShapeDuel", "fight", "LShapeDuel$Fight;", true)
  | 4 => ("ShapeDuel", "kept", "[LShapeDuel$Fight;", true)
  | 5 => ("ShapeDuel", "reader", "LShapeDuel$Reader;", true)
  | 6 => ("ShapeDuel", "memo", "LShapeDuel$Memo;", true)
  | 7 => ("ShapeDuel", "search", "LShapeDuel$Search;", true)
  | 8 => ("ShapeDuel", "lottery", "LShapeDuel$Lottery;", true)
  | 9 => ("ShapeDuel", "showing", "LShapeDuel$Showing;", true)
  | 10 => ("ShapeDuel", "patterns", "LShapeDuel$Patterns;", true)
  | 11 => ("ShapeDuel", "foundTimes", "[I", true)
  | 12 => ("ShapeDuel", "lastFound", "I", false)
  | 13 => ("ShapeDuel", "lastAsked", "I", false)
  | 14 => ("ShapeDuel", "chanceUpper", "J", false)
  | _ => ("ShapeDuel", "chanceLower", "J", false)
def tyX10 : Nat → FieldType := fun k => match k with
  | 0 => .array (.object "ShapeDuel$Strip")
  | 1 => .array (.object "ShapeDuel$Strip")
  | 2 => .object "ShapeDuel$Table"
  | 3 => .object "ShapeDuel$Fight"
  | 4 => .array (.object "ShapeDuel$Fight")
  | 5 => .object "ShapeDuel$Reader"
  | 6 => .object "ShapeDuel$Memo"
  | 7 => .object "ShapeDuel$Search"
  | 8 => .object "ShapeDuel$Lottery"
  | 9 => .object "ShapeDuel$Showing"
  | 10 => .object "ShapeDuel$Patterns"
  | 11 => .array (.int)
  | 12 => .int
  | 13 => .int
  | 14 => .long
  | _ => .long
theorem nmX10 : ∀ a, a < 16 → ∀ b, b < 16 → a ≠ b → (TX10 a).2.1 ≠ (TX10 b).2.1 := by decide +kernel
theorem tyX10_ok : ∀ k, k < 16 → parseFieldDescriptor (TX10 k).2.2.1 = some (tyX10 k) := by decide +kernel
def RX11 : String := "ShapeDuelModel"
def TX11 : u_T := fun k => match k with
  | 0 => ("ShapeDuelModel", "w", "[I", true)
  | 1 => ("ShapeDuelModel", "isKept", "[Z", true)
  | 2 => ("ShapeDuelModel", "areFighters", "Z", false)
  | 3 => ("ShapeDuelModel", "shapes", "I", false)
  | 4 => ("ShapeDuelModel", "kinds", "[I", true)
  | 5 => ("ShapeDuelModel", "tells", "[I", true)
  | 6 => ("ShapeDuelModel", "changes", "I", false)
  | 7 => ("ShapeDuelModel", "from", "[I", true)
  | 8 => ("ShapeDuelModel", "into", "[I", true)
  | 9 => ("ShapeDuelModel", "cost", "[I", true)
  | 10 => ("ShapeDuelModel", "latest", "I", false)
  | 11 => ("ShapeDuelModel", "times", "[I", true)
  | 12 => ("ShapeDuelModel", "asked", "I", false)
  | 13 => ("ShapeDuelModel", "upper", "J", false)
  | 14 => ("ShapeDuelModel", "lower", "J", false)
  | 15 => ("ShapeDuelModel", "rowSize", "[I", true)
  | 16 => ("ShapeDuelModel", "rows", "[I", true)
  | 17 => ("ShapeDuelModel", "textSize", "[I", true)
  | 18 => ("ShapeDuelModel", "texts", "[I", true)
  | 19 => ("ShapeDuelModel", "taken", "[I", true)
  | 20 => ("ShapeDuelModel", "readShapes", "I", false)
  | 21 => ("ShapeDuelModel", "readChanges", "I", false)
  | 22 => ("ShapeDuelModel", "readFighters", "I", false)
  | 23 => ("ShapeDuelModel", "readKinds", "[I", true)
  | 24 => ("ShapeDuelModel", "readTells", "[I", true)
  | 25 => ("ShapeDuelModel", "readFrom", "[I", true)
  | 26 => ("ShapeDuelModel", "readInto", "[I", true)
  | 27 => ("ShapeDuelModel", "readCost", "[I", true)
  | 28 => ("ShapeDuelModel", "readFighter", "[I", true)
  | 29 => ("ShapeDuelModel", "place", "I", false)
  | 30 => ("ShapeDuelModel", "text", "I", false)
  | 31 => ("ShapeDuelModel", "pile", "[I", true)
  | 32 => ("ShapeDuelModel", "nextOf", "[I", true)
  | 33 => ("ShapeDuelModel", "knows", "[I", true)
  | 34 => ("ShapeDuelModel", "first", "I", false)
  | 35 => ("ShapeDuelModel", "scores", "[I", true)
  | 36 => ("ShapeDuelModel", "wonBy", "[I", true)
  | 37 => ("ShapeDuelModel", "bestBy", "[I", true)
  | 38 => ("ShapeDuelModel", "wentBy", "[I", true)
  | 39 => ("ShapeDuelModel", "shownMany", "I", false)
  | 40 => ("ShapeDuelModel", "shownFirst", "[I", true)
  | 41 => ("ShapeDuelModel", "shownAll", "[I", true)
  | 42 => ("ShapeDuelModel", "sofar", "[I", true)
  | 43 => ("ShapeDuelModel", "ups", "[J", true)
  | 44 => ("ShapeDuelModel", "downs", "[J", true)
  | 45 => ("ShapeDuelModel", "manyOf", "[I", true)
  | _ => ("ShapeDuelModel", "h", "J", false)
def tyX11 : Nat → FieldType := fun k => match k with
  | 0 => .array (.int)
  | 1 => .array (.boolean)
  | 2 => .boolean
  | 3 => .int
  | 4 => .array (.int)
  | 5 => .array (.int)
  | 6 => .int
  | 7 => .array (.int)
  | 8 => .array (.int)
  | 9 => .array (.int)
  | 10 => .int
  | 11 => .array (.int)
  | 12 => .int
  | 13 => .long
  | 14 => .long
  | 15 => .array (.int)
  | 16 => .array (.int)
  | 17 => .array (.int)
  | 18 => .array (.int)
  | 19 => .array (.int)
  | 20 => .int
  | 21 => .int
  | 22 => .int
  | 23 => .array (.int)
  | 24 => .array (.int)
  | 25 => .array (.int)
  | 26 => .array (.int)
  | 27 => .array (.int)
  | 28 => .array (.int)
  | 29 => .int
  | 30 => .int
  | 31 => .array (.int)
  | 32 => .array (.int)
  | 33 => .array (.int)
  | 34 => .int
  | 35 => .array (.int)
  | 36 => .array (.int)
  | 37 => .array (.int)
  | 38 => .array (.int)
  | 39 => .int
  | 40 => .array (.int)
  | 41 => .array (.int)
  | 42 => .array (.int)
  | 43 => .array (.long)
  | 44 => .array (.long)
  | 45 => .array (.int)
  | _ => .long
theorem nmX11 : ∀ a, a < 47 → ∀ b, b < 47 → a ≠ b → (TX11 a).2.1 ≠ (TX11 b).2.1 := by decide +kernel
theorem tyX11_ok : ∀ k, k < 47 → parseFieldDescriptor (TX11 k).2.2.1 = some (tyX11 k) := by decide +kernel
abbrev vwCl : List vw_C := [(RX0, TX0, 6), (RX1, TX1, 5), (RX2, TX2, 3), (RX3, TX3, 3), (RX4, TX4, 5), (RX5, TX5, 4), (RX6, TX6, 5), (RX7, TX7, 4), (RX8, TX8, 2), (RX9, TX9, 7), (RX10, TX10, 16), (RX11, TX11, 47)]
def tyL : List (Nat → FieldType) := [tyX0, tyX1, tyX2, tyX3, tyX4, tyX5, tyX6, tyX7, tyX8, tyX9, tyX10, tyX11]
def cnL : List String := ["ShapeDuel$Fight", "ShapeDuel$Lottery", "ShapeDuel$Memo", "ShapeDuel$Patterns", "ShapeDuel$Reader", "ShapeDuel$Search", "ShapeDuel$Showing", "ShapeDuel$Side", "ShapeDuel$Strip", "ShapeDuel$Table", "ShapeDuel", "ShapeDuelModel", "ShapeDuelLaw", "java/lang/Integer", "java/lang/Math", "java/util/Arrays"]
/-- a method: name, bytes, locals, answer, new cells, new slots, how many arguments, 0 static 1 instance 2 init, its class -/
abbrev MTH : Type := MethodName × ByteArray × Nat × Option FieldType × Nat × Nat × Nat × Nat × Nat
def m0 : MTH := (⟨"ShapeDuel$Fight", "<init>", "(LShapeDuel$Table;)V"⟩, prog_2_method_1_code, 2, none, 5, 90, 1, 2, 0)
def m1 : MTH := (⟨"ShapeDuel$Fight", "begin", "([I[I)V"⟩, prog_2_method_2_code, 4, none, 0, 0, 2, 1, 0)
def m2 : MTH := (⟨"ShapeDuel$Fight", "takeOver", "(LShapeDuel$Fight;)V"⟩, prog_2_method_3_code, 2, none, 0, 0, 1, 1, 0)
def m3 : MTH := (⟨"ShapeDuel$Fight", "mover", "()I"⟩, prog_2_method_4_code, 1, (some .int), 0, 0, 0, 1, 0)
def m4 : MTH := (⟨"ShapeDuel$Fight", "packed", "()I"⟩, prog_2_method_5_code, 1, (some .int), 0, 0, 0, 1, 0)
def m5 : MTH := (⟨"ShapeDuel$Fight", "unpack", "(I)V"⟩, prog_2_method_6_code, 2, none, 0, 0, 1, 1, 0)
def m6 : MTH := (⟨"ShapeDuel$Fight", "takes", "(II)I"⟩, prog_2_method_7_code, 7, (some .int), 0, 0, 2, 1, 0)
def m7 : MTH := (⟨"ShapeDuel$Fight", "options", "(I)I"⟩, prog_2_method_8_code, 4, (some .int), 0, 0, 1, 1, 0)
def m8 : MTH := (⟨"ShapeDuel$Fight", "step", "(III)V"⟩, prog_2_method_9_code, 5, none, 0, 0, 3, 1, 0)
def m9 : MTH := (⟨"ShapeDuel$Fight", "perform", "(II)Z"⟩, prog_2_method_10_code, 3, (some .boolean), 0, 0, 2, 1, 0)
def m10 : MTH := (⟨"ShapeDuel$Fight", "takeBack", "(I)I"⟩, prog_2_method_11_code, 3, (some .int), 0, 0, 1, 1, 0)
def m11 : MTH := (⟨"ShapeDuel$Fight", "follow", "(LShapeDuel$Strip;)I"⟩, prog_2_method_12_code, 5, (some .int), 0, 0, 1, 1, 0)
def m12 : MTH := (⟨"ShapeDuel$Fight", "whoUsed", "(I)I"⟩, prog_2_method_13_code, 2, (some .int), 0, 0, 1, 1, 0)
def m13 : MTH := (⟨"ShapeDuel$Fight", "whoKnows", "(I)I"⟩, prog_2_method_14_code, 2, (some .int), 0, 0, 1, 1, 0)
def m14 : MTH := (⟨"ShapeDuel$Lottery", "<init>", "(LShapeDuel$Fight;LShapeDuel$Memo;)V"⟩, prog_3_method_1_code, 3, none, 0, 0, 2, 2, 1)
def m15 : MTH := (⟨"ShapeDuel$Lottery", "chanceByLots", "()J"⟩, prog_3_method_2_code, 1, (some .long), 0, 0, 0, 1, 1)
def m16 : MTH := (⟨"ShapeDuel$Lottery", "bestChance", "()J"⟩, prog_3_method_3_code, 7, (some .long), 0, 0, 0, 1, 1)
def m17 : MTH := (⟨"ShapeDuel$Lottery", "chance", "(II)J"⟩, prog_3_method_4_code, 15, (some .long), 0, 0, 2, 1, 1)
def m18 : MTH := (⟨"ShapeDuel$Lottery", "chanceBy", "(IIII)J"⟩, prog_3_method_5_code, 8, (some .long), 0, 0, 4, 1, 1)
def m19 : MTH := (⟨"ShapeDuel$Lottery", "draw", "(II)I"⟩, prog_3_method_6_code, 9, (some .int), 0, 0, 2, 1, 1)
def m20 : MTH := (⟨"ShapeDuel$Lottery", "nthBit", "(II)I"⟩, prog_3_method_7_code, 4, (some .int), 0, 0, 2, 0, 1)
def m21 : MTH := (⟨"ShapeDuel$Memo", "<init>", "()V"⟩, prog_4_method_1_code, 1, none, 2, 4096, 0, 2, 2)
def m22 : MTH := (⟨"ShapeDuel$Memo", "forget", "()V"⟩, prog_4_method_2_code, 1, none, 0, 0, 0, 1, 2)
def m23 : MTH := (⟨"ShapeDuel$Memo", "keyOf", "(II)J"⟩, prog_4_method_3_code, 3, (some .long), 0, 0, 2, 1, 2)
def m24 : MTH := (⟨"ShapeDuel$Memo", "slotFor", "(J)I"⟩, prog_4_method_4_code, 5, (some .int), 0, 0, 1, 1, 2)
def m25 : MTH := (⟨"ShapeDuel$Memo", "has", "(IJ)Z"⟩, prog_4_method_5_code, 4, (some .boolean), 0, 0, 2, 1, 2)
def m26 : MTH := (⟨"ShapeDuel$Memo", "store", "(JJ)V"⟩, prog_4_method_6_code, 6, none, 0, 0, 2, 1, 2)
def m27 : MTH := (⟨"ShapeDuel$Patterns", "<init>", "(LShapeDuel$Table;)V"⟩, prog_5_method_1_code, 2, none, 1, 5, 1, 2, 3)
def m28 : MTH := (⟨"ShapeDuel$Patterns", "countRings", "()I"⟩, prog_5_method_2_code, 6, (some .int), 0, 0, 0, 1, 3)
def m29 : MTH := (⟨"ShapeDuel$Patterns", "smallestCover", "()I"⟩, prog_5_method_3_code, 5, (some .int), 0, 0, 0, 1, 3)
def m30 : MTH := (⟨"ShapeDuel$Patterns", "beatenByAny", "(I)I"⟩, prog_5_method_4_code, 4, (some .int), 0, 0, 1, 1, 3)
def m31 : MTH := (⟨"ShapeDuel$Patterns", "countAlike", "()I"⟩, prog_5_method_5_code, 1, (some .int), 0, 0, 0, 1, 3)
def m32 : MTH := (⟨"ShapeDuel$Patterns", "placingsFrom", "(II)I"⟩, prog_5_method_6_code, 5, (some .int), 0, 0, 2, 1, 3)
def m33 : MTH := (⟨"ShapeDuel$Patterns", "fits", "(II)Z"⟩, prog_5_method_7_code, 5, (some .boolean), 0, 0, 2, 1, 3)
def m34 : MTH := (⟨"ShapeDuel$Patterns", "noteMoved", "()V"⟩, prog_5_method_8_code, 2, none, 0, 0, 0, 1, 3)
def m35 : MTH := (⟨"ShapeDuel$Patterns", "firstBest", "()I"⟩, prog_5_method_9_code, 3, (some .int), 0, 0, 0, 1, 3)
def m36 : MTH := (⟨"ShapeDuel$Reader", "<init>", "()V"⟩, prog_6_method_1_code, 1, none, 8, 57, 0, 2, 4)
def m37 : MTH := (⟨"ShapeDuel$Reader", "read", "(LShapeDuel$Strip;)I"⟩, prog_6_method_2_code, 3, (some .int), 0, 0, 1, 1, 4)
def m38 : MTH := (⟨"ShapeDuel$Reader", "readItem", "(LShapeDuel$Strip;I)Z"⟩, prog_6_method_3_code, 4, (some .boolean), 0, 0, 2, 1, 4)
def m39 : MTH := (⟨"ShapeDuel$Reader", "readShape", "(LShapeDuel$Strip;I)Z"⟩, prog_6_method_4_code, 5, (some .boolean), 0, 0, 2, 1, 4)
def m40 : MTH := (⟨"ShapeDuel$Reader", "readChange", "(LShapeDuel$Strip;)Z"⟩, prog_6_method_5_code, 5, (some .boolean), 0, 0, 1, 1, 4)
def m41 : MTH := (⟨"ShapeDuel$Reader", "readFighter", "(LShapeDuel$Strip;)Z"⟩, prog_6_method_6_code, 4, (some .boolean), 0, 0, 1, 1, 4)
def m42 : MTH := (⟨"ShapeDuel$Reader", "figureFrom", "(LShapeDuel$Strip;II)I"⟩, prog_6_method_7_code, 5, (some .int), 0, 0, 3, 1, 4)
def m43 : MTH := (⟨"ShapeDuel$Search", "<init>", "(LShapeDuel$Fight;LShapeDuel$Memo;)V"⟩, prog_7_method_1_code, 3, none, 0, 0, 2, 2, 5)
def m44 : MTH := (⟨"ShapeDuel$Search", "length", "()I"⟩, prog_7_method_2_code, 1, (some .int), 0, 0, 0, 1, 5)
def m45 : MTH := (⟨"ShapeDuel$Search", "endsIn", "(II)I"⟩, prog_7_method_3_code, 9, (some .int), 0, 0, 2, 1, 5)
def m46 : MTH := (⟨"ShapeDuel$Search", "endsBehind", "(IIII)I"⟩, prog_7_method_4_code, 7, (some .int), 0, 0, 4, 1, 5)
def m47 : MTH := (⟨"ShapeDuel$Search", "better", "(II)I"⟩, prog_7_method_5_code, 3, (some .int), 0, 0, 2, 0, 5)
def m48 : MTH := (⟨"ShapeDuel$Search", "firstWinning", "()I"⟩, prog_7_method_6_code, 4, (some .int), 0, 0, 0, 1, 5)
def m49 : MTH := (⟨"ShapeDuel$Search", "bestLine", "(LShapeDuel$Strip;)V"⟩, prog_7_method_7_code, 7, none, 0, 0, 1, 1, 5)
def m50 : MTH := (⟨"ShapeDuel$Search", "firstWithRest", "(III)I"⟩, prog_7_method_8_code, 6, (some .int), 0, 0, 3, 1, 5)
def m51 : MTH := (⟨"ShapeDuel$Search", "isWonBy", "(I)Z"⟩, prog_7_method_9_code, 4, (some .boolean), 0, 0, 1, 1, 5)
def m52 : MTH := (⟨"ShapeDuel$Search", "leastFire", "(I)I"⟩, prog_7_method_10_code, 6, (some .int), 0, 0, 1, 1, 5)
def m53 : MTH := (⟨"ShapeDuel$Search", "firstToLearn", "(I)I"⟩, prog_7_method_11_code, 6, (some .int), 0, 0, 1, 1, 5)
def m54 : MTH := (⟨"ShapeDuel$Search", "needed", "(I)I"⟩, prog_7_method_12_code, 6, (some .int), 0, 0, 1, 1, 5)
def m55 : MTH := (⟨"ShapeDuel$Search", "countRows", "(I)I"⟩, prog_7_method_13_code, 2, (some .int), 0, 0, 1, 1, 5)
def m56 : MTH := (⟨"ShapeDuel$Search", "rowsFrom", "(II)I"⟩, prog_7_method_14_code, 7, (some .int), 0, 0, 2, 1, 5)
def m57 : MTH := (⟨"ShapeDuel$Showing", "<init>", "(LShapeDuel$Fight;)V"⟩, prog_8_method_1_code, 2, none, 2, 332, 1, 2, 6)
def m58 : MTH := (⟨"ShapeDuel$Showing", "see", "(LShapeDuel$Strip;)V"⟩, prog_8_method_2_code, 2, none, 0, 0, 1, 1, 6)
def m59 : MTH := (⟨"ShapeDuel$Showing", "countWays", "()I"⟩, prog_8_method_3_code, 1, (some .int), 0, 0, 0, 1, 6)
def m60 : MTH := (⟨"ShapeDuel$Showing", "waysFrom", "(I)I"⟩, prog_8_method_4_code, 5, (some .int), 0, 0, 1, 1, 6)
def m61 : MTH := (⟨"ShapeDuel$Showing", "waysBy", "(II)I"⟩, prog_8_method_5_code, 7, (some .int), 0, 0, 2, 1, 6)
def m62 : MTH := (⟨"ShapeDuel$Showing", "whoAt", "(I)I"⟩, prog_8_method_6_code, 2, (some .int), 0, 0, 1, 1, 6)
def m63 : MTH := (⟨"ShapeDuel$Showing", "firstWay", "(LShapeDuel$Strip;)V"⟩, prog_8_method_7_code, 5, none, 0, 0, 1, 1, 6)
def m64 : MTH := (⟨"ShapeDuel$Showing", "firstAt", "(I)I"⟩, prog_8_method_8_code, 3, (some .int), 0, 0, 1, 1, 6)
def m65 : MTH := (⟨"ShapeDuel$Showing", "inAllWays", "(I)I"⟩, prog_8_method_9_code, 6, (some .int), 0, 0, 1, 1, 6)
def m66 : MTH := (⟨"ShapeDuel$Side", "<init>", "()V"⟩, prog_9_method_1_code, 1, none, 0, 0, 0, 2, 7)
def m67 : MTH := (⟨"ShapeDuel$Side", "takeOver", "(LShapeDuel$Side;)V"⟩, prog_9_method_2_code, 2, none, 0, 0, 1, 1, 7)
def m68 : MTH := (⟨"ShapeDuel$Side", "about", "(I)I"⟩, prog_9_method_3_code, 2, (some .int), 0, 0, 1, 1, 7)
def m69 : MTH := (⟨"ShapeDuel$Side", "packed", "()I"⟩, prog_9_method_4_code, 1, (some .int), 0, 0, 0, 1, 7)
def m70 : MTH := (⟨"ShapeDuel$Side", "unpack", "(I)V"⟩, prog_9_method_5_code, 2, none, 0, 0, 1, 1, 7)
def m71 : MTH := (⟨"ShapeDuel$Strip", "<init>", "(I)V"⟩, prog_10_method_1_code, 2, none, 1, 80, 1, 2, 8)
def m72 : MTH := (⟨"ShapeDuel$Strip", "fillAnew", "(II)V"⟩, prog_10_method_2_code, 3, none, 0, 0, 2, 1, 8)
def m73 : MTH := (⟨"ShapeDuel$Strip", "setTo", "([II)V"⟩, prog_10_method_3_code, 3, none, 0, 0, 2, 1, 8)
def m74 : MTH := (⟨"ShapeDuel$Strip", "holds", "(II)Z"⟩, prog_10_method_4_code, 3, (some .boolean), 0, 0, 2, 1, 8)
def m75 : MTH := (⟨"ShapeDuel$Strip", "allWithin", "(I)Z"⟩, prog_10_method_5_code, 3, (some .boolean), 0, 0, 1, 1, 8)
def m76 : MTH := (⟨"ShapeDuel$Strip", "sum", "()J"⟩, prog_10_method_6_code, 4, (some .long), 0, 0, 0, 1, 8)
def m77 : MTH := (⟨"ShapeDuel$Strip", "mixInto", "(J)J"⟩, prog_10_method_7_code, 6, (some .long), 0, 0, 1, 1, 8)
def m78 : MTH := (⟨"ShapeDuel$Table", "<init>", "()V"⟩, prog_11_method_1_code, 1, none, 5, 46, 0, 2, 9)
def m79 : MTH := (⟨"ShapeDuel$Table", "takeOver", "(LShapeDuel$Table;)V"⟩, prog_11_method_2_code, 3, none, 0, 0, 1, 1, 9)
def m80 : MTH := (⟨"ShapeDuel$Table", "isOf", "(II)Z"⟩, prog_11_method_3_code, 3, (some .boolean), 0, 0, 2, 1, 9)
def m81 : MTH := (⟨"ShapeDuel$Table", "beats", "(II)Z"⟩, prog_11_method_4_code, 3, (some .boolean), 0, 0, 2, 1, 9)
def m82 : MTH := (⟨"ShapeDuel$Table", "beatenBy", "(I)I"⟩, prog_11_method_5_code, 4, (some .int), 0, 0, 1, 1, 9)
def m83 : MTH := (⟨"ShapeDuel$Table", "beatersOf", "(I)I"⟩, prog_11_method_6_code, 4, (some .int), 0, 0, 1, 1, 9)
def m84 : MTH := (⟨"ShapeDuel$Table", "lead", "(I)I"⟩, prog_11_method_7_code, 2, (some .int), 0, 0, 1, 1, 9)
def m85 : MTH := (⟨"ShapeDuel$Table", "aboutShape", "(II)I"⟩, prog_11_method_8_code, 3, (some .int), 0, 0, 2, 1, 9)
def m86 : MTH := (⟨"ShapeDuel$Table", "changesFrom", "(I)I"⟩, prog_11_method_9_code, 4, (some .int), 0, 0, 1, 1, 9)
def m87 : MTH := (⟨"ShapeDuel$Table", "changesInto", "(I)I"⟩, prog_11_method_10_code, 4, (some .int), 0, 0, 1, 1, 9)
def m88 : MTH := (⟨"ShapeDuel$Table", "cheapestInto", "(I)I"⟩, prog_11_method_11_code, 4, (some .int), 0, 0, 1, 1, 9)
def m89 : MTH := (⟨"ShapeDuel$Table", "beastsToldToBeat", "(I)I"⟩, prog_11_method_12_code, 4, (some .int), 0, 0, 1, 1, 9)
def m90 : MTH := (⟨"ShapeDuel$Table", "countOf", "(I)I"⟩, prog_11_method_13_code, 4, (some .int), 0, 0, 1, 1, 9)
def m91 : MTH := (⟨"ShapeDuel$Table", "price", "(II)I"⟩, prog_11_method_14_code, 4, (some .int), 0, 0, 2, 1, 9)
def m92 : MTH := (⟨"ShapeDuel", "<init>", "()V"⟩, prog_1_method_1_code, 2, none, 100, 10000, 0, 2, 10)
def m93 : MTH := (⟨"ShapeDuel", "row", "(II)I"⟩, prog_1_method_2_code, 3, (some .int), 0, 0, 2, 1, 10)
def m94 : MTH := (⟨"ShapeDuel", "lay", "(III)I"⟩, prog_1_method_3_code, 5, (some .int), 0, 0, 3, 1, 10)
def m95 : MTH := (⟨"ShapeDuel", "at", "(II)I"⟩, prog_1_method_4_code, 4, (some .int), 0, 0, 2, 1, 10)
def m96 : MTH := (⟨"ShapeDuel", "tear", "(I)I"⟩, prog_1_method_5_code, 3, (some .int), 0, 0, 1, 1, 10)
def m97 : MTH := (⟨"ShapeDuel", "copy", "(IIIII)I"⟩, prog_1_method_6_code, 6, (some .int), 0, 0, 5, 1, 10)
def m98 : MTH := (⟨"ShapeDuel", "mean", "(I)I"⟩, prog_1_method_7_code, 3, (some .int), 0, 0, 1, 1, 10)
def m99 : MTH := (⟨"ShapeDuel", "text", "(II)I"⟩, prog_1_method_8_code, 3, (some .int), 0, 0, 2, 1, 10)
def m100 : MTH := (⟨"ShapeDuel", "put", "(III)I"⟩, prog_1_method_9_code, 6, (some .int), 0, 0, 3, 1, 10)
def m101 : MTH := (⟨"ShapeDuel", "fault", "(I)I"⟩, prog_1_method_10_code, 3, (some .int), 0, 0, 1, 1, 10)
def m102 : MTH := (⟨"ShapeDuel", "night", "(I)I"⟩, prog_1_method_11_code, 4, (some .int), 0, 0, 1, 1, 10)
def m103 : MTH := (⟨"ShapeDuel", "shape", "(II)I"⟩, prog_1_method_12_code, 3, (some .int), 0, 0, 2, 1, 10)
def m104 : MTH := (⟨"ShapeDuel", "change", "(II)I"⟩, prog_1_method_13_code, 3, (some .int), 0, 0, 2, 1, 10)
def m105 : MTH := (⟨"ShapeDuel", "mark", "(II)I"⟩, prog_1_method_14_code, 3, (some .int), 0, 0, 2, 1, 10)
def m106 : MTH := (⟨"ShapeDuel", "fighter", "(II)I"⟩, prog_1_method_15_code, 3, (some .int), 0, 0, 2, 1, 10)
def m107 : MTH := (⟨"ShapeDuel", "teach", "(III)I"⟩, prog_1_method_16_code, 6, (some .int), 0, 0, 3, 1, 10)
def m108 : MTH := (⟨"ShapeDuel", "fire", "(II)I"⟩, prog_1_method_17_code, 4, (some .int), 0, 0, 2, 1, 10)
def m109 : MTH := (⟨"ShapeDuel", "beat", "(III)I"⟩, prog_1_method_18_code, 5, (some .int), 0, 0, 3, 1, 10)
def m110 : MTH := (⟨"ShapeDuel", "can", "(I)I"⟩, prog_1_method_19_code, 2, (some .int), 0, 0, 1, 1, 10)
def m111 : MTH := (⟨"ShapeDuel", "turn", "()I"⟩, prog_1_method_20_code, 2, (some .int), 0, 0, 0, 1, 10)
def m112 : MTH := (⟨"ShapeDuel", "go", "(I)I"⟩, prog_1_method_21_code, 3, (some .int), 0, 0, 1, 1, 10)
def m113 : MTH := (⟨"ShapeDuel", "undo", "(I)I"⟩, prog_1_method_22_code, 2, (some .int), 0, 0, 1, 1, 10)
def m114 : MTH := (⟨"ShapeDuel", "told", "(I)I"⟩, prog_1_method_23_code, 2, (some .int), 0, 0, 1, 1, 10)
def m115 : MTH := (⟨"ShapeDuel", "keep", "(I)I"⟩, prog_1_method_24_code, 2, (some .int), 0, 0, 1, 1, 10)
def m116 : MTH := (⟨"ShapeDuel", "on", "(I)I"⟩, prog_1_method_25_code, 2, (some .int), 0, 0, 1, 1, 10)
def m117 : MTH := (⟨"ShapeDuel", "wins", "()I"⟩, prog_1_method_26_code, 1, (some .int), 0, 0, 0, 1, 10)
def m118 : MTH := (⟨"ShapeDuel", "ends", "()I"⟩, prog_1_method_27_code, 2, (some .int), 0, 0, 0, 1, 10)
def m119 : MTH := (⟨"ShapeDuel", "line", "(I)I"⟩, prog_1_method_28_code, 2, (some .int), 0, 0, 1, 1, 10)
def m120 : MTH := (⟨"ShapeDuel", "least", "(I)I"⟩, prog_1_method_29_code, 2, (some .int), 0, 0, 1, 1, 10)
def m121 : MTH := (⟨"ShapeDuel", "learn", "(I)I"⟩, prog_1_method_30_code, 2, (some .int), 0, 0, 1, 1, 10)
def m122 : MTH := (⟨"ShapeDuel", "needs", "(I)I"⟩, prog_1_method_31_code, 2, (some .int), 0, 0, 1, 1, 10)
def m123 : MTH := (⟨"ShapeDuel", "lines", "(I)I"⟩, prog_1_method_32_code, 3, (some .int), 0, 0, 1, 1, 10)
def m124 : MTH := (⟨"ShapeDuel", "judge", "(I)I"⟩, prog_1_method_33_code, 6, (some .int), 0, 0, 1, 1, 10)
def m125 : MTH := (⟨"ShapeDuel", "shown", "(II)I"⟩, prog_1_method_34_code, 5, (some .int), 0, 0, 2, 1, 10)
def m126 : MTH := (⟨"ShapeDuel", "must", "(II)I"⟩, prog_1_method_35_code, 4, (some .int), 0, 0, 2, 1, 10)
def m127 : MTH := (⟨"ShapeDuel", "odds", "()I"⟩, prog_1_method_36_code, 1, (some .int), 0, 0, 0, 1, 10)
def m128 : MTH := (⟨"ShapeDuel", "hopes", "()I"⟩, prog_1_method_37_code, 1, (some .int), 0, 0, 0, 1, 10)
def m129 : MTH := (⟨"ShapeDuel", "lots", "(II)I"⟩, prog_1_method_38_code, 3, (some .int), 0, 0, 2, 1, 10)
def m130 : MTH := (⟨"ShapeDuel", "rings", "()I"⟩, prog_1_method_39_code, 2, (some .int), 0, 0, 0, 1, 10)
def m131 : MTH := (⟨"ShapeDuel", "cover", "()I"⟩, prog_1_method_40_code, 2, (some .int), 0, 0, 0, 1, 10)
def m132 : MTH := (⟨"ShapeDuel", "alike", "()I"⟩, prog_1_method_41_code, 2, (some .int), 0, 0, 0, 1, 10)
def m133 : MTH := (⟨"ShapeDuel", "best", "()I"⟩, prog_1_method_42_code, 2, (some .int), 0, 0, 0, 1, 10)
def m134 : MTH := (⟨"ShapeDuel", "asked", "()I"⟩, prog_1_method_43_code, 1, (some .int), 0, 0, 0, 1, 10)
def m135 : MTH := (⟨"ShapeDuel", "upper", "()J"⟩, prog_1_method_44_code, 1, (some .long), 0, 0, 0, 1, 10)
def m136 : MTH := (⟨"ShapeDuel", "lower", "()J"⟩, prog_1_method_45_code, 1, (some .long), 0, 0, 0, 1, 10)
def m137 : MTH := (⟨"ShapeDuel", "count", "(I)I"⟩, prog_1_method_46_code, 2, (some .int), 0, 0, 1, 1, 10)
def m138 : MTH := (⟨"ShapeDuel", "finding", "()I"⟩, prog_1_method_47_code, 1, (some .int), 0, 0, 0, 1, 10)
def m139 : MTH := (⟨"ShapeDuel", "findings", "(I)I"⟩, prog_1_method_48_code, 2, (some .int), 0, 0, 1, 1, 10)
def m140 : MTH := (⟨"ShapeDuel", "digest", "()J"⟩, prog_1_method_49_code, 4, (some .long), 0, 0, 0, 1, 10)
def m141 : MTH := (⟨"ShapeDuel", "digestNight", "(J)J"⟩, prog_1_method_50_code, 6, (some .long), 0, 0, 1, 1, 10)
def m142 : MTH := (⟨"ShapeDuel", "within", "(II)Z"⟩, prog_1_method_51_code, 2, (some .boolean), 0, 0, 2, 0, 10)
def m143 : MTH := (⟨"ShapeDuel", "bit", "(II)I"⟩, prog_1_method_52_code, 2, (some .int), 0, 0, 2, 0, 10)
def m144 : MTH := (⟨"ShapeDuel", "withBit", "(III)I"⟩, prog_1_method_53_code, 3, (some .int), 0, 0, 3, 0, 10)
def m145 : MTH := (⟨"ShapeDuel", "isFighter", "(I)Z"⟩, prog_1_method_54_code, 2, (some .boolean), 0, 0, 1, 1, 10)
def m146 : MTH := (⟨"ShapeDuel", "find", "(I)I"⟩, prog_1_method_55_code, 2, (some .int), 0, 0, 1, 1, 10)
def m147 : MTH := (⟨"ShapeDuel", "tell", "(I)I"⟩, prog_1_method_56_code, 2, (some .int), 0, 0, 1, 1, 10)
def m148 : MTH := (⟨"ShapeDuel", "tellChance", "(J)V"⟩, prog_1_method_57_code, 5, none, 0, 0, 1, 1, 10)
def m149 : MTH := (⟨"ShapeDuel", "greatestShared", "(JJ)J"⟩, prog_1_method_58_code, 11, (some .long), 0, 0, 2, 0, 10)
def m150 : MTH := (⟨"ShapeDuel", "layAnew", "([LShapeDuel$Strip;III)I"⟩, prog_1_method_59_code, 5, (some .int), 0, 0, 4, 1, 10)
def m151 : MTH := (⟨"ShapeDuel", "refuseStrip", "([LShapeDuel$Strip;I)I"⟩, prog_1_method_60_code, 3, (some .int), 0, 0, 2, 1, 10)
def m152 : MTH := (⟨"ShapeDuel", "refusePlace", "([LShapeDuel$Strip;II)I"⟩, prog_1_method_61_code, 5, (some .int), 0, 0, 3, 1, 10)
def m153 : MTH := (⟨"ShapeDuel", "refuseTold", "(III)I"⟩, prog_1_method_62_code, 4, (some .int), 0, 0, 3, 1, 10)
def m154 : MTH := (⟨"ShapeDuel", "aboutChange", "(II)I"⟩, prog_1_method_63_code, 3, (some .int), 0, 0, 2, 1, 10)
def m155 : MTH := (⟨"ShapeDuel", "countThere", "([LShapeDuel$Strip;)I"⟩, prog_1_method_64_code, 3, (some .int), 0, 0, 1, 0, 10)
def m156 : MTH := (⟨"ShapeDuel", "countKept", "()I"⟩, prog_1_method_65_code, 3, (some .int), 0, 0, 0, 1, 10)
def m157 : MTH := (⟨"ShapeDuelModel", "<init>", "()V"⟩, prog_13_method_1_code, 2, none, 60, 5000, 0, 2, 11)
def m158 : MTH := (⟨"ShapeDuelModel", "in", "(JJJ)Z"⟩, prog_13_method_3_code, 6, (some .boolean), 0, 0, 3, 0, 11)
def m159 : MTH := (⟨"ShapeDuelModel", "has", "(II)Z"⟩, prog_13_method_4_code, 2, (some .boolean), 0, 0, 2, 0, 11)
def m160 : MTH := (⟨"ShapeDuelModel", "ones", "(I)I"⟩, prog_13_method_5_code, 3, (some .int), 0, 0, 1, 0, 11)
def m161 : MTH := (⟨"ShapeDuelModel", "found", "(I)I"⟩, prog_13_method_6_code, 2, (some .int), 0, 0, 1, 1, 11)
def m162 : MTH := (⟨"ShapeDuelModel", "says", "(II)I"⟩, prog_13_method_7_code, 3, (some .int), 0, 0, 2, 1, 11)
def m163 : MTH := (⟨"ShapeDuelModel", "isRow", "(I)Z"⟩, prog_13_method_8_code, 1, (some .boolean), 0, 0, 1, 0, 11)
def m164 : MTH := (⟨"ShapeDuelModel", "isText", "(I)Z"⟩, prog_13_method_9_code, 1, (some .boolean), 0, 0, 1, 0, 11)
def m165 : MTH := (⟨"ShapeDuelModel", "anew", "(II)V"⟩, prog_13_method_10_code, 4, none, 0, 0, 2, 1, 11)
def m166 : MTH := (⟨"ShapeDuelModel", "row", "(II)I"⟩, prog_13_method_11_code, 3, (some .int), 0, 0, 2, 1, 11)
def m167 : MTH := (⟨"ShapeDuelModel", "lay", "(III)I"⟩, prog_13_method_12_code, 5, (some .int), 0, 0, 3, 1, 11)
def m168 : MTH := (⟨"ShapeDuelModel", "at", "(II)I"⟩, prog_13_method_13_code, 3, (some .int), 0, 0, 2, 1, 11)
def m169 : MTH := (⟨"ShapeDuelModel", "tear", "(I)I"⟩, prog_13_method_14_code, 2, (some .int), 0, 0, 1, 1, 11)
def m170 : MTH := (⟨"ShapeDuelModel", "isPart", "(III)Z"⟩, prog_13_method_15_code, 4, (some .boolean), 0, 0, 3, 1, 11)
def m171 : MTH := (⟨"ShapeDuelModel", "copy", "(IIIII)I"⟩, prog_13_method_16_code, 7, (some .int), 0, 0, 5, 1, 11)
def m172 : MTH := (⟨"ShapeDuelModel", "mean", "(I)I"⟩, prog_13_method_17_code, 5, (some .int), 0, 0, 1, 1, 11)
def m173 : MTH := (⟨"ShapeDuelModel", "text", "(II)I"⟩, prog_13_method_18_code, 4, (some .int), 0, 0, 2, 1, 11)
def m174 : MTH := (⟨"ShapeDuelModel", "put", "(III)I"⟩, prog_13_method_19_code, 5, (some .int), 0, 0, 3, 1, 11)
def m175 : MTH := (⟨"ShapeDuelModel", "byteAt", "()I"⟩, prog_13_method_20_code, 1, (some .int), 0, 0, 0, 1, 11)
def m176 : MTH := (⟨"ShapeDuelModel", "takesFigure", "(II)I"⟩, prog_13_method_21_code, 4, (some .int), 0, 0, 2, 1, 11)
def m177 : MTH := (⟨"ShapeDuelModel", "kindOf", "(I)I"⟩, prog_13_method_22_code, 1, (some .int), 0, 0, 1, 0, 11)
def m178 : MTH := (⟨"ShapeDuelModel", "takesShape", "(I)Z"⟩, prog_13_method_23_code, 4, (some .boolean), 0, 0, 1, 1, 11)
def m179 : MTH := (⟨"ShapeDuelModel", "fromMany", "(I)I"⟩, prog_13_method_24_code, 4, (some .int), 0, 0, 1, 1, 11)
def m180 : MTH := (⟨"ShapeDuelModel", "takesChange", "()Z"⟩, prog_13_method_25_code, 4, (some .boolean), 0, 0, 0, 1, 11)
def m181 : MTH := (⟨"ShapeDuelModel", "takesFighter", "()Z"⟩, prog_13_method_26_code, 3, (some .boolean), 0, 0, 0, 1, 11)
def m182 : MTH := (⟨"ShapeDuelModel", "takesItem", "()Z"⟩, prog_13_method_27_code, 2, (some .boolean), 0, 0, 0, 1, 11)
def m183 : MTH := (⟨"ShapeDuelModel", "faultOf", "(I)I"⟩, prog_13_method_28_code, 2, (some .int), 0, 0, 1, 1, 11)
def m184 : MTH := (⟨"ShapeDuelModel", "fault", "(I)I"⟩, prog_13_method_29_code, 2, (some .int), 0, 0, 1, 1, 11)
def m185 : MTH := (⟨"ShapeDuelModel", "night", "(I)I"⟩, prog_13_method_30_code, 3, (some .int), 0, 0, 1, 1, 11)
def m186 : MTH := (⟨"ShapeDuelModel", "isShape", "(I)Z"⟩, prog_13_method_31_code, 2, (some .boolean), 0, 0, 1, 1, 11)
def m187 : MTH := (⟨"ShapeDuelModel", "isChange", "(I)Z"⟩, prog_13_method_32_code, 2, (some .boolean), 0, 0, 1, 1, 11)
def m188 : MTH := (⟨"ShapeDuelModel", "isFighter", "(I)Z"⟩, prog_13_method_33_code, 2, (some .boolean), 0, 0, 1, 1, 11)
def m189 : MTH := (⟨"ShapeDuelModel", "beats", "(II)Z"⟩, prog_13_method_34_code, 3, (some .boolean), 0, 0, 2, 1, 11)
def m190 : MTH := (⟨"ShapeDuelModel", "beatsOf", "(I)I"⟩, prog_13_method_35_code, 4, (some .int), 0, 0, 1, 1, 11)
def m191 : MTH := (⟨"ShapeDuelModel", "beatenBy", "(I)I"⟩, prog_13_method_36_code, 4, (some .int), 0, 0, 1, 1, 11)
def m192 : MTH := (⟨"ShapeDuelModel", "leading", "(I)I"⟩, prog_13_method_37_code, 4, (some .int), 0, 0, 1, 1, 11)
def m193 : MTH := (⟨"ShapeDuelModel", "shapeOf", "(II)I"⟩, prog_13_method_38_code, 3, (some .int), 0, 0, 2, 1, 11)
def m194 : MTH := (⟨"ShapeDuelModel", "shape", "(II)I"⟩, prog_13_method_39_code, 3, (some .int), 0, 0, 2, 1, 11)
def m195 : MTH := (⟨"ShapeDuelModel", "changeOf", "(II)I"⟩, prog_13_method_40_code, 4, (some .int), 0, 0, 2, 1, 11)
def m196 : MTH := (⟨"ShapeDuelModel", "change", "(II)I"⟩, prog_13_method_41_code, 3, (some .int), 0, 0, 2, 1, 11)
def m197 : MTH := (⟨"ShapeDuelModel", "markOf", "(II)I"⟩, prog_13_method_42_code, 8, (some .int), 0, 0, 2, 1, 11)
def m198 : MTH := (⟨"ShapeDuelModel", "mark", "(II)I"⟩, prog_13_method_43_code, 4, (some .int), 0, 0, 2, 1, 11)
def m199 : MTH := (⟨"ShapeDuelModel", "fighter", "(II)I"⟩, prog_13_method_44_code, 3, (some .int), 0, 0, 2, 1, 11)
def m200 : MTH := (⟨"ShapeDuelModel", "teach", "(III)I"⟩, prog_13_method_45_code, 5, (some .int), 0, 0, 3, 1, 11)
def m201 : MTH := (⟨"ShapeDuelModel", "fire", "(II)I"⟩, prog_13_method_46_code, 4, (some .int), 0, 0, 2, 1, 11)
def m202 : MTH := (⟨"ShapeDuelModel", "beat", "(III)I"⟩, prog_13_method_47_code, 5, (some .int), 0, 0, 3, 1, 11)
def m203 : MTH := (⟨"ShapeDuelModel", "layRoot", "()V"⟩, prog_13_method_48_code, 2, none, 0, 0, 0, 1, 11)
def m204 : MTH := (⟨"ShapeDuelModel", "takes", "(III)I"⟩, prog_13_method_49_code, 8, (some .int), 0, 0, 3, 1, 11)
def m205 : MTH := (⟨"ShapeDuelModel", "canBe", "(III)Z"⟩, prog_13_method_50_code, 6, (some .boolean), 0, 0, 3, 1, 11)
def m206 : MTH := (⟨"ShapeDuelModel", "canOf", "(II)I"⟩, prog_13_method_51_code, 5, (some .int), 0, 0, 2, 1, 11)
def m207 : MTH := (⟨"ShapeDuelModel", "moverAt", "(I)I"⟩, prog_13_method_52_code, 2, (some .int), 0, 0, 1, 1, 11)
def m208 : MTH := (⟨"ShapeDuelModel", "dives", "(II)V"⟩, prog_13_method_53_code, 6, none, 0, 0, 2, 1, 11)
def m209 : MTH := (⟨"ShapeDuelModel", "nextChange", "(I)I"⟩, prog_13_method_54_code, 4, (some .int), 0, 0, 1, 1, 11)
def m210 : MTH := (⟨"ShapeDuelModel", "score", "()I"⟩, prog_13_method_55_code, 4, (some .int), 0, 0, 0, 1, 11)
def m211 : MTH := (⟨"ShapeDuelModel", "can", "(I)I"⟩, prog_13_method_56_code, 2, (some .int), 0, 0, 1, 1, 11)
def m212 : MTH := (⟨"ShapeDuelModel", "turn", "()I"⟩, prog_13_method_57_code, 1, (some .int), 0, 0, 0, 1, 11)
def m213 : MTH := (⟨"ShapeDuelModel", "does", "(I)V"⟩, prog_13_method_58_code, 3, none, 0, 0, 1, 1, 11)
def m214 : MTH := (⟨"ShapeDuelModel", "go", "(I)I"⟩, prog_13_method_59_code, 3, (some .int), 0, 0, 1, 1, 11)
def m215 : MTH := (⟨"ShapeDuelModel", "undo", "(I)I"⟩, prog_13_method_60_code, 4, (some .int), 0, 0, 1, 1, 11)
def m216 : MTH := (⟨"ShapeDuelModel", "told", "(I)I"⟩, prog_13_method_61_code, 3, (some .int), 0, 0, 1, 1, 11)
def m217 : MTH := (⟨"ShapeDuelModel", "keep", "(I)I"⟩, prog_13_method_62_code, 3, (some .int), 0, 0, 1, 1, 11)
def m218 : MTH := (⟨"ShapeDuelModel", "on", "(I)I"⟩, prog_13_method_63_code, 3, (some .int), 0, 0, 1, 1, 11)
def m219 : MTH := (⟨"ShapeDuelModel", "wins", "()I"⟩, prog_13_method_64_code, 2, (some .int), 0, 0, 0, 1, 11)
def m220 : MTH := (⟨"ShapeDuelModel", "lengthOf", "(I)I"⟩, prog_13_method_65_code, 1, (some .int), 0, 0, 1, 0, 11)
def m221 : MTH := (⟨"ShapeDuelModel", "ends", "()I"⟩, prog_13_method_66_code, 2, (some .int), 0, 0, 0, 1, 11)
def m222 : MTH := (⟨"ShapeDuelModel", "line", "(I)I"⟩, prog_13_method_67_code, 7, (some .int), 0, 0, 1, 1, 11)
def m223 : MTH := (⟨"ShapeDuelModel", "doesWin", "(I)Z"⟩, prog_13_method_68_code, 3, (some .boolean), 0, 0, 1, 1, 11)
def m224 : MTH := (⟨"ShapeDuelModel", "least", "(I)I"⟩, prog_13_method_69_code, 3, (some .int), 0, 0, 1, 1, 11)
def m225 : MTH := (⟨"ShapeDuelModel", "learn", "(I)I"⟩, prog_13_method_70_code, 3, (some .int), 0, 0, 1, 1, 11)
def m226 : MTH := (⟨"ShapeDuelModel", "needs", "(I)I"⟩, prog_13_method_71_code, 4, (some .int), 0, 0, 1, 1, 11)
def m227 : MTH := (⟨"ShapeDuelModel", "lines", "(I)I"⟩, prog_13_method_72_code, 6, (some .int), 0, 0, 1, 1, 11)
def m228 : MTH := (⟨"ShapeDuelModel", "bars", "(III)I"⟩, prog_13_method_73_code, 6, (some .int), 0, 0, 3, 1, 11)
def m229 : MTH := (⟨"ShapeDuelModel", "judge", "(I)I"⟩, prog_13_method_74_code, 4, (some .int), 0, 0, 1, 1, 11)
def m230 : MTH := (⟨"ShapeDuelModel", "findShown", "(I)V"⟩, prog_13_method_75_code, 5, none, 0, 0, 1, 1, 11)
def m231 : MTH := (⟨"ShapeDuelModel", "notesShown", "(I)V"⟩, prog_13_method_76_code, 5, none, 0, 0, 1, 1, 11)
def m232 : MTH := (⟨"ShapeDuelModel", "shown", "(II)I"⟩, prog_13_method_77_code, 6, (some .int), 0, 0, 2, 1, 11)
def m233 : MTH := (⟨"ShapeDuelModel", "must", "(II)I"⟩, prog_13_method_78_code, 4, (some .int), 0, 0, 2, 1, 11)
def m234 : MTH := (⟨"ShapeDuelModel", "common", "(JJ)J"⟩, prog_13_method_79_code, 10, (some .long), 0, 0, 2, 0, 11)
def m235 : MTH := (⟨"ShapeDuelModel", "lowest", "(I)V"⟩, prog_13_method_80_code, 4, none, 0, 0, 1, 1, 11)
def m236 : MTH := (⟨"ShapeDuelModel", "isChance", "(IJ)V"⟩, prog_13_method_81_code, 4, none, 0, 0, 2, 1, 11)
def m237 : MTH := (⟨"ShapeDuelModel", "adds", "(IJJ)V"⟩, prog_13_method_82_code, 8, none, 0, 0, 3, 1, 11)
def m238 : MTH := (⟨"ShapeDuelModel", "isMore", "(JJI)Z"⟩, prog_13_method_83_code, 8, (some .boolean), 0, 0, 3, 1, 11)
def m239 : MTH := (⟨"ShapeDuelModel", "chances", "(Z)I"⟩, prog_13_method_84_code, 7, (some .int), 0, 0, 1, 1, 11)
def m240 : MTH := (⟨"ShapeDuelModel", "closes", "(IZ)V"⟩, prog_13_method_85_code, 3, none, 0, 0, 2, 1, 11)
def m241 : MTH := (⟨"ShapeDuelModel", "chancesTold", "(Z)I"⟩, prog_13_method_86_code, 3, (some .int), 0, 0, 1, 1, 11)
def m242 : MTH := (⟨"ShapeDuelModel", "odds", "()I"⟩, prog_13_method_87_code, 2, (some .int), 0, 0, 0, 1, 11)
def m243 : MTH := (⟨"ShapeDuelModel", "hopes", "()I"⟩, prog_13_method_88_code, 1, (some .int), 0, 0, 0, 1, 11)
def m244 : MTH := (⟨"ShapeDuelModel", "lots", "(II)I"⟩, prog_13_method_89_code, 9, (some .int), 0, 0, 2, 1, 11)
def m245 : MTH := (⟨"ShapeDuelModel", "rings", "()I"⟩, prog_13_method_90_code, 8, (some .int), 0, 0, 0, 1, 11)
def m246 : MTH := (⟨"ShapeDuelModel", "cover", "()I"⟩, prog_13_method_91_code, 6, (some .int), 0, 0, 0, 1, 11)
def m247 : MTH := (⟨"ShapeDuelModel", "alike", "()I"⟩, prog_13_method_92_code, 9, (some .int), 0, 0, 0, 1, 11)
def m248 : MTH := (⟨"ShapeDuelModel", "best", "()I"⟩, prog_13_method_93_code, 5, (some .int), 0, 0, 0, 1, 11)
def m249 : MTH := (⟨"ShapeDuelModel", "asked", "()I"⟩, prog_13_method_94_code, 1, (some .int), 0, 0, 0, 1, 11)
def m250 : MTH := (⟨"ShapeDuelModel", "upper", "()J"⟩, prog_13_method_95_code, 1, (some .long), 0, 0, 0, 1, 11)
def m251 : MTH := (⟨"ShapeDuelModel", "lower", "()J"⟩, prog_13_method_96_code, 1, (some .long), 0, 0, 0, 1, 11)
def m252 : MTH := (⟨"ShapeDuelModel", "kindsMany", "(II)I"⟩, prog_13_method_97_code, 5, (some .int), 0, 0, 2, 1, 11)
def m253 : MTH := (⟨"ShapeDuelModel", "thereMany", "(I)I"⟩, prog_13_method_98_code, 4, (some .int), 0, 0, 1, 1, 11)
def m254 : MTH := (⟨"ShapeDuelModel", "countOf", "(I)I"⟩, prog_13_method_99_code, 2, (some .int), 0, 0, 1, 1, 11)
def m255 : MTH := (⟨"ShapeDuelModel", "count", "(I)I"⟩, prog_13_method_100_code, 2, (some .int), 0, 0, 1, 1, 11)
def m256 : MTH := (⟨"ShapeDuelModel", "finding", "()I"⟩, prog_13_method_101_code, 1, (some .int), 0, 0, 0, 1, 11)
def m257 : MTH := (⟨"ShapeDuelModel", "findings", "(I)I"⟩, prog_13_method_102_code, 2, (some .int), 0, 0, 1, 1, 11)
def m258 : MTH := (⟨"ShapeDuelModel", "mix", "(J)V"⟩, prog_13_method_103_code, 3, none, 0, 0, 1, 1, 11)
def m259 : MTH := (⟨"ShapeDuelModel", "digest", "()J"⟩, prog_13_method_104_code, 3, (some .long), 0, 0, 0, 1, 11)
def m260 : MTH := (⟨"java/lang/Integer", "numberOfTrailingZeros", "(I)I"⟩, prog_14_method_48_code, 2, (some .int), 0, 0, 1, 0, 13)
def m261 : MTH := (⟨"java/lang/Integer", "bitCount", "(I)I"⟩, prog_14_method_49_code, 1, (some .int), 0, 0, 1, 0, 13)
def m262 : MTH := (⟨"java/util/Arrays", "rangeCheck", "(III)V"⟩, prog_17_method_30_code, 3, none, 0, 0, 3, 0, 15)
def m263 : MTH := (⟨"java/util/Arrays", "fill", "([II)V"⟩, prog_17_method_103_code, 4, none, 0, 0, 2, 0, 15)
def m264 : MTH := (⟨"java/util/Arrays", "fill", "([IIII)V"⟩, prog_17_method_104_code, 5, none, 0, 0, 4, 0, 15)
def m265 : MTH := (⟨"ShapeDuelLaw", "law", "([I)Z"⟩, code, 4, (some .boolean), 600000, 7302249, 1, 0, 12)
def mL : List MTH := [m0, m1, m2, m3, m4, m5, m6, m7, m8, m9, m10, m11, m12, m13, m14, m15, m16, m17, m18, m19, m20, m21, m22, m23, m24, m25, m26, m27, m28, m29, m30, m31, m32, m33, m34, m35, m36, m37, m38, m39, m40, m41, m42, m43, m44, m45, m46, m47, m48, m49, m50, m51, m52, m53, m54, m55, m56, m57, m58, m59, m60, m61, m62, m63, m64, m65, m66, m67, m68, m69, m70, m71, m72, m73, m74, m75, m76, m77, m78, m79, m80, m81, m82, m83, m84, m85, m86, m87, m88, m89, m90, m91, m92, m93, m94, m95, m96, m97, m98, m99, m100, m101, m102, m103, m104, m105, m106, m107, m108, m109, m110, m111, m112, m113, m114, m115, m116, m117, m118, m119, m120, m121, m122, m123, m124, m125, m126, m127, m128, m129, m130, m131, m132, m133, m134, m135, m136, m137, m138, m139, m140, m141, m142, m143, m144, m145, m146, m147, m148, m149, m150, m151, m152, m153, m154, m155, m156, m157, m158, m159, m160, m161, m162, m163, m164, m165, m166, m167, m168, m169, m170, m171, m172, m173, m174, m175, m176, m177, m178, m179, m180, m181, m182, m183, m184, m185, m186, m187, m188, m189, m190, m191, m192, m193, m194, m195, m196, m197, m198, m199, m200, m201, m202, m203, m204, m205, m206, m207, m208, m209, m210, m211, m212, m213, m214, m215, m216, m217, m218, m219, m220, m221, m222, m223, m224, m225, m226, m227, m228, m229, m230, m231, m232, m233, m234, m235, m236, m237, m238, m239, m240, m241, m242, m243, m244, m245, m246, m247, m248, m249, m250, m251, m252, m253, m254, m255, m256, m257, m258, m259, m260, m261, m262, m263, m264, m265]
abbrev NMT : Nat := 265
def FL : Nat → List (Nat × Nat × Nat × Nat)
  | 0 => [(9, 0, 1, 254), (18, 0, 2, 256), (22, 0, 3, 260), (26, 0, 4, 262), (29, 0, 5, 263), (33, 0, 0, 253), (37, 7, 0, 228), (40, 7, 1, 230), (43, 7, 2, 235), (46, 9, 3, 181), (51, 7, 3, 237), (76, 9, 4, 188), (79, 9, 5, 193), (104, 8, 1, 422), (107, 8, 0, 417)]
  | 1 => [(9, 1, 3, 354), (15, 1, 4, 355), (18, 1, 0, 351), (22, 1, 2, 353), (26, 0, 0, 251), (32, 1, 1, 352), (46, 9, 3, 182), (75, 2, 1, 315)]
  | 2 => [(9, 2, 0, 312), (13, 2, 1, 313), (16, 2, 2, 316)]
  | 3 => [(9, 3, 1, 397), (15, 3, 2, 398), (19, 3, 0, 396), (23, 9, 0, 172)]
  | 4 => [(12, 4, 0, 287), (18, 4, 1, 289), (22, 4, 2, 291), (25, 4, 3, 293), (29, 4, 4, 294), (32, 9, 0, 171), (35, 9, 3, 180), (38, 8, 1, 420), (43, 8, 0, 414), (67, 9, 1, 175), (70, 9, 2, 177), (77, 9, 4, 187), (80, 9, 5, 192), (83, 9, 6, 196)]
  | 5 => [(9, 5, 3, 334), (15, 5, 0, 331), (19, 5, 2, 333), (23, 0, 0, 250), (29, 5, 1, 332), (58, 2, 1, 314), (62, 9, 3, 183), (110, 8, 0, 416), (114, 0, 2, 258), (118, 7, 1, 232), (127, 7, 3, 239)]
  | 6 => [(9, 6, 2, 376), (15, 6, 3, 377), (19, 6, 4, 378), (22, 6, 0, 374), (26, 0, 0, 252), (32, 6, 1, 375), (33, 8, 1, 419), (42, 8, 0, 413), (61, 0, 2, 257), (65, 7, 1, 231), (70, 9, 3, 184), (81, 9, 5, 191), (112, 7, 3, 238)]
  | 7 => [(7, 7, 0, 227), (13, 7, 1, 229), (16, 7, 2, 234), (19, 7, 3, 236)]
  | 8 => [(7, 8, 1, 418), (13, 8, 0, 412)]
  | 9 => [(9, 9, 0, 170), (15, 9, 1, 174), (19, 9, 2, 176), (22, 9, 3, 179), (25, 9, 4, 186), (28, 9, 5, 190), (31, 9, 6, 195)]
  | 10 => [(11, 10, 0, 428), (15, 10, 1, 429), (21, 10, 2, 430), (30, 10, 3, 431), (34, 10, 4, 432), (41, 10, 5, 433), (48, 10, 6, 434), (57, 10, 7, 435), (64, 10, 8, 436), (73, 10, 9, 437), (80, 10, 10, 438), (84, 10, 11, 439), (88, 10, 12, 440), (92, 10, 13, 441), (95, 10, 14, 442), (99, 10, 15, 443), (113, 8, 0, 415), (124, 8, 1, 421), (151, 4, 0, 288), (157, 4, 1, 290), (160, 4, 2, 292), (167, 0, 1, 255), (171, 9, 0, 173), (178, 9, 3, 185), (211, 0, 2, 259), (220, 7, 3, 240), (230, 7, 1, 233), (233, 9, 2, 178), (249, 0, 5, 264), (253, 0, 3, 261), (284, 5, 3, 335), (321, 1, 4, 356), (332, 3, 2, 399), (384, 9, 4, 189), (387, 9, 5, 194), (390, 9, 6, 197)]
  | 11 => [(7, 11, 0, 1160), (13, 11, 1, 1161), (17, 11, 4, 1164), (20, 11, 5, 1165), (23, 11, 7, 1167), (26, 11, 8, 1168), (29, 11, 9, 1169), (32, 11, 11, 1171), (35, 11, 14, 1174), (39, 11, 15, 1175), (42, 11, 16, 1176), (45, 11, 17, 1177), (48, 11, 18, 1178), (51, 11, 19, 1179), (54, 11, 23, 1183), (57, 11, 24, 1184), (60, 11, 25, 1185), (63, 11, 26, 1186), (66, 11, 27, 1187), (69, 11, 28, 1188), (72, 11, 31, 1191), (75, 11, 32, 1192), (78, 11, 33, 1193), (81, 11, 35, 1195), (84, 11, 36, 1196), (87, 11, 37, 1197), (90, 11, 38, 1198), (93, 11, 40, 1200), (96, 11, 41, 1201), (99, 11, 42, 1202), (102, 11, 43, 1203), (106, 11, 44, 1204), (109, 11, 45, 1205), (112, 11, 10, 1170), (116, 11, 12, 1172), (150, 11, 29, 1189), (153, 11, 30, 1190), (160, 11, 20, 1180), (163, 11, 21, 1181), (166, 11, 22, 1182), (198, 11, 3, 1163), (201, 11, 6, 1166), (204, 11, 2, 1162), (245, 11, 34, 1194), (290, 11, 39, 1199), (326, 11, 13, 1173), (353, 11, 46, 1206)]
  | _ => []
def ML : Nat → List (Nat × Nat × Nat)
  | 0 => [(3, 1000, 219), (17, 66, 223), (54, 67, 783), (58, 1001, 787), (64, 69, 741), (68, 70, 762), (72, 143, 639), (82, 80, 710), (86, 81, 711), (89, 91, 712), (92, 6, 706), (95, 4, 737), (96, 3, 745), (99, 8, 746), (103, 5, 758)]
  | 1 => [(3, 1000, 350), (33, 22, 986), (38, 3, 987), (42, 17, 988), (51, 6, 996), (55, 18, 997), (61, 4, 992), (64, 23, 993), (67, 24, 994), (71, 25, 995), (79, 1003, 1004), (85, 26, 1007), (89, 8, 1001), (93, 5, 1002), (99, 7, 1033), (107, 261, 1036), (112, 20, 1037), (115, 9, 1044), (119, 260, 1040)]
  | 2 => [(3, 1000, 311), (21, 24, 840)]
  | 3 => [(3, 1000, 395), (28, 81, 1053), (32, 30, 1062), (36, 261, 1068), (41, 143, 1066), (45, 82, 1067), (48, 32, 1077), (51, 34, 1081), (54, 33, 1085), (57, 84, 1097)]
  | 4 => [(3, 1000, 284), (11, 78, 286), (46, 38, 561), (50, 40, 565), (54, 41, 577), (60, 39, 583), (63, 42, 569), (73, 86, 573)]
  | 5 => [(3, 1000, 330), (30, 22, 800), (35, 3, 804), (39, 45, 812), (43, 4, 810), (46, 23, 816), (50, 24, 820), (54, 25, 825), (67, 6, 805), (70, 46, 806), (74, 47, 829), (77, 26, 836), (81, 8, 811), (85, 5, 841), (89, 1004, 832), (94, 1002, 835), (97, 44, 858), (100, 72, 859), (106, 50, 860), (123, 51, 872), (130, 143, 884), (133, 56, 901), (136, 7, 905)]
  | 6 => [(3, 1000, 373), (36, 1004, 933), (45, 1001, 934), (51, 263, 939), (57, 60, 942), (75, 61, 946), (78, 62, 950), (84, 6, 955), (87, 4, 956), (91, 8, 957), (95, 5, 958), (99, 3, 954), (102, 72, 963), (106, 64, 964), (109, 59, 976), (115, 143, 977)]
  | 7 => [(1, 1000, 226)]
  | 8 => [(1, 1000, 411), (17, 264, 496), (23, 1001, 774), (29, 142, 918)]
  | 9 => [(3, 1000, 169), (34, 1001, 595), (43, 143, 616), (47, 81, 612), (51, 82, 608), (55, 261, 1101), (60, 83, 619), (63, 87, 623), (66, 80, 716), (69, 1002, 717)]
  | 10 => [(1, 1000, 159), (20, 78, 166), (27, 0, 216), (40, 36, 281), (47, 21, 308), (54, 43, 327), (63, 14, 347), (70, 57, 370), (79, 27, 392), (102, 71, 408), (105, 150, 481), (109, 152, 506), (116, 147, 518), (120, 151, 510), (127, 142, 485), (131, 146, 488), (134, 74, 530), (137, 1001, 534), (143, 76, 541), (147, 37, 557), (154, 79, 591), (163, 1, 596), (174, 85, 604), (181, 154, 631), (184, 80, 644), (187, 88, 650), (190, 12, 654), (193, 86, 658), (196, 83, 659), (199, 261, 660), (204, 89, 666), (207, 145, 674), (215, 68, 678), (223, 143, 686), (226, 144, 687), (236, 7, 702), (239, 3, 724), (243, 6, 732), (246, 9, 733), (250, 10, 754), (256, 73, 770), (260, 2, 779), (262, 48, 796), (265, 44, 846), (268, 49, 854), (272, 52, 868), (275, 53, 880), (278, 54, 889), (281, 55, 897), (287, 153, 910), (290, 4, 919), (293, 11, 920), (296, 5, 924), (299, 58, 929), (302, 59, 935), (305, 63, 959), (308, 65, 972), (311, 15, 982), (314, 148, 1008), (318, 16, 1020), (326, 19, 1029), (329, 28, 1049), (335, 29, 1058), (338, 31, 1073), (341, 35, 1093), (344, 84, 1102), (347, 90, 1119), (350, 155, 1123), (354, 156, 1126), (361, 137, 1144), (364, 141, 1145), (368, 77, 1149), (373, 149, 1013), (377, 72, 492), (381, 75, 914), (393, 13, 635)]
  | 11 => [(1, 1000, 1159), (121, 158, 1311), (127, 163, 1307), (131, 161, 1314), (135, 165, 1318), (139, 162, 1326), (143, 170, 1342), (147, 164, 1354), (156, 175, 1370), (173, 176, 1386), (176, 179, 1382), (179, 180, 1378), (183, 181, 1390), (186, 177, 1394), (189, 178, 1397), (192, 182, 1374), (195, 183, 1366), (208, 159, 1427), (212, 189, 1423), (215, 190, 1419), (218, 191, 1430), (221, 192, 1434), (224, 186, 1411), (227, 193, 1415), (230, 187, 1442), (233, 195, 1446), (236, 160, 1458), (239, 197, 1454), (242, 188, 1465), (248, 204, 1497), (252, 205, 1493), (255, 207, 1517), (258, 209, 1546), (261, 208, 1513), (264, 203, 1485), (267, 206, 1489), (270, 213, 1509), (276, 210, 1542), (279, 220, 1554), (282, 223, 1565), (287, 228, 1586), (293, 231, 1598), (296, 230, 1594), (299, 234, 1630), (303, 235, 1626), (306, 236, 1618), (310, 240, 1622), (314, 238, 1633), (318, 237, 1637), (322, 239, 1614), (329, 241, 1610), (340, 252, 1690), (343, 253, 1694), (348, 254, 1686), (358, 258, 1711)]
  | 12 => [(9, 92, 156), (12, 157, 1156), (13, 93, 477), (17, 166, 1303), (18, 94, 502), (22, 167, 1322), (23, 95, 514), (26, 168, 1330), (27, 96, 522), (31, 169, 1334), (32, 97, 526), (36, 171, 1338), (37, 98, 537), (40, 172, 1346), (41, 99, 545), (44, 173, 1350), (45, 100, 549), (48, 174, 1358), (49, 101, 553), (52, 184, 1362), (53, 102, 587), (56, 185, 1403), (57, 103, 600), (60, 194, 1407), (61, 104, 627), (64, 196, 1438), (65, 105, 640), (68, 198, 1450), (69, 106, 670), (72, 199, 1461), (73, 107, 682), (76, 200, 1469), (77, 108, 690), (80, 201, 1473), (81, 109, 694), (84, 202, 1477), (85, 110, 698), (88, 211, 1481), (89, 111, 720), (93, 212, 1501), (94, 112, 728), (97, 214, 1505), (98, 113, 750), (101, 215, 1521), (102, 114, 766), (105, 216, 1525), (106, 115, 775), (109, 217, 1529), (110, 116, 788), (113, 218, 1534), (114, 117, 792), (117, 219, 1538), (118, 118, 842), (121, 221, 1550), (122, 119, 850), (125, 222, 1557), (126, 120, 864), (129, 224, 1561), (130, 121, 876), (133, 225, 1569), (134, 122, 885), (137, 226, 1573), (138, 123, 893), (141, 227, 1577), (142, 124, 906), (145, 229, 1582), (146, 125, 925), (149, 232, 1590), (150, 126, 968), (153, 233, 1602), (154, 127, 978), (157, 242, 1606), (158, 128, 1016), (161, 243, 1641), (162, 129, 1024), (165, 244, 1645), (166, 130, 1045), (169, 245, 1653), (170, 131, 1054), (173, 246, 1657), (174, 132, 1069), (177, 247, 1661), (178, 133, 1089), (181, 248, 1665), (182, 134, 1103), (185, 249, 1669), (186, 135, 1107), (190, 250, 1673), (191, 136, 1111), (194, 251, 1677), (195, 137, 1115), (198, 255, 1681), (199, 138, 1130), (202, 256, 1698), (203, 139, 1134), (206, 257, 1702), (207, 140, 1138), (210, 259, 1706)]
  | 15 => [(13, 262, 499)]
  | _ => []
def SL : Nat → List (Nat × Nat × Nat)
  | 4 => [(57, 1, 581)]
  | 9 => [(40, 2, 648)]
  | _ => []
def NL : Nat → List (Nat × Nat × Nat)
  | 0 => [(15, 7, 220)]
  | 4 => [(9, 9, 285)]
  | 10 => [(9, 8, 162), (18, 9, 164), (25, 0, 214), (38, 4, 279), (45, 2, 306), (52, 5, 325), (61, 1, 345), (68, 6, 368), (77, 3, 390)]
  | 12 => [(7, 10, 154), (10, 11, 1154)]
  | _ => []
def AL : Nat → List (Nat × Nat × Nat)
  | 0 => [(15, 16, 220)]
  | 10 => [(9, 17, 162), (25, 15, 214)]
  | _ => []
def CL : Nat → List (Nat × Value × Nat)
  | 1 => [(97, .long (61917364224), 1003), (103, .long (48271), 1034), (105, .long (2147483647), 1035)]
  | 2 => [(20, .int (-1640531535), 824)]
  | 8 => [(35, .long (31), 1153)]
  | 10 => [(324, .long (2147483647), 1028), (357, .long (17), 1142), (359, .long (31), 1143), (371, .long (61917364224), 1012)]
  | 11 => [(119, .long (5), 1310), (125, .long (3), 1357), (169, .long (48), 1401), (171, .long (57), 1402), (274, .long (2), 1533), (285, .long (6), 1581), (332, .long (20), 1649), (334, .long (2147483646), 1650), (336, .long (48271), 1651), (338, .long (2147483647), 1652), (346, .long (8), 1685), (351, .long (31), 1715), (356, .long (17), 1710), (362, .long (-1), 1716)]
  | 13 => [(264, .int (65536), 1043), (265, .int (1431655765), 663), (266, .int (858993459), 664), (267, .int (252645135), 665)]
  | _ => []
/-- where a method's words stand: code, kind, selects, initialized -/
def YP : List (Nat × Nat × Nat × Nat) := [(218, 217, 0, 140), (599, 598, 16, 140), (782, 781, 42, 140), (727, 726, 33, 140), (740, 739, 35, 140), (761, 760, 39, 140), (709, 708, 31, 140), (705, 704, 30, 140), (749, 748, 37, 140), (736, 735, 34, 140), (757, 756, 38, 140), (923, 922, 63, 140), (657, 656, 26, 140), (638, 637, 23, 140), (349, 348, 0, 145), (985, 984, 72, 145), (1023, 1022, 76, 145), (991, 990, 73, 145), (1000, 999, 74, 145), (1032, 1031, 77, 145), (1039, 1038, 0, 145), (310, 309, 0, 143), (803, 802, 45, 143), (819, 818, 48, 143), (823, 822, 49, 143), (828, 827, 50, 143), (839, 838, 51, 143), (394, 393, 0, 147), (1052, 1051, 78, 147), (1061, 1060, 79, 147), (1065, 1064, 80, 147), (1076, 1075, 81, 147), (1080, 1079, 82, 147), (1088, 1087, 84, 147), (1084, 1083, 83, 147), (1096, 1095, 85, 147), (283, 282, 0, 142), (560, 559, 8, 142), (564, 563, 9, 142), (586, 585, 14, 142), (568, 567, 10, 142), (580, 579, 13, 142), (572, 571, 11, 142), (329, 328, 0, 144), (849, 848, 52, 144), (815, 814, 47, 144), (809, 808, 46, 144), (831, 830, 0, 144), (799, 798, 44, 144), (857, 856, 53, 144), (863, 862, 54, 144), (875, 874, 56, 144), (871, 870, 55, 144), (883, 882, 57, 144), (892, 891, 58, 144), (900, 899, 59, 144), (904, 903, 60, 144), (372, 371, 0, 146), (932, 931, 64, 146), (938, 937, 65, 146), (945, 944, 66, 146), (949, 948, 67, 146), (953, 952, 68, 146), (962, 961, 69, 146), (967, 966, 70, 146), (975, 974, 71, 146), (225, 224, 0, 141), (786, 785, 43, 141), (681, 680, 29, 141), (744, 743, 36, 141), (765, 764, 40, 141), (410, 409, 0, 148), (495, 494, 2, 148), (773, 772, 41, 148), (533, 532, 6, 148), (917, 916, 62, 148), (544, 543, 7, 148), (1152, 1151, 90, 148), (168, 167, 0, 139), (594, 593, 15, 139), (647, 646, 24, 139), (615, 614, 19, 139), (611, 610, 18, 139), (622, 621, 20, 139), (1100, 1099, 86, 139), (607, 606, 17, 139), (576, 575, 12, 139), (626, 625, 21, 139), (653, 652, 25, 139), (669, 668, 27, 139), (1122, 1121, 87, 139), (715, 714, 32, 139), (158, 157, 0, 138), (480, 478, 479, 138), (505, 503, 504, 138), (517, 515, 516, 138), (525, 523, 524, 138), (529, 527, 528, 138), (540, 538, 539, 138), (548, 546, 547, 138), (552, 550, 551, 138), (556, 554, 555, 138), (590, 588, 589, 138), (603, 601, 602, 138), (630, 628, 629, 138), (643, 641, 642, 138), (673, 671, 672, 138), (685, 683, 684, 138), (693, 691, 692, 138), (697, 695, 696, 138), (701, 699, 700, 138), (723, 721, 722, 138), (731, 729, 730, 138), (753, 751, 752, 138), (769, 767, 768, 138), (778, 776, 777, 138), (791, 789, 790, 138), (795, 793, 794, 138), (845, 843, 844, 138), (853, 851, 852, 138), (867, 865, 866, 138), (879, 877, 878, 138), (888, 886, 887, 138), (896, 894, 895, 138), (909, 907, 908, 138), (928, 926, 927, 138), (971, 969, 970, 138), (981, 979, 980, 138), (1019, 1017, 1018, 138), (1027, 1025, 1026, 138), (1048, 1046, 1047, 138), (1057, 1055, 1056, 138), (1072, 1070, 1071, 138), (1092, 1090, 1091, 138), (1106, 1104, 1105, 138), (1110, 1108, 1109, 138), (1114, 1112, 1113, 138), (1118, 1116, 1117, 138), (1133, 1131, 1132, 138), (1137, 1135, 1136, 138), (1141, 1139, 1140, 138), (1148, 1147, 89, 138), (487, 486, 0, 138), (618, 617, 0, 138), (689, 688, 0, 138), (677, 676, 28, 138), (491, 490, 1, 138), (521, 520, 5, 138), (1011, 1010, 75, 138), (1015, 1014, 0, 138), (484, 483, 0, 138), (513, 512, 4, 138), (509, 508, 3, 138), (913, 912, 61, 138), (634, 633, 22, 138), (1125, 1124, 0, 138), (1129, 1128, 88, 138), (1158, 1157, 0, 149), (1313, 1312, 0, 149), (1429, 1428, 0, 149), (1460, 1459, 0, 149), (1317, 1316, 91, 149), (1329, 1328, 93, 149), (1309, 1308, 0, 149), (1356, 1355, 0, 149), (1321, 1320, 92, 149), (1306, 1304, 1305, 149), (1325, 1323, 1324, 149), (1333, 1331, 1332, 149), (1337, 1335, 1336, 149), (1345, 1344, 94, 149), (1341, 1339, 1340, 149), (1349, 1347, 1348, 149), (1353, 1351, 1352, 149), (1361, 1359, 1360, 149), (1373, 1372, 96, 149), (1389, 1388, 100, 149), (1396, 1395, 0, 149), (1400, 1399, 102, 149), (1385, 1384, 99, 149), (1381, 1380, 98, 149), (1393, 1392, 101, 149), (1377, 1376, 97, 149), (1369, 1368, 95, 149), (1365, 1363, 1364, 149), (1406, 1404, 1405, 149), (1414, 1413, 103, 149), (1445, 1444, 109, 149), (1468, 1467, 112, 149), (1426, 1425, 106, 149), (1422, 1421, 105, 149), (1433, 1432, 107, 149), (1437, 1436, 108, 149), (1418, 1417, 104, 149), (1410, 1408, 1409, 149), (1449, 1448, 110, 149), (1441, 1439, 1440, 149), (1457, 1456, 111, 149), (1453, 1451, 1452, 149), (1464, 1462, 1463, 149), (1472, 1470, 1471, 149), (1476, 1474, 1475, 149), (1480, 1478, 1479, 149), (1488, 1487, 113, 149), (1500, 1499, 116, 149), (1496, 1495, 115, 149), (1492, 1491, 114, 149), (1520, 1519, 119, 149), (1516, 1515, 118, 149), (1549, 1548, 121, 149), (1545, 1544, 120, 149), (1484, 1482, 1483, 149), (1504, 1502, 1503, 149), (1512, 1511, 117, 149), (1508, 1506, 1507, 149), (1524, 1522, 1523, 149), (1528, 1526, 1527, 149), (1532, 1530, 1531, 149), (1537, 1535, 1536, 149), (1541, 1539, 1540, 149), (1556, 1555, 0, 149), (1553, 1551, 1552, 149), (1560, 1558, 1559, 149), (1568, 1567, 122, 149), (1564, 1562, 1563, 149), (1572, 1570, 1571, 149), (1576, 1574, 1575, 149), (1580, 1578, 1579, 149), (1589, 1588, 123, 149), (1585, 1583, 1584, 149), (1597, 1596, 124, 149), (1601, 1600, 125, 149), (1593, 1591, 1592, 149), (1605, 1603, 1604, 149), (1632, 1631, 0, 149), (1629, 1628, 130, 149), (1621, 1620, 128, 149), (1640, 1639, 132, 149), (1636, 1635, 131, 149), (1617, 1616, 127, 149), (1625, 1624, 129, 149), (1613, 1612, 126, 149), (1609, 1607, 1608, 149), (1644, 1642, 1643, 149), (1648, 1646, 1647, 149), (1656, 1654, 1655, 149), (1660, 1658, 1659, 149), (1664, 1662, 1663, 149), (1668, 1666, 1667, 149), (1672, 1670, 1671, 149), (1676, 1674, 1675, 149), (1680, 1678, 1679, 149), (1693, 1692, 134, 149), (1697, 1696, 135, 149), (1689, 1688, 133, 149), (1684, 1682, 1683, 149), (1701, 1699, 1700, 149), (1705, 1703, 1704, 149), (1714, 1713, 136, 149), (1709, 1707, 1708, 149), (1042, 1041, 0, 152), (662, 661, 0, 152), (501, 500, 0, 150), (941, 940, 0, 150), (498, 497, 0, 150)]
/-- an instruction: place, itself, length, two numbers, a value, the cases of a switch -/
abbrev CE : Type := Nat × Instr × Nat × Nat × Nat × Value × List (Int32 × Nat)
end
section
/-! THE WORLD. A memory: shapes of cells (tag, length, references), ints by cell and place, longs by cell and place.
Cells 0, 1, 2 are the script and the two static rows (tag 20, nobody writes them); cell r from 3 on lies at base + (r - 3). -/
abbrev SHL : Type := List (Nat × Nat × List (Option Nat))
abbrev MH : Type := SHL × (Nat → Nat → Int32) × (Nat → Nat → Int64)
abbrev GG : Type := Launch × va_G × (Nat → ClassId) × Nat × (Nat → Nat)
def adr (G : GG) (r : Nat) : Nat := if r < 3 then G.2.2.2.2 r else G.2.2.2.1 + (r - 3)
def AA (G : GG) : Nat → Prop := fun q => G.2.2.2.1 ≤ q
def cv (G : GG) (v : Value) : Value := match v with
  | .ref r => .ref (adr G r)
  | w => w
def clN (c : Nat) : Nat := (vwCl.getD c (RX0, TX0, 0)).2.2
def clT (c k : Nat) : FieldType := (tyL.getD c tyX0) k
def rfO (G : GG) (o : Option Nat) : Option Nat := o.map (adr G)
def fvE (G : GG) (σ : MH) (r : Nat) (refs : List (Option Nat)) (ty : FieldType) (k : Nat) : Value := match ty with
  | .long => .long (σ.2.2 r k)
  | .object _ => va_rf (rfO G (refs.getD k none))
  | .array _ => va_rf (rfO G (refs.getD k none))
  | _ => .int (σ.2.1 r k)
def fsE (G : GG) (σ : MH) (r t : Nat) (refs : List (Option Nat)) : List Value := (List.range (clN t)).map (fun k => fvE G σ r refs (clT t k) k)
def cellE (G : GG) (σ : MH) (r : Nat) (q : Nat × Nat × List (Option Nat)) : va_E :=
  if q.1 < 12 then .inr (q.1, fsE G σ r q.1 q.2.2)
  else if q.1 = 13 then .inl (G.2.2.1 13, q.2.1, .inr (.inl (σ.2.2 r)))
  else if q.1 < 15 then .inl (G.2.2.1 q.1, q.2.1, .inl (σ.2.1 r))
  else .inl (G.2.2.1 q.1, q.2.1, .inr (.inr (.inr (.inr (fun j => rfO G (q.2.2.getD j none))))))
def wsO (G : GG) (σ : MH) : va_W := (List.range (σ.1.length - 3)).map fun k => (G.2.2.2.1 + k, cellE G σ (k + 3) (σ.1.getD (k + 3) (0, 0, [])))
def tagTy (t : Nat) : FieldType := if t = 12 then .int else if t = 13 then .long else if t = 14 then .boolean else if t = 15 then .object RX0 else if t = 16 then .object RX7 else .object RX8
def tysO (G : GG) : List (ClassId × FieldType) := [(G.2.2.1 12, .int), (G.2.2.1 13, .long), (G.2.2.1 14, .boolean), (G.2.2.1 15, .object RX0), (G.2.2.1 16, .object RX7), (G.2.2.1 17, .object RX8)]
def isNest : Cond → Bool
  | .fieldLinkNest _ _ _ _ _ _ => true
  | .methodLinkNest _ _ _ _ => true
  | _ => false
def lwG : List Cond := lw_tbl.filter goodWord
def lwN : List Cond := lw_tbl.filter isNest
/-- the memory in the heap H of a method that began at s -/
def WO (G : GG) (σ : MH) (s : State) (H : Heap) : Prop :=
  va_P G.2.1 vwCl (wsO G σ) H ∧ H.size = G.2.2.2.1 + (σ.1.length - 3) ∧ 3 ≤ σ.1.length ∧
  (∀ r, r < 3 → ∃ n, σ.1[r]? = some (20, n, []) ∧ va_T .int (adr G r) n (fun j => .int (σ.2.1 r j)) (AA G) s s.heap) ∧
  (∀ r t n f, 3 ≤ r → σ.1[r]? = some (t, n, f) → t < 18)
/-- what the tables say, and the statics -/
def SO (G : GG) (s : State) : Prop :=
  va_K G.2.1 vwCl (tysO G) s ∧ (∀ w ∈ lwN, va_Nw w s) ∧ va_Z "ShapeDuel" "LETTERS" "[I" (.ref (adr G 1)) (AA G) s s.heap ∧ va_Z "ShapeDuel" "ABOVE" "[I" (.ref (adr G 2)) (AA G) s s.heap ∧
  G.2.2.2.1 ≤ s.heap.size ∧ va_AO RX0 s ∧ va_AO RX7 s ∧ va_AO RX8 s
def WS (G : GG) (σ : MH) (U : State) : Prop := WO G σ U U.heap ∧ SO G U
-- ===== the list of the world's cells
theorem wsO_len (G : GG) (σ : MH) : (wsO G σ).length = σ.1.length - 3 := by simp [wsO]
theorem wsO_at {G : GG} {σ : MH} {r : Nat} {q : Nat × Nat × List (Option Nat)} (h3 : 3 ≤ r) (h : σ.1[r]? = some q) : (wsO G σ)[r - 3]? = some (adr G r, cellE G σ r q) := by
  have hl : r < σ.1.length := (List.getElem?_eq_some_iff.mp h).1
  have h1 : r - 3 < σ.1.length - 3 := by omega
  have h2 : r - 3 + 3 = r := by omega
  simp only [wsO, List.getElem?_map, List.getElem?_range h1, Option.map_some]
  rw [h2, adr, if_neg (by omega)]
  rw [List.getD_eq_getElem?_getD, h]
  rfl
theorem adr_ge {G : GG} {r : Nat} (h3 : 3 ≤ r) : adr G r = G.2.2.2.1 + (r - 3) := by rw [adr, if_neg (by omega)]
theorem AA_adr {G : GG} {r : Nat} (h3 : 3 ≤ r) : AA G (adr G r) := by rw [adr_ge h3]; exact Nat.le_add_right _ _
theorem wsO_D (G : GG) (σ : MH) : va_D (AA G) (wsO G σ) := by
  have key : ∀ (i : Nat) (p : Nat × va_E), (wsO G σ)[i]? = some p → p.1 = G.2.2.2.1 + i := by
    intro i p h
    have hl : i < (wsO G σ).length := (List.getElem?_eq_some_iff.mp h).1
    rw [wsO_len] at hl
    simp only [wsO, List.getElem?_map, List.getElem?_range hl, Option.map_some, Option.some.injEq] at h
    rw [← h]
  refine ⟨fun i j p q hi hj h => ?_, fun k q h => ?_⟩
  · rw [key i p hi, key j q hj] at h
    omega
  · rw [key k q h]
    exact Nat.le_add_right _ _
/-- one cell is another: the list with that place set -/
theorem wsO_set {G : GG} {σ σ' : MH} {r : Nat} {e : va_E} (h3 : 3 ≤ r) (hr : r < σ.1.length) (hl : σ'.1.length = σ.1.length) (he : cellE G σ' r (σ'.1.getD r (0, 0, [])) = e)
    (ho : ∀ r', r' ≠ r → cellE G σ' r' (σ'.1.getD r' (0, 0, [])) = cellE G σ r' (σ.1.getD r' (0, 0, []))) : (wsO G σ).set (r - 3) (adr G r, e) = wsO G σ' := by
  apply List.ext_getElem?
  intro i
  by_cases hi : i = r - 3
  · subst hi
    have h1 : r - 3 < (wsO G σ).length := by rw [wsO_len]; omega
    have h2 : r - 3 + 3 = r := by omega
    rw [List.getElem?_set_self h1]
    simp only [wsO, hl, List.getElem?_map, List.getElem?_range (show r - 3 < σ.1.length - 3 by omega), Option.map_some]
    rw [h2, he, adr_ge h3]
  · rw [List.getElem?_set_ne (Ne.symm hi)]
    by_cases hlt : i < σ.1.length - 3
    · simp only [wsO, hl, List.getElem?_map, List.getElem?_range hlt, Option.map_some]
      rw [ho (i + 3) (by omega)]
    · rw [List.getElem?_eq_none (by rw [wsO_len]; omega), List.getElem?_eq_none (by rw [wsO_len, hl]; omega)]
/-- one cell more -/
theorem wsO_push {G : GG} {σ σ' : MH} {q : Nat × Nat × List (Option Nat)} {e : va_E} {a : Nat} (h3 : 3 ≤ σ.1.length) (hs : σ'.1 = σ.1 ++ [q]) (ha : a = G.2.2.2.1 + (σ.1.length - 3)) (he : cellE G σ' σ.1.length q = e)
    (ho : ∀ r', r' < σ.1.length → cellE G σ' r' (σ.1.getD r' (0, 0, [])) = cellE G σ r' (σ.1.getD r' (0, 0, []))) : wsO G σ ++ [(a, e)] = wsO G σ' := by
  have hl : σ'.1.length = σ.1.length + 1 := by rw [hs]; simp
  apply List.ext_getElem?
  intro i
  by_cases hlt : i < σ.1.length - 3
  · rw [List.getElem?_append_left (by rw [wsO_len]; exact hlt)]
    simp only [wsO, hl, List.getElem?_map, List.getElem?_range hlt, List.getElem?_range (show i < σ.1.length + 1 - 3 by omega), Option.map_some]
    have hg : (σ.1 ++ [q]).getD (i + 3) (0, 0, []) = σ.1.getD (i + 3) (0, 0, []) := by rw [List.getD_eq_getElem?_getD, List.getD_eq_getElem?_getD, List.getElem?_append_left (by omega)]
    rw [hs, hg, ho (i + 3) (by omega)]
  · by_cases hi : i = σ.1.length - 3
    · subst hi
      rw [List.getElem?_append_right (by rw [wsO_len]; exact Nat.le_refl _), wsO_len, Nat.sub_self]
      simp only [wsO, hl, List.getElem?_map, List.getElem?_range (show σ.1.length - 3 < σ.1.length + 1 - 3 by omega), Option.map_some, List.getElem?_cons_zero]
      rw [show σ.1.length - 3 + 3 = σ.1.length by omega, hs, ha]
      rw [List.getD_eq_getElem?_getD, List.getElem?_append_right (Nat.le_refl _), Nat.sub_self, List.getElem?_cons_zero, Option.getD_some, he]
    · rw [List.getElem?_eq_none (by rw [List.length_append, wsO_len]; simp; omega), List.getElem?_eq_none (by rw [wsO_len, hl]; omega)]
-- ===== the world moves with the machine
theorem SO.moved {G : GG} {s U : State} (hW : s.WarmedH U.vm) (hh : ∀ q, q < s.heap.size → ¬ AA G q → U.heap[q]? = s.heap[q]?) (hz : s.heap.size ≤ U.heap.size) (h : SO G s) : SO G U := by
  obtain ⟨h1, h2, h3, h4, h5, h6, h7, h8⟩ := h
  refine ⟨va_K.moved hW.alike h1, fun w hw => ?_, va_Z.moved hW.alike (va_Z.kept h3 hh), va_Z.moved hW.alike (va_Z.kept h4 hh), Nat.le_trans h5 hz, va_AO.moved hW.alike h6, va_AO.moved hW.alike h7, va_AO.moved hW.alike h8⟩
  have hb := (List.mem_filter.mp hw).2
  have hq := h2 w hw
  cases w <;> first | exact va_Nw.warmF hW hq | exact va_Nw.warmM hW hq | (exact absurd hb (by simp [isNest]))
theorem SO.same {G : GG} {s U : State} (hv : s.vm = U.vm) (hh : U.heap = s.heap) (h : SO G s) : SO G U := by
  obtain ⟨h1, h2, h3, h4, h5, h6, h7, h8⟩ := h
  have al : s.vm.Alike U.vm := by rw [hv]; exact Vm.Alike.refl _
  rw [← hh] at h3 h4 h5
  refine ⟨va_K.moved al h1, fun w hw => va_Nw.same ?_ hv (h2 w hw), va_Z.moved al h3, va_Z.moved al h4, h5, va_AO.moved al h6, va_AO.moved al h7, va_AO.moved al h8⟩
  have hb := (List.mem_filter.mp hw).2
  cases w <;> first | rfl | (exact absurd hb (by simp [isNest]))
theorem WO.at {G : GG} {σ : MH} {s U : State} {H : Heap} (al : s.vm.Alike U.vm) (hb : G.2.2.2.1 ≤ s.heap.size) (hh : ∀ q, q < s.heap.size → ¬ AA G q → U.heap[q]? = s.heap[q]?) (h : WO G σ s H) : WO G σ U H := by
  obtain ⟨h1, h2, h3, h4, h5⟩ := h
  refine ⟨h1, h2, h3, fun r hr => ?_, h5⟩
  obtain ⟨n, e1, e2⟩ := h4 r hr
  exact ⟨n, e1, va_T.moved al (va_T.kept e2 hh)⟩
/-- back from a callee's end: the caller's start sees the same outside -/
theorem WO.back {G : GG} {σ : MH} {s t : State} {H : Heap} (al : s.vm.Alike t.vm) (hb : G.2.2.2.1 ≤ s.heap.size) (hh : ∀ q, q < s.heap.size → ¬ AA G q → t.heap[q]? = s.heap[q]?) (h : WO G σ t H) : WO G σ s H := by
  obtain ⟨h1, h2, h3, h4, h5⟩ := h
  refine ⟨h1, h2, h3, fun r hr => ?_, h5⟩
  obtain ⟨n, e1, e2⟩ := h4 r hr
  refine ⟨n, e1, va_T.moved al.symm (va_T.kept e2 fun q _ hq => (hh q ?_ hq).symm)⟩
  have : ¬ G.2.2.2.1 ≤ q := hq
  omega
end
section
/-! EV: the machine, at a place of a method's body, over a memory. MT: a method's contract over a memory. -/
def mO (y : Nat) : MTH := mL.getD y m0
abbrev yN (y : Nat) : MethodName := (mO y).1
abbrev yC (y : Nat) : ByteArray := (mO y).2.1
abbrev yL (y : Nat) : Nat := (mO y).2.2.1
abbrev yR (y : Nat) : Option FieldType := (mO y).2.2.2.1
abbrev yMc (y : Nat) : Nat := (mO y).2.2.2.2.1
abbrev yMs (y : Nat) : Nat := (mO y).2.2.2.2.2.1
abbrev yNp (y : Nat) : Nat := (mO y).2.2.2.2.2.2.1
abbrev yK (y : Nat) : Nat := (mO y).2.2.2.2.2.2.2.1
abbrev yO (y : Nat) : Nat := (mO y).2.2.2.2.2.2.2.2
/-- a place of the locals that holds nothing that may be read -/
def isDm : Value → Bool
  | .float _ => true
  | _ => false
abbrev dm : Value := .float 0
def LH (G : GG) (ls : Array Slot) (nL : Nat) (L : List Value) : Prop := ls.size = nL ∧ lv_wf ls ∧ L.length ≤ nL ∧ ∀ (i : Nat) (v : Value), L[i]? = some v → isDm v = false → ls[i]? = some (.val (cv G v))
def lvl (G : GG) (L : List Value) : List (Nat × Value) := (L.zipIdx.filter (fun q => !isDm q.1)).map (fun q => (q.2, cv G q.1))
theorem lvl_mem {G : GG} {L : List Value} {q : Nat × Value} : q ∈ lvl G L ↔ ∃ v, L[q.1]? = some v ∧ isDm v = false ∧ q.2 = cv G v := by
  simp only [lvl, List.mem_map, List.mem_filter]
  constructor
  · rintro ⟨⟨v, i⟩, ⟨h1, h2⟩, rfl⟩
    have h3 := List.mem_zipIdx_iff_getElem?.mp h1
    exact ⟨v, h3, by simpa using h2, rfl⟩
  · rintro ⟨v, h1, h2, h3⟩
    refine ⟨(v, q.1), ⟨List.mem_zipIdx_iff_getElem?.mpr h1, by simpa using h2⟩, ?_⟩
    rw [← h3]
theorem LH.has {G : GG} {ls : Array Slot} {nL : Nat} {L : List Value} (h : LH G ls nL L) : lv_has ls nL (lvl G L) := by
  refine ⟨h.1, h.2.1, fun q hq => ?_⟩
  obtain ⟨v, h1, h2, h3⟩ := lvl_mem.mp hq
  rw [h3]
  exact h.2.2.2 q.1 v h1 h2
theorem cv_cat (G : GG) (v : Value) : (cv G v).category = v.category := by cases v <;> rfl
theorem LH.of {G : GG} {ls : Array Slot} {nL : Nat} {L : List Value} (h : lv_has ls nL (lvl G L)) (hl : L.length ≤ nL) : LH G ls nL L :=
  ⟨h.1, h.2.1, hl, fun i v h1 h2 => h.2.2 (i, cv G v) (lvl_mem.mpr ⟨v, h1, h2, rfl⟩)⟩
/-- a store of one word: no long begins just below -/
theorem LH.set1 {G : GG} {ls : Array Slot} {nL i : Nat} {L : List Value} {x : Value} (hi : i < L.length) (hlow : ∀ v, 0 < i → L[i - 1]? = some v → v.category ≠ 2)
    (h : LH G ls nL L) {ls' : Array Slot} (h' : lv_has ls' nL ((i, cv G x) :: (lvl G L).filter (fun q => !(q.1 == i) && !(q.1 + 1 == i && q.2.category == 2)))) : LH G ls' nL (L.set i x) := by
  refine ⟨h'.1, h'.2.1, by rw [List.length_set]; exact h.2.2.1, fun j v h1 h2 => ?_⟩
  by_cases hj : j = i
  · subst hj
    rw [List.getElem?_set_self hi] at h1
    cases h1
    exact h'.2.2 _ List.mem_cons_self
  · rw [List.getElem?_set_ne (Ne.symm hj)] at h1
    refine h'.2.2 (j, cv G v) (List.mem_cons_of_mem _ (List.mem_filter.mpr ⟨lvl_mem.mpr ⟨v, h1, h2, rfl⟩, ?_⟩))
    have hc : ¬ (j + 1 = i ∧ v.category = 2) := fun q => hlow v (by omega) (by rw [show i - 1 = j by omega]; exact h1) q.2
    simp only [cv_cat, Bool.and_eq_true, Bool.not_eq_true', beq_eq_false_iff_ne, Bool.and_eq_false_iff]
    refine ⟨hj, ?_⟩
    by_cases h7 : j + 1 = i
    · exact Or.inr (fun h8 => hc ⟨h7, h8⟩)
    · exact Or.inl h7
/-- a store of two words -/
theorem LH.set2 {G : GG} {ls : Array Slot} {nL i : Nat} {L : List Value} {x : Value} (hi : i + 1 < L.length) (hlow : ∀ v, 0 < i → L[i - 1]? = some v → v.category ≠ 2)
    (h : LH G ls nL L) {ls' : Array Slot} (h' : lv_has ls' nL ((i, cv G x) :: (lvl G L).filter (fun q => !(q.1 == i) && (!(q.1 == i + 1) && !(q.1 + 1 == i && q.2.category == 2))))) : LH G ls' nL ((L.set i x).set (i + 1) dm) := by
  refine ⟨h'.1, h'.2.1, by rw [List.length_set, List.length_set]; exact h.2.2.1, fun j v h1 h2 => ?_⟩
  by_cases hj1 : j = i + 1
  · subst hj1
    rw [List.getElem?_set_self (by rw [List.length_set]; exact hi)] at h1
    cases h1
    exact absurd h2 (by decide)
  rw [List.getElem?_set_ne (Ne.symm hj1)] at h1
  by_cases hj : j = i
  · subst hj
    rw [List.getElem?_set_self (by omega)] at h1
    cases h1
    exact h'.2.2 _ List.mem_cons_self
  · rw [List.getElem?_set_ne (Ne.symm hj)] at h1
    refine h'.2.2 (j, cv G v) (List.mem_cons_of_mem _ (List.mem_filter.mpr ⟨lvl_mem.mpr ⟨v, h1, h2, rfl⟩, ?_⟩))
    have hc : ¬ (j + 1 = i ∧ v.category = 2) := fun q => hlow v (by omega) (by rw [show i - 1 = j by omega]; exact h1) q.2
    simp only [cv_cat, Bool.and_eq_true, Bool.not_eq_true', beq_eq_false_iff_ne, Bool.and_eq_false_iff]
    refine ⟨hj, hj1, ?_⟩
    by_cases h7 : j + 1 = i
    · exact Or.inr (fun h8 => hc ⟨h7, h8⟩)
    · exact Or.inl h7
/-- the answer as the method's head has it -/
def rOK (y : Nat) (v : Option Value) : Prop := match yR y, v with
  | none, none => True
  | some .int, some (.int _) => True
  | some .boolean, some (.int x) => x = 0 ∨ x = 1
  | some .long, some (.long _) => True
  | _, _ => False
def rI : Option Value → Instr
  | some (.long _) => .lreturn
  | some _ => .ireturn
  | none => .return_
def FX (G : GG) (y d : Nat) (p : Program) (R : Room) (s : State) (m : MethodId) (args : Array Value) (meth : Method) (c : Code) : Prop :=
  p.tables.exec = Jvm.exec ∧ c.code = yC y ∧ meth.sig.returnType = yR y ∧ c.maxLocals = yL y ∧ s.vm.findClass (yN y).cls = some m.cls ∧ (∀ w ∈ lwG, w.before args s = true) ∧ meth.locks = false ∧ meth.name = (yN y).name ∧
  d + 1 ≤ R.frames ∧ 64 * d + 64 ≤ R.locals ∧ yMc y ≤ R.cells ∧ yMs y ≤ R.slots
def RT (G : GG) (y : Nat) (p : Program) (e : Env) (R : Room) (s : State) (m : MethodId) (args : Array Value) (below : List Frame) (meth : Method) (c : Code) (Z : State → Prop) (Q : Option Value → MH → Prop) : Prop :=
  ∀ (v : Option Value) (σ : MH) (H : Heap) (locs : List Loc) (k n pc : Nat) (ls : Array Slot), Q v σ → rOK y v → WO G σ s H → va_S (AA G) s.heap H locs → k ≤ yMc y → n ≤ yMs y → decode (yC y) pc = .ok (rI v, 1) →
    W p G.1 e R s m args below meth c H locs k n Z (F0 m pc ls (v.toList.map (cv G)))
def EV (G : GG) (y d k n pc : Nat) (L st : List Value) (σ : MH) (Q : Option Value → MH → Prop) : Prop :=
  ∀ (p : Program) (e : Env) (R : Room) (s : State) (m : MethodId) (args : Array Value) (below : List Frame) (meth : Method) (c : Code) (H : Heap) (locs : List Loc) (Z : State → Prop) (ls : Array Slot),
    FX G y d p R s m args meth c → SO G s → WO G σ s H → va_S (AA G) s.heap H locs → LH G ls (yL y) L → k ≤ yMc y → n ≤ yMs y → RT G y p e R s m args below meth c Z Q →
    W p G.1 e R s m args below meth c H locs k n Z (F0 m pc ls (st.map (cv G)))
def rmO (d y : Nat) : Room := { frames := d, cells := yMc y, slots := yMs y, locals := 64 * d }
def wsY (y : Nat) : List Cond := .code (yN y) (yC y) (yL y) (yR y) :: lwG
def PcO (G : GG) (A : List Value) (σ : MH) : Array Value → State → Prop := va_Pc (A.map (cv G)) (fun U => WS G σ U)
def QcO (G : GG) (Q : Option Value → MH → Prop) : Array Value → State → Outcome → State → Prop := fun _ st o t => ∃ (v : Option Value) (σ : MH), o = .returned (v.map (cv G)) ∧ Q v σ ∧ WS G σ t ∧ va_F (AA G) st t
/-- method y, called with A over the memory σ, at depth d: it returns with Q -/
def MT (G : GG) (d y : Nat) (A : List Value) (σ : MH) (Q : Option Value → MH → Prop) : Prop :=
  Met G.1 (yN y) (wsY y) (rmO d y) (PcO G A σ) (QcO G Q) (yMc y) (yMs y) (AA G)
theorem PcO.blind (G : GG) (A : List Value) (σ : MH) : FrameBlind (PcO G A σ) := by
  intro a U g mk h
  obtain ⟨h1, h2, h3⟩ := h
  refine ⟨h1, ?_, SO.same (s := U) (U := U.calling g mk a) rfl rfl h3⟩
  exact WO.at (s := U) (U := U.calling g mk a) (Vm.Alike.refl U.vm) h3.2.2.2.2.1 (fun q _ _ => rfl) h2
theorem EV.mono {G : GG} {y d k n pc : Nat} {L st : List Value} {σ : MH} {Q Q' : Option Value → MH → Prop} (h : EV G y d k n pc L st σ Q) (hq : ∀ v σ', Q v σ' → Q' v σ') : EV G y d k n pc L st σ Q' := by
  intro p e R s m args below meth c H locs Z ls h1 h2 h3 h4 h5 h6 h7 h8
  exact h p e R s m args below meth c H locs Z ls h1 h2 h3 h4 h5 h6 h7 (fun v σ' H' locs' k' n' pc' ls' q => h8 v σ' H' locs' k' n' pc' ls' (hq v σ' q))
theorem MT.mono {G : GG} {d y : Nat} {A : List Value} {σ : MH} {Q Q' : Option Value → MH → Prop} (h : MT G d y A σ Q) (hq : ∀ v σ', Q v σ' → Q' v σ') : MT G d y A σ Q' := by
  intro p e h1 h2 h3 s m args below h4 h5 h6 h7
  obtain ⟨k, o, a1, a2, a3, ⟨⟨v, σ', b1, b2, b3⟩, a4⟩⟩ := h p e h1 h2 h3 s m args below h4 h5 h6 h7
  exact ⟨k, o, a1, a2, a3, ⟨⟨v, σ', b1, hq v σ' b2, b3⟩, a4⟩⟩
end
section
/-! a method's contract out of EV at its entry -/
def lv0 (A : List Value) : List Value := A.flatMap (fun v => if v.category = 2 then [v, dm] else [v])
def lvI (n : Nat) (A : List Value) : List Value := lv0 A ++ List.replicate (n - (lv0 A).length) dm
theorem lv0_len (G : GG) (A : List Value) : (lg_sl (A.map (cv G))).length = (lv0 A).length := by
  induction A with
  | nil => rfl
  | cons a A ih =>
    simp only [lg_sl, lv0, List.map_cons, List.flatMap_cons, List.length_append, cv_cat] at ih ⊢
    rw [ih]
    by_cases h : a.category = 2 <;> simp [h]
theorem lv0_at (G : GG) : ∀ (A : List Value) (i : Nat) (v : Value), (lv0 A)[i]? = some v → isDm v = false → (lg_sl (A.map (cv G)))[i]? = some (.val (cv G v)) := by
  intro A
  induction A with
  | nil => intro i v h; simp [lv0] at h
  | cons a A ih =>
    intro i v h hd
    have e1 : lv0 (a :: A) = (if a.category = 2 then [a, dm] else [a]) ++ lv0 A := rfl
    have e2 : lg_sl ((a :: A).map (cv G)) = (if (cv G a).category = 2 then [.val (cv G a), .second] else [.val (cv G a)]) ++ lg_sl (A.map (cv G)) := rfl
    rw [e1] at h
    rw [e2, cv_cat]
    by_cases hc : a.category = 2
    · rw [if_pos hc] at h ⊢
      match i, h with
      | 0, h => simp at h; subst h; rfl
      | 1, h => simp at h; subst h; exact absurd hd (by decide)
      | i + 2, h => simp at h ⊢; exact ih i v h hd
    · rw [if_neg hc] at h ⊢
      match i, h with
      | 0, h => simp at h; subst h; rfl
      | i + 1, h => simp at h ⊢; exact ih i v h hd
theorem LH.entry {G : GG} {n : Nat} {A L : List Value} (hL : lvI n A = L) (hn : (lv0 A).length ≤ n) : LH G ((lg_sl (A.map (cv G)) ++ List.replicate (n - (lg_sl (A.map (cv G))).length) Slot.unset).toArray) n L := by
  have h0 := lv_entry (A.map (cv G)) (n := n) (by rw [lv0_len]; exact hn)
  refine ⟨h0.1, h0.2.1, ?_, fun i v h1 h2 => ?_⟩
  · rw [← hL, lvI, List.length_append, List.length_replicate]; omega
  · rw [← hL, lvI] at h1
    by_cases hi : i < (lv0 A).length
    · rw [List.getElem?_append_left hi] at h1
      have h3 := lv0_at G A i v h1 h2
      rw [List.getElem?_toArray, List.getElem?_append_left (by rw [lv0_len]; exact hi)]
      exact h3
    · rw [List.getElem?_append_right (by omega), List.getElem?_replicate] at h1
      split at h1
      · cases h1; exact absurd h2 (by decide)
      · cases h1
theorem WS.of {G : GG} {σ : MH} {s U : State} {H : Heap} {locs : List Loc} (hW : s.WarmedH U.vm) (hU : U.heap = H) (hO : SO G s) (hw : WO G σ s H) (hS : va_S (AA G) s.heap H locs) : WS G σ U := by
  have hh : ∀ q, q < s.heap.size → ¬ AA G q → U.heap[q]? = s.heap[q]? := fun q h1 h2 => by rw [hU]; exact hS.2.1 q h1 h2
  refine ⟨?_, SO.moved hW hh (by rw [hU]; exact hS.1) hO⟩
  rw [hU]
  exact WO.at hW.alike hO.2.2.2.2.1 hh hw
theorem RT.of {G : GG} {y : Nat} {p : Program} {e : Env} {R : Room} {s : State} {m : MethodId} {args : Array Value} {below : List Frame} {meth : Method} {c : Code} {Q : Option Value → MH → Prop}
    (hx : p.tables.exec = Jvm.exec) (hb : c.code = yC y) (hr : meth.sig.returnType = yR y) (hlocks : meth.locks = false) (hO : SO G s) : RT G y p e R s m args below meth c (MQ below (QcO G Q) args s (yMc y) (yMs y) (AA G)) Q := by
  intro v σ H locs k n pc ls hq hrk hw hS hk hn hd
  refine W.widen hk hn ?_
  have hT : ∀ t : State, t.heap = H → s.WarmedH t.vm → QcO G Q args s (.returned (v.map (cv G))) t := fun t ht hW => ⟨v, σ, rfl, hq, WS.of hW ht hO hw hS, hS.F ht⟩
  unfold rOK at hrk
  split at hrk
  · rename_i h1
    exact W.vret hx hb (by rw [hr]; exact h1) hT hS.2.2 hd hlocks
  · rename_i x h1
    exact W.iret hx hb (by rw [hr]; exact h1) hT hS.2.2 hd hlocks
  · rename_i x h1
    exact W.zret (ty := .boolean) hx hb (by rw [hr]; exact h1) (by rcases hrk with h | h <;> subst h <;> decide) hT hS.2.2 hd hlocks
  · rename_i x h1
    exact W.lret hx hb (by rw [hr]; exact h1) hT hS.2.2 hd hlocks
  · exact hrk.elim
theorem MT.of {G : GG} {y d : Nat} {A L : List Value} {σ : MH} {Q : Option Value → MH → Prop} (hL : lvI (yL y) A = L) (hn : (lv0 A).length ≤ yL y) (hy : plainName (yN y).cls = true) (h : EV G y d 0 0 0 L [] σ Q) : MT G (d + 1) y A σ Q := by
  refine Met.ofW (cc := yC y) (maxL := yL y) (ret := yR y) hy rfl ?_
  intro p e s m args below meth c s₁ B hml hv
  obtain ⟨rfl, hw, hO⟩ := hv
  have hts := atoms_spec (ws := wsY y) B.pre
  have hf : FX G y d p (rmO (d + 1) y) s m ((A.map (cv G)).toArray) meth c := ⟨B.exec, B.bytes, B.returns, hml, findClass_of_methodNamed B.named, fun w hw => hts w (List.mem_cons_of_mem _ hw), B.notSynchronized, (name_of_methodNamed B.named B.method).1, Nat.le_refl _, by show 64 * d + 64 ≤ 64 * (d + 1); omega, Nat.le_refl _, Nat.le_refl _⟩
  rw [lg_entry_eq]
  exact h p e (rmO (d + 1) y) s m _ below meth c s.heap [] _ _ hf hO hw va_S.rf (LH.entry hL hn) (Nat.zero_le _) (Nat.zero_le _) (RT.of B.exec B.bytes B.returns B.notSynchronized hO)
end
section
/-! the tables' words, by their places -/
def cn (o : Nat) : String := cnL.getD o ""
theorem lwG_of {p : Nat} {w : Cond} (h : lw_tbl[p]? = some w) (hg : goodWord w = true) : w ∈ lwG := List.mem_filter.mpr ⟨List.mem_of_getElem? h, hg⟩
theorem lwN_of {p : Nat} {w : Cond} (h : lw_tbl[p]? = some w) (hg : isNest w = true) : w ∈ lwN := List.mem_filter.mpr ⟨List.mem_of_getElem? h, hg⟩
theorem lwG_self : GoodIn lwG lwG := fun w h => ⟨h, good_of_word (List.mem_filter.mp h).2⟩
def FLok (o i ci k : Nat) : Prop := ∃ (C : String) (T : u_T) (N : Nat), vwCl[ci]? = some (C, T, N) ∧ k < N ∧ (T k).1 = C ∧
  (Cond.fieldLink (cn o) i C (T k).2.1 (T k).2.2.1 ∈ lwG ∨ Cond.fieldLinkNest (cn o) i C (T k).2.1 (T k).2.2.1 "ShapeDuel" ∈ lwN)
def chkF (o : Nat) (q : Nat × Nat × Nat × Nat) : Bool := match vwCl[q.2.1]?, lw_tbl[q.2.2.2]? with
  | some (C, T, N), some w => decide (q.2.2.1 < N) && (decide ((T q.2.2.1).1 = C) && ((decide (w = .fieldLink (cn o) q.1 C (T q.2.2.1).2.1 (T q.2.2.1).2.2.1) && goodWord w) || decide (w = .fieldLinkNest (cn o) q.1 C (T q.2.2.1).2.1 (T q.2.2.1).2.2.1 "ShapeDuel")))
  | _, _ => false
theorem chkF_ok {o : Nat} {q : Nat × Nat × Nat × Nat} (h : chkF o q = true) : FLok o q.1 q.2.1 q.2.2.1 := by
  unfold chkF at h
  split at h
  · rename_i C T N w h1 h2
    simp only [Bool.and_eq_true, Bool.or_eq_true, decide_eq_true_eq] at h
    obtain ⟨a, b, c⟩ := h
    refine ⟨C, T, N, h1, a, b, ?_⟩
    rcases c with ⟨c, g⟩ | c
    · subst c; exact Or.inl (lwG_of h2 g)
    · subst c; exact Or.inr (lwN_of h2 rfl)
  · cases h
set_option maxRecDepth 100000 in
theorem FL_all : ∀ o, o < 16 → (FL o).all (chkF o) = true := by decide +kernel
theorem FL_ok {o i ci k : Nat} (ho : o < 16) (h : (FL o).any (fun q => q.1 == i && (q.2.1 == ci && q.2.2.1 == k)) = true) : FLok o i ci k := by
  obtain ⟨q, hq, h⟩ := List.any_eq_true.mp h
  simp only [Bool.and_eq_true, beq_iff_eq] at h
  obtain ⟨a, b, c⟩ := h
  subst a; subst b; subst c
  exact chkF_ok (List.all_eq_true.mp (FL_all o ho) q hq)
def spN (y : Nat) : Option MethodName := if y = 1000 then some objectInit else if y = 1001 then some arraycopyName else if y = 1002 then some Lib.Math.max.name else if y = 1003 then some Lib.MathLoose.max_long.x else if y = 1004 then some Lib.Math.min.name else none
def MLok (o i y : Nat) : Prop := match spN y with
  | some x => Cond.methodLink (cn o) i x ∈ lwG
  | none => (Cond.methodLink (cn o) i (yN y) ∈ lwG ∨ Cond.methodLinkNest (cn o) i (yN y) "ShapeDuel" ∈ lwN)
def chkM (o : Nat) (q : Nat × Nat × Nat) : Bool := match lw_tbl[q.2.2]? with
  | some w => match spN q.2.1 with
    | some x => decide (w = .methodLink (cn o) q.1 x) && goodWord w
    | none => ((decide (w = .methodLink (cn o) q.1 (yN q.2.1)) && goodWord w) || decide (w = .methodLinkNest (cn o) q.1 (yN q.2.1) "ShapeDuel"))
  | none => false
theorem chkM_ok {o : Nat} {q : Nat × Nat × Nat} (h : chkM o q = true) : MLok o q.1 q.2.1 := by
  unfold chkM at h
  unfold MLok
  cases h2 : lw_tbl[q.2.2]? with
  | none => rw [h2] at h; cases h
  | some w =>
    rw [h2] at h
    dsimp only at h
    cases h3 : spN q.2.1 with
    | some x =>
      rw [h3] at h
      dsimp only at h ⊢
      simp only [Bool.and_eq_true, decide_eq_true_eq] at h
      obtain ⟨c, g⟩ := h
      subst c
      exact lwG_of h2 g
    | none =>
      rw [h3] at h
      dsimp only at h ⊢
      simp only [Bool.and_eq_true, Bool.or_eq_true, decide_eq_true_eq] at h
      rcases h with ⟨c, g⟩ | c
      · subst c; exact Or.inl (lwG_of h2 g)
      · subst c; exact Or.inr (lwN_of h2 rfl)
set_option maxRecDepth 100000 in
theorem ML_all : ∀ o, o < 16 → (ML o).all (chkM o) = true := by decide +kernel
theorem ML_ok {o i y : Nat} (ho : o < 16) (h : (ML o).any (fun q => q.1 == i && q.2.1 == y) = true) : MLok o i y := by
  obtain ⟨q, hq, h⟩ := List.any_eq_true.mp h
  simp only [Bool.and_eq_true, beq_iff_eq] at h
  obtain ⟨a, b⟩ := h
  subst a; subst b
  exact chkM_ok (List.all_eq_true.mp (ML_all o ho) q hq)
def CLok (o i : Nat) (v : Value) : Prop := match v with
  | .int x => Cond.constant (cn o) i x ∈ lwG
  | .long x => Cond.constantLong (cn o) i x ∈ lwG
  | _ => False
def chkC (o : Nat) (q : Nat × Value × Nat) : Bool := match lw_tbl[q.2.2]?, q.2.1 with
  | some w, .int x => decide (w = .constant (cn o) q.1 x) && goodWord w
  | some w, .long x => decide (w = .constantLong (cn o) q.1 x) && goodWord w
  | _, _ => false
theorem chkC_ok {o : Nat} {q : Nat × Value × Nat} (h : chkC o q = true) : CLok o q.1 q.2.1 := by
  obtain ⟨i, v, p⟩ := q
  unfold chkC at h
  unfold CLok
  dsimp only at h ⊢
  cases v <;> cases h2 : lw_tbl[p]? <;> simp only [h2] at h <;> first | (simp at h; done) | (simp only [Bool.and_eq_true, decide_eq_true_eq] at h; obtain ⟨c, g⟩ := h; subst c; exact lwG_of h2 g)
set_option maxRecDepth 100000 in
theorem CL_all : ∀ o, o < 16 → (CL o).all (chkC o) = true := by decide +kernel
theorem CL_ok {o i : Nat} {v : Value} (ho : o < 16) (h : (CL o).any (fun q => q.1 == i && decide (q.2.1 = v)) = true) : CLok o i v := by
  obtain ⟨q, hq, h⟩ := List.any_eq_true.mp h
  simp only [Bool.and_eq_true, beq_iff_eq, decide_eq_true_eq] at h
  obtain ⟨a, b⟩ := h
  subst a; subst b
  exact chkC_ok (List.all_eq_true.mp (CL_all o ho) q hq)
def stN (a : Nat) : String := if a = 1 then "LETTERS" else "ABOVE"
def chkS (o : Nat) (q : Nat × Nat × Nat) : Bool := decide (lw_tbl[q.2.2]? = some (.fieldLinkNest (cn o) q.1 "ShapeDuel" (stN q.2.1) "[I" "ShapeDuel")) && (q.2.1 == 1 || q.2.1 == 2)
set_option maxRecDepth 100000 in
theorem SL_all : ∀ o, o < 16 → (SL o).all (chkS o) = true := by decide +kernel
theorem SL_ok {o i a : Nat} (ho : o < 16) (h : (SL o).any (fun q => q.1 == i && q.2.1 == a) = true) : Cond.fieldLinkNest (cn o) i "ShapeDuel" (stN a) "[I" "ShapeDuel" ∈ lwN ∧ (a = 1 ∨ a = 2) := by
  obtain ⟨q, hq, h⟩ := List.any_eq_true.mp h
  simp only [Bool.and_eq_true, beq_iff_eq] at h
  obtain ⟨a, b⟩ := h
  subst a; subst b
  have h2 := List.all_eq_true.mp (SL_all o ho) q hq
  simp only [chkS, Bool.and_eq_true, Bool.or_eq_true, beq_iff_eq, decide_eq_true_eq] at h2
  exact ⟨lwN_of h2.1 rfl, h2.2⟩
def chkN (o : Nat) (q : Nat × Nat × Nat) : Bool := match vwCl[q.2.1]?, lw_tbl[q.2.2]? with
  | some (C, _, N), some w => decide (w = .classLink (cn o) q.1 C) && (goodWord w && (decide (Cond.instantiable C N ∈ lw_tbl) && (goodWord (.instantiable C N) && (decide (Cond.initialized C ∈ lw_tbl) && goodWord (.initialized C)))))
  | _, _ => false
def NLok (o i ci : Nat) : Prop := ∃ (C : String) (T : u_T) (N : Nat), vwCl[ci]? = some (C, T, N) ∧ Cond.classLink (cn o) i C ∈ lwG ∧ Cond.instantiable C N ∈ lwG ∧ Cond.initialized C ∈ lwG
set_option maxRecDepth 100000 in
theorem NL_all : ∀ o, o < 16 → (NL o).all (chkN o) = true := by decide +kernel
theorem NL_ok {o i c : Nat} (ho : o < 16) (h : (NL o).any (fun q => q.1 == i && q.2.1 == c) = true) : NLok o i c := by
  obtain ⟨q, hq, h⟩ := List.any_eq_true.mp h
  simp only [Bool.and_eq_true, beq_iff_eq] at h
  obtain ⟨a, b⟩ := h
  subst a; subst b
  have h2 := List.all_eq_true.mp (NL_all o ho) q hq
  unfold chkN at h2
  split at h2
  · rename_i C T N w e1 e2
    simp only [Bool.and_eq_true, decide_eq_true_eq] at h2
    obtain ⟨a, b, c, d, e, f⟩ := h2
    subst a
    exact ⟨C, T, N, e1, lwG_of e2 b, List.mem_filter.mpr ⟨c, d⟩, List.mem_filter.mpr ⟨e, f⟩⟩
  · cases h2
def tagC (t : Nat) : String := if t = 15 then RX0 else if t = 16 then RX7 else RX8
def chkA (o : Nat) (q : Nat × Nat × Nat) : Bool := decide (lw_tbl[q.2.2]? = some (.classLink (cn o) q.1 (tagC q.2.1))) && (goodWord (.classLink (cn o) q.1 (tagC q.2.1)) && (q.2.1 == 15 || (q.2.1 == 16 || q.2.1 == 17)))
set_option maxRecDepth 100000 in
theorem AL_all : ∀ o, o < 16 → (AL o).all (chkA o) = true := by decide +kernel
theorem AL_ok {o i a : Nat} (ho : o < 16) (h : (AL o).any (fun q => q.1 == i && q.2.1 == a) = true) : Cond.classLink (cn o) i (tagC a) ∈ lwG ∧ (a = 15 ∨ a = 16 ∨ a = 17) := by
  obtain ⟨q, hq, h⟩ := List.any_eq_true.mp h
  simp only [Bool.and_eq_true, beq_iff_eq] at h
  obtain ⟨a, b⟩ := h
  subst a; subst b
  have h2 := List.all_eq_true.mp (AL_all o ho) q hq
  simp only [chkA, Bool.and_eq_true, Bool.or_eq_true, beq_iff_eq, decide_eq_true_eq] at h2
  exact ⟨lwG_of h2.1 h2.2.1, h2.2.2⟩
end
section
/-! what the tables say of each method and each class -/
def Yok (y : Nat) : Prop :=
  Cond.code (yN y) (yC y) (yL y) (yR y) ∈ lwG ∧ plainName (yN y).cls = true ∧ ((yN y).cls ≠ "java/lang/invoke/MethodHandle" ∧ (yN y).cls ≠ "java/lang/invoke/VarHandle") ∧
  Cond.initialized (yN y).cls ∈ lwG ∧ (parseMethodDescriptor (yN y).desc).map (fun d => d.parameters.length) = some (yNp y) ∧ yL y ≤ 45 ∧ cn (yO y) = (yN y).cls ∧ yO y < 16 ∧
  (yK y = 0 → Cond.static (yN y) ∈ lwG) ∧
  (yK y = 1 → Cond.instanceMethod (yN y) ∈ lwG ∧ Cond.selects (yN y).cls (yN y) (yN y) ∈ lwG ∧ (vwCl[yO y]?).map (fun q => q.1) = some (yN y).cls) ∧
  (yK y = 2 → Cond.instanceMethod (yN y) ∈ lwG ∧ (yN y).name = "<init>" ∧ yR y = none)
def chkY (y : Nat) : Bool := match YP[y]? with
  | some (pc, pk, ps, pi) =>
    plainName (yN y).cls && (decide ((yN y).cls ≠ "java/lang/invoke/MethodHandle") && (decide ((yN y).cls ≠ "java/lang/invoke/VarHandle") && (decide (lw_tbl[pi]? = some (.initialized (yN y).cls)) && (goodWord (.initialized (yN y).cls) &&
    (decide ((parseMethodDescriptor (yN y).desc).map (fun d => d.parameters.length) = some (yNp y)) && (decide (yL y ≤ 45) && (decide (cn (yO y) = (yN y).cls) && (decide (yO y < 16) &&
    (if yK y = 0 then decide (lw_tbl[pk]? = some (.static (yN y))) && goodWord (.static (yN y)) else if yK y = 1 then
      decide (lw_tbl[pk]? = some (.instanceMethod (yN y))) && (goodWord (.instanceMethod (yN y)) && (decide (lw_tbl[ps]? = some (.selects (yN y).cls (yN y) (yN y))) && (goodWord (.selects (yN y).cls (yN y) (yN y)) && decide ((vwCl[yO y]?).map (fun q => q.1) = some (yN y).cls))))
     else if yK y = 2 then decide (lw_tbl[pk]? = some (.instanceMethod (yN y))) && (goodWord (.instanceMethod (yN y)) && (decide ((yN y).name = "<init>") && decide (yR y = none))) else false)))))))))
  | none => false
theorem chkY_ok {y : Nat} (h : chkY y = true) (hc : Cond.code (yN y) (yC y) (yL y) (yR y) ∈ lwG) : Yok y := by
  unfold chkY at h
  split at h
  · rename_i pc pk ps pi _
    simp only [Bool.and_eq_true, decide_eq_true_eq] at h
    obtain ⟨a1, a2, a3, a4, a5, a6, a7, a8, a9, a10⟩ := h
    refine ⟨hc, a1, ⟨a2, a3⟩, lwG_of a4 a5, a6, a7, a8, a9, fun hk => ?_, fun hk => ?_, fun hk => ?_⟩
    · rw [if_pos hk] at a10
      simp only [Bool.and_eq_true, decide_eq_true_eq] at a10
      exact lwG_of a10.1 a10.2
    · rw [if_neg (by omega), if_pos hk] at a10
      simp only [Bool.and_eq_true, decide_eq_true_eq] at a10
      exact ⟨lwG_of a10.1 a10.2.1, lwG_of a10.2.2.1 a10.2.2.2.1, a10.2.2.2.2⟩
    · rw [if_neg (by omega), if_neg (by omega), if_pos hk] at a10
      simp only [Bool.and_eq_true, decide_eq_true_eq] at a10
      exact ⟨lwG_of a10.1 a10.2.1, a10.2.2.1, a10.2.2.2⟩
  · cases h
set_option maxRecDepth 100000 in
theorem ya0 : chkY 0 = true := by decide +kernel
set_option maxRecDepth 100000 in
theorem ya1 : chkY 1 = true := by decide +kernel
set_option maxRecDepth 100000 in
theorem ya2 : chkY 2 = true := by decide +kernel
set_option maxRecDepth 100000 in
theorem ya3 : chkY 3 = true := by decide +kernel
set_option maxRecDepth 100000 in
theorem ya4 : chkY 4 = true := by decide +kernel
set_option maxRecDepth 100000 in
theorem ya5 : chkY 5 = true := by decide +kernel
set_option maxRecDepth 100000 in
theorem ya6 : chkY 6 = true := by decide +kernel
set_option maxRecDepth 100000 in
theorem ya7 : chkY 7 = true := by decide +kernel
set_option maxRecDepth 100000 in
theorem ya8 : chkY 8 = true := by decide +kernel
set_option maxRecDepth 100000 in
theorem ya9 : chkY 9 = true := by decide +kernel
set_option maxRecDepth 100000 in
theorem ya10 : chkY 10 = true := by decide +kernel
set_option maxRecDepth 100000 in
theorem ya11 : chkY 11 = true := by decide +kernel
set_option maxRecDepth 100000 in
theorem ya12 : chkY 12 = true := by decide +kernel
set_option maxRecDepth 100000 in
theorem ya13 : chkY 13 = true := by decide +kernel
set_option maxRecDepth 100000 in
theorem ya14 : chkY 14 = true := by decide +kernel
set_option maxRecDepth 100000 in
theorem ya15 : chkY 15 = true := by decide +kernel
set_option maxRecDepth 100000 in
theorem ya16 : chkY 16 = true := by decide +kernel
set_option maxRecDepth 100000 in
theorem ya17 : chkY 17 = true := by decide +kernel
set_option maxRecDepth 100000 in
theorem ya18 : chkY 18 = true := by decide +kernel
set_option maxRecDepth 100000 in
theorem ya19 : chkY 19 = true := by decide +kernel
set_option maxRecDepth 100000 in
theorem ya20 : chkY 20 = true := by decide +kernel
set_option maxRecDepth 100000 in
theorem ya21 : chkY 21 = true := by decide +kernel
set_option maxRecDepth 100000 in
theorem ya22 : chkY 22 = true := by decide +kernel
set_option maxRecDepth 100000 in
theorem ya23 : chkY 23 = true := by decide +kernel
set_option maxRecDepth 100000 in
theorem ya24 : chkY 24 = true := by decide +kernel
set_option maxRecDepth 100000 in
theorem ya25 : chkY 25 = true := by decide +kernel
set_option maxRecDepth 100000 in
theorem ya26 : chkY 26 = true := by decide +kernel
set_option maxRecDepth 100000 in
theorem ya27 : chkY 27 = true := by decide +kernel
set_option maxRecDepth 100000 in
theorem ya28 : chkY 28 = true := by decide +kernel
set_option maxRecDepth 100000 in
theorem ya29 : chkY 29 = true := by decide +kernel
set_option maxRecDepth 100000 in
theorem ya30 : chkY 30 = true := by decide +kernel
set_option maxRecDepth 100000 in
theorem ya31 : chkY 31 = true := by decide +kernel
set_option maxRecDepth 100000 in
theorem ya32 : chkY 32 = true := by decide +kernel
set_option maxRecDepth 100000 in
theorem ya33 : chkY 33 = true := by decide +kernel
set_option maxRecDepth 100000 in
theorem ya34 : chkY 34 = true := by decide +kernel
set_option maxRecDepth 100000 in
theorem ya35 : chkY 35 = true := by decide +kernel
set_option maxRecDepth 100000 in
theorem ya36 : chkY 36 = true := by decide +kernel
set_option maxRecDepth 100000 in
theorem ya37 : chkY 37 = true := by decide +kernel
set_option maxRecDepth 100000 in
theorem ya38 : chkY 38 = true := by decide +kernel
set_option maxRecDepth 100000 in
theorem ya39 : chkY 39 = true := by decide +kernel
set_option maxRecDepth 100000 in
theorem ya40 : chkY 40 = true := by decide +kernel
set_option maxRecDepth 100000 in
theorem ya41 : chkY 41 = true := by decide +kernel
set_option maxRecDepth 100000 in
theorem ya42 : chkY 42 = true := by decide +kernel
set_option maxRecDepth 100000 in
theorem ya43 : chkY 43 = true := by decide +kernel
set_option maxRecDepth 100000 in
theorem ya44 : chkY 44 = true := by decide +kernel
set_option maxRecDepth 100000 in
theorem ya45 : chkY 45 = true := by decide +kernel
set_option maxRecDepth 100000 in
theorem ya46 : chkY 46 = true := by decide +kernel
set_option maxRecDepth 100000 in
theorem ya47 : chkY 47 = true := by decide +kernel
set_option maxRecDepth 100000 in
theorem ya48 : chkY 48 = true := by decide +kernel
set_option maxRecDepth 100000 in
theorem ya49 : chkY 49 = true := by decide +kernel
set_option maxRecDepth 100000 in
theorem ya50 : chkY 50 = true := by decide +kernel
set_option maxRecDepth 100000 in
theorem ya51 : chkY 51 = true := by decide +kernel
set_option maxRecDepth 100000 in
theorem ya52 : chkY 52 = true := by decide +kernel
set_option maxRecDepth 100000 in
theorem ya53 : chkY 53 = true := by decide +kernel
set_option maxRecDepth 100000 in
theorem ya54 : chkY 54 = true := by decide +kernel
set_option maxRecDepth 100000 in
theorem ya55 : chkY 55 = true := by decide +kernel
set_option maxRecDepth 100000 in
theorem ya56 : chkY 56 = true := by decide +kernel
set_option maxRecDepth 100000 in
theorem ya57 : chkY 57 = true := by decide +kernel
set_option maxRecDepth 100000 in
theorem ya58 : chkY 58 = true := by decide +kernel
set_option maxRecDepth 100000 in
theorem ya59 : chkY 59 = true := by decide +kernel
set_option maxRecDepth 100000 in
theorem ya60 : chkY 60 = true := by decide +kernel
set_option maxRecDepth 100000 in
theorem ya61 : chkY 61 = true := by decide +kernel
set_option maxRecDepth 100000 in
theorem ya62 : chkY 62 = true := by decide +kernel
set_option maxRecDepth 100000 in
theorem ya63 : chkY 63 = true := by decide +kernel
set_option maxRecDepth 100000 in
theorem ya64 : chkY 64 = true := by decide +kernel
set_option maxRecDepth 100000 in
theorem ya65 : chkY 65 = true := by decide +kernel
set_option maxRecDepth 100000 in
theorem ya66 : chkY 66 = true := by decide +kernel
set_option maxRecDepth 100000 in
theorem ya67 : chkY 67 = true := by decide +kernel
set_option maxRecDepth 100000 in
theorem ya68 : chkY 68 = true := by decide +kernel
set_option maxRecDepth 100000 in
theorem ya69 : chkY 69 = true := by decide +kernel
set_option maxRecDepth 100000 in
theorem ya70 : chkY 70 = true := by decide +kernel
set_option maxRecDepth 100000 in
theorem ya71 : chkY 71 = true := by decide +kernel
set_option maxRecDepth 100000 in
theorem ya72 : chkY 72 = true := by decide +kernel
set_option maxRecDepth 100000 in
theorem ya73 : chkY 73 = true := by decide +kernel
set_option maxRecDepth 100000 in
theorem ya74 : chkY 74 = true := by decide +kernel
set_option maxRecDepth 100000 in
theorem ya75 : chkY 75 = true := by decide +kernel
set_option maxRecDepth 100000 in
theorem ya76 : chkY 76 = true := by decide +kernel
set_option maxRecDepth 100000 in
theorem ya77 : chkY 77 = true := by decide +kernel
set_option maxRecDepth 100000 in
theorem ya78 : chkY 78 = true := by decide +kernel
set_option maxRecDepth 100000 in
theorem ya79 : chkY 79 = true := by decide +kernel
set_option maxRecDepth 100000 in
theorem ya80 : chkY 80 = true := by decide +kernel
set_option maxRecDepth 100000 in
theorem ya81 : chkY 81 = true := by decide +kernel
set_option maxRecDepth 100000 in
theorem ya82 : chkY 82 = true := by decide +kernel
set_option maxRecDepth 100000 in
theorem ya83 : chkY 83 = true := by decide +kernel
set_option maxRecDepth 100000 in
theorem ya84 : chkY 84 = true := by decide +kernel
set_option maxRecDepth 100000 in
theorem ya85 : chkY 85 = true := by decide +kernel
set_option maxRecDepth 100000 in
theorem ya86 : chkY 86 = true := by decide +kernel
set_option maxRecDepth 100000 in
theorem ya87 : chkY 87 = true := by decide +kernel
set_option maxRecDepth 100000 in
theorem ya88 : chkY 88 = true := by decide +kernel
set_option maxRecDepth 100000 in
theorem ya89 : chkY 89 = true := by decide +kernel
set_option maxRecDepth 100000 in
theorem ya90 : chkY 90 = true := by decide +kernel
set_option maxRecDepth 100000 in
theorem ya91 : chkY 91 = true := by decide +kernel
set_option maxRecDepth 100000 in
theorem ya92 : chkY 92 = true := by decide +kernel
set_option maxRecDepth 100000 in
theorem ya93 : chkY 93 = true := by decide +kernel
set_option maxRecDepth 100000 in
theorem ya94 : chkY 94 = true := by decide +kernel
set_option maxRecDepth 100000 in
theorem ya95 : chkY 95 = true := by decide +kernel
set_option maxRecDepth 100000 in
theorem ya96 : chkY 96 = true := by decide +kernel
set_option maxRecDepth 100000 in
theorem ya97 : chkY 97 = true := by decide +kernel
set_option maxRecDepth 100000 in
theorem ya98 : chkY 98 = true := by decide +kernel
set_option maxRecDepth 100000 in
theorem ya99 : chkY 99 = true := by decide +kernel
set_option maxRecDepth 100000 in
theorem ya100 : chkY 100 = true := by decide +kernel
set_option maxRecDepth 100000 in
theorem ya101 : chkY 101 = true := by decide +kernel
set_option maxRecDepth 100000 in
theorem ya102 : chkY 102 = true := by decide +kernel
set_option maxRecDepth 100000 in
theorem ya103 : chkY 103 = true := by decide +kernel
set_option maxRecDepth 100000 in
theorem ya104 : chkY 104 = true := by decide +kernel
set_option maxRecDepth 100000 in
theorem ya105 : chkY 105 = true := by decide +kernel
set_option maxRecDepth 100000 in
theorem ya106 : chkY 106 = true := by decide +kernel
set_option maxRecDepth 100000 in
theorem ya107 : chkY 107 = true := by decide +kernel
set_option maxRecDepth 100000 in
theorem ya108 : chkY 108 = true := by decide +kernel
set_option maxRecDepth 100000 in
theorem ya109 : chkY 109 = true := by decide +kernel
set_option maxRecDepth 100000 in
theorem ya110 : chkY 110 = true := by decide +kernel
set_option maxRecDepth 100000 in
theorem ya111 : chkY 111 = true := by decide +kernel
set_option maxRecDepth 100000 in
theorem ya112 : chkY 112 = true := by decide +kernel
set_option maxRecDepth 100000 in
theorem ya113 : chkY 113 = true := by decide +kernel
set_option maxRecDepth 100000 in
theorem ya114 : chkY 114 = true := by decide +kernel
set_option maxRecDepth 100000 in
theorem ya115 : chkY 115 = true := by decide +kernel
set_option maxRecDepth 100000 in
theorem ya116 : chkY 116 = true := by decide +kernel
set_option maxRecDepth 100000 in
theorem ya117 : chkY 117 = true := by decide +kernel
set_option maxRecDepth 100000 in
theorem ya118 : chkY 118 = true := by decide +kernel
set_option maxRecDepth 100000 in
theorem ya119 : chkY 119 = true := by decide +kernel
set_option maxRecDepth 100000 in
theorem ya120 : chkY 120 = true := by decide +kernel
set_option maxRecDepth 100000 in
theorem ya121 : chkY 121 = true := by decide +kernel
set_option maxRecDepth 100000 in
theorem ya122 : chkY 122 = true := by decide +kernel
set_option maxRecDepth 100000 in
theorem ya123 : chkY 123 = true := by decide +kernel
set_option maxRecDepth 100000 in
theorem ya124 : chkY 124 = true := by decide +kernel
set_option maxRecDepth 100000 in
theorem ya125 : chkY 125 = true := by decide +kernel
set_option maxRecDepth 100000 in
theorem ya126 : chkY 126 = true := by decide +kernel
set_option maxRecDepth 100000 in
theorem ya127 : chkY 127 = true := by decide +kernel
set_option maxRecDepth 100000 in
theorem ya128 : chkY 128 = true := by decide +kernel
set_option maxRecDepth 100000 in
theorem ya129 : chkY 129 = true := by decide +kernel
set_option maxRecDepth 100000 in
theorem ya130 : chkY 130 = true := by decide +kernel
set_option maxRecDepth 100000 in
theorem ya131 : chkY 131 = true := by decide +kernel
set_option maxRecDepth 100000 in
theorem ya132 : chkY 132 = true := by decide +kernel
set_option maxRecDepth 100000 in
theorem ya133 : chkY 133 = true := by decide +kernel
set_option maxRecDepth 100000 in
theorem ya134 : chkY 134 = true := by decide +kernel
set_option maxRecDepth 100000 in
theorem ya135 : chkY 135 = true := by decide +kernel
set_option maxRecDepth 100000 in
theorem ya136 : chkY 136 = true := by decide +kernel
set_option maxRecDepth 100000 in
theorem ya137 : chkY 137 = true := by decide +kernel
set_option maxRecDepth 100000 in
theorem ya138 : chkY 138 = true := by decide +kernel
set_option maxRecDepth 100000 in
theorem ya139 : chkY 139 = true := by decide +kernel
set_option maxRecDepth 100000 in
theorem ya140 : chkY 140 = true := by decide +kernel
set_option maxRecDepth 100000 in
theorem ya141 : chkY 141 = true := by decide +kernel
set_option maxRecDepth 100000 in
theorem ya142 : chkY 142 = true := by decide +kernel
set_option maxRecDepth 100000 in
theorem ya143 : chkY 143 = true := by decide +kernel
set_option maxRecDepth 100000 in
theorem ya144 : chkY 144 = true := by decide +kernel
set_option maxRecDepth 100000 in
theorem ya145 : chkY 145 = true := by decide +kernel
set_option maxRecDepth 100000 in
theorem ya146 : chkY 146 = true := by decide +kernel
set_option maxRecDepth 100000 in
theorem ya147 : chkY 147 = true := by decide +kernel
set_option maxRecDepth 100000 in
theorem ya148 : chkY 148 = true := by decide +kernel
set_option maxRecDepth 100000 in
theorem ya149 : chkY 149 = true := by decide +kernel
set_option maxRecDepth 100000 in
theorem ya150 : chkY 150 = true := by decide +kernel
set_option maxRecDepth 100000 in
theorem ya151 : chkY 151 = true := by decide +kernel
set_option maxRecDepth 100000 in
theorem ya152 : chkY 152 = true := by decide +kernel
set_option maxRecDepth 100000 in
theorem ya153 : chkY 153 = true := by decide +kernel
set_option maxRecDepth 100000 in
theorem ya154 : chkY 154 = true := by decide +kernel
set_option maxRecDepth 100000 in
theorem ya155 : chkY 155 = true := by decide +kernel
set_option maxRecDepth 100000 in
theorem ya156 : chkY 156 = true := by decide +kernel
set_option maxRecDepth 100000 in
theorem ya157 : chkY 157 = true := by decide +kernel
set_option maxRecDepth 100000 in
theorem ya158 : chkY 158 = true := by decide +kernel
set_option maxRecDepth 100000 in
theorem ya159 : chkY 159 = true := by decide +kernel
set_option maxRecDepth 100000 in
theorem ya160 : chkY 160 = true := by decide +kernel
set_option maxRecDepth 100000 in
theorem ya161 : chkY 161 = true := by decide +kernel
set_option maxRecDepth 100000 in
theorem ya162 : chkY 162 = true := by decide +kernel
set_option maxRecDepth 100000 in
theorem ya163 : chkY 163 = true := by decide +kernel
set_option maxRecDepth 100000 in
theorem ya164 : chkY 164 = true := by decide +kernel
set_option maxRecDepth 100000 in
theorem ya165 : chkY 165 = true := by decide +kernel
set_option maxRecDepth 100000 in
theorem ya166 : chkY 166 = true := by decide +kernel
set_option maxRecDepth 100000 in
theorem ya167 : chkY 167 = true := by decide +kernel
set_option maxRecDepth 100000 in
theorem ya168 : chkY 168 = true := by decide +kernel
set_option maxRecDepth 100000 in
theorem ya169 : chkY 169 = true := by decide +kernel
set_option maxRecDepth 100000 in
theorem ya170 : chkY 170 = true := by decide +kernel
set_option maxRecDepth 100000 in
theorem ya171 : chkY 171 = true := by decide +kernel
set_option maxRecDepth 100000 in
theorem ya172 : chkY 172 = true := by decide +kernel
set_option maxRecDepth 100000 in
theorem ya173 : chkY 173 = true := by decide +kernel
set_option maxRecDepth 100000 in
theorem ya174 : chkY 174 = true := by decide +kernel
set_option maxRecDepth 100000 in
theorem ya175 : chkY 175 = true := by decide +kernel
set_option maxRecDepth 100000 in
theorem ya176 : chkY 176 = true := by decide +kernel
set_option maxRecDepth 100000 in
theorem ya177 : chkY 177 = true := by decide +kernel
set_option maxRecDepth 100000 in
theorem ya178 : chkY 178 = true := by decide +kernel
set_option maxRecDepth 100000 in
theorem ya179 : chkY 179 = true := by decide +kernel
set_option maxRecDepth 100000 in
theorem ya180 : chkY 180 = true := by decide +kernel
set_option maxRecDepth 100000 in
theorem ya181 : chkY 181 = true := by decide +kernel
set_option maxRecDepth 100000 in
theorem ya182 : chkY 182 = true := by decide +kernel
set_option maxRecDepth 100000 in
theorem ya183 : chkY 183 = true := by decide +kernel
set_option maxRecDepth 100000 in
theorem ya184 : chkY 184 = true := by decide +kernel
set_option maxRecDepth 100000 in
theorem ya185 : chkY 185 = true := by decide +kernel
set_option maxRecDepth 100000 in
theorem ya186 : chkY 186 = true := by decide +kernel
set_option maxRecDepth 100000 in
theorem ya187 : chkY 187 = true := by decide +kernel
set_option maxRecDepth 100000 in
theorem ya188 : chkY 188 = true := by decide +kernel
set_option maxRecDepth 100000 in
theorem ya189 : chkY 189 = true := by decide +kernel
set_option maxRecDepth 100000 in
theorem ya190 : chkY 190 = true := by decide +kernel
set_option maxRecDepth 100000 in
theorem ya191 : chkY 191 = true := by decide +kernel
set_option maxRecDepth 100000 in
theorem ya192 : chkY 192 = true := by decide +kernel
set_option maxRecDepth 100000 in
theorem ya193 : chkY 193 = true := by decide +kernel
set_option maxRecDepth 100000 in
theorem ya194 : chkY 194 = true := by decide +kernel
set_option maxRecDepth 100000 in
theorem ya195 : chkY 195 = true := by decide +kernel
set_option maxRecDepth 100000 in
theorem ya196 : chkY 196 = true := by decide +kernel
set_option maxRecDepth 100000 in
theorem ya197 : chkY 197 = true := by decide +kernel
set_option maxRecDepth 100000 in
theorem ya198 : chkY 198 = true := by decide +kernel
set_option maxRecDepth 100000 in
theorem ya199 : chkY 199 = true := by decide +kernel
set_option maxRecDepth 100000 in
theorem ya200 : chkY 200 = true := by decide +kernel
set_option maxRecDepth 100000 in
theorem ya201 : chkY 201 = true := by decide +kernel
set_option maxRecDepth 100000 in
theorem ya202 : chkY 202 = true := by decide +kernel
set_option maxRecDepth 100000 in
theorem ya203 : chkY 203 = true := by decide +kernel
set_option maxRecDepth 100000 in
theorem ya204 : chkY 204 = true := by decide +kernel
set_option maxRecDepth 100000 in
theorem ya205 : chkY 205 = true := by decide +kernel
set_option maxRecDepth 100000 in
theorem ya206 : chkY 206 = true := by decide +kernel
set_option maxRecDepth 100000 in
theorem ya207 : chkY 207 = true := by decide +kernel
set_option maxRecDepth 100000 in
theorem ya208 : chkY 208 = true := by decide +kernel
set_option maxRecDepth 100000 in
theorem ya209 : chkY 209 = true := by decide +kernel
set_option maxRecDepth 100000 in
theorem ya210 : chkY 210 = true := by decide +kernel
set_option maxRecDepth 100000 in
theorem ya211 : chkY 211 = true := by decide +kernel
set_option maxRecDepth 100000 in
theorem ya212 : chkY 212 = true := by decide +kernel
set_option maxRecDepth 100000 in
theorem ya213 : chkY 213 = true := by decide +kernel
set_option maxRecDepth 100000 in
theorem ya214 : chkY 214 = true := by decide +kernel
set_option maxRecDepth 100000 in
theorem ya215 : chkY 215 = true := by decide +kernel
set_option maxRecDepth 100000 in
theorem ya216 : chkY 216 = true := by decide +kernel
set_option maxRecDepth 100000 in
theorem ya217 : chkY 217 = true := by decide +kernel
set_option maxRecDepth 100000 in
theorem ya218 : chkY 218 = true := by decide +kernel
set_option maxRecDepth 100000 in
theorem ya219 : chkY 219 = true := by decide +kernel
set_option maxRecDepth 100000 in
theorem ya220 : chkY 220 = true := by decide +kernel
set_option maxRecDepth 100000 in
theorem ya221 : chkY 221 = true := by decide +kernel
set_option maxRecDepth 100000 in
theorem ya222 : chkY 222 = true := by decide +kernel
set_option maxRecDepth 100000 in
theorem ya223 : chkY 223 = true := by decide +kernel
set_option maxRecDepth 100000 in
theorem ya224 : chkY 224 = true := by decide +kernel
set_option maxRecDepth 100000 in
theorem ya225 : chkY 225 = true := by decide +kernel
set_option maxRecDepth 100000 in
theorem ya226 : chkY 226 = true := by decide +kernel
set_option maxRecDepth 100000 in
theorem ya227 : chkY 227 = true := by decide +kernel
set_option maxRecDepth 100000 in
theorem ya228 : chkY 228 = true := by decide +kernel
set_option maxRecDepth 100000 in
theorem ya229 : chkY 229 = true := by decide +kernel
set_option maxRecDepth 100000 in
theorem ya230 : chkY 230 = true := by decide +kernel
set_option maxRecDepth 100000 in
theorem ya231 : chkY 231 = true := by decide +kernel
set_option maxRecDepth 100000 in
theorem ya232 : chkY 232 = true := by decide +kernel
set_option maxRecDepth 100000 in
theorem ya233 : chkY 233 = true := by decide +kernel
set_option maxRecDepth 100000 in
theorem ya234 : chkY 234 = true := by decide +kernel
set_option maxRecDepth 100000 in
theorem ya235 : chkY 235 = true := by decide +kernel
set_option maxRecDepth 100000 in
theorem ya236 : chkY 236 = true := by decide +kernel
set_option maxRecDepth 100000 in
theorem ya237 : chkY 237 = true := by decide +kernel
set_option maxRecDepth 100000 in
theorem ya238 : chkY 238 = true := by decide +kernel
set_option maxRecDepth 100000 in
theorem ya239 : chkY 239 = true := by decide +kernel
set_option maxRecDepth 100000 in
theorem ya240 : chkY 240 = true := by decide +kernel
set_option maxRecDepth 100000 in
theorem ya241 : chkY 241 = true := by decide +kernel
set_option maxRecDepth 100000 in
theorem ya242 : chkY 242 = true := by decide +kernel
set_option maxRecDepth 100000 in
theorem ya243 : chkY 243 = true := by decide +kernel
set_option maxRecDepth 100000 in
theorem ya244 : chkY 244 = true := by decide +kernel
set_option maxRecDepth 100000 in
theorem ya245 : chkY 245 = true := by decide +kernel
set_option maxRecDepth 100000 in
theorem ya246 : chkY 246 = true := by decide +kernel
set_option maxRecDepth 100000 in
theorem ya247 : chkY 247 = true := by decide +kernel
set_option maxRecDepth 100000 in
theorem ya248 : chkY 248 = true := by decide +kernel
set_option maxRecDepth 100000 in
theorem ya249 : chkY 249 = true := by decide +kernel
set_option maxRecDepth 100000 in
theorem ya250 : chkY 250 = true := by decide +kernel
set_option maxRecDepth 100000 in
theorem ya251 : chkY 251 = true := by decide +kernel
set_option maxRecDepth 100000 in
theorem ya252 : chkY 252 = true := by decide +kernel
set_option maxRecDepth 100000 in
theorem ya253 : chkY 253 = true := by decide +kernel
set_option maxRecDepth 100000 in
theorem ya254 : chkY 254 = true := by decide +kernel
set_option maxRecDepth 100000 in
theorem ya255 : chkY 255 = true := by decide +kernel
set_option maxRecDepth 100000 in
theorem ya256 : chkY 256 = true := by decide +kernel
set_option maxRecDepth 100000 in
theorem ya257 : chkY 257 = true := by decide +kernel
set_option maxRecDepth 100000 in
theorem ya258 : chkY 258 = true := by decide +kernel
set_option maxRecDepth 100000 in
theorem ya259 : chkY 259 = true := by decide +kernel
set_option maxRecDepth 100000 in
theorem ya260 : chkY 260 = true := by decide +kernel
set_option maxRecDepth 100000 in
theorem ya261 : chkY 261 = true := by decide +kernel
set_option maxRecDepth 100000 in
theorem ya262 : chkY 262 = true := by decide +kernel
set_option maxRecDepth 100000 in
theorem ya263 : chkY 263 = true := by decide +kernel
set_option maxRecDepth 100000 in
theorem ya264 : chkY 264 = true := by decide +kernel
set_option maxRecDepth 100000 in
theorem yb0 : lw_tbl[218]? = some (.code (yN 0) (yC 0) (yL 0) (yR 0)) := by rfl
set_option maxRecDepth 100000 in
theorem yb1 : lw_tbl[599]? = some (.code (yN 1) (yC 1) (yL 1) (yR 1)) := by rfl
set_option maxRecDepth 100000 in
theorem yb2 : lw_tbl[782]? = some (.code (yN 2) (yC 2) (yL 2) (yR 2)) := by rfl
set_option maxRecDepth 100000 in
theorem yb3 : lw_tbl[727]? = some (.code (yN 3) (yC 3) (yL 3) (yR 3)) := by rfl
set_option maxRecDepth 100000 in
theorem yb4 : lw_tbl[740]? = some (.code (yN 4) (yC 4) (yL 4) (yR 4)) := by rfl
set_option maxRecDepth 100000 in
theorem yb5 : lw_tbl[761]? = some (.code (yN 5) (yC 5) (yL 5) (yR 5)) := by rfl
set_option maxRecDepth 100000 in
theorem yb6 : lw_tbl[709]? = some (.code (yN 6) (yC 6) (yL 6) (yR 6)) := by rfl
set_option maxRecDepth 100000 in
theorem yb7 : lw_tbl[705]? = some (.code (yN 7) (yC 7) (yL 7) (yR 7)) := by rfl
set_option maxRecDepth 100000 in
theorem yb8 : lw_tbl[749]? = some (.code (yN 8) (yC 8) (yL 8) (yR 8)) := by rfl
set_option maxRecDepth 100000 in
theorem yb9 : lw_tbl[736]? = some (.code (yN 9) (yC 9) (yL 9) (yR 9)) := by rfl
set_option maxRecDepth 100000 in
theorem yb10 : lw_tbl[757]? = some (.code (yN 10) (yC 10) (yL 10) (yR 10)) := by rfl
set_option maxRecDepth 100000 in
theorem yb11 : lw_tbl[923]? = some (.code (yN 11) (yC 11) (yL 11) (yR 11)) := by rfl
set_option maxRecDepth 100000 in
theorem yb12 : lw_tbl[657]? = some (.code (yN 12) (yC 12) (yL 12) (yR 12)) := by rfl
set_option maxRecDepth 100000 in
theorem yb13 : lw_tbl[638]? = some (.code (yN 13) (yC 13) (yL 13) (yR 13)) := by rfl
set_option maxRecDepth 100000 in
theorem yb14 : lw_tbl[349]? = some (.code (yN 14) (yC 14) (yL 14) (yR 14)) := by rfl
set_option maxRecDepth 100000 in
theorem yb15 : lw_tbl[985]? = some (.code (yN 15) (yC 15) (yL 15) (yR 15)) := by rfl
set_option maxRecDepth 100000 in
theorem yb16 : lw_tbl[1023]? = some (.code (yN 16) (yC 16) (yL 16) (yR 16)) := by rfl
set_option maxRecDepth 100000 in
theorem yb17 : lw_tbl[991]? = some (.code (yN 17) (yC 17) (yL 17) (yR 17)) := by rfl
set_option maxRecDepth 100000 in
theorem yb18 : lw_tbl[1000]? = some (.code (yN 18) (yC 18) (yL 18) (yR 18)) := by rfl
set_option maxRecDepth 100000 in
theorem yb19 : lw_tbl[1032]? = some (.code (yN 19) (yC 19) (yL 19) (yR 19)) := by rfl
set_option maxRecDepth 100000 in
theorem yb20 : lw_tbl[1039]? = some (.code (yN 20) (yC 20) (yL 20) (yR 20)) := by rfl
set_option maxRecDepth 100000 in
theorem yb21 : lw_tbl[310]? = some (.code (yN 21) (yC 21) (yL 21) (yR 21)) := by rfl
set_option maxRecDepth 100000 in
theorem yb22 : lw_tbl[803]? = some (.code (yN 22) (yC 22) (yL 22) (yR 22)) := by rfl
set_option maxRecDepth 100000 in
theorem yb23 : lw_tbl[819]? = some (.code (yN 23) (yC 23) (yL 23) (yR 23)) := by rfl
set_option maxRecDepth 100000 in
theorem yb24 : lw_tbl[823]? = some (.code (yN 24) (yC 24) (yL 24) (yR 24)) := by rfl
set_option maxRecDepth 100000 in
theorem yb25 : lw_tbl[828]? = some (.code (yN 25) (yC 25) (yL 25) (yR 25)) := by rfl
set_option maxRecDepth 100000 in
theorem yb26 : lw_tbl[839]? = some (.code (yN 26) (yC 26) (yL 26) (yR 26)) := by rfl
set_option maxRecDepth 100000 in
theorem yb27 : lw_tbl[394]? = some (.code (yN 27) (yC 27) (yL 27) (yR 27)) := by rfl
set_option maxRecDepth 100000 in
theorem yb28 : lw_tbl[1052]? = some (.code (yN 28) (yC 28) (yL 28) (yR 28)) := by rfl
set_option maxRecDepth 100000 in
theorem yb29 : lw_tbl[1061]? = some (.code (yN 29) (yC 29) (yL 29) (yR 29)) := by rfl
set_option maxRecDepth 100000 in
theorem yb30 : lw_tbl[1065]? = some (.code (yN 30) (yC 30) (yL 30) (yR 30)) := by rfl
set_option maxRecDepth 100000 in
theorem yb31 : lw_tbl[1076]? = some (.code (yN 31) (yC 31) (yL 31) (yR 31)) := by rfl
set_option maxRecDepth 100000 in
theorem yb32 : lw_tbl[1080]? = some (.code (yN 32) (yC 32) (yL 32) (yR 32)) := by rfl
set_option maxRecDepth 100000 in
theorem yb33 : lw_tbl[1088]? = some (.code (yN 33) (yC 33) (yL 33) (yR 33)) := by rfl
set_option maxRecDepth 100000 in
theorem yb34 : lw_tbl[1084]? = some (.code (yN 34) (yC 34) (yL 34) (yR 34)) := by rfl
set_option maxRecDepth 100000 in
theorem yb35 : lw_tbl[1096]? = some (.code (yN 35) (yC 35) (yL 35) (yR 35)) := by rfl
set_option maxRecDepth 100000 in
theorem yb36 : lw_tbl[283]? = some (.code (yN 36) (yC 36) (yL 36) (yR 36)) := by rfl
set_option maxRecDepth 100000 in
theorem yb37 : lw_tbl[560]? = some (.code (yN 37) (yC 37) (yL 37) (yR 37)) := by rfl
set_option maxRecDepth 100000 in
theorem yb38 : lw_tbl[564]? = some (.code (yN 38) (yC 38) (yL 38) (yR 38)) := by rfl
set_option maxRecDepth 100000 in
theorem yb39 : lw_tbl[586]? = some (.code (yN 39) (yC 39) (yL 39) (yR 39)) := by rfl
set_option maxRecDepth 100000 in
theorem yb40 : lw_tbl[568]? = some (.code (yN 40) (yC 40) (yL 40) (yR 40)) := by rfl
set_option maxRecDepth 100000 in
theorem yb41 : lw_tbl[580]? = some (.code (yN 41) (yC 41) (yL 41) (yR 41)) := by rfl
set_option maxRecDepth 100000 in
theorem yb42 : lw_tbl[572]? = some (.code (yN 42) (yC 42) (yL 42) (yR 42)) := by rfl
set_option maxRecDepth 100000 in
theorem yb43 : lw_tbl[329]? = some (.code (yN 43) (yC 43) (yL 43) (yR 43)) := by rfl
set_option maxRecDepth 100000 in
theorem yb44 : lw_tbl[849]? = some (.code (yN 44) (yC 44) (yL 44) (yR 44)) := by rfl
set_option maxRecDepth 100000 in
theorem yb45 : lw_tbl[815]? = some (.code (yN 45) (yC 45) (yL 45) (yR 45)) := by rfl
set_option maxRecDepth 100000 in
theorem yb46 : lw_tbl[809]? = some (.code (yN 46) (yC 46) (yL 46) (yR 46)) := by rfl
set_option maxRecDepth 100000 in
theorem yb47 : lw_tbl[831]? = some (.code (yN 47) (yC 47) (yL 47) (yR 47)) := by rfl
set_option maxRecDepth 100000 in
theorem yb48 : lw_tbl[799]? = some (.code (yN 48) (yC 48) (yL 48) (yR 48)) := by rfl
set_option maxRecDepth 100000 in
theorem yb49 : lw_tbl[857]? = some (.code (yN 49) (yC 49) (yL 49) (yR 49)) := by rfl
set_option maxRecDepth 100000 in
theorem yb50 : lw_tbl[863]? = some (.code (yN 50) (yC 50) (yL 50) (yR 50)) := by rfl
set_option maxRecDepth 100000 in
theorem yb51 : lw_tbl[875]? = some (.code (yN 51) (yC 51) (yL 51) (yR 51)) := by rfl
set_option maxRecDepth 100000 in
theorem yb52 : lw_tbl[871]? = some (.code (yN 52) (yC 52) (yL 52) (yR 52)) := by rfl
set_option maxRecDepth 100000 in
theorem yb53 : lw_tbl[883]? = some (.code (yN 53) (yC 53) (yL 53) (yR 53)) := by rfl
set_option maxRecDepth 100000 in
theorem yb54 : lw_tbl[892]? = some (.code (yN 54) (yC 54) (yL 54) (yR 54)) := by rfl
set_option maxRecDepth 100000 in
theorem yb55 : lw_tbl[900]? = some (.code (yN 55) (yC 55) (yL 55) (yR 55)) := by rfl
set_option maxRecDepth 100000 in
theorem yb56 : lw_tbl[904]? = some (.code (yN 56) (yC 56) (yL 56) (yR 56)) := by rfl
set_option maxRecDepth 100000 in
theorem yb57 : lw_tbl[372]? = some (.code (yN 57) (yC 57) (yL 57) (yR 57)) := by rfl
set_option maxRecDepth 100000 in
theorem yb58 : lw_tbl[932]? = some (.code (yN 58) (yC 58) (yL 58) (yR 58)) := by rfl
set_option maxRecDepth 100000 in
theorem yb59 : lw_tbl[938]? = some (.code (yN 59) (yC 59) (yL 59) (yR 59)) := by rfl
set_option maxRecDepth 100000 in
theorem yb60 : lw_tbl[945]? = some (.code (yN 60) (yC 60) (yL 60) (yR 60)) := by rfl
set_option maxRecDepth 100000 in
theorem yb61 : lw_tbl[949]? = some (.code (yN 61) (yC 61) (yL 61) (yR 61)) := by rfl
set_option maxRecDepth 100000 in
theorem yb62 : lw_tbl[953]? = some (.code (yN 62) (yC 62) (yL 62) (yR 62)) := by rfl
set_option maxRecDepth 100000 in
theorem yb63 : lw_tbl[962]? = some (.code (yN 63) (yC 63) (yL 63) (yR 63)) := by rfl
set_option maxRecDepth 100000 in
theorem yb64 : lw_tbl[967]? = some (.code (yN 64) (yC 64) (yL 64) (yR 64)) := by rfl
set_option maxRecDepth 100000 in
theorem yb65 : lw_tbl[975]? = some (.code (yN 65) (yC 65) (yL 65) (yR 65)) := by rfl
set_option maxRecDepth 100000 in
theorem yb66 : lw_tbl[225]? = some (.code (yN 66) (yC 66) (yL 66) (yR 66)) := by rfl
set_option maxRecDepth 100000 in
theorem yb67 : lw_tbl[786]? = some (.code (yN 67) (yC 67) (yL 67) (yR 67)) := by rfl
set_option maxRecDepth 100000 in
theorem yb68 : lw_tbl[681]? = some (.code (yN 68) (yC 68) (yL 68) (yR 68)) := by rfl
set_option maxRecDepth 100000 in
theorem yb69 : lw_tbl[744]? = some (.code (yN 69) (yC 69) (yL 69) (yR 69)) := by rfl
set_option maxRecDepth 100000 in
theorem yb70 : lw_tbl[765]? = some (.code (yN 70) (yC 70) (yL 70) (yR 70)) := by rfl
set_option maxRecDepth 100000 in
theorem yb71 : lw_tbl[410]? = some (.code (yN 71) (yC 71) (yL 71) (yR 71)) := by rfl
set_option maxRecDepth 100000 in
theorem yb72 : lw_tbl[495]? = some (.code (yN 72) (yC 72) (yL 72) (yR 72)) := by rfl
set_option maxRecDepth 100000 in
theorem yb73 : lw_tbl[773]? = some (.code (yN 73) (yC 73) (yL 73) (yR 73)) := by rfl
set_option maxRecDepth 100000 in
theorem yb74 : lw_tbl[533]? = some (.code (yN 74) (yC 74) (yL 74) (yR 74)) := by rfl
set_option maxRecDepth 100000 in
theorem yb75 : lw_tbl[917]? = some (.code (yN 75) (yC 75) (yL 75) (yR 75)) := by rfl
set_option maxRecDepth 100000 in
theorem yb76 : lw_tbl[544]? = some (.code (yN 76) (yC 76) (yL 76) (yR 76)) := by rfl
set_option maxRecDepth 100000 in
theorem yb77 : lw_tbl[1152]? = some (.code (yN 77) (yC 77) (yL 77) (yR 77)) := by rfl
set_option maxRecDepth 100000 in
theorem yb78 : lw_tbl[168]? = some (.code (yN 78) (yC 78) (yL 78) (yR 78)) := by rfl
set_option maxRecDepth 100000 in
theorem yb79 : lw_tbl[594]? = some (.code (yN 79) (yC 79) (yL 79) (yR 79)) := by rfl
set_option maxRecDepth 100000 in
theorem yb80 : lw_tbl[647]? = some (.code (yN 80) (yC 80) (yL 80) (yR 80)) := by rfl
set_option maxRecDepth 100000 in
theorem yb81 : lw_tbl[615]? = some (.code (yN 81) (yC 81) (yL 81) (yR 81)) := by rfl
set_option maxRecDepth 100000 in
theorem yb82 : lw_tbl[611]? = some (.code (yN 82) (yC 82) (yL 82) (yR 82)) := by rfl
set_option maxRecDepth 100000 in
theorem yb83 : lw_tbl[622]? = some (.code (yN 83) (yC 83) (yL 83) (yR 83)) := by rfl
set_option maxRecDepth 100000 in
theorem yb84 : lw_tbl[1100]? = some (.code (yN 84) (yC 84) (yL 84) (yR 84)) := by rfl
set_option maxRecDepth 100000 in
theorem yb85 : lw_tbl[607]? = some (.code (yN 85) (yC 85) (yL 85) (yR 85)) := by rfl
set_option maxRecDepth 100000 in
theorem yb86 : lw_tbl[576]? = some (.code (yN 86) (yC 86) (yL 86) (yR 86)) := by rfl
set_option maxRecDepth 100000 in
theorem yb87 : lw_tbl[626]? = some (.code (yN 87) (yC 87) (yL 87) (yR 87)) := by rfl
set_option maxRecDepth 100000 in
theorem yb88 : lw_tbl[653]? = some (.code (yN 88) (yC 88) (yL 88) (yR 88)) := by rfl
set_option maxRecDepth 100000 in
theorem yb89 : lw_tbl[669]? = some (.code (yN 89) (yC 89) (yL 89) (yR 89)) := by rfl
set_option maxRecDepth 100000 in
theorem yb90 : lw_tbl[1122]? = some (.code (yN 90) (yC 90) (yL 90) (yR 90)) := by rfl
set_option maxRecDepth 100000 in
theorem yb91 : lw_tbl[715]? = some (.code (yN 91) (yC 91) (yL 91) (yR 91)) := by rfl
set_option maxRecDepth 100000 in
theorem yb92 : lw_tbl[158]? = some (.code (yN 92) (yC 92) (yL 92) (yR 92)) := by rfl
set_option maxRecDepth 100000 in
theorem yb93 : lw_tbl[480]? = some (.code (yN 93) (yC 93) (yL 93) (yR 93)) := by rfl
set_option maxRecDepth 100000 in
theorem yb94 : lw_tbl[505]? = some (.code (yN 94) (yC 94) (yL 94) (yR 94)) := by rfl
set_option maxRecDepth 100000 in
theorem yb95 : lw_tbl[517]? = some (.code (yN 95) (yC 95) (yL 95) (yR 95)) := by rfl
set_option maxRecDepth 100000 in
theorem yb96 : lw_tbl[525]? = some (.code (yN 96) (yC 96) (yL 96) (yR 96)) := by rfl
set_option maxRecDepth 100000 in
theorem yb97 : lw_tbl[529]? = some (.code (yN 97) (yC 97) (yL 97) (yR 97)) := by rfl
set_option maxRecDepth 100000 in
theorem yb98 : lw_tbl[540]? = some (.code (yN 98) (yC 98) (yL 98) (yR 98)) := by rfl
set_option maxRecDepth 100000 in
theorem yb99 : lw_tbl[548]? = some (.code (yN 99) (yC 99) (yL 99) (yR 99)) := by rfl
set_option maxRecDepth 100000 in
theorem yb100 : lw_tbl[552]? = some (.code (yN 100) (yC 100) (yL 100) (yR 100)) := by rfl
set_option maxRecDepth 100000 in
theorem yb101 : lw_tbl[556]? = some (.code (yN 101) (yC 101) (yL 101) (yR 101)) := by rfl
set_option maxRecDepth 100000 in
theorem yb102 : lw_tbl[590]? = some (.code (yN 102) (yC 102) (yL 102) (yR 102)) := by rfl
set_option maxRecDepth 100000 in
theorem yb103 : lw_tbl[603]? = some (.code (yN 103) (yC 103) (yL 103) (yR 103)) := by rfl
set_option maxRecDepth 100000 in
theorem yb104 : lw_tbl[630]? = some (.code (yN 104) (yC 104) (yL 104) (yR 104)) := by rfl
set_option maxRecDepth 100000 in
theorem yb105 : lw_tbl[643]? = some (.code (yN 105) (yC 105) (yL 105) (yR 105)) := by rfl
set_option maxRecDepth 100000 in
theorem yb106 : lw_tbl[673]? = some (.code (yN 106) (yC 106) (yL 106) (yR 106)) := by rfl
set_option maxRecDepth 100000 in
theorem yb107 : lw_tbl[685]? = some (.code (yN 107) (yC 107) (yL 107) (yR 107)) := by rfl
set_option maxRecDepth 100000 in
theorem yb108 : lw_tbl[693]? = some (.code (yN 108) (yC 108) (yL 108) (yR 108)) := by rfl
set_option maxRecDepth 100000 in
theorem yb109 : lw_tbl[697]? = some (.code (yN 109) (yC 109) (yL 109) (yR 109)) := by rfl
set_option maxRecDepth 100000 in
theorem yb110 : lw_tbl[701]? = some (.code (yN 110) (yC 110) (yL 110) (yR 110)) := by rfl
set_option maxRecDepth 100000 in
theorem yb111 : lw_tbl[723]? = some (.code (yN 111) (yC 111) (yL 111) (yR 111)) := by rfl
set_option maxRecDepth 100000 in
theorem yb112 : lw_tbl[731]? = some (.code (yN 112) (yC 112) (yL 112) (yR 112)) := by rfl
set_option maxRecDepth 100000 in
theorem yb113 : lw_tbl[753]? = some (.code (yN 113) (yC 113) (yL 113) (yR 113)) := by rfl
set_option maxRecDepth 100000 in
theorem yb114 : lw_tbl[769]? = some (.code (yN 114) (yC 114) (yL 114) (yR 114)) := by rfl
set_option maxRecDepth 100000 in
theorem yb115 : lw_tbl[778]? = some (.code (yN 115) (yC 115) (yL 115) (yR 115)) := by rfl
set_option maxRecDepth 100000 in
theorem yb116 : lw_tbl[791]? = some (.code (yN 116) (yC 116) (yL 116) (yR 116)) := by rfl
set_option maxRecDepth 100000 in
theorem yb117 : lw_tbl[795]? = some (.code (yN 117) (yC 117) (yL 117) (yR 117)) := by rfl
set_option maxRecDepth 100000 in
theorem yb118 : lw_tbl[845]? = some (.code (yN 118) (yC 118) (yL 118) (yR 118)) := by rfl
set_option maxRecDepth 100000 in
theorem yb119 : lw_tbl[853]? = some (.code (yN 119) (yC 119) (yL 119) (yR 119)) := by rfl
set_option maxRecDepth 100000 in
theorem yb120 : lw_tbl[867]? = some (.code (yN 120) (yC 120) (yL 120) (yR 120)) := by rfl
set_option maxRecDepth 100000 in
theorem yb121 : lw_tbl[879]? = some (.code (yN 121) (yC 121) (yL 121) (yR 121)) := by rfl
set_option maxRecDepth 100000 in
theorem yb122 : lw_tbl[888]? = some (.code (yN 122) (yC 122) (yL 122) (yR 122)) := by rfl
set_option maxRecDepth 100000 in
theorem yb123 : lw_tbl[896]? = some (.code (yN 123) (yC 123) (yL 123) (yR 123)) := by rfl
set_option maxRecDepth 100000 in
theorem yb124 : lw_tbl[909]? = some (.code (yN 124) (yC 124) (yL 124) (yR 124)) := by rfl
set_option maxRecDepth 100000 in
theorem yb125 : lw_tbl[928]? = some (.code (yN 125) (yC 125) (yL 125) (yR 125)) := by rfl
set_option maxRecDepth 100000 in
theorem yb126 : lw_tbl[971]? = some (.code (yN 126) (yC 126) (yL 126) (yR 126)) := by rfl
set_option maxRecDepth 100000 in
theorem yb127 : lw_tbl[981]? = some (.code (yN 127) (yC 127) (yL 127) (yR 127)) := by rfl
set_option maxRecDepth 100000 in
theorem yb128 : lw_tbl[1019]? = some (.code (yN 128) (yC 128) (yL 128) (yR 128)) := by rfl
set_option maxRecDepth 100000 in
theorem yb129 : lw_tbl[1027]? = some (.code (yN 129) (yC 129) (yL 129) (yR 129)) := by rfl
set_option maxRecDepth 100000 in
theorem yb130 : lw_tbl[1048]? = some (.code (yN 130) (yC 130) (yL 130) (yR 130)) := by rfl
set_option maxRecDepth 100000 in
theorem yb131 : lw_tbl[1057]? = some (.code (yN 131) (yC 131) (yL 131) (yR 131)) := by rfl
set_option maxRecDepth 100000 in
theorem yb132 : lw_tbl[1072]? = some (.code (yN 132) (yC 132) (yL 132) (yR 132)) := by rfl
set_option maxRecDepth 100000 in
theorem yb133 : lw_tbl[1092]? = some (.code (yN 133) (yC 133) (yL 133) (yR 133)) := by rfl
set_option maxRecDepth 100000 in
theorem yb134 : lw_tbl[1106]? = some (.code (yN 134) (yC 134) (yL 134) (yR 134)) := by rfl
set_option maxRecDepth 100000 in
theorem yb135 : lw_tbl[1110]? = some (.code (yN 135) (yC 135) (yL 135) (yR 135)) := by rfl
set_option maxRecDepth 100000 in
theorem yb136 : lw_tbl[1114]? = some (.code (yN 136) (yC 136) (yL 136) (yR 136)) := by rfl
set_option maxRecDepth 100000 in
theorem yb137 : lw_tbl[1118]? = some (.code (yN 137) (yC 137) (yL 137) (yR 137)) := by rfl
set_option maxRecDepth 100000 in
theorem yb138 : lw_tbl[1133]? = some (.code (yN 138) (yC 138) (yL 138) (yR 138)) := by rfl
set_option maxRecDepth 100000 in
theorem yb139 : lw_tbl[1137]? = some (.code (yN 139) (yC 139) (yL 139) (yR 139)) := by rfl
set_option maxRecDepth 100000 in
theorem yb140 : lw_tbl[1141]? = some (.code (yN 140) (yC 140) (yL 140) (yR 140)) := by rfl
set_option maxRecDepth 100000 in
theorem yb141 : lw_tbl[1148]? = some (.code (yN 141) (yC 141) (yL 141) (yR 141)) := by rfl
set_option maxRecDepth 100000 in
theorem yb142 : lw_tbl[487]? = some (.code (yN 142) (yC 142) (yL 142) (yR 142)) := by rfl
set_option maxRecDepth 100000 in
theorem yb143 : lw_tbl[618]? = some (.code (yN 143) (yC 143) (yL 143) (yR 143)) := by rfl
set_option maxRecDepth 100000 in
theorem yb144 : lw_tbl[689]? = some (.code (yN 144) (yC 144) (yL 144) (yR 144)) := by rfl
set_option maxRecDepth 100000 in
theorem yb145 : lw_tbl[677]? = some (.code (yN 145) (yC 145) (yL 145) (yR 145)) := by rfl
set_option maxRecDepth 100000 in
theorem yb146 : lw_tbl[491]? = some (.code (yN 146) (yC 146) (yL 146) (yR 146)) := by rfl
set_option maxRecDepth 100000 in
theorem yb147 : lw_tbl[521]? = some (.code (yN 147) (yC 147) (yL 147) (yR 147)) := by rfl
set_option maxRecDepth 100000 in
theorem yb148 : lw_tbl[1011]? = some (.code (yN 148) (yC 148) (yL 148) (yR 148)) := by rfl
set_option maxRecDepth 100000 in
theorem yb149 : lw_tbl[1015]? = some (.code (yN 149) (yC 149) (yL 149) (yR 149)) := by rfl
set_option maxRecDepth 100000 in
theorem yb150 : lw_tbl[484]? = some (.code (yN 150) (yC 150) (yL 150) (yR 150)) := by rfl
set_option maxRecDepth 100000 in
theorem yb151 : lw_tbl[513]? = some (.code (yN 151) (yC 151) (yL 151) (yR 151)) := by rfl
set_option maxRecDepth 100000 in
theorem yb152 : lw_tbl[509]? = some (.code (yN 152) (yC 152) (yL 152) (yR 152)) := by rfl
set_option maxRecDepth 100000 in
theorem yb153 : lw_tbl[913]? = some (.code (yN 153) (yC 153) (yL 153) (yR 153)) := by rfl
set_option maxRecDepth 100000 in
theorem yb154 : lw_tbl[634]? = some (.code (yN 154) (yC 154) (yL 154) (yR 154)) := by rfl
set_option maxRecDepth 100000 in
theorem yb155 : lw_tbl[1125]? = some (.code (yN 155) (yC 155) (yL 155) (yR 155)) := by rfl
set_option maxRecDepth 100000 in
theorem yb156 : lw_tbl[1129]? = some (.code (yN 156) (yC 156) (yL 156) (yR 156)) := by rfl
set_option maxRecDepth 100000 in
theorem yb157 : lw_tbl[1158]? = some (.code (yN 157) (yC 157) (yL 157) (yR 157)) := by rfl
set_option maxRecDepth 100000 in
theorem yb158 : lw_tbl[1313]? = some (.code (yN 158) (yC 158) (yL 158) (yR 158)) := by rfl
set_option maxRecDepth 100000 in
theorem yb159 : lw_tbl[1429]? = some (.code (yN 159) (yC 159) (yL 159) (yR 159)) := by rfl
set_option maxRecDepth 100000 in
theorem yb160 : lw_tbl[1460]? = some (.code (yN 160) (yC 160) (yL 160) (yR 160)) := by rfl
set_option maxRecDepth 100000 in
theorem yb161 : lw_tbl[1317]? = some (.code (yN 161) (yC 161) (yL 161) (yR 161)) := by rfl
set_option maxRecDepth 100000 in
theorem yb162 : lw_tbl[1329]? = some (.code (yN 162) (yC 162) (yL 162) (yR 162)) := by rfl
set_option maxRecDepth 100000 in
theorem yb163 : lw_tbl[1309]? = some (.code (yN 163) (yC 163) (yL 163) (yR 163)) := by rfl
set_option maxRecDepth 100000 in
theorem yb164 : lw_tbl[1356]? = some (.code (yN 164) (yC 164) (yL 164) (yR 164)) := by rfl
set_option maxRecDepth 100000 in
theorem yb165 : lw_tbl[1321]? = some (.code (yN 165) (yC 165) (yL 165) (yR 165)) := by rfl
set_option maxRecDepth 100000 in
theorem yb166 : lw_tbl[1306]? = some (.code (yN 166) (yC 166) (yL 166) (yR 166)) := by rfl
set_option maxRecDepth 100000 in
theorem yb167 : lw_tbl[1325]? = some (.code (yN 167) (yC 167) (yL 167) (yR 167)) := by rfl
set_option maxRecDepth 100000 in
theorem yb168 : lw_tbl[1333]? = some (.code (yN 168) (yC 168) (yL 168) (yR 168)) := by rfl
set_option maxRecDepth 100000 in
theorem yb169 : lw_tbl[1337]? = some (.code (yN 169) (yC 169) (yL 169) (yR 169)) := by rfl
set_option maxRecDepth 100000 in
theorem yb170 : lw_tbl[1345]? = some (.code (yN 170) (yC 170) (yL 170) (yR 170)) := by rfl
set_option maxRecDepth 100000 in
theorem yb171 : lw_tbl[1341]? = some (.code (yN 171) (yC 171) (yL 171) (yR 171)) := by rfl
set_option maxRecDepth 100000 in
theorem yb172 : lw_tbl[1349]? = some (.code (yN 172) (yC 172) (yL 172) (yR 172)) := by rfl
set_option maxRecDepth 100000 in
theorem yb173 : lw_tbl[1353]? = some (.code (yN 173) (yC 173) (yL 173) (yR 173)) := by rfl
set_option maxRecDepth 100000 in
theorem yb174 : lw_tbl[1361]? = some (.code (yN 174) (yC 174) (yL 174) (yR 174)) := by rfl
set_option maxRecDepth 100000 in
theorem yb175 : lw_tbl[1373]? = some (.code (yN 175) (yC 175) (yL 175) (yR 175)) := by rfl
set_option maxRecDepth 100000 in
theorem yb176 : lw_tbl[1389]? = some (.code (yN 176) (yC 176) (yL 176) (yR 176)) := by rfl
set_option maxRecDepth 100000 in
theorem yb177 : lw_tbl[1396]? = some (.code (yN 177) (yC 177) (yL 177) (yR 177)) := by rfl
set_option maxRecDepth 100000 in
theorem yb178 : lw_tbl[1400]? = some (.code (yN 178) (yC 178) (yL 178) (yR 178)) := by rfl
set_option maxRecDepth 100000 in
theorem yb179 : lw_tbl[1385]? = some (.code (yN 179) (yC 179) (yL 179) (yR 179)) := by rfl
set_option maxRecDepth 100000 in
theorem yb180 : lw_tbl[1381]? = some (.code (yN 180) (yC 180) (yL 180) (yR 180)) := by rfl
set_option maxRecDepth 100000 in
theorem yb181 : lw_tbl[1393]? = some (.code (yN 181) (yC 181) (yL 181) (yR 181)) := by rfl
set_option maxRecDepth 100000 in
theorem yb182 : lw_tbl[1377]? = some (.code (yN 182) (yC 182) (yL 182) (yR 182)) := by rfl
set_option maxRecDepth 100000 in
theorem yb183 : lw_tbl[1369]? = some (.code (yN 183) (yC 183) (yL 183) (yR 183)) := by rfl
set_option maxRecDepth 100000 in
theorem yb184 : lw_tbl[1365]? = some (.code (yN 184) (yC 184) (yL 184) (yR 184)) := by rfl
set_option maxRecDepth 100000 in
theorem yb185 : lw_tbl[1406]? = some (.code (yN 185) (yC 185) (yL 185) (yR 185)) := by rfl
set_option maxRecDepth 100000 in
theorem yb186 : lw_tbl[1414]? = some (.code (yN 186) (yC 186) (yL 186) (yR 186)) := by rfl
set_option maxRecDepth 100000 in
theorem yb187 : lw_tbl[1445]? = some (.code (yN 187) (yC 187) (yL 187) (yR 187)) := by rfl
set_option maxRecDepth 100000 in
theorem yb188 : lw_tbl[1468]? = some (.code (yN 188) (yC 188) (yL 188) (yR 188)) := by rfl
set_option maxRecDepth 100000 in
theorem yb189 : lw_tbl[1426]? = some (.code (yN 189) (yC 189) (yL 189) (yR 189)) := by rfl
set_option maxRecDepth 100000 in
theorem yb190 : lw_tbl[1422]? = some (.code (yN 190) (yC 190) (yL 190) (yR 190)) := by rfl
set_option maxRecDepth 100000 in
theorem yb191 : lw_tbl[1433]? = some (.code (yN 191) (yC 191) (yL 191) (yR 191)) := by rfl
set_option maxRecDepth 100000 in
theorem yb192 : lw_tbl[1437]? = some (.code (yN 192) (yC 192) (yL 192) (yR 192)) := by rfl
set_option maxRecDepth 100000 in
theorem yb193 : lw_tbl[1418]? = some (.code (yN 193) (yC 193) (yL 193) (yR 193)) := by rfl
set_option maxRecDepth 100000 in
theorem yb194 : lw_tbl[1410]? = some (.code (yN 194) (yC 194) (yL 194) (yR 194)) := by rfl
set_option maxRecDepth 100000 in
theorem yb195 : lw_tbl[1449]? = some (.code (yN 195) (yC 195) (yL 195) (yR 195)) := by rfl
set_option maxRecDepth 100000 in
theorem yb196 : lw_tbl[1441]? = some (.code (yN 196) (yC 196) (yL 196) (yR 196)) := by rfl
set_option maxRecDepth 100000 in
theorem yb197 : lw_tbl[1457]? = some (.code (yN 197) (yC 197) (yL 197) (yR 197)) := by rfl
set_option maxRecDepth 100000 in
theorem yb198 : lw_tbl[1453]? = some (.code (yN 198) (yC 198) (yL 198) (yR 198)) := by rfl
set_option maxRecDepth 100000 in
theorem yb199 : lw_tbl[1464]? = some (.code (yN 199) (yC 199) (yL 199) (yR 199)) := by rfl
set_option maxRecDepth 100000 in
theorem yb200 : lw_tbl[1472]? = some (.code (yN 200) (yC 200) (yL 200) (yR 200)) := by rfl
set_option maxRecDepth 100000 in
theorem yb201 : lw_tbl[1476]? = some (.code (yN 201) (yC 201) (yL 201) (yR 201)) := by rfl
set_option maxRecDepth 100000 in
theorem yb202 : lw_tbl[1480]? = some (.code (yN 202) (yC 202) (yL 202) (yR 202)) := by rfl
set_option maxRecDepth 100000 in
theorem yb203 : lw_tbl[1488]? = some (.code (yN 203) (yC 203) (yL 203) (yR 203)) := by rfl
set_option maxRecDepth 100000 in
theorem yb204 : lw_tbl[1500]? = some (.code (yN 204) (yC 204) (yL 204) (yR 204)) := by rfl
set_option maxRecDepth 100000 in
theorem yb205 : lw_tbl[1496]? = some (.code (yN 205) (yC 205) (yL 205) (yR 205)) := by rfl
set_option maxRecDepth 100000 in
theorem yb206 : lw_tbl[1492]? = some (.code (yN 206) (yC 206) (yL 206) (yR 206)) := by rfl
set_option maxRecDepth 100000 in
theorem yb207 : lw_tbl[1520]? = some (.code (yN 207) (yC 207) (yL 207) (yR 207)) := by rfl
set_option maxRecDepth 100000 in
theorem yb208 : lw_tbl[1516]? = some (.code (yN 208) (yC 208) (yL 208) (yR 208)) := by rfl
set_option maxRecDepth 100000 in
theorem yb209 : lw_tbl[1549]? = some (.code (yN 209) (yC 209) (yL 209) (yR 209)) := by rfl
set_option maxRecDepth 100000 in
theorem yb210 : lw_tbl[1545]? = some (.code (yN 210) (yC 210) (yL 210) (yR 210)) := by rfl
set_option maxRecDepth 100000 in
theorem yb211 : lw_tbl[1484]? = some (.code (yN 211) (yC 211) (yL 211) (yR 211)) := by rfl
set_option maxRecDepth 100000 in
theorem yb212 : lw_tbl[1504]? = some (.code (yN 212) (yC 212) (yL 212) (yR 212)) := by rfl
set_option maxRecDepth 100000 in
theorem yb213 : lw_tbl[1512]? = some (.code (yN 213) (yC 213) (yL 213) (yR 213)) := by rfl
set_option maxRecDepth 100000 in
theorem yb214 : lw_tbl[1508]? = some (.code (yN 214) (yC 214) (yL 214) (yR 214)) := by rfl
set_option maxRecDepth 100000 in
theorem yb215 : lw_tbl[1524]? = some (.code (yN 215) (yC 215) (yL 215) (yR 215)) := by rfl
set_option maxRecDepth 100000 in
theorem yb216 : lw_tbl[1528]? = some (.code (yN 216) (yC 216) (yL 216) (yR 216)) := by rfl
set_option maxRecDepth 100000 in
theorem yb217 : lw_tbl[1532]? = some (.code (yN 217) (yC 217) (yL 217) (yR 217)) := by rfl
set_option maxRecDepth 100000 in
theorem yb218 : lw_tbl[1537]? = some (.code (yN 218) (yC 218) (yL 218) (yR 218)) := by rfl
set_option maxRecDepth 100000 in
theorem yb219 : lw_tbl[1541]? = some (.code (yN 219) (yC 219) (yL 219) (yR 219)) := by rfl
set_option maxRecDepth 100000 in
theorem yb220 : lw_tbl[1556]? = some (.code (yN 220) (yC 220) (yL 220) (yR 220)) := by rfl
set_option maxRecDepth 100000 in
theorem yb221 : lw_tbl[1553]? = some (.code (yN 221) (yC 221) (yL 221) (yR 221)) := by rfl
set_option maxRecDepth 100000 in
theorem yb222 : lw_tbl[1560]? = some (.code (yN 222) (yC 222) (yL 222) (yR 222)) := by rfl
set_option maxRecDepth 100000 in
theorem yb223 : lw_tbl[1568]? = some (.code (yN 223) (yC 223) (yL 223) (yR 223)) := by rfl
set_option maxRecDepth 100000 in
theorem yb224 : lw_tbl[1564]? = some (.code (yN 224) (yC 224) (yL 224) (yR 224)) := by rfl
set_option maxRecDepth 100000 in
theorem yb225 : lw_tbl[1572]? = some (.code (yN 225) (yC 225) (yL 225) (yR 225)) := by rfl
set_option maxRecDepth 100000 in
theorem yb226 : lw_tbl[1576]? = some (.code (yN 226) (yC 226) (yL 226) (yR 226)) := by rfl
set_option maxRecDepth 100000 in
theorem yb227 : lw_tbl[1580]? = some (.code (yN 227) (yC 227) (yL 227) (yR 227)) := by rfl
set_option maxRecDepth 100000 in
theorem yb228 : lw_tbl[1589]? = some (.code (yN 228) (yC 228) (yL 228) (yR 228)) := by rfl
set_option maxRecDepth 100000 in
theorem yb229 : lw_tbl[1585]? = some (.code (yN 229) (yC 229) (yL 229) (yR 229)) := by rfl
set_option maxRecDepth 100000 in
theorem yb230 : lw_tbl[1597]? = some (.code (yN 230) (yC 230) (yL 230) (yR 230)) := by rfl
set_option maxRecDepth 100000 in
theorem yb231 : lw_tbl[1601]? = some (.code (yN 231) (yC 231) (yL 231) (yR 231)) := by rfl
set_option maxRecDepth 100000 in
theorem yb232 : lw_tbl[1593]? = some (.code (yN 232) (yC 232) (yL 232) (yR 232)) := by rfl
set_option maxRecDepth 100000 in
theorem yb233 : lw_tbl[1605]? = some (.code (yN 233) (yC 233) (yL 233) (yR 233)) := by rfl
set_option maxRecDepth 100000 in
theorem yb234 : lw_tbl[1632]? = some (.code (yN 234) (yC 234) (yL 234) (yR 234)) := by rfl
set_option maxRecDepth 100000 in
theorem yb235 : lw_tbl[1629]? = some (.code (yN 235) (yC 235) (yL 235) (yR 235)) := by rfl
set_option maxRecDepth 100000 in
theorem yb236 : lw_tbl[1621]? = some (.code (yN 236) (yC 236) (yL 236) (yR 236)) := by rfl
set_option maxRecDepth 100000 in
theorem yb237 : lw_tbl[1640]? = some (.code (yN 237) (yC 237) (yL 237) (yR 237)) := by rfl
set_option maxRecDepth 100000 in
theorem yb238 : lw_tbl[1636]? = some (.code (yN 238) (yC 238) (yL 238) (yR 238)) := by rfl
set_option maxRecDepth 100000 in
theorem yb239 : lw_tbl[1617]? = some (.code (yN 239) (yC 239) (yL 239) (yR 239)) := by rfl
set_option maxRecDepth 100000 in
theorem yb240 : lw_tbl[1625]? = some (.code (yN 240) (yC 240) (yL 240) (yR 240)) := by rfl
set_option maxRecDepth 100000 in
theorem yb241 : lw_tbl[1613]? = some (.code (yN 241) (yC 241) (yL 241) (yR 241)) := by rfl
set_option maxRecDepth 100000 in
theorem yb242 : lw_tbl[1609]? = some (.code (yN 242) (yC 242) (yL 242) (yR 242)) := by rfl
set_option maxRecDepth 100000 in
theorem yb243 : lw_tbl[1644]? = some (.code (yN 243) (yC 243) (yL 243) (yR 243)) := by rfl
set_option maxRecDepth 100000 in
theorem yb244 : lw_tbl[1648]? = some (.code (yN 244) (yC 244) (yL 244) (yR 244)) := by rfl
set_option maxRecDepth 100000 in
theorem yb245 : lw_tbl[1656]? = some (.code (yN 245) (yC 245) (yL 245) (yR 245)) := by rfl
set_option maxRecDepth 100000 in
theorem yb246 : lw_tbl[1660]? = some (.code (yN 246) (yC 246) (yL 246) (yR 246)) := by rfl
set_option maxRecDepth 100000 in
theorem yb247 : lw_tbl[1664]? = some (.code (yN 247) (yC 247) (yL 247) (yR 247)) := by rfl
set_option maxRecDepth 100000 in
theorem yb248 : lw_tbl[1668]? = some (.code (yN 248) (yC 248) (yL 248) (yR 248)) := by rfl
set_option maxRecDepth 100000 in
theorem yb249 : lw_tbl[1672]? = some (.code (yN 249) (yC 249) (yL 249) (yR 249)) := by rfl
set_option maxRecDepth 100000 in
theorem yb250 : lw_tbl[1676]? = some (.code (yN 250) (yC 250) (yL 250) (yR 250)) := by rfl
set_option maxRecDepth 100000 in
theorem yb251 : lw_tbl[1680]? = some (.code (yN 251) (yC 251) (yL 251) (yR 251)) := by rfl
set_option maxRecDepth 100000 in
theorem yb252 : lw_tbl[1693]? = some (.code (yN 252) (yC 252) (yL 252) (yR 252)) := by rfl
set_option maxRecDepth 100000 in
theorem yb253 : lw_tbl[1697]? = some (.code (yN 253) (yC 253) (yL 253) (yR 253)) := by rfl
set_option maxRecDepth 100000 in
theorem yb254 : lw_tbl[1689]? = some (.code (yN 254) (yC 254) (yL 254) (yR 254)) := by rfl
set_option maxRecDepth 100000 in
theorem yb255 : lw_tbl[1684]? = some (.code (yN 255) (yC 255) (yL 255) (yR 255)) := by rfl
set_option maxRecDepth 100000 in
theorem yb256 : lw_tbl[1701]? = some (.code (yN 256) (yC 256) (yL 256) (yR 256)) := by rfl
set_option maxRecDepth 100000 in
theorem yb257 : lw_tbl[1705]? = some (.code (yN 257) (yC 257) (yL 257) (yR 257)) := by rfl
set_option maxRecDepth 100000 in
theorem yb258 : lw_tbl[1714]? = some (.code (yN 258) (yC 258) (yL 258) (yR 258)) := by rfl
set_option maxRecDepth 100000 in
theorem yb259 : lw_tbl[1709]? = some (.code (yN 259) (yC 259) (yL 259) (yR 259)) := by rfl
set_option maxRecDepth 100000 in
theorem yb260 : lw_tbl[1042]? = some (.code (yN 260) (yC 260) (yL 260) (yR 260)) := by rfl
set_option maxRecDepth 100000 in
theorem yb261 : lw_tbl[662]? = some (.code (yN 261) (yC 261) (yL 261) (yR 261)) := by rfl
set_option maxRecDepth 100000 in
theorem yb262 : lw_tbl[501]? = some (.code (yN 262) (yC 262) (yL 262) (yR 262)) := by rfl
set_option maxRecDepth 100000 in
theorem yb263 : lw_tbl[941]? = some (.code (yN 263) (yC 263) (yL 263) (yR 263)) := by rfl
set_option maxRecDepth 100000 in
theorem yb264 : lw_tbl[498]? = some (.code (yN 264) (yC 264) (yL 264) (yR 264)) := by rfl
theorem Y_one {y p : Nat} (h : chkY y = true) (h2 : lw_tbl[p]? = some (.code (yN y) (yC y) (yL y) (yR y))) : Yok y := chkY_ok h (lwG_of h2 (by first | rfl | simp [goodWord, Cond.onTables, Cond.keeps, Cond.steady]))
theorem yc0 : ∀ y ∈ ([0, 1, 2, 3, 4, 5, 6, 7, 8, 9, 10, 11, 12, 13, 14, 15, 16, 17, 18, 19] : List Nat), Yok y := List.forall_mem_cons.mpr ⟨Y_one ya0 yb0, List.forall_mem_cons.mpr ⟨Y_one ya1 yb1, List.forall_mem_cons.mpr ⟨Y_one ya2 yb2, List.forall_mem_cons.mpr ⟨Y_one ya3 yb3, List.forall_mem_cons.mpr ⟨Y_one ya4 yb4, List.forall_mem_cons.mpr ⟨Y_one ya5 yb5, List.forall_mem_cons.mpr ⟨Y_one ya6 yb6, List.forall_mem_cons.mpr ⟨Y_one ya7 yb7, List.forall_mem_cons.mpr ⟨Y_one ya8 yb8, List.forall_mem_cons.mpr ⟨Y_one ya9 yb9, List.forall_mem_cons.mpr ⟨Y_one ya10 yb10, List.forall_mem_cons.mpr ⟨Y_one ya11 yb11, List.forall_mem_cons.mpr ⟨Y_one ya12 yb12, List.forall_mem_cons.mpr ⟨Y_one ya13 yb13, List.forall_mem_cons.mpr ⟨Y_one ya14 yb14, List.forall_mem_cons.mpr ⟨Y_one ya15 yb15, List.forall_mem_cons.mpr ⟨Y_one ya16 yb16, List.forall_mem_cons.mpr ⟨Y_one ya17 yb17, List.forall_mem_cons.mpr ⟨Y_one ya18 yb18, List.forall_mem_cons.mpr ⟨Y_one ya19 yb19, List.forall_mem_nil _⟩⟩⟩⟩⟩⟩⟩⟩⟩⟩⟩⟩⟩⟩⟩⟩⟩⟩⟩⟩
theorem yc20 : ∀ y ∈ ([20, 21, 22, 23, 24, 25, 26, 27, 28, 29, 30, 31, 32, 33, 34, 35, 36, 37, 38, 39] : List Nat), Yok y := List.forall_mem_cons.mpr ⟨Y_one ya20 yb20, List.forall_mem_cons.mpr ⟨Y_one ya21 yb21, List.forall_mem_cons.mpr ⟨Y_one ya22 yb22, List.forall_mem_cons.mpr ⟨Y_one ya23 yb23, List.forall_mem_cons.mpr ⟨Y_one ya24 yb24, List.forall_mem_cons.mpr ⟨Y_one ya25 yb25, List.forall_mem_cons.mpr ⟨Y_one ya26 yb26, List.forall_mem_cons.mpr ⟨Y_one ya27 yb27, List.forall_mem_cons.mpr ⟨Y_one ya28 yb28, List.forall_mem_cons.mpr ⟨Y_one ya29 yb29, List.forall_mem_cons.mpr ⟨Y_one ya30 yb30, List.forall_mem_cons.mpr ⟨Y_one ya31 yb31, List.forall_mem_cons.mpr ⟨Y_one ya32 yb32, List.forall_mem_cons.mpr ⟨Y_one ya33 yb33, List.forall_mem_cons.mpr ⟨Y_one ya34 yb34, List.forall_mem_cons.mpr ⟨Y_one ya35 yb35, List.forall_mem_cons.mpr ⟨Y_one ya36 yb36, List.forall_mem_cons.mpr ⟨Y_one ya37 yb37, List.forall_mem_cons.mpr ⟨Y_one ya38 yb38, List.forall_mem_cons.mpr ⟨Y_one ya39 yb39, List.forall_mem_nil _⟩⟩⟩⟩⟩⟩⟩⟩⟩⟩⟩⟩⟩⟩⟩⟩⟩⟩⟩⟩
theorem yc40 : ∀ y ∈ ([40, 41, 42, 43, 44, 45, 46, 47, 48, 49, 50, 51, 52, 53, 54, 55, 56, 57, 58, 59] : List Nat), Yok y := List.forall_mem_cons.mpr ⟨Y_one ya40 yb40, List.forall_mem_cons.mpr ⟨Y_one ya41 yb41, List.forall_mem_cons.mpr ⟨Y_one ya42 yb42, List.forall_mem_cons.mpr ⟨Y_one ya43 yb43, List.forall_mem_cons.mpr ⟨Y_one ya44 yb44, List.forall_mem_cons.mpr ⟨Y_one ya45 yb45, List.forall_mem_cons.mpr ⟨Y_one ya46 yb46, List.forall_mem_cons.mpr ⟨Y_one ya47 yb47, List.forall_mem_cons.mpr ⟨Y_one ya48 yb48, List.forall_mem_cons.mpr ⟨Y_one ya49 yb49, List.forall_mem_cons.mpr ⟨Y_one ya50 yb50, List.forall_mem_cons.mpr ⟨Y_one ya51 yb51, List.forall_mem_cons.mpr ⟨Y_one ya52 yb52, List.forall_mem_cons.mpr ⟨Y_one ya53 yb53, List.forall_mem_cons.mpr ⟨Y_one ya54 yb54, List.forall_mem_cons.mpr ⟨Y_one ya55 yb55, List.forall_mem_cons.mpr ⟨Y_one ya56 yb56, List.forall_mem_cons.mpr ⟨Y_one ya57 yb57, List.forall_mem_cons.mpr ⟨Y_one ya58 yb58, List.forall_mem_cons.mpr ⟨Y_one ya59 yb59, List.forall_mem_nil _⟩⟩⟩⟩⟩⟩⟩⟩⟩⟩⟩⟩⟩⟩⟩⟩⟩⟩⟩⟩
theorem yc60 : ∀ y ∈ ([60, 61, 62, 63, 64, 65, 66, 67, 68, 69, 70, 71, 72, 73, 74, 75, 76, 77, 78, 79] : List Nat), Yok y := List.forall_mem_cons.mpr ⟨Y_one ya60 yb60, List.forall_mem_cons.mpr ⟨Y_one ya61 yb61, List.forall_mem_cons.mpr ⟨Y_one ya62 yb62, List.forall_mem_cons.mpr ⟨Y_one ya63 yb63, List.forall_mem_cons.mpr ⟨Y_one ya64 yb64, List.forall_mem_cons.mpr ⟨Y_one ya65 yb65, List.forall_mem_cons.mpr ⟨Y_one ya66 yb66, List.forall_mem_cons.mpr ⟨Y_one ya67 yb67, List.forall_mem_cons.mpr ⟨Y_one ya68 yb68, List.forall_mem_cons.mpr ⟨Y_one ya69 yb69, List.forall_mem_cons.mpr ⟨Y_one ya70 yb70, List.forall_mem_cons.mpr ⟨Y_one ya71 yb71, List.forall_mem_cons.mpr ⟨Y_one ya72 yb72, List.forall_mem_cons.mpr ⟨Y_one ya73 yb73, List.forall_mem_cons.mpr ⟨Y_one ya74 yb74, List.forall_mem_cons.mpr ⟨Y_one ya75 yb75, List.forall_mem_cons.mpr ⟨Y_one ya76 yb76, List.forall_mem_cons.mpr ⟨Y_one ya77 yb77, List.forall_mem_cons.mpr ⟨Y_one ya78 yb78, List.forall_mem_cons.mpr ⟨Y_one ya79 yb79, List.forall_mem_nil _⟩⟩⟩⟩⟩⟩⟩⟩⟩⟩⟩⟩⟩⟩⟩⟩⟩⟩⟩⟩
theorem yc80 : ∀ y ∈ ([80, 81, 82, 83, 84, 85, 86, 87, 88, 89, 90, 91, 92, 93, 94, 95, 96, 97, 98, 99] : List Nat), Yok y := List.forall_mem_cons.mpr ⟨Y_one ya80 yb80, List.forall_mem_cons.mpr ⟨Y_one ya81 yb81, List.forall_mem_cons.mpr ⟨Y_one ya82 yb82, List.forall_mem_cons.mpr ⟨Y_one ya83 yb83, List.forall_mem_cons.mpr ⟨Y_one ya84 yb84, List.forall_mem_cons.mpr ⟨Y_one ya85 yb85, List.forall_mem_cons.mpr ⟨Y_one ya86 yb86, List.forall_mem_cons.mpr ⟨Y_one ya87 yb87, List.forall_mem_cons.mpr ⟨Y_one ya88 yb88, List.forall_mem_cons.mpr ⟨Y_one ya89 yb89, List.forall_mem_cons.mpr ⟨Y_one ya90 yb90, List.forall_mem_cons.mpr ⟨Y_one ya91 yb91, List.forall_mem_cons.mpr ⟨Y_one ya92 yb92, List.forall_mem_cons.mpr ⟨Y_one ya93 yb93, List.forall_mem_cons.mpr ⟨Y_one ya94 yb94, List.forall_mem_cons.mpr ⟨Y_one ya95 yb95, List.forall_mem_cons.mpr ⟨Y_one ya96 yb96, List.forall_mem_cons.mpr ⟨Y_one ya97 yb97, List.forall_mem_cons.mpr ⟨Y_one ya98 yb98, List.forall_mem_cons.mpr ⟨Y_one ya99 yb99, List.forall_mem_nil _⟩⟩⟩⟩⟩⟩⟩⟩⟩⟩⟩⟩⟩⟩⟩⟩⟩⟩⟩⟩
theorem yc100 : ∀ y ∈ ([100, 101, 102, 103, 104, 105, 106, 107, 108, 109, 110, 111, 112, 113, 114, 115, 116, 117, 118, 119] : List Nat), Yok y := List.forall_mem_cons.mpr ⟨Y_one ya100 yb100, List.forall_mem_cons.mpr ⟨Y_one ya101 yb101, List.forall_mem_cons.mpr ⟨Y_one ya102 yb102, List.forall_mem_cons.mpr ⟨Y_one ya103 yb103, List.forall_mem_cons.mpr ⟨Y_one ya104 yb104, List.forall_mem_cons.mpr ⟨Y_one ya105 yb105, List.forall_mem_cons.mpr ⟨Y_one ya106 yb106, List.forall_mem_cons.mpr ⟨Y_one ya107 yb107, List.forall_mem_cons.mpr ⟨Y_one ya108 yb108, List.forall_mem_cons.mpr ⟨Y_one ya109 yb109, List.forall_mem_cons.mpr ⟨Y_one ya110 yb110, List.forall_mem_cons.mpr ⟨Y_one ya111 yb111, List.forall_mem_cons.mpr ⟨Y_one ya112 yb112, List.forall_mem_cons.mpr ⟨Y_one ya113 yb113, List.forall_mem_cons.mpr ⟨Y_one ya114 yb114, List.forall_mem_cons.mpr ⟨Y_one ya115 yb115, List.forall_mem_cons.mpr ⟨Y_one ya116 yb116, List.forall_mem_cons.mpr ⟨Y_one ya117 yb117, List.forall_mem_cons.mpr ⟨Y_one ya118 yb118, List.forall_mem_cons.mpr ⟨Y_one ya119 yb119, List.forall_mem_nil _⟩⟩⟩⟩⟩⟩⟩⟩⟩⟩⟩⟩⟩⟩⟩⟩⟩⟩⟩⟩
theorem yc120 : ∀ y ∈ ([120, 121, 122, 123, 124, 125, 126, 127, 128, 129, 130, 131, 132, 133, 134, 135, 136, 137, 138, 139] : List Nat), Yok y := List.forall_mem_cons.mpr ⟨Y_one ya120 yb120, List.forall_mem_cons.mpr ⟨Y_one ya121 yb121, List.forall_mem_cons.mpr ⟨Y_one ya122 yb122, List.forall_mem_cons.mpr ⟨Y_one ya123 yb123, List.forall_mem_cons.mpr ⟨Y_one ya124 yb124, List.forall_mem_cons.mpr ⟨Y_one ya125 yb125, List.forall_mem_cons.mpr ⟨Y_one ya126 yb126, List.forall_mem_cons.mpr ⟨Y_one ya127 yb127, List.forall_mem_cons.mpr ⟨Y_one ya128 yb128, List.forall_mem_cons.mpr ⟨Y_one ya129 yb129, List.forall_mem_cons.mpr ⟨Y_one ya130 yb130, List.forall_mem_cons.mpr ⟨Y_one ya131 yb131, List.forall_mem_cons.mpr ⟨Y_one ya132 yb132, List.forall_mem_cons.mpr ⟨Y_one ya133 yb133, List.forall_mem_cons.mpr ⟨Y_one ya134 yb134, List.forall_mem_cons.mpr ⟨Y_one ya135 yb135, List.forall_mem_cons.mpr ⟨Y_one ya136 yb136, List.forall_mem_cons.mpr ⟨Y_one ya137 yb137, List.forall_mem_cons.mpr ⟨Y_one ya138 yb138, List.forall_mem_cons.mpr ⟨Y_one ya139 yb139, List.forall_mem_nil _⟩⟩⟩⟩⟩⟩⟩⟩⟩⟩⟩⟩⟩⟩⟩⟩⟩⟩⟩⟩
theorem yc140 : ∀ y ∈ ([140, 141, 142, 143, 144, 145, 146, 147, 148, 149, 150, 151, 152, 153, 154, 155, 156, 157, 158, 159] : List Nat), Yok y := List.forall_mem_cons.mpr ⟨Y_one ya140 yb140, List.forall_mem_cons.mpr ⟨Y_one ya141 yb141, List.forall_mem_cons.mpr ⟨Y_one ya142 yb142, List.forall_mem_cons.mpr ⟨Y_one ya143 yb143, List.forall_mem_cons.mpr ⟨Y_one ya144 yb144, List.forall_mem_cons.mpr ⟨Y_one ya145 yb145, List.forall_mem_cons.mpr ⟨Y_one ya146 yb146, List.forall_mem_cons.mpr ⟨Y_one ya147 yb147, List.forall_mem_cons.mpr ⟨Y_one ya148 yb148, List.forall_mem_cons.mpr ⟨Y_one ya149 yb149, List.forall_mem_cons.mpr ⟨Y_one ya150 yb150, List.forall_mem_cons.mpr ⟨Y_one ya151 yb151, List.forall_mem_cons.mpr ⟨Y_one ya152 yb152, List.forall_mem_cons.mpr ⟨Y_one ya153 yb153, List.forall_mem_cons.mpr ⟨Y_one ya154 yb154, List.forall_mem_cons.mpr ⟨Y_one ya155 yb155, List.forall_mem_cons.mpr ⟨Y_one ya156 yb156, List.forall_mem_cons.mpr ⟨Y_one ya157 yb157, List.forall_mem_cons.mpr ⟨Y_one ya158 yb158, List.forall_mem_cons.mpr ⟨Y_one ya159 yb159, List.forall_mem_nil _⟩⟩⟩⟩⟩⟩⟩⟩⟩⟩⟩⟩⟩⟩⟩⟩⟩⟩⟩⟩
theorem yc160 : ∀ y ∈ ([160, 161, 162, 163, 164, 165, 166, 167, 168, 169, 170, 171, 172, 173, 174, 175, 176, 177, 178, 179] : List Nat), Yok y := List.forall_mem_cons.mpr ⟨Y_one ya160 yb160, List.forall_mem_cons.mpr ⟨Y_one ya161 yb161, List.forall_mem_cons.mpr ⟨Y_one ya162 yb162, List.forall_mem_cons.mpr ⟨Y_one ya163 yb163, List.forall_mem_cons.mpr ⟨Y_one ya164 yb164, List.forall_mem_cons.mpr ⟨Y_one ya165 yb165, List.forall_mem_cons.mpr ⟨Y_one ya166 yb166, List.forall_mem_cons.mpr ⟨Y_one ya167 yb167, List.forall_mem_cons.mpr ⟨Y_one ya168 yb168, List.forall_mem_cons.mpr ⟨Y_one ya169 yb169, List.forall_mem_cons.mpr ⟨Y_one ya170 yb170, List.forall_mem_cons.mpr ⟨Y_one ya171 yb171, List.forall_mem_cons.mpr ⟨Y_one ya172 yb172, List.forall_mem_cons.mpr ⟨Y_one ya173 yb173, List.forall_mem_cons.mpr ⟨Y_one ya174 yb174, List.forall_mem_cons.mpr ⟨Y_one ya175 yb175, List.forall_mem_cons.mpr ⟨Y_one ya176 yb176, List.forall_mem_cons.mpr ⟨Y_one ya177 yb177, List.forall_mem_cons.mpr ⟨Y_one ya178 yb178, List.forall_mem_cons.mpr ⟨Y_one ya179 yb179, List.forall_mem_nil _⟩⟩⟩⟩⟩⟩⟩⟩⟩⟩⟩⟩⟩⟩⟩⟩⟩⟩⟩⟩
theorem yc180 : ∀ y ∈ ([180, 181, 182, 183, 184, 185, 186, 187, 188, 189, 190, 191, 192, 193, 194, 195, 196, 197, 198, 199] : List Nat), Yok y := List.forall_mem_cons.mpr ⟨Y_one ya180 yb180, List.forall_mem_cons.mpr ⟨Y_one ya181 yb181, List.forall_mem_cons.mpr ⟨Y_one ya182 yb182, List.forall_mem_cons.mpr ⟨Y_one ya183 yb183, List.forall_mem_cons.mpr ⟨Y_one ya184 yb184, List.forall_mem_cons.mpr ⟨Y_one ya185 yb185, List.forall_mem_cons.mpr ⟨Y_one ya186 yb186, List.forall_mem_cons.mpr ⟨Y_one ya187 yb187, List.forall_mem_cons.mpr ⟨Y_one ya188 yb188, List.forall_mem_cons.mpr ⟨Y_one ya189 yb189, List.forall_mem_cons.mpr ⟨Y_one ya190 yb190, List.forall_mem_cons.mpr ⟨Y_one ya191 yb191, List.forall_mem_cons.mpr ⟨Y_one ya192 yb192, List.forall_mem_cons.mpr ⟨Y_one ya193 yb193, List.forall_mem_cons.mpr ⟨Y_one ya194 yb194, List.forall_mem_cons.mpr ⟨Y_one ya195 yb195, List.forall_mem_cons.mpr ⟨Y_one ya196 yb196, List.forall_mem_cons.mpr ⟨Y_one ya197 yb197, List.forall_mem_cons.mpr ⟨Y_one ya198 yb198, List.forall_mem_cons.mpr ⟨Y_one ya199 yb199, List.forall_mem_nil _⟩⟩⟩⟩⟩⟩⟩⟩⟩⟩⟩⟩⟩⟩⟩⟩⟩⟩⟩⟩
theorem yc200 : ∀ y ∈ ([200, 201, 202, 203, 204, 205, 206, 207, 208, 209, 210, 211, 212, 213, 214, 215, 216, 217, 218, 219] : List Nat), Yok y := List.forall_mem_cons.mpr ⟨Y_one ya200 yb200, List.forall_mem_cons.mpr ⟨Y_one ya201 yb201, List.forall_mem_cons.mpr ⟨Y_one ya202 yb202, List.forall_mem_cons.mpr ⟨Y_one ya203 yb203, List.forall_mem_cons.mpr ⟨Y_one ya204 yb204, List.forall_mem_cons.mpr ⟨Y_one ya205 yb205, List.forall_mem_cons.mpr ⟨Y_one ya206 yb206, List.forall_mem_cons.mpr ⟨Y_one ya207 yb207, List.forall_mem_cons.mpr ⟨Y_one ya208 yb208, List.forall_mem_cons.mpr ⟨Y_one ya209 yb209, List.forall_mem_cons.mpr ⟨Y_one ya210 yb210, List.forall_mem_cons.mpr ⟨Y_one ya211 yb211, List.forall_mem_cons.mpr ⟨Y_one ya212 yb212, List.forall_mem_cons.mpr ⟨Y_one ya213 yb213, List.forall_mem_cons.mpr ⟨Y_one ya214 yb214, List.forall_mem_cons.mpr ⟨Y_one ya215 yb215, List.forall_mem_cons.mpr ⟨Y_one ya216 yb216, List.forall_mem_cons.mpr ⟨Y_one ya217 yb217, List.forall_mem_cons.mpr ⟨Y_one ya218 yb218, List.forall_mem_cons.mpr ⟨Y_one ya219 yb219, List.forall_mem_nil _⟩⟩⟩⟩⟩⟩⟩⟩⟩⟩⟩⟩⟩⟩⟩⟩⟩⟩⟩⟩
theorem yc220 : ∀ y ∈ ([220, 221, 222, 223, 224, 225, 226, 227, 228, 229, 230, 231, 232, 233, 234, 235, 236, 237, 238, 239] : List Nat), Yok y := List.forall_mem_cons.mpr ⟨Y_one ya220 yb220, List.forall_mem_cons.mpr ⟨Y_one ya221 yb221, List.forall_mem_cons.mpr ⟨Y_one ya222 yb222, List.forall_mem_cons.mpr ⟨Y_one ya223 yb223, List.forall_mem_cons.mpr ⟨Y_one ya224 yb224, List.forall_mem_cons.mpr ⟨Y_one ya225 yb225, List.forall_mem_cons.mpr ⟨Y_one ya226 yb226, List.forall_mem_cons.mpr ⟨Y_one ya227 yb227, List.forall_mem_cons.mpr ⟨Y_one ya228 yb228, List.forall_mem_cons.mpr ⟨Y_one ya229 yb229, List.forall_mem_cons.mpr ⟨Y_one ya230 yb230, List.forall_mem_cons.mpr ⟨Y_one ya231 yb231, List.forall_mem_cons.mpr ⟨Y_one ya232 yb232, List.forall_mem_cons.mpr ⟨Y_one ya233 yb233, List.forall_mem_cons.mpr ⟨Y_one ya234 yb234, List.forall_mem_cons.mpr ⟨Y_one ya235 yb235, List.forall_mem_cons.mpr ⟨Y_one ya236 yb236, List.forall_mem_cons.mpr ⟨Y_one ya237 yb237, List.forall_mem_cons.mpr ⟨Y_one ya238 yb238, List.forall_mem_cons.mpr ⟨Y_one ya239 yb239, List.forall_mem_nil _⟩⟩⟩⟩⟩⟩⟩⟩⟩⟩⟩⟩⟩⟩⟩⟩⟩⟩⟩⟩
theorem yc240 : ∀ y ∈ ([240, 241, 242, 243, 244, 245, 246, 247, 248, 249, 250, 251, 252, 253, 254, 255, 256, 257, 258, 259] : List Nat), Yok y := List.forall_mem_cons.mpr ⟨Y_one ya240 yb240, List.forall_mem_cons.mpr ⟨Y_one ya241 yb241, List.forall_mem_cons.mpr ⟨Y_one ya242 yb242, List.forall_mem_cons.mpr ⟨Y_one ya243 yb243, List.forall_mem_cons.mpr ⟨Y_one ya244 yb244, List.forall_mem_cons.mpr ⟨Y_one ya245 yb245, List.forall_mem_cons.mpr ⟨Y_one ya246 yb246, List.forall_mem_cons.mpr ⟨Y_one ya247 yb247, List.forall_mem_cons.mpr ⟨Y_one ya248 yb248, List.forall_mem_cons.mpr ⟨Y_one ya249 yb249, List.forall_mem_cons.mpr ⟨Y_one ya250 yb250, List.forall_mem_cons.mpr ⟨Y_one ya251 yb251, List.forall_mem_cons.mpr ⟨Y_one ya252 yb252, List.forall_mem_cons.mpr ⟨Y_one ya253 yb253, List.forall_mem_cons.mpr ⟨Y_one ya254 yb254, List.forall_mem_cons.mpr ⟨Y_one ya255 yb255, List.forall_mem_cons.mpr ⟨Y_one ya256 yb256, List.forall_mem_cons.mpr ⟨Y_one ya257 yb257, List.forall_mem_cons.mpr ⟨Y_one ya258 yb258, List.forall_mem_cons.mpr ⟨Y_one ya259 yb259, List.forall_mem_nil _⟩⟩⟩⟩⟩⟩⟩⟩⟩⟩⟩⟩⟩⟩⟩⟩⟩⟩⟩⟩
theorem yc260 : ∀ y ∈ ([260, 261, 262, 263, 264] : List Nat), Yok y := List.forall_mem_cons.mpr ⟨Y_one ya260 yb260, List.forall_mem_cons.mpr ⟨Y_one ya261 yb261, List.forall_mem_cons.mpr ⟨Y_one ya262 yb262, List.forall_mem_cons.mpr ⟨Y_one ya263 yb263, List.forall_mem_cons.mpr ⟨Y_one ya264 yb264, List.forall_mem_nil _⟩⟩⟩⟩⟩
theorem Y_ok {y : Nat} (h : y < NMT) : Yok y := by
  by_cases h0 : y < 20
  · exact yc0 y (by simp only [List.mem_cons, List.not_mem_nil, or_false]; omega)
  by_cases h20 : y < 40
  · exact yc20 y (by simp only [List.mem_cons, List.not_mem_nil, or_false]; omega)
  by_cases h40 : y < 60
  · exact yc40 y (by simp only [List.mem_cons, List.not_mem_nil, or_false]; omega)
  by_cases h60 : y < 80
  · exact yc60 y (by simp only [List.mem_cons, List.not_mem_nil, or_false]; omega)
  by_cases h80 : y < 100
  · exact yc80 y (by simp only [List.mem_cons, List.not_mem_nil, or_false]; omega)
  by_cases h100 : y < 120
  · exact yc100 y (by simp only [List.mem_cons, List.not_mem_nil, or_false]; omega)
  by_cases h120 : y < 140
  · exact yc120 y (by simp only [List.mem_cons, List.not_mem_nil, or_false]; omega)
  by_cases h140 : y < 160
  · exact yc140 y (by simp only [List.mem_cons, List.not_mem_nil, or_false]; omega)
  by_cases h160 : y < 180
  · exact yc160 y (by simp only [List.mem_cons, List.not_mem_nil, or_false]; omega)
  by_cases h180 : y < 200
  · exact yc180 y (by simp only [List.mem_cons, List.not_mem_nil, or_false]; omega)
  by_cases h200 : y < 220
  · exact yc200 y (by simp only [List.mem_cons, List.not_mem_nil, or_false]; omega)
  by_cases h220 : y < 240
  · exact yc220 y (by simp only [List.mem_cons, List.not_mem_nil, or_false]; omega)
  by_cases h240 : y < 260
  · exact yc240 y (by simp only [List.mem_cons, List.not_mem_nil, or_false]; omega)
  have h9 : y < 265 := h
  exact yc260 y (by simp only [List.mem_cons, List.not_mem_nil, or_false]; omega)
/-- classes: their fields' words, names, types -/
def Cok (c : Nat) : Prop := ∀ (C : String) (T : u_T) (N : Nat), vwCl[c]? = some (C, T, N) → clN c = N ∧ (∀ w ∈ u_ws C T N, w ∈ lwG) ∧ (∀ k, k < N → parseFieldDescriptor (T k).2.2.1 = some (clT c k)) ∧ (∀ a, a < N → ∀ b, b < N → a ≠ b → (T a).2.1 ≠ (T b).2.1)
def chkU (q : vw_C) : Bool := (u_ws q.1 q.2.1 q.2.2).all (fun w => decide (w ∈ lw_tbl) && goodWord w)
set_option maxRecDepth 100000 in
theorem U_all : vwCl.all chkU = true := by decide +kernel
theorem C_u {q : vw_C} (h : q ∈ vwCl) : ∀ w ∈ u_ws q.1 q.2.1 q.2.2, w ∈ lwG := by
  intro w hw
  have h2 := List.all_eq_true.mp (List.all_eq_true.mp U_all q h) w hw
  simp only [Bool.and_eq_true, decide_eq_true_eq] at h2
  exact List.mem_filter.mpr h2
theorem C_ok (c : Nat) : Cok c := by
  intro C T N h
  have hu := C_u (List.mem_of_getElem? h)
  match c, h with
  | 0, h => cases h; exact ⟨rfl, hu, tyX0_ok, nmX0⟩
  | 1, h => cases h; exact ⟨rfl, hu, tyX1_ok, nmX1⟩
  | 2, h => cases h; exact ⟨rfl, hu, tyX2_ok, nmX2⟩
  | 3, h => cases h; exact ⟨rfl, hu, tyX3_ok, nmX3⟩
  | 4, h => cases h; exact ⟨rfl, hu, tyX4_ok, nmX4⟩
  | 5, h => cases h; exact ⟨rfl, hu, tyX5_ok, nmX5⟩
  | 6, h => cases h; exact ⟨rfl, hu, tyX6_ok, nmX6⟩
  | 7, h => cases h; exact ⟨rfl, hu, tyX7_ok, nmX7⟩
  | 8, h => cases h; exact ⟨rfl, hu, tyX8_ok, nmX8⟩
  | 9, h => cases h; exact ⟨rfl, hu, tyX9_ok, nmX9⟩
  | 10, h => cases h; exact ⟨rfl, hu, tyX10_ok, nmX10⟩
  | 11, h => cases h; exact ⟨rfl, hu, tyX11_ok, nmX11⟩
  | n + 12, h => simp [vwCl] at h
set_option maxRecDepth 100000 in
theorem lw_fix : ([Cond.instanceMethod objectInit, .native arraycopyName, .static arraycopyName, .initialized "java/lang/System", .arrayClass .int, .arrayClass .long, .arrayClass .boolean]).all (fun w => decide (w ∈ lw_tbl) && goodWord w) = true := by decide +kernel
theorem lw_in {w : Cond} (h : w ∈ ([Cond.instanceMethod objectInit, .native arraycopyName, .static arraycopyName, .initialized "java/lang/System", .arrayClass .int, .arrayClass .long, .arrayClass .boolean] : List Cond)) : w ∈ lwG := by
  have h2 := List.all_eq_true.mp lw_fix w h
  simp only [Bool.and_eq_true, decide_eq_true_eq] at h2
  exact List.mem_filter.mpr h2
set_option maxRecDepth 100000 in
theorem lw_obj : Cond.code objectInit ⟨#[0xb1]⟩ 1 none ∈ lwG := lwG_of (p := 161) (by decide +kernel) (by decide +kernel)
theorem lw_cg {p : Nat} {n : MethodName} {b : ByteArray} {k : Nat} {r : Option FieldType} (h : lw_tbl[p]? = some (.code n b k r)) : Cond.code n b k r ∈ lwG := lwG_of h (by first | rfl | simp [goodWord, Cond.onTables, Cond.keeps, Cond.steady])
set_option maxRecDepth 100000 in
theorem lw_math : Cond.code Lib.Math.max.name Lib.Math.max.code 2 (some .int) ∈ lwG ∧ Cond.code Lib.MathLoose.max_long.x Lib.MathLoose.max_long.code 4 (some .long) ∈ lwG ∧ Cond.code Lib.Math.min.name Lib.Math.min.code 2 (some .int) ∈ lwG := ⟨lw_cg (p := 719) (by decide +kernel), lw_cg (p := 1006) (by decide +kernel), lw_cg (p := 834) (by decide +kernel)⟩
set_option maxRecDepth 100000 in
theorem lw_mfix : ([Cond.static Lib.Math.max.name, .static Lib.MathLoose.max_long.x, .static Lib.Math.min.name, .initialized "java/lang/Math"]).all (fun w => decide (w ∈ lw_tbl) && goodWord w) = true := by decide +kernel
theorem lw_min {w : Cond} (h : w ∈ ([Cond.static Lib.Math.max.name, .static Lib.MathLoose.max_long.x, .static Lib.Math.min.name, .initialized "java/lang/Math"] : List Cond)) : w ∈ lwG := by
  have h2 := List.all_eq_true.mp lw_mfix w h
  simp only [Bool.and_eq_true, decide_eq_true_eq] at h2
  exact List.mem_filter.mpr h2
end
section
/-! WP: what must hold so that the machine goes on well from a place, computed from the code. -/
def pI (st : List Value) (K : Int32 → List Value → Prop) : Prop := match st with
  | .int x :: r => K x r
  | _ => False
def pII (st : List Value) (K : Int32 → Int32 → List Value → Prop) : Prop := match st with
  | .int y :: .int x :: r => K x y r
  | _ => False
def pJ (st : List Value) (K : Int64 → List Value → Prop) : Prop := match st with
  | .long x :: r => K x r
  | _ => False
def pJJ (st : List Value) (K : Int64 → Int64 → List Value → Prop) : Prop := match st with
  | .long y :: .long x :: r => K x y r
  | _ => False
def pIJ (st : List Value) (K : Int64 → Int32 → List Value → Prop) : Prop := match st with
  | .int y :: .long x :: r => K x y r
  | _ => False
def pR (st : List Value) (K : Nat → List Value → Prop) : Prop := match st with
  | .ref a :: r => K a r
  | _ => False
def pIR (st : List Value) (K : Int32 → Nat → List Value → Prop) : Prop := match st with
  | .int i :: .ref a :: r => K i a r
  | _ => False
def pIIR (st : List Value) (K : Int32 → Int32 → Nat → List Value → Prop) : Prop := match st with
  | .int x :: .int i :: .ref a :: r => K x i a r
  | _ => False
def pJIR (st : List Value) (K : Int64 → Int32 → Nat → List Value → Prop) : Prop := match st with
  | .long x :: .int i :: .ref a :: r => K x i a r
  | _ => False
def pRIR (st : List Value) (K : Nat → Int32 → Nat → List Value → Prop) : Prop := match st with
  | .ref x :: .int i :: .ref a :: r => K x i a r
  | _ => False
def pVR (st : List Value) (K : Value → Nat → List Value → Prop) : Prop := match st with
  | v :: .ref a :: r => K v a r
  | _ => False
def pCp (st : List Value) (K : Int32 → Int32 → Nat → Int32 → Nat → List Value → Prop) : Prop := match st with
  | .int n :: .int dp :: .ref a :: .int sp :: .ref a0 :: r => K n dp a sp a0 r
  | _ => False
def cOne (v : Value) (P : Prop) : Prop := match v with
  | .long _ => False
  | .double _ => False
  | _ => P
def pV (st : List Value) (K : Value → List Value → Prop) : Prop := match st with
  | v :: r => cOne v (K v r)
  | [] => False
def pDup2 (st : List Value) (K : List Value → Prop) : Prop := match st with
  | .long x :: r => K (.long x :: .long x :: r)
  | .int x :: .int y :: r => K (.int x :: .int y :: .int x :: .int y :: r)
  | .int x :: .ref y :: r => K (.int x :: .ref y :: .int x :: .ref y :: r)
  | _ => False
def getL : List Value → Nat → (Value → Prop) → Prop
  | [], _, _ => False
  | a :: _, 0, K => K a
  | _ :: l, i + 1, K => getL l i K
def setL : List Value → Nat → Value → (List Value → Prop) → Prop
  | [], _, _, _ => False
  | _ :: l, 0, v, K => K (v :: l)
  | a :: l, i + 1, v, K => setL l i v (fun l' => K (a :: l'))
def lowL (L : List Value) (i : Nat) (P : Prop) : Prop := match i with
  | 0 => P
  | j + 1 => getL L j (fun v => cOne v P)
def st1 (L : List Value) (i : Nat) (v : Value) (K : List Value → Prop) : Prop := lowL L i (setL L i v K)
def st2 (L : List Value) (i : Nat) (v : Value) (K : List Value → Prop) : Prop := lowL L i (setL L i v (fun L' => setL L' (i + 1) dm K))
def upI (I : Nat → Nat → Int32) (r k : Nat) (x : Int32) : Nat → Nat → Int32 := fun r' k' => if r' = r ∧ k' = k then x else I r' k'
def upL (I : Nat → Nat → Int64) (r k : Nat) (x : Int64) : Nat → Nat → Int64 := fun r' k' => if r' = r ∧ k' = k then x else I r' k'
def zrI (I : Nat → Nat → Int32) (r : Nat) : Nat → Nat → Int32 := fun r' k' => if r' = r then 0 else I r' k'
def zrL (I : Nat → Nat → Int64) (r : Nat) : Nat → Nat → Int64 := fun r' k' => if r' = r then 0 else I r' k'
def cpI (I : Nat → Nat → Int32) (a0 a sp dp n : Nat) : Nat → Nat → Int32 := fun r' k' => if r' = a ∧ dp ≤ k' ∧ k' < dp + n then I a0 (sp + (k' - dp)) else I r' k'
def jrem (x y : Int32) : Int32 := x - x / y * y
def jremL (x y : Int64) : Int64 := x - x / y * y
def jshl (x y : Int32) : Int32 := x <<< (y &&& 31)
def jshr (x y : Int32) : Int32 := x >>> (y &&& 31)
def jushr (x y : Int32) : Int32 := (x.toUInt32 >>> (y.toUInt32 &&& Int32.toUInt32 31)).toInt32
def jushrL (x : Int64) (y : Int32) : Int64 := (x.toUInt64 >>> (y.toInt64.toUInt64 &&& Int64.toUInt64 63)).toInt64
def jshlL (x : Int64) (y : Int32) : Int64 := x <<< (y.toInt64 &&& 63)
def jmax (x y : Int32) : Int32 := if x < y then y else x
def jmin (x y : Int32) : Int32 := if y < x then y else x
def jmaxL (x y : Int64) : Int64 := if y < x then x else y
def i2b (x : Int32) : Int32 := x.toInt8.toInt32
def gA (sh : SHL) (r : Nat) (K : Nat → Nat → List (Option Nat) → Prop) : Prop := match sh[r]? with
  | some q => K q.1 q.2.1 q.2.2
  | none => False
def cB (b : Bool) (P : Prop) : Prop := match b with
  | true => P
  | false => False
def oS (o : Option Nat) (K : Nat → Prop) : Prop := match o with
  | some a => K a
  | none => False
def fV (σ : MH) (r ci k : Nat) (refs : List (Option Nat)) (K : Value → Prop) : Prop := match clT ci k with
  | .long => K (.long (σ.2.2 r k))
  | .object _ => oS (refs.getD k none) (fun a => K (.ref a))
  | .array _ => oS (refs.getD k none) (fun a => K (.ref a))
  | .int => K (.int (σ.2.1 r k))
  | .boolean => K (.int (σ.2.1 r k))
  | _ => False
def fPr (σ : MH) (r ci k n : Nat) (refs : List (Option Nat)) (v : Value) (K : MH → Prop) : Prop := match v with
  | .ref a => K (σ.1.set r (ci, n, refs.set k (some a)), σ.2.1, σ.2.2)
  | _ => False
def fP (σ : MH) (r ci k n : Nat) (refs : List (Option Nat)) (v : Value) (K : MH → Prop) : Prop := match clT ci k with
  | .int => (match v with
    | .int x => K (σ.1, upI σ.2.1 r k x, σ.2.2)
    | _ => False)
  | .boolean => (match v with
    | .int x => (x = 0 ∨ x = 1) ∧ K (σ.1, upI σ.2.1 r k x, σ.2.2)
    | _ => False)
  | .long => (match v with
    | .long x => K (σ.1, σ.2.1, upL σ.2.2 r k x)
    | _ => False)
  | .object _ => cB (Nat.blt k refs.length) (fPr σ r ci k n refs v K)
  | .array _ => cB (Nat.blt k refs.length) (fPr σ r ci k n refs v K)
  | _ => False
def finF (ci k : Nat) : Bool := ((vwCl.getD ci (RX0, TX0, 0)).2.1 k).2.2.2
def finOK (y ci k : Nat) : Bool := match finF ci k with
  | false => true
  | true => Nat.beq (yK y) 2 && Nat.beq (yO y) ci
def cats : List Value → Nat
  | [] => 0
  | v :: l => v.category + cats l
def takeA : Nat → List Value → List Value → (List Value → List Value → Prop) → Prop
  | 0, st, acc, K => K acc st
  | n + 1, v :: st, acc, K => takeA n st (v :: acc) K
  | _ + 1, [], _, _ => False
def cnd (c : ClassFile.Cond) (x y : Int32) (A B : Prop) : Prop := match c with
  | .eq => (x = y → A) ∧ (¬ x = y → B)
  | .ne => (¬ x = y → A) ∧ (x = y → B)
  | .lt => (x < y → A) ∧ (¬ x < y → B)
  | .ge => (y ≤ x → A) ∧ (¬ y ≤ x → B)
  | .gt => (y < x → A) ∧ (¬ y < x → B)
  | .le => (x ≤ y → A) ∧ (¬ x ≤ y → B)
def swc (x : Int32) (K : Nat → Prop) (df : Nat) : List (Int32 × Nat) → Prop
  | [] => K df
  | (v, t) :: l => (x = v → K t) ∧ (¬ x = v → swc x K df l)
def cmpT (t : Nat) : Nat := match t with
  | 15 => 0
  | 16 => 7
  | _ => 8
def sp4 (a : Nat) (A B C D E : Prop) : Prop := match Nat.beq a 1001 with
  | true => A
  | false => match Nat.beq a 1002 with
    | true => B
    | false => match Nat.beq a 1003 with
      | true => C
      | false => match Nat.beq a 1004 with
        | true => D
        | false => E
abbrev KT : Type := Nat → Nat → List Value → List Value → MH → Prop
def tagNew (a : ArrayType) : Nat := match a with
  | .int => 12
  | .long => 13
  | .boolean => 14
  | _ => 99
def callC (G : GG) (y d k n pc : Nat) (L : List Value) (σ : MH) (Q : Option Value → MH → Prop) (y' : Nat) (A rest : List Value) : Prop :=
  cB (Nat.ble (cats rest) 8) (cB (Nat.blt y' NMT) (match yK y' with
    | 2 => (k + yMc y' ≤ yMc y ∧ n + yMs y' ≤ yMs y) ∧ MT G d y' A σ (fun v σ' => EV G y d (k + yMc y') (n + yMs y') (pc + 3) L (v.toList ++ rest) σ' Q)
    | _ => cB (Nat.beq (yMc y') 0 && Nat.beq (yMs y') 0) (True ∧ MT G d y' A σ (fun v σ' => EV G y d k n (pc + 3) L (v.toList ++ rest) σ' Q))))
def stp (G : GG) (y d : Nat) (ce : CE) (nx : KT) (jp : Nat → KT) (k n : Nat) (L st : List Value) (σ : MH) (Q : Option Value → MH → Prop) : Prop :=
  match ce.2.1 with
  | .iconst _ | .bipush _ | .sipush _ | .ldc _ | .ldc_w _ => (match ce.2.2.2.2.2.1 with
    | .int x => nx k n L (.int x :: st) σ
    | _ => False)
  | .lconst _ | .ldc2_w _ => (match ce.2.2.2.2.2.1 with
    | .long x => nx k n L (.long x :: st) σ
    | _ => False)
  | .iload_n j => getL L j (fun v => match v with
    | .int x => nx k n L (.int x :: st) σ
    | _ => False)
  | .iload j => getL L j (fun v => match v with
    | .int x => nx k n L (.int x :: st) σ
    | _ => False)
  | .lload_n j => getL L j (fun v => match v with
    | .long x => nx k n L (.long x :: st) σ
    | _ => False)
  | .lload j => getL L j (fun v => match v with
    | .long x => nx k n L (.long x :: st) σ
    | _ => False)
  | .aload_n j => getL L j (fun v => match v with
    | .ref x => nx k n L (.ref x :: st) σ
    | _ => False)
  | .aload j => getL L j (fun v => match v with
    | .ref x => nx k n L (.ref x :: st) σ
    | _ => False)
  | .istore_n j => pI st (fun x r => st1 L j (.int x) (fun L' => nx k n L' r σ))
  | .istore j => pI st (fun x r => st1 L j (.int x) (fun L' => nx k n L' r σ))
  | .lstore_n j => pJ st (fun x r => st2 L j (.long x) (fun L' => nx k n L' r σ))
  | .lstore j => pJ st (fun x r => st2 L j (.long x) (fun L' => nx k n L' r σ))
  | .astore_n j => pR st (fun x r => st1 L j (.ref x) (fun L' => nx k n L' r σ))
  | .astore j => pR st (fun x r => st1 L j (.ref x) (fun L' => nx k n L' r σ))
  | .iinc j _ => getL L j (fun v => match v, ce.2.2.2.2.2.1 with
    | .int x, .int c => st1 L j (.int (x + c)) (fun L' => nx k n L' st σ)
    | _, _ => False)
  | .iadd => pII st (fun x y r => nx k n L (.int (x + y) :: r) σ)
  | .isub => pII st (fun x y r => nx k n L (.int (x - y) :: r) σ)
  | .imul => pII st (fun x y r => nx k n L (.int (x * y) :: r) σ)
  | .iand => pII st (fun x y r => nx k n L (.int (x &&& y) :: r) σ)
  | .ior => pII st (fun x y r => nx k n L (.int (x ||| y) :: r) σ)
  | .ixor => pII st (fun x y r => nx k n L (.int (x ^^^ y) :: r) σ)
  | .ishl => pII st (fun x y r => nx k n L (.int (jshl x y) :: r) σ)
  | .ishr => pII st (fun x y r => nx k n L (.int (jshr x y) :: r) σ)
  | .iushr => pII st (fun x y r => nx k n L (.int (jushr x y) :: r) σ)
  | .idiv => pII st (fun x y r => (¬ y = 0) ∧ nx k n L (.int (x / y) :: r) σ)
  | .irem => pII st (fun x y r => (¬ y = 0) ∧ nx k n L (.int (jrem x y) :: r) σ)
  | .ineg => pI st (fun x r => nx k n L (.int (-x) :: r) σ)
  | .i2l => pI st (fun x r => nx k n L (.long x.toInt64 :: r) σ)
  | .i2b => pI st (fun x r => nx k n L (.int (i2b x) :: r) σ)
  | .l2i => pJ st (fun x r => nx k n L (.int x.toInt32 :: r) σ)
  | .ladd => pJJ st (fun x y r => nx k n L (.long (x + y) :: r) σ)
  | .lsub => pJJ st (fun x y r => nx k n L (.long (x - y) :: r) σ)
  | .lmul => pJJ st (fun x y r => nx k n L (.long (x * y) :: r) σ)
  | .lor => pJJ st (fun x y r => nx k n L (.long (x ||| y) :: r) σ)
  | .ldiv => pJJ st (fun x y r => (¬ y = 0) ∧ nx k n L (.long (x / y) :: r) σ)
  | .lrem => pJJ st (fun x y r => (¬ y = 0) ∧ nx k n L (.long (jremL x y) :: r) σ)
  | .lshl => pIJ st (fun x y r => nx k n L (.long (jshlL x y) :: r) σ)
  | .lushr => pIJ st (fun x y r => nx k n L (.long (jushrL x y) :: r) σ)
  | .lcmp => pJJ st (fun x y r => nx k n L (.int (lg_cmp x y) :: r) σ)
  | .dup => pV st (fun v r => nx k n L (v :: v :: r) σ)
  | .pop => pV st (fun _ r => nx k n L r σ)
  | .dup2 => pDup2 st (fun r => nx k n L r σ)
  | .goto _ => jp ce.2.2.2.1 k n L st σ
  | .ifCond c _ => pI st (fun x r => cnd c x 0 (jp ce.2.2.2.1 k n L r σ) (nx k n L r σ))
  | .if_icmp c _ => pII st (fun x y r => cnd c x y (jp ce.2.2.2.1 k n L r σ) (nx k n L r σ))
  | .tableswitch _ _ _ _ => pI st (fun x r => swc x (fun t => jp t k n L r σ) ce.2.2.2.1 ce.2.2.2.2.2.2)
  | .lookupswitch _ _ => pI st (fun x r => swc x (fun t => jp t k n L r σ) ce.2.2.2.1 ce.2.2.2.2.2.2)
  | .getstatic _ => nx k n L (.ref ce.2.2.2.1 :: st) σ
  | .getfield _ => pR st (fun a r => gA σ.1 a (fun t _ refs => cB (Nat.beq t ce.2.2.2.1) (fV σ a ce.2.2.2.1 ce.2.2.2.2.1 refs (fun v => nx k n L (v :: r) σ))))
  | .putfield _ => pVR st (fun v a r => gA σ.1 a (fun t n' refs => cB (Nat.beq t ce.2.2.2.1) (cB (finOK y ce.2.2.2.1 ce.2.2.2.2.1) (fP σ a ce.2.2.2.1 ce.2.2.2.2.1 n' refs v (fun σ' => nx k n L r σ')))))
  | .iaload => pIR st (fun i a r => gA σ.1 a (fun t n' _ => cB (Nat.beq t 12 || Nat.beq t 20) (vp_in i n' ∧ nx k n L (.int (σ.2.1 a i.toNatClampNeg) :: r) σ)))
  | .baload => pIR st (fun i a r => gA σ.1 a (fun t n' _ => cB (Nat.beq t 14) (vp_in i n' ∧ nx k n L (.int (σ.2.1 a i.toNatClampNeg) :: r) σ)))
  | .laload => pIR st (fun i a r => gA σ.1 a (fun t n' _ => cB (Nat.beq t 13) (vp_in i n' ∧ nx k n L (.long (σ.2.2 a i.toNatClampNeg) :: r) σ)))
  | .aaload => pIR st (fun i a r => gA σ.1 a (fun t n' refs => cB (Nat.ble 15 t && Nat.ble t 17) (vp_in i n' ∧ oS (refs.getD i.toNatClampNeg none) (fun b => nx k n L (.ref b :: r) σ))))
  | .iastore => pIIR st (fun x i a r => gA σ.1 a (fun t n' _ => cB (Nat.beq t 12) (vp_in i n' ∧ nx k n L r (σ.1, upI σ.2.1 a i.toNatClampNeg x, σ.2.2))))
  | .bastore => pIIR st (fun x i a r => gA σ.1 a (fun t n' _ => cB (Nat.beq t 14) ((vp_in i n' ∧ (x = 0 ∨ x = 1)) ∧ nx k n L r (σ.1, upI σ.2.1 a i.toNatClampNeg x, σ.2.2))))
  | .lastore => pJIR st (fun x i a r => gA σ.1 a (fun t n' _ => cB (Nat.beq t 13) (vp_in i n' ∧ nx k n L r (σ.1, σ.2.1, upL σ.2.2 a i.toNatClampNeg x))))
  | .aastore => pRIR st (fun b i a r => gA σ.1 a (fun t n' refs => cB (Nat.ble 15 t && Nat.ble t 17) (gA σ.1 b (fun t2 _ _ => cB (Nat.beq t2 (cmpT t)) (cB (Nat.beq refs.length n') (vp_in i n' ∧ nx k n L r (σ.1.set a (t, n', refs.set i.toNatClampNeg (some b)), σ.2.1, σ.2.2)))))))
  | .arraylength => pR st (fun a r => gA σ.1 a (fun t n' _ => cB (Nat.ble 12 t) (nx k n L (.int (Int32.ofNat n') :: r) σ)))
  | .new _ => cB (Nat.blt ce.2.2.2.1 12) ((k + 1 ≤ yMc y ∧ n + clN ce.2.2.2.1 ≤ yMs y) ∧ nx (k + 1) (n + clN ce.2.2.2.1) L (.ref σ.1.length :: st) (σ.1 ++ [(ce.2.2.2.1, clN ce.2.2.2.1, List.replicate (clN ce.2.2.2.1) none)], zrI σ.2.1 σ.1.length, zrL σ.2.2 σ.1.length))
  | .newarray a => pI st (fun x r => cB (Nat.blt (tagNew a) 18) ((¬ x < 0 ∧ x.toNatClampNeg ≤ 65536 ∧ k + 1 ≤ yMc y ∧ n + x.toNatClampNeg ≤ yMs y) ∧ nx (k + 1) (n + x.toNatClampNeg) L (.ref σ.1.length :: r) (σ.1 ++ [(tagNew a, x.toNatClampNeg, [])], zrI σ.2.1 σ.1.length, zrL σ.2.2 σ.1.length)))
  | .anewarray _ => pI st (fun x r => (¬ x < 0 ∧ x.toNatClampNeg ≤ 65536 ∧ k + 1 ≤ yMc y ∧ n + x.toNatClampNeg ≤ yMs y) ∧ nx (k + 1) (n + x.toNatClampNeg) L (.ref σ.1.length :: r) (σ.1 ++ [(ce.2.2.2.1, x.toNatClampNeg, List.replicate x.toNatClampNeg none)], zrI σ.2.1 σ.1.length, zrL σ.2.2 σ.1.length))
  | .invokespecial _ => (match Nat.beq ce.2.2.2.1 1000 with
    | true => pR st (fun _ r => cB (Nat.ble (cats r) 8) (nx k n L r σ))
    | false => cB (Nat.beq (yK ce.2.2.2.1) 2) (takeA (yNp ce.2.2.2.1) st [] (fun A r => pR r (fun b r' => callC G y d k n ce.1 L σ Q ce.2.2.2.1 (.ref b :: A) r'))))
  | .invokevirtual _ => cB (Nat.beq (yK ce.2.2.2.1) 1) (takeA (yNp ce.2.2.2.1) st [] (fun A r => pR r (fun b r' => gA σ.1 b (fun t _ _ => cB (Nat.beq t (yO ce.2.2.2.1)) (callC G y d k n ce.1 L σ Q ce.2.2.2.1 (.ref b :: A) r')))))
  | .invokestatic _ => sp4 ce.2.2.2.1
      (pCp st (fun m dp a sp a0 r => gA σ.1 a0 (fun t0 n0 _ => gA σ.1 a (fun t1 n1 _ => cB (Nat.beq t0 12 && (Nat.beq t1 12 && Nat.ble (cats r) 8))
        ((¬ sp < 0 ∧ ¬ dp < 0 ∧ ¬ m < 0 ∧ sp.toNatClampNeg + m.toNatClampNeg ≤ n0 ∧ dp.toNatClampNeg + m.toNatClampNeg ≤ n1) ∧ nx k n L r (σ.1, cpI σ.2.1 a0 a sp.toNatClampNeg dp.toNatClampNeg m.toNatClampNeg, σ.2.2))))))
      (pII st (fun x y r => cB (Nat.ble (cats r) 8) (nx k n L (.int (jmax x y) :: r) σ)))
      (pJJ st (fun x y r => cB (Nat.ble (cats r) 8) (nx k n L (.long (jmaxL x y) :: r) σ)))
      (pII st (fun x y r => cB (Nat.ble (cats r) 8) (nx k n L (.int (jmin x y) :: r) σ)))
      (cB (Nat.beq (yK ce.2.2.2.1) 0) (takeA (yNp ce.2.2.2.1) st [] (fun A r => callC G y d k n ce.1 L σ Q ce.2.2.2.1 A r)))
  | .ireturn => (match st with
    | [.int x] => (match yR y with
      | some .boolean => (x = 0 ∨ x = 1) ∧ Q (some (.int x)) σ
      | some .int => True ∧ Q (some (.int x)) σ
      | _ => False)
    | _ => False)
  | .lreturn => (match st with
    | [.long x] => (match yR y with
      | some .long => True ∧ Q (some (.long x)) σ
      | _ => False)
    | _ => False)
  | .return_ => (match st with
    | [] => (match yR y with
      | none => True ∧ Q none σ
      | _ => False)
    | _ => False)
  | _ => False
def pcH (rem : List CE) : Nat := match rem with
  | ce :: _ => ce.1
  | [] => 0
def inN (x : Nat) : List Nat → Bool
  | [] => false
  | a :: l => Nat.beq x a || inN x l
def findC : List CE → Nat → (List CE → Prop) → Prop
  | [], _, _ => False
  | ce :: l, t, K => match Nat.beq ce.1 t with
    | true => K (ce :: l)
    | false => findC l t K
def leaf (G : GG) (y d : Nat) (Q : Option Value → MH → Prop) (pc : Nat) : KT := fun k n L st σ => True ∧ EV G y d k n pc L st σ Q
def nxK (G : GG) (y d : Nat) (Q : Option Value → MH → Prop) (cuts : List Nat) (W0 : List CE → KT) (pc len : Nat) (rem' : List CE) : KT := fun k n L st σ =>
  match inN (pc + len) cuts with
  | true => True ∧ EV G y d k n (pc + len) L st σ Q
  | false => cB (Nat.beq (pcH rem') (pc + len)) (W0 rem' k n L st σ)
def jpK (G : GG) (y d : Nat) (Q : Option Value → MH → Prop) (cuts : List Nat) (C : List CE) (W0 : List CE → KT) (pc : Nat) : Nat → KT := fun t k n L st σ =>
  match Nat.ble t pc || inN t cuts with
  | true => True ∧ EV G y d k n t L st σ Q
  | false => findC C t (fun r => W0 r k n L st σ)
def wp (G : GG) (y d : Nat) (Q : Option Value → MH → Prop) (cuts : List Nat) (C : List CE) : Nat → List CE → KT
  | 0, rem, k, n, L, st, σ => True ∧ EV G y d k n (pcH rem) L st σ Q
  | f + 1, rem, k, n, L, st, σ => match rem with
    | [] => False
    | ce :: rem' => stp G y d ce (nxK G y d Q cuts (wp G y d Q cuts C f) ce.1 ce.2.2.1 rem') (jpK G y d Q cuts C (wp G y d Q cuts C f) ce.1) k n L st σ Q
end
section
/-! WP is sound: each instruction by the kit's row. -/
def okI (o pc : Nat) (i : Instr) (len a1 a2 : Nat) (val : Value) (sw : List (Int32 × Nat)) : Bool := match i with
  | .iconst n => len == 1 && decide (val = .int (Int32.ofInt n))
  | .bipush n => len == 2 && decide (val = .int (Int8.ofInt n).toInt32)
  | .sipush n => len == 3 && decide (val = .int (Int16.ofInt n).toInt32)
  | .lconst n => len == 1 && decide (val = .long (Int64.ofNat (n : Nat)))
  | .ldc i => len == 2 && (decide (val = .null) || (CL o).any (fun q => q.1 == i && decide (q.2.1 = val)))
  | .ldc_w i => len == 3 && (decide (val = .null) || (CL o).any (fun q => q.1 == i && decide (q.2.1 = val)))
  | .ldc2_w i => len == 3 && (decide (val = .null) || (CL o).any (fun q => q.1 == i && decide (q.2.1 = val)))
  | .iload _ => len == 2
  | .lload _ => len == 2
  | .aload _ => len == 2
  | .istore _ => len == 2
  | .lstore _ => len == 2
  | .astore _ => len == 2
  | .iinc _ c => len == 3 && decide (val = .int (Int32.ofInt c))
  | .goto off => len == 3 && decide ((pc : Int) + off = (a1 : Int))
  | .ifCond _ off => len == 3 && decide ((pc : Int) + off = (a1 : Int))
  | .if_icmp _ off => len == 3 && decide ((pc : Int) + off = (a1 : Int))
  | .tableswitch dflt lo hi offs => decide ((pc : Int) + dflt = (a1 : Int)) && (sw.all (fun q => decide (¬ q.1.toInt < lo) && (decide (¬ hi < q.1.toInt) && decide ((offs[(q.1.toInt - lo).toNat]?).map (fun z => (pc : Int) + z) = some (q.2 : Int)))) &&
      ((List.range (hi - lo + 1).toNat).all (fun j => sw.any (fun q => decide (q.1.toInt = lo + (j : Int))) || decide ((offs[j]?).map (fun z => (pc : Int) + z) = some (a1 : Int))) && (decide (-2147483648 ≤ lo) && decide (hi ≤ 2147483647))))
  | .lookupswitch dflt ps => decide ((pc : Int) + dflt = (a1 : Int)) && (decide ((ps.toList.zip (ps.toList.drop 1)).all (fun (a, next) => a.1 < next.1) = true) && decide (sw.map (fun q => (q.1.toInt, (q.2 : Int) - (pc : Int))) = ps.toList))
  | .getstatic i => len == 3 && (SL o).any (fun q => q.1 == i && q.2.1 == a1)
  | .getfield i => len == 3 && (FL o).any (fun q => q.1 == i && (q.2.1 == a1 && q.2.2.1 == a2))
  | .putfield i => len == 3 && (FL o).any (fun q => q.1 == i && (q.2.1 == a1 && q.2.2.1 == a2))
  | .new i => len == 3 && (Nat.ble 12 a1 || (NL o).any (fun q => q.1 == i && q.2.1 == a1))
  | .newarray _ => len == 2
  | .anewarray i => len == 3 && (AL o).any (fun q => q.1 == i && q.2.1 == a1)
  | .invokevirtual i => len == 3 && (a1 == 2000 || (ML o).any (fun q => q.1 == i && q.2.1 == a1))
  | .invokestatic i => len == 3 && (a1 == 2000 || (ML o).any (fun q => q.1 == i && q.2.1 == a1))
  | .invokespecial i => len == 3 && (a1 == 2000 || (ML o).any (fun q => q.1 == i && q.2.1 == a1))
  | _ => len == 1
def okB (o : Nat) (cc : ByteArray) (ce : CE) : Bool := decide (decode cc ce.1 = .ok (ce.2.1, ce.2.2.1)) && okI o ce.1 ce.2.1 ce.2.2.1 ce.2.2.2.1 ce.2.2.2.2.1 ce.2.2.2.2.2.1 ce.2.2.2.2.2.2
-- ===== the pops
theorem pI_s {st : List Value} {K : Int32 → List Value → Prop} (h : pI st K) : ∃ (x : Int32) (r : List Value), st = .int x :: r ∧ K x r := by
  unfold pI at h
  split at h
  · exact ⟨_, _, rfl, h⟩
  · exact h.elim
theorem pII_s {st : List Value} {K : Int32 → Int32 → List Value → Prop} (h : pII st K) : ∃ (x : Int32) (y : Int32) (r : List Value), st = .int y :: .int x :: r ∧ K x y r := by
  unfold pII at h
  split at h
  · exact ⟨_, _, _, rfl, h⟩
  · exact h.elim
theorem pJ_s {st : List Value} {K : Int64 → List Value → Prop} (h : pJ st K) : ∃ (x : Int64) (r : List Value), st = .long x :: r ∧ K x r := by
  unfold pJ at h
  split at h
  · exact ⟨_, _, rfl, h⟩
  · exact h.elim
theorem pJJ_s {st : List Value} {K : Int64 → Int64 → List Value → Prop} (h : pJJ st K) : ∃ (x : Int64) (y : Int64) (r : List Value), st = .long y :: .long x :: r ∧ K x y r := by
  unfold pJJ at h
  split at h
  · exact ⟨_, _, _, rfl, h⟩
  · exact h.elim
theorem pIJ_s {st : List Value} {K : Int64 → Int32 → List Value → Prop} (h : pIJ st K) : ∃ (x : Int64) (y : Int32) (r : List Value), st = .int y :: .long x :: r ∧ K x y r := by
  unfold pIJ at h
  split at h
  · exact ⟨_, _, _, rfl, h⟩
  · exact h.elim
theorem pR_s {st : List Value} {K : Nat → List Value → Prop} (h : pR st K) : ∃ (a : Nat) (r : List Value), st = .ref a :: r ∧ K a r := by
  unfold pR at h
  split at h
  · exact ⟨_, _, rfl, h⟩
  · exact h.elim
theorem pIR_s {st : List Value} {K : Int32 → Nat → List Value → Prop} (h : pIR st K) : ∃ (i : Int32) (a : Nat) (r : List Value), st = .int i :: .ref a :: r ∧ K i a r := by
  unfold pIR at h
  split at h
  · exact ⟨_, _, _, rfl, h⟩
  · exact h.elim
theorem pIIR_s {st : List Value} {K : Int32 → Int32 → Nat → List Value → Prop} (h : pIIR st K) : ∃ (x : Int32) (i : Int32) (a : Nat) (r : List Value), st = .int x :: .int i :: .ref a :: r ∧ K x i a r := by
  unfold pIIR at h
  split at h
  · exact ⟨_, _, _, _, rfl, h⟩
  · exact h.elim
theorem pJIR_s {st : List Value} {K : Int64 → Int32 → Nat → List Value → Prop} (h : pJIR st K) : ∃ (x : Int64) (i : Int32) (a : Nat) (r : List Value), st = .long x :: .int i :: .ref a :: r ∧ K x i a r := by
  unfold pJIR at h
  split at h
  · exact ⟨_, _, _, _, rfl, h⟩
  · exact h.elim
theorem pRIR_s {st : List Value} {K : Nat → Int32 → Nat → List Value → Prop} (h : pRIR st K) : ∃ (x : Nat) (i : Int32) (a : Nat) (r : List Value), st = .ref x :: .int i :: .ref a :: r ∧ K x i a r := by
  unfold pRIR at h
  split at h
  · exact ⟨_, _, _, _, rfl, h⟩
  · exact h.elim
theorem pVR_s {st : List Value} {K : Value → Nat → List Value → Prop} (h : pVR st K) : ∃ (v : Value) (a : Nat) (r : List Value), st = v :: .ref a :: r ∧ K v a r := by
  unfold pVR at h
  split at h
  · exact ⟨_, _, _, rfl, h⟩
  · exact h.elim
theorem pCp_s {st : List Value} {K : Int32 → Int32 → Nat → Int32 → Nat → List Value → Prop} (h : pCp st K) : ∃ (n : Int32) (dp : Int32) (a : Nat) (sp : Int32) (a0 : Nat) (r : List Value), st = .int n :: .int dp :: .ref a :: .int sp :: .ref a0 :: r ∧ K n dp a sp a0 r := by
  unfold pCp at h
  split at h
  · exact ⟨_, _, _, _, _, _, rfl, h⟩
  · exact h.elim
theorem cOne_s {v : Value} {P : Prop} (h : cOne v P) : v.category = 1 ∧ P := by
  unfold cOne at h
  split at h
  · exact h.elim
  · exact h.elim
  · rename_i h1 h2
    refine ⟨?_, h⟩
    cases v <;> first | rfl | exact absurd rfl (h1 _) | exact absurd rfl (h2 _)
theorem pV_s {st : List Value} {K : Value → List Value → Prop} (h : pV st K) : ∃ (v : Value) (r : List Value), st = v :: r ∧ v.category = 1 ∧ K v r := by
  unfold pV at h
  split at h
  · exact ⟨_, _, rfl, cOne_s h⟩
  · exact h.elim
theorem getL_s : ∀ {L : List Value} {i : Nat} {K : Value → Prop}, getL L i K → ∃ v, L[i]? = some v ∧ K v
  | [], _, _, h => h.elim
  | a :: _, 0, _, h => ⟨a, rfl, h⟩
  | _ :: l, i + 1, _, h => by
    obtain ⟨v, h1, h2⟩ := getL_s (L := l) (i := i) h
    exact ⟨v, by simpa using h1, h2⟩
theorem setL_s : ∀ {L : List Value} {i : Nat} {v : Value} {K : List Value → Prop}, setL L i v K → i < L.length ∧ K (L.set i v)
  | [], _, _, _, h => h.elim
  | a :: l, 0, v, _, h => ⟨Nat.succ_pos _, h⟩
  | a :: l, i + 1, v, K, h => by
    obtain ⟨h1, h2⟩ := setL_s (L := l) (i := i) (v := v) (K := fun l' => K (a :: l')) h
    exact ⟨Nat.succ_lt_succ h1, h2⟩
theorem lowL_s {L : List Value} {i : Nat} {P : Prop} (h : lowL L i P) : (∀ v, 0 < i → L[i - 1]? = some v → v.category ≠ 2) ∧ P := by
  unfold lowL at h
  split at h
  · exact ⟨fun _ h0 => absurd h0 (Nat.lt_irrefl 0), h⟩
  · obtain ⟨v, h1, h2⟩ := getL_s h
    obtain ⟨h3, h4⟩ := cOne_s h2
    refine ⟨fun w _ hw => ?_, h4⟩
    have hw : L[_]? = some w := hw
    cases h1.symm.trans hw
    omega
theorem st1_s {L : List Value} {i : Nat} {v : Value} {K : List Value → Prop} (h : st1 L i v K) : (∀ v, 0 < i → L[i - 1]? = some v → v.category ≠ 2) ∧ i < L.length ∧ K (L.set i v) := ⟨(lowL_s h).1, setL_s (lowL_s h).2⟩
theorem st2_s {L : List Value} {i : Nat} {v : Value} {K : List Value → Prop} (h : st2 L i v K) : (∀ v, 0 < i → L[i - 1]? = some v → v.category ≠ 2) ∧ i + 1 < L.length ∧ K ((L.set i v).set (i + 1) dm) := by
  have h1 := setL_s (lowL_s h).2
  have h2 := setL_s h1.2
  rw [List.length_set] at h2
  exact ⟨(lowL_s h).1, h2.1, h2.2⟩
theorem gA_s {sh : SHL} {r : Nat} {K : Nat → Nat → List (Option Nat) → Prop} (h : gA sh r K) : ∃ t n f, sh[r]? = some (t, n, f) ∧ K t n f := by
  unfold gA at h
  split at h
  · rename_i q hq
    exact ⟨q.1, q.2.1, q.2.2, hq, h⟩
  · exact h.elim
theorem cB_s {b : Bool} {P : Prop} (h : cB b P) : b = true ∧ P := by
  cases b
  · exact h.elim
  · exact ⟨rfl, h⟩
theorem oS_s {o : Option Nat} {K : Nat → Prop} (h : oS o K) : ∃ a, o = some a ∧ K a := by
  cases o
  · exact h.elim
  · exact ⟨_, rfl, h⟩
theorem takeA_s : ∀ {n : Nat} {st acc : List Value} {K : List Value → List Value → Prop}, takeA n st acc K → ∃ B r, B.length = n ∧ st = B.reverse ++ r ∧ K (B ++ acc) r
  | 0, st, acc, K, h => ⟨[], st, rfl, rfl, h⟩
  | n + 1, [], _, _, h => h.elim
  | n + 1, v :: st, acc, K, h => by
    obtain ⟨B, r, h1, h2, h3⟩ := takeA_s (n := n) (st := st) (acc := v :: acc) h
    exact ⟨B ++ [v], r, by simp [h1], by simp [h2], by simpa using h3⟩
theorem cats_eq (G : GG) (l : List Value) : ((l.map (cv G)).map (fun v => v.category)).sum = cats l := by
  induction l with
  | nil => rfl
  | cons a l ih => simp only [List.map_cons, List.sum_cons, cats, ih, cv_cat]
theorem swc_s {x : Int32} {K : Nat → Prop} {df : Nat} : ∀ {l : List (Int32 × Nat)}, swc x K df l → (∃ q ∈ l, x = q.1 ∧ K q.2) ∨ ((∀ q ∈ l, ¬ x = q.1) ∧ K df)
  | [], h => Or.inr ⟨fun q hq => (List.not_mem_nil hq).elim, h⟩
  | (v, t) :: l, h => by
    by_cases hx : x = v
    · exact Or.inl ⟨(v, t), List.mem_cons_self, hx, h.1 hx⟩
    · rcases swc_s (l := l) (h.2 hx) with ⟨q, hq, h1⟩ | ⟨h1, h2⟩
      · exact Or.inl ⟨q, List.mem_cons_of_mem _ hq, h1⟩
      · refine Or.inr ⟨fun q hq => ?_, h2⟩
        rcases List.mem_cons.mp hq with rfl | hq
        · exact hx
        · exact h1 q hq
section
variable {G : GG} {y d k n pc pc' : Nat} {L L' st st' : List Value} {σ : MH} {Q : Option Value → MH → Prop}
theorem EV.pure (hw : ∀ (p : Program) (e : Env) (R : Room) (s : State) (m : MethodId) (args : Array Value) (below : List Frame) (meth : Method) (c : Code) (H : Heap) (locs : List Loc) (Z : State → Prop) (ls : Array Slot), FX G y d p R s m args meth c → LH G ls (yL y) L → W p G.1 e R s m args below meth c H locs k n Z (F0 m pc' ls (st'.map (cv G))) → W p G.1 e R s m args below meth c H locs k n Z (F0 m pc ls (st.map (cv G))))
    (h : EV G y d k n pc' L st' σ Q) : EV G y d k n pc L st σ Q := by
  intro p e R s m args below meth c H locs Z ls F hO hw' hS hl hk hn hr
  exact hw p e R s m args below meth c H locs Z ls F hl (h p e R s m args below meth c H locs Z ls F hO hw' hS hl hk hn hr)
theorem EV.br {A B : Prop} {pc2 : Nat} (hw : ∀ (p : Program) (e : Env) (R : Room) (s : State) (m : MethodId) (args : Array Value) (below : List Frame) (meth : Method) (c : Code) (H : Heap) (locs : List Loc) (Z : State → Prop) (ls : Array Slot), FX G y d p R s m args meth c → (A → W p G.1 e R s m args below meth c H locs k n Z (F0 m pc' ls (st'.map (cv G)))) → (B → W p G.1 e R s m args below meth c H locs k n Z (F0 m pc2 ls (st'.map (cv G)))) → W p G.1 e R s m args below meth c H locs k n Z (F0 m pc ls (st.map (cv G))))
    (h1 : A → EV G y d k n pc' L st' σ Q) (h2 : B → EV G y d k n pc2 L st' σ Q) : EV G y d k n pc L st σ Q := by
  intro p e R s m args below meth c H locs Z ls F hO hw' hS hl hk hn hr
  exact hw p e R s m args below meth c H locs Z ls F (fun a => h1 a p e R s m args below meth c H locs Z ls F hO hw' hS hl hk hn hr) (fun a => h2 a p e R s m args below meth c H locs Z ls F hO hw' hS hl hk hn hr)
theorem EV.sto (hw : ∀ (p : Program) (e : Env) (R : Room) (s : State) (m : MethodId) (args : Array Value) (below : List Frame) (meth : Method) (c : Code) (H : Heap) (locs : List Loc) (Z : State → Prop) (ls : Array Slot), FX G y d p R s m args meth c → LH G ls (yL y) L → (∀ ls', LH G ls' (yL y) L' → W p G.1 e R s m args below meth c H locs k n Z (F0 m pc' ls' (st'.map (cv G)))) → W p G.1 e R s m args below meth c H locs k n Z (F0 m pc ls (st.map (cv G))))
    (h : EV G y d k n pc' L' st' σ Q) : EV G y d k n pc L st σ Q := by
  intro p e R s m args below meth c H locs Z ls F hO hw' hS hl hk hn hr
  exact hw p e R s m args below meth c H locs Z ls F hl (fun ls' hl' => h p e R s m args below meth c H locs Z ls' F hO hw' hS hl' hk hn hr)
end
theorem LH.lt {G : GG} {ls : Array Slot} {nL i : Nat} {L : List Value} (h : LH G ls nL L) (hi : i < L.length) : i < nL := Nat.lt_of_lt_of_le hi h.2.2.1
def plainI : Instr → Bool
  | .iadd => true
  | .isub => true
  | .imul => true
  | .iand => true
  | .ior => true
  | .ixor => true
  | .ishl => true
  | .ishr => true
  | .iushr => true
  | .idiv => true
  | .irem => true
  | .ineg => true
  | .i2l => true
  | .i2b => true
  | .l2i => true
  | .ladd => true
  | .lsub => true
  | .lmul => true
  | .lor => true
  | .lcmp => true
  | .ldiv => true
  | .lrem => true
  | .lshl => true
  | .lushr => true
  | .dup => true
  | .pop => true
  | .dup2 => true
  | .iconst _ => true
  | .bipush _ => true
  | .sipush _ => true
  | .lconst _ => true
  | .ldc _ => true
  | .ldc_w _ => true
  | .ldc2_w _ => true
  | .iload_n _ => true
  | .lload_n _ => true
  | .aload_n _ => true
  | .iload _ => true
  | .lload _ => true
  | .aload _ => true
  | .istore_n _ => true
  | .astore_n _ => true
  | .istore _ => true
  | .astore _ => true
  | .lstore_n _ => true
  | .lstore _ => true
  | .iinc _ _ => true
  | .goto _ => true
  | .ifCond _ _ => true
  | .if_icmp _ _ => true
  | .tableswitch _ _ _ _ => true
  | .lookupswitch _ _ => true
  | _ => false
set_option maxHeartbeats 4000000 in
/-- the plain instructions -/
theorem stp_plain {G : GG} {y d : Nat} {pc : Nat} {i : Instr} {len a1 a2 : Nat} {val : Value} {sw : List (Int32 × Nat)} {nx : KT} {jp : Nat → KT} {k n : Nat} {L st : List Value} {σ : MH} {Q : Option Value → MH → Prop}
    (hs : i = i) (hd : decode (yC y) pc = .ok (i, len)) (hok : okI (yO y) pc i len a1 a2 val sw = true) (hyo : yO y < 16) (hcn : cn (yO y) = (yN y).cls) (hnx : ∀ k n L st σ, nx k n L st σ → EV G y d k n (pc + len) L st σ Q) (hjp : ∀ t k n L st σ, jp t k n L st σ → EV G y d k n t L st σ Q)
    (h : stp G y d (pc, i, len, a1, a2, val, sw) nx jp k n L st σ Q) (hp : plainI i = true) : EV G y d k n pc L st σ Q := by
  cases i
  case iadd =>
    have hlen : len = 1 := beq_iff_eq.mp (show (len == 1) = true from hok)
    subst hlen
    obtain ⟨x, z, r, rfl, h⟩ := pII_s h
    exact EV.pure (fun p e R s m args below meth c H locs Z ls F _ w => lv_iadd F.1 F.2.1 hd w) (hnx _ _ _ _ _ h)
  case isub =>
    have hlen : len = 1 := beq_iff_eq.mp (show (len == 1) = true from hok)
    subst hlen
    obtain ⟨x, z, r, rfl, h⟩ := pII_s h
    exact EV.pure (fun p e R s m args below meth c H locs Z ls F _ w => lv_isub F.1 F.2.1 hd w) (hnx _ _ _ _ _ h)
  case imul =>
    have hlen : len = 1 := beq_iff_eq.mp (show (len == 1) = true from hok)
    subst hlen
    obtain ⟨x, z, r, rfl, h⟩ := pII_s h
    exact EV.pure (fun p e R s m args below meth c H locs Z ls F _ w => lv_imul F.1 F.2.1 hd w) (hnx _ _ _ _ _ h)
  case iand =>
    have hlen : len = 1 := beq_iff_eq.mp (show (len == 1) = true from hok)
    subst hlen
    obtain ⟨x, z, r, rfl, h⟩ := pII_s h
    exact EV.pure (fun p e R s m args below meth c H locs Z ls F _ w => lv_iand F.1 F.2.1 hd w) (hnx _ _ _ _ _ h)
  case ior =>
    have hlen : len = 1 := beq_iff_eq.mp (show (len == 1) = true from hok)
    subst hlen
    obtain ⟨x, z, r, rfl, h⟩ := pII_s h
    exact EV.pure (fun p e R s m args below meth c H locs Z ls F _ w => lv_ior F.1 F.2.1 hd w) (hnx _ _ _ _ _ h)
  case ixor =>
    have hlen : len = 1 := beq_iff_eq.mp (show (len == 1) = true from hok)
    subst hlen
    obtain ⟨x, z, r, rfl, h⟩ := pII_s h
    exact EV.pure (fun p e R s m args below meth c H locs Z ls F _ w => lv_ixor F.1 F.2.1 hd w) (hnx _ _ _ _ _ h)
  case ishl =>
    have hlen : len = 1 := beq_iff_eq.mp (show (len == 1) = true from hok)
    subst hlen
    obtain ⟨x, z, r, rfl, h⟩ := pII_s h
    exact EV.pure (fun p e R s m args below meth c H locs Z ls F _ w => lv_ishl F.1 F.2.1 hd w) (hnx _ _ _ _ _ h)
  case ishr =>
    have hlen : len = 1 := beq_iff_eq.mp (show (len == 1) = true from hok)
    subst hlen
    obtain ⟨x, z, r, rfl, h⟩ := pII_s h
    exact EV.pure (fun p e R s m args below meth c H locs Z ls F _ w => lv_ishr F.1 F.2.1 hd w) (hnx _ _ _ _ _ h)
  case iushr =>
    have hlen : len = 1 := beq_iff_eq.mp (show (len == 1) = true from hok)
    subst hlen
    obtain ⟨x, z, r, rfl, h⟩ := pII_s h
    exact EV.pure (fun p e R s m args below meth c H locs Z ls F _ w => lv_iushr F.1 F.2.1 hd rfl w) (hnx _ _ _ _ _ h)
  case idiv =>
    have hlen : len = 1 := beq_iff_eq.mp (show (len == 1) = true from hok)
    subst hlen
    obtain ⟨x, z, r, rfl, h0, h⟩ := pII_s h
    exact EV.pure (fun p e R s m args below meth c H locs Z ls F _ w => lv_idiv F.1 F.2.1 hd h0 w) (hnx _ _ _ _ _ h)
  case irem =>
    have hlen : len = 1 := beq_iff_eq.mp (show (len == 1) = true from hok)
    subst hlen
    obtain ⟨x, z, r, rfl, h0, h⟩ := pII_s h
    exact EV.pure (fun p e R s m args below meth c H locs Z ls F _ w => lv_irem F.1 F.2.1 hd h0 w) (hnx _ _ _ _ _ h)
  case ineg =>
    have hlen : len = 1 := beq_iff_eq.mp (show (len == 1) = true from hok)
    subst hlen
    obtain ⟨x, r, rfl, h⟩ := pI_s h
    exact EV.pure (fun p e R s m args below meth c H locs Z ls F _ w => lv_ineg F.1 F.2.1 hd w) (hnx _ _ _ _ _ h)
  case i2l =>
    have hlen : len = 1 := beq_iff_eq.mp (show (len == 1) = true from hok)
    subst hlen
    obtain ⟨x, r, rfl, h⟩ := pI_s h
    exact EV.pure (fun p e R s m args below meth c H locs Z ls F _ w => lv_i2l F.1 F.2.1 hd rfl w) (hnx _ _ _ _ _ h)
  case i2b =>
    have hlen : len = 1 := beq_iff_eq.mp (show (len == 1) = true from hok)
    subst hlen
    obtain ⟨x, r, rfl, h⟩ := pI_s h
    exact EV.pure (fun p e R s m args below meth c H locs Z ls F _ w => lv_i2b F.1 F.2.1 hd rfl w) (hnx _ _ _ _ _ h)
  case l2i =>
    have hlen : len = 1 := beq_iff_eq.mp (show (len == 1) = true from hok)
    subst hlen
    obtain ⟨x, r, rfl, h⟩ := pJ_s h
    exact EV.pure (fun p e R s m args below meth c H locs Z ls F _ w => lv_l2i F.1 F.2.1 hd rfl w) (hnx _ _ _ _ _ h)
  case ladd =>
    have hlen : len = 1 := beq_iff_eq.mp (show (len == 1) = true from hok)
    subst hlen
    obtain ⟨x, z, r, rfl, h⟩ := pJJ_s h
    exact EV.pure (fun p e R s m args below meth c H locs Z ls F _ w => lv_ladd F.1 F.2.1 hd w) (hnx _ _ _ _ _ h)
  case lsub =>
    have hlen : len = 1 := beq_iff_eq.mp (show (len == 1) = true from hok)
    subst hlen
    obtain ⟨x, z, r, rfl, h⟩ := pJJ_s h
    exact EV.pure (fun p e R s m args below meth c H locs Z ls F _ w => lv_lsub F.1 F.2.1 hd w) (hnx _ _ _ _ _ h)
  case lmul =>
    have hlen : len = 1 := beq_iff_eq.mp (show (len == 1) = true from hok)
    subst hlen
    obtain ⟨x, z, r, rfl, h⟩ := pJJ_s h
    exact EV.pure (fun p e R s m args below meth c H locs Z ls F _ w => lv_lmul F.1 F.2.1 hd w) (hnx _ _ _ _ _ h)
  case lor =>
    have hlen : len = 1 := beq_iff_eq.mp (show (len == 1) = true from hok)
    subst hlen
    obtain ⟨x, z, r, rfl, h⟩ := pJJ_s h
    exact EV.pure (fun p e R s m args below meth c H locs Z ls F _ w => lv_lor F.1 F.2.1 hd w) (hnx _ _ _ _ _ h)
  case lcmp =>
    have hlen : len = 1 := beq_iff_eq.mp (show (len == 1) = true from hok)
    subst hlen
    obtain ⟨x, z, r, rfl, h⟩ := pJJ_s h
    exact EV.pure (fun p e R s m args below meth c H locs Z ls F _ w => W.lcmp F.1 F.2.1 hd w) (hnx _ _ _ _ _ h)
  case ldiv =>
    have hlen : len = 1 := beq_iff_eq.mp (show (len == 1) = true from hok)
    subst hlen
    obtain ⟨x, z, r, rfl, h0, h⟩ := pJJ_s h
    exact EV.pure (fun p e R s m args below meth c H locs Z ls F _ w => lv_ldiv F.1 F.2.1 hd h0 w) (hnx _ _ _ _ _ h)
  case lrem =>
    have hlen : len = 1 := beq_iff_eq.mp (show (len == 1) = true from hok)
    subst hlen
    obtain ⟨x, z, r, rfl, h0, h⟩ := pJJ_s h
    exact EV.pure (fun p e R s m args below meth c H locs Z ls F _ w => lv_lrem F.1 F.2.1 hd h0 w) (hnx _ _ _ _ _ h)
  case lshl =>
    have hlen : len = 1 := beq_iff_eq.mp (show (len == 1) = true from hok)
    subst hlen
    obtain ⟨x, z, r, rfl, h⟩ := pIJ_s h
    exact EV.pure (fun p e R s m args below meth c H locs Z ls F _ w => lv_lshl F.1 F.2.1 hd rfl w) (hnx _ _ _ _ _ h)
  case lushr =>
    have hlen : len = 1 := beq_iff_eq.mp (show (len == 1) = true from hok)
    subst hlen
    obtain ⟨x, z, r, rfl, h⟩ := pIJ_s h
    exact EV.pure (fun p e R s m args below meth c H locs Z ls F _ w => lv_lushr F.1 F.2.1 hd rfl w) (hnx _ _ _ _ _ h)
  case dup =>
    have hlen : len = 1 := beq_iff_eq.mp (show (len == 1) = true from hok)
    subst hlen
    obtain ⟨v, r, rfl, hc, h⟩ := pV_s h
    exact EV.pure (fun p e R s m args below meth c H locs Z ls F _ w => lv_dup F.1 F.2.1 hd (by rw [cv_cat]; exact hc) w) (hnx _ _ _ _ _ h)
  case pop =>
    have hlen : len = 1 := beq_iff_eq.mp (show (len == 1) = true from hok)
    subst hlen
    obtain ⟨v, r, rfl, hc, h⟩ := pV_s h
    exact EV.pure (fun p e R s m args below meth c H locs Z ls F _ w => lv_pop F.1 F.2.1 hd (by rw [cv_cat]; exact hc) w) (hnx _ _ _ _ _ h)
  case dup2 =>
    have hlen : len = 1 := beq_iff_eq.mp (show (len == 1) = true from hok)
    subst hlen
    have h : pDup2 st (fun r => nx k n L r σ) := h
    unfold pDup2 at h
    split at h
    · exact EV.pure (fun p e R s m args below meth c H locs Z ls F _ w => lv_dup2_2 F.1 F.2.1 hd rfl w) (hnx _ _ _ _ _ h)
    · exact EV.pure (fun p e R s m args below meth c H locs Z ls F _ w => lv_dup2_11 F.1 F.2.1 hd rfl rfl w) (hnx _ _ _ _ _ h)
    · exact EV.pure (fun p e R s m args below meth c H locs Z ls F _ w => lv_dup2_11 F.1 F.2.1 hd rfl rfl w) (hnx _ _ _ _ _ h)
    · exact h.elim
  case iconst c =>
    have hok : (len == 1 && decide (val = _)) = true := hok
    simp only [Bool.and_eq_true, beq_iff_eq, decide_eq_true_eq] at hok
    obtain ⟨hlen, hv⟩ := hok
    subst hlen
    subst hv
    exact EV.pure (fun p e R s m args below meth c H locs Z ls F _ w => lv_iconst F.1 F.2.1 hd rfl w) (hnx _ _ _ _ _ h)
  case bipush c =>
    have hok : (len == 2 && decide (val = _)) = true := hok
    simp only [Bool.and_eq_true, beq_iff_eq, decide_eq_true_eq] at hok
    obtain ⟨hlen, hv⟩ := hok
    subst hlen
    subst hv
    exact EV.pure (fun p e R s m args below meth c H locs Z ls F _ w => lv_bipush F.1 F.2.1 hd rfl w) (hnx _ _ _ _ _ h)
  case sipush c =>
    have hok : (len == 3 && decide (val = _)) = true := hok
    simp only [Bool.and_eq_true, beq_iff_eq, decide_eq_true_eq] at hok
    obtain ⟨hlen, hv⟩ := hok
    subst hlen
    subst hv
    exact EV.pure (fun p e R s m args below meth c H locs Z ls F _ w => lv_sipush F.1 F.2.1 hd rfl w) (hnx _ _ _ _ _ h)
  case lconst c =>
    have hok : (len == 1 && decide (val = _)) = true := hok
    simp only [Bool.and_eq_true, beq_iff_eq, decide_eq_true_eq] at hok
    obtain ⟨hlen, hv⟩ := hok
    subst hlen
    subst hv
    exact EV.pure (fun p e R s m args below meth c H locs Z ls F _ w => lv_lconst F.1 F.2.1 hd rfl w) (hnx _ _ _ _ _ h)
  case ldc c =>
    have hok : (len == 2 && (decide (val = .null) || (CL (yO y)).any (fun q => q.1 == c && decide (q.2.1 = val)))) = true := hok
    rw [Bool.and_eq_true, Bool.or_eq_true] at hok
    obtain ⟨hlen, hv⟩ := hok
    have hlen := beq_iff_eq.mp hlen
    subst hlen
    cases val <;> first | (exact False.elim h) | skip
    rename_i x
    rcases hv with hv | hv
    · exact absurd (of_decide_eq_true hv) (by simp)
    have hc := CL_ok hyo hv
    have hc : Cond.constant (cn (yO y)) c x ∈ lwG := hc
    exact EV.pure (fun p e R s m args below meth c H locs Z ls F _ w => lv_ldc F.1 F.2.1 (own := cn (yO y)) (by rw [hcn]; exact F.2.2.2.2.1) (F.2.2.2.2.2.1 _ hc) hd w) (hnx _ _ _ _ _ h)
  case ldc_w c =>
    have hok : (len == 3 && (decide (val = .null) || (CL (yO y)).any (fun q => q.1 == c && decide (q.2.1 = val)))) = true := hok
    rw [Bool.and_eq_true, Bool.or_eq_true] at hok
    obtain ⟨hlen, hv⟩ := hok
    have hlen := beq_iff_eq.mp hlen
    subst hlen
    cases val <;> first | (exact False.elim h) | skip
    rename_i x
    rcases hv with hv | hv
    · exact absurd (of_decide_eq_true hv) (by simp)
    have hc := CL_ok hyo hv
    have hc : Cond.constant (cn (yO y)) c x ∈ lwG := hc
    exact EV.pure (fun p e R s m args below meth c H locs Z ls F _ w => lv_ldcw F.1 F.2.1 (own := cn (yO y)) (by rw [hcn]; exact F.2.2.2.2.1) (F.2.2.2.2.2.1 _ hc) hd w) (hnx _ _ _ _ _ h)
  case ldc2_w c =>
    have hok : (len == 3 && (decide (val = .null) || (CL (yO y)).any (fun q => q.1 == c && decide (q.2.1 = val)))) = true := hok
    rw [Bool.and_eq_true, Bool.or_eq_true] at hok
    obtain ⟨hlen, hv⟩ := hok
    have hlen := beq_iff_eq.mp hlen
    subst hlen
    cases val <;> first | (exact False.elim h) | skip
    rename_i x
    rcases hv with hv | hv
    · exact absurd (of_decide_eq_true hv) (by simp)
    have hc := CL_ok hyo hv
    have hc : Cond.constantLong (cn (yO y)) c x ∈ lwG := hc
    exact EV.pure (fun p e R s m args below meth c H locs Z ls F _ w => lv_ldc2 F.1 F.2.1 (own := cn (yO y)) (by rw [hcn]; exact F.2.2.2.2.1) (F.2.2.2.2.2.1 _ hc) hd w) (hnx _ _ _ _ _ h)
  case iload_n j =>
    have hlen : len = 1 := beq_iff_eq.mp (show (len == 1) = true from hok)
    subst hlen
    obtain ⟨v, hv, h⟩ := getL_s h
    cases v <;> first | (exact False.elim h) | skip
    exact EV.pure (fun p e R s m args below meth c H locs Z ls F hl w => lv_iload_n F.1 F.2.1 hd rfl (hl.2.2.2 _ _ hv rfl) w) (hnx _ _ _ _ _ h)
  case lload_n j =>
    have hlen : len = 1 := beq_iff_eq.mp (show (len == 1) = true from hok)
    subst hlen
    obtain ⟨v, hv, h⟩ := getL_s h
    cases v <;> first | (exact False.elim h) | skip
    exact EV.pure (fun p e R s m args below meth c H locs Z ls F hl w => lv_lload_n F.1 F.2.1 hd rfl (hl.2.2.2 _ _ hv rfl) w) (hnx _ _ _ _ _ h)
  case aload_n j =>
    have hlen : len = 1 := beq_iff_eq.mp (show (len == 1) = true from hok)
    subst hlen
    obtain ⟨v, hv, h⟩ := getL_s h
    cases v <;> first | (exact False.elim h) | skip
    exact EV.pure (fun p e R s m args below meth c H locs Z ls F hl w => lv_aload_n F.1 F.2.1 hd rfl (hl.2.2.2 _ _ hv rfl) w) (hnx _ _ _ _ _ h)
  case iload j =>
    have hlen : len = 2 := beq_iff_eq.mp (show (len == 2) = true from hok)
    subst hlen
    obtain ⟨v, hv, h⟩ := getL_s h
    cases v <;> first | (exact False.elim h) | skip
    exact EV.pure (fun p e R s m args below meth c H locs Z ls F hl w => lv_iload F.1 F.2.1 hd (hl.2.2.2 _ _ hv rfl) w) (hnx _ _ _ _ _ h)
  case lload j =>
    have hlen : len = 2 := beq_iff_eq.mp (show (len == 2) = true from hok)
    subst hlen
    obtain ⟨v, hv, h⟩ := getL_s h
    cases v <;> first | (exact False.elim h) | skip
    exact EV.pure (fun p e R s m args below meth c H locs Z ls F hl w => lv_lload F.1 F.2.1 hd (hl.2.2.2 _ _ hv rfl) w) (hnx _ _ _ _ _ h)
  case aload j =>
    have hlen : len = 2 := beq_iff_eq.mp (show (len == 2) = true from hok)
    subst hlen
    obtain ⟨v, hv, h⟩ := getL_s h
    cases v <;> first | (exact False.elim h) | skip
    exact EV.pure (fun p e R s m args below meth c H locs Z ls F hl w => lv_aload F.1 F.2.1 hd (hl.2.2.2 _ _ hv rfl) w) (hnx _ _ _ _ _ h)
  case istore_n j =>
    have hlen : len = 1 := beq_iff_eq.mp (show (len == 1) = true from hok)
    subst hlen
    obtain ⟨x, r, rfl, h⟩ := pI_s h
    obtain ⟨h1, h2, h3⟩ := st1_s h
    exact EV.sto (fun p e R s m args below meth c H locs Z ls F hl w => lv_istore_n F.1 F.2.1 hd rfl hl.has (hl.lt h2) rfl (fun ls2 h4 => w ls2 (LH.set1 (x := .int x) h2 h1 hl h4))) (hnx _ _ _ _ _ h3)
  case astore_n j =>
    have hlen : len = 1 := beq_iff_eq.mp (show (len == 1) = true from hok)
    subst hlen
    obtain ⟨x, r, rfl, h⟩ := pR_s h
    obtain ⟨h1, h2, h3⟩ := st1_s h
    exact EV.sto (fun p e R s m args below meth c H locs Z ls F hl w => lv_astore_n F.1 F.2.1 hd rfl hl.has (hl.lt h2) rfl (fun ls2 h4 => w ls2 (LH.set1 (x := .ref x) h2 h1 hl h4))) (hnx _ _ _ _ _ h3)
  case istore j =>
    have hlen : len = 2 := beq_iff_eq.mp (show (len == 2) = true from hok)
    subst hlen
    obtain ⟨x, r, rfl, h⟩ := pI_s h
    obtain ⟨h1, h2, h3⟩ := st1_s h
    exact EV.sto (fun p e R s m args below meth c H locs Z ls F hl w => lv_istore F.1 F.2.1 hd hl.has (hl.lt h2) rfl (fun ls2 h4 => w ls2 (LH.set1 (x := .int x) h2 h1 hl h4))) (hnx _ _ _ _ _ h3)
  case astore j =>
    have hlen : len = 2 := beq_iff_eq.mp (show (len == 2) = true from hok)
    subst hlen
    obtain ⟨x, r, rfl, h⟩ := pR_s h
    obtain ⟨h1, h2, h3⟩ := st1_s h
    exact EV.sto (fun p e R s m args below meth c H locs Z ls F hl w => lv_astore F.1 F.2.1 hd hl.has (hl.lt h2) rfl (fun ls2 h4 => w ls2 (LH.set1 (x := .ref x) h2 h1 hl h4))) (hnx _ _ _ _ _ h3)
  case lstore_n j =>
    have hlen : len = 1 := beq_iff_eq.mp (show (len == 1) = true from hok)
    subst hlen
    obtain ⟨x, r, rfl, h⟩ := pJ_s h
    obtain ⟨h1, h2, h3⟩ := st2_s h
    exact EV.sto (fun p e R s m args below meth c H locs Z ls F hl w => lv_lstore_n F.1 F.2.1 hd rfl hl.has (hl.lt h2) rfl (fun ls2 h4 => w ls2 (LH.set2 (x := .long x) h2 h1 hl h4))) (hnx _ _ _ _ _ h3)
  case lstore j =>
    have hlen : len = 2 := beq_iff_eq.mp (show (len == 2) = true from hok)
    subst hlen
    obtain ⟨x, r, rfl, h⟩ := pJ_s h
    obtain ⟨h1, h2, h3⟩ := st2_s h
    exact EV.sto (fun p e R s m args below meth c H locs Z ls F hl w => lv_lstore F.1 F.2.1 hd hl.has (hl.lt h2) rfl (fun ls2 h4 => w ls2 (LH.set2 (x := .long x) h2 h1 hl h4))) (hnx _ _ _ _ _ h3)
  case iinc j cc =>
    have hok : (len == 3 && decide (val = _)) = true := hok
    simp only [Bool.and_eq_true, beq_iff_eq, decide_eq_true_eq] at hok
    obtain ⟨hlen, hv⟩ := hok
    subst hlen
    subst hv
    obtain ⟨v, hv, h⟩ := getL_s h
    cases v <;> first | (exact False.elim h) | skip
    rename_i x
    obtain ⟨h1, h2, h3⟩ := st1_s h
    exact EV.sto (fun p e R s m args below meth c H locs Z ls F hl w => by
      have hm : (j, Value.int x) ∈ lvl G L := lvl_mem.mpr ⟨.int x, hv, rfl, rfl⟩
      obtain ⟨q, hq⟩ := List.getElem?_of_mem hm
      exact lv_iinc F.1 F.2.1 hd hl.has hq rfl (hl.lt h2) rfl (fun ls2 h4 => w ls2 (LH.set1 (x := .int (x + Int32.ofInt cc)) h2 h1 hl h4))) (hnx _ _ _ _ _ h3)
  case goto off =>
    have hok : (len == 3 && decide ((pc : Int) + off = (a1 : Int))) = true := hok
    simp only [Bool.and_eq_true, beq_iff_eq, decide_eq_true_eq] at hok
    obtain ⟨hlen, ht⟩ := hok
    subst hlen
    exact EV.pure (fun p e R s m args below meth c H locs Z ls F _ w => lv_goto F.1 F.2.1 hd ht w) (hjp _ _ _ _ _ _ h)
  case ifCond cc off =>
    have hok : (len == 3 && decide ((pc : Int) + off = (a1 : Int))) = true := hok
    simp only [Bool.and_eq_true, beq_iff_eq, decide_eq_true_eq] at hok
    obtain ⟨hlen, ht⟩ := hok
    subst hlen
    obtain ⟨x, r, rfl, h⟩ := pI_s h
    cases cc
    · exact EV.br (fun p e R s m args below meth c H locs Z ls F w1 w2 => lv_if_eq F.1 F.2.1 hd ht w1 w2) (fun q => hjp _ _ _ _ _ _ (h.1 q)) (fun q => hnx _ _ _ _ _ (h.2 q))
    · exact EV.br (fun p e R s m args below meth c H locs Z ls F w1 w2 => lv_if_ne F.1 F.2.1 hd ht w1 w2) (fun q => hjp _ _ _ _ _ _ (h.1 q)) (fun q => hnx _ _ _ _ _ (h.2 q))
    · exact EV.br (fun p e R s m args below meth c H locs Z ls F w1 w2 => lv_if_lt F.1 F.2.1 hd ht w1 w2) (fun q => hjp _ _ _ _ _ _ (h.1 q)) (fun q => hnx _ _ _ _ _ (h.2 q))
    · exact EV.br (fun p e R s m args below meth c H locs Z ls F w1 w2 => lv_if_ge F.1 F.2.1 hd ht w1 w2) (fun q => hjp _ _ _ _ _ _ (h.1 q)) (fun q => hnx _ _ _ _ _ (h.2 q))
    · exact EV.br (fun p e R s m args below meth c H locs Z ls F w1 w2 => lv_if_gt F.1 F.2.1 hd ht w1 w2) (fun q => hjp _ _ _ _ _ _ (h.1 q)) (fun q => hnx _ _ _ _ _ (h.2 q))
    · exact EV.br (fun p e R s m args below meth c H locs Z ls F w1 w2 => lv_if_le F.1 F.2.1 hd ht w1 w2) (fun q => hjp _ _ _ _ _ _ (h.1 q)) (fun q => hnx _ _ _ _ _ (h.2 q))
  case if_icmp cc off =>
    have hok : (len == 3 && decide ((pc : Int) + off = (a1 : Int))) = true := hok
    simp only [Bool.and_eq_true, beq_iff_eq, decide_eq_true_eq] at hok
    obtain ⟨hlen, ht⟩ := hok
    subst hlen
    obtain ⟨x, z, r, rfl, h⟩ := pII_s h
    cases cc
    · exact EV.br (fun p e R s m args below meth c H locs Z ls F w1 w2 => lv_icmp_eq F.1 F.2.1 hd ht w1 w2) (fun q => hjp _ _ _ _ _ _ (h.1 q)) (fun q => hnx _ _ _ _ _ (h.2 q))
    · exact EV.br (fun p e R s m args below meth c H locs Z ls F w1 w2 => lv_icmp_ne F.1 F.2.1 hd ht w1 w2) (fun q => hjp _ _ _ _ _ _ (h.1 q)) (fun q => hnx _ _ _ _ _ (h.2 q))
    · exact EV.br (fun p e R s m args below meth c H locs Z ls F w1 w2 => lv_icmp_lt F.1 F.2.1 hd ht w1 w2) (fun q => hjp _ _ _ _ _ _ (h.1 q)) (fun q => hnx _ _ _ _ _ (h.2 q))
    · exact EV.br (fun p e R s m args below meth c H locs Z ls F w1 w2 => lv_icmp_ge F.1 F.2.1 hd ht w1 w2) (fun q => hjp _ _ _ _ _ _ (h.1 q)) (fun q => hnx _ _ _ _ _ (h.2 q))
    · exact EV.br (fun p e R s m args below meth c H locs Z ls F w1 w2 => lv_icmp_gt F.1 F.2.1 hd ht w1 w2) (fun q => hjp _ _ _ _ _ _ (h.1 q)) (fun q => hnx _ _ _ _ _ (h.2 q))
    · exact EV.br (fun p e R s m args below meth c H locs Z ls F w1 w2 => lv_icmp_le F.1 F.2.1 hd ht w1 w2) (fun q => hjp _ _ _ _ _ _ (h.1 q)) (fun q => hnx _ _ _ _ _ (h.2 q))
  case tableswitch dflt lo hi offs =>
    have hok : (decide ((pc : Int) + dflt = (a1 : Int)) && (sw.all (fun q => decide (¬ q.1.toInt < lo) && (decide (¬ hi < q.1.toInt) && decide ((offs[(q.1.toInt - lo).toNat]?).map (fun z => (pc : Int) + z) = some (q.2 : Int)))) && ((List.range (hi - lo + 1).toNat).all (fun j => sw.any (fun q => decide (q.1.toInt = lo + (j : Int))) || decide ((offs[j]?).map (fun z => (pc : Int) + z) = some (a1 : Int))) && (decide (-2147483648 ≤ lo) && decide (hi ≤ 2147483647))))) = true := hok
    rw [Bool.and_eq_true, Bool.and_eq_true, Bool.and_eq_true] at hok
    obtain ⟨ht, hsw, hcov, -⟩ := hok
    have ht := of_decide_eq_true ht
    obtain ⟨x, r, rfl, h⟩ := pI_s h
    rcases swc_s h with ⟨q, hq, hx, hK⟩ | ⟨hno, hK⟩
    · have h2 := List.all_eq_true.mp hsw q hq
      simp only [Bool.and_eq_true, decide_eq_true_eq] at h2
      obtain ⟨e1, e2, e3⟩ := h2
      obtain ⟨off, e4, e5⟩ := Option.map_eq_some_iff.mp e3
      rw [← hx] at e1 e2 e4
      exact EV.pure (fun p e R s m args below meth c H locs Z ls F _ w => lv_tableIn F.1 F.2.1 hd e1 e2 e4 e5 w) (hjp _ _ _ _ _ _ hK)
    · by_cases hout : x.toInt < lo ∨ hi < x.toInt
      · exact EV.pure (fun p e R s m args below meth c H locs Z ls F _ w => lv_tableOut F.1 F.2.1 hd hout ht w) (hjp _ _ _ _ _ _ hK)
      · have i1 : ¬ x.toInt < lo := fun q => hout (Or.inl q)
        have i2 : ¬ hi < x.toInt := fun q => hout (Or.inr q)
        have h2 := List.all_eq_true.mp hcov (x.toInt - lo).toNat (List.mem_range.mpr (by omega))
        rw [Bool.or_eq_true] at h2
        rcases h2 with h2 | h2
        · obtain ⟨q, hq, hv⟩ := List.any_eq_true.mp h2
          have hv := of_decide_eq_true hv
          exact absurd (Int32.toInt_inj.mp (by omega)) (hno q hq)
        · obtain ⟨off, e4, e5⟩ := Option.map_eq_some_iff.mp (of_decide_eq_true h2)
          exact EV.pure (fun p e R s m args below meth c H locs Z ls F _ w => lv_tableIn F.1 F.2.1 hd i1 i2 e4 e5 w) (hjp _ _ _ _ _ _ hK)
  case lookupswitch dflt ps =>
    have hok : (decide ((pc : Int) + dflt = (a1 : Int)) && (decide ((ps.toList.zip (ps.toList.drop 1)).all (fun (a, next) => a.1 < next.1) = true) && decide (sw.map (fun q => (q.1.toInt, (q.2 : Int) - (pc : Int))) = ps.toList))) = true := hok
    rw [Bool.and_eq_true, Bool.and_eq_true] at hok
    obtain ⟨ht, hz, hm⟩ := hok
    have ht := of_decide_eq_true ht
    have hz := of_decide_eq_true hz
    have hm := of_decide_eq_true hm
    obtain ⟨x, r, rfl, h⟩ := pI_s h
    have key : ∀ sw2 : List (Int32 × Nat), swc x (fun t => jp t k n L r σ) a1 sw2 → ∃ t : Nat, jp t k n L r σ ∧ Op.lookupswitch.offset (sw2.map (fun q => (q.1.toInt, (q.2 : Int) - (pc : Int)))) dflt x.toInt = (t : Int) - pc := by
      intro sw2 h
      induction sw2 with
      | nil => exact ⟨a1, h, by rw [List.map_nil, Op.lookupswitch.offset_nil]; omega⟩
      | cons q l ih =>
        obtain ⟨v, t⟩ := q
        by_cases hx : x = v
        · refine ⟨t, h.1 hx, ?_⟩
          rw [List.map_cons, Op.lookupswitch.offset_cons, if_pos (by rw [hx])]
        · obtain ⟨t2, h1, h2⟩ := ih (h.2 hx)
          refine ⟨t2, h1, ?_⟩
          rw [List.map_cons, Op.lookupswitch.offset_cons, if_neg (fun q => hx (Int32.toInt_inj.mp q.symm))]
          exact h2
    obtain ⟨t, hK, ho⟩ := key sw h
    rw [hm] at ho
    exact EV.pure (fun p e R s m args below meth c H locs Z ls F _ w => lv_lookup F.1 F.2.1 hd hz ho (by omega) w) (hjp _ _ _ _ _ _ hK)
  all_goals exact absurd hp (by simp [plainI])
end
section
/-! WP is sound: memory, calls, ends -/
-- ===== the cells, by their tags
theorem cell_obj {G : GG} {σ : MH} {r t n : Nat} {f : List (Option Nat)} (ht : t < 12) : cellE G σ r (t, n, f) = .inr (t, fsE G σ r t f) := by unfold cellE; rw [if_pos ht]
theorem cell_int {G : GG} {σ : MH} {r t n : Nat} {f : List (Option Nat)} (ht : t = 12 ∨ t = 14) : cellE G σ r (t, n, f) = .inl (G.2.2.1 t, n, .inl (σ.2.1 r)) := by
  unfold cellE
  rw [if_neg (show ¬ t < 12 by omega), if_neg (show ¬ t = 13 by omega), if_pos (show t < 15 by omega)]
theorem cell_long {G : GG} {σ : MH} {r n : Nat} {f : List (Option Nat)} : cellE G σ r (13, n, f) = .inl (G.2.2.1 13, n, .inr (.inl (σ.2.2 r))) := by
  unfold cellE
  rw [if_neg (show ¬ 13 < 12 by omega), if_pos rfl]
theorem cell_ref {G : GG} {σ : MH} {r t n : Nat} {f : List (Option Nat)} (ht : 15 ≤ t) : cellE G σ r (t, n, f) = .inl (G.2.2.1 t, n, .inr (.inr (.inr (.inr (fun j => rfO G (f.getD j none)))))) := by
  unfold cellE
  rw [if_neg (show ¬ t < 12 by omega), if_neg (show ¬ t = 13 by omega), if_neg (show ¬ t < 15 by omega)]
theorem fsE_at {G : GG} {σ : MH} {r t k : Nat} {f : List (Option Nat)} (hk : k < clN t) : (fsE G σ r t f)[k]? = some (fvE G σ r f (clT t k) k) := by
  simp only [fsE, List.getElem?_map, List.getElem?_range hk, Option.map_some]
theorem fsE_len {G : GG} {σ : MH} {r t : Nat} {f : List (Option Nat)} : (fsE G σ r t f).length = clN t := by simp [fsE]
theorem WO.three {G : GG} {σ : MH} {s : State} {H : Heap} (h : WO G σ s H) {r t n : Nat} {f : List (Option Nat)} (hr : σ.1[r]? = some (t, n, f)) (ht : t ≠ 20) : 3 ≤ r := by
  by_cases h3 : 3 ≤ r
  · exact h3
  · obtain ⟨n', e1, -⟩ := h.2.2.2.1 r (by omega)
    cases e1.symm.trans hr
    exact absurd rfl ht
theorem WO.ext {G : GG} {σ : MH} {s : State} {H : Heap} (h : WO G σ s H) {r n : Nat} {f : List (Option Nat)} (hr : σ.1[r]? = some (20, n, f)) : va_T .int (adr G r) n (fun j => .int (σ.2.1 r j)) (AA G) s s.heap := by
  by_cases h3 : 3 ≤ r
  · exact absurd (h.2.2.2.2 r 20 n f h3 hr) (by omega)
  · obtain ⟨n', e1, e2⟩ := h.2.2.2.1 r (by omega)
    cases e1.symm.trans hr
    exact e2
/-- the world behind a write -/
theorem WO.put {G : GG} {σ σ' : MH} {s : State} {H H1 : Heap} {r : Nat} {e : va_E} (h : WO G σ s H) (h3 : 3 ≤ r) (hr : r < σ.1.length) (hl : σ'.1.length = σ.1.length) (hz : H1.size = H.size)
    (hsh : ∀ r', r' < 3 → σ'.1[r']? = σ.1[r']?) (hI : ∀ r', r' < 3 → σ'.2.1 r' = σ.2.1 r') (htag : ∀ t n f, σ'.1[r]? = some (t, n, f) → t < 18) (hoth : ∀ r', r' ≠ r → σ'.1[r']? = σ.1[r']?)
    (he : cellE G σ' r (σ'.1.getD r (0, 0, [])) = e) (ho : ∀ r', r' ≠ r → cellE G σ' r' (σ'.1.getD r' (0, 0, [])) = cellE G σ r' (σ.1.getD r' (0, 0, [])))
    (hP : va_P G.2.1 vwCl ((wsO G σ).set (r - 3) (adr G r, e)) H1) : WO G σ' s H1 := by
  obtain ⟨h1, h2, h4, h5, h6⟩ := h
  rw [wsO_set h3 hr hl he ho] at hP
  refine ⟨hP, by rw [hz, h2, hl], by rw [hl]; exact h4, fun r' hr' => ?_, fun r' t n f h7 h8 => ?_⟩
  · obtain ⟨n, e1, e2⟩ := h5 r' hr'
    exact ⟨n, by rw [hsh r' hr']; exact e1, by rw [hI r' hr']; exact e2⟩
  · by_cases hq : r' = r
    · subst hq; exact htag t n f h8
    · exact h6 r' t n f h7 (by rw [← hoth r' hq]; exact h8)
theorem va_P.size {D : va_G} {cl : List vw_C} {ws : va_W} {H : Heap} : True := trivial
theorem upI_row {I : Nat → Nat → Int32} {r k : Nat} {x : Int32} : upI I r k x r = upd (I r) k x := by
  funext j
  simp [upI, upd]
theorem upI_oth {I : Nat → Nat → Int32} {r k r' : Nat} {x : Int32} (h : r' ≠ r) : upI I r k x r' = I r' := by
  funext j
  simp [upI, h]
theorem upL_row {I : Nat → Nat → Int64} {r k : Nat} {x : Int64} : upL I r k x r = vp_updL (I r) k x := by
  funext j
  simp [upL, vp_updL]
theorem upL_oth {I : Nat → Nat → Int64} {r k r' : Nat} {x : Int64} (h : r' ≠ r) : upL I r k x r' = I r' := by
  funext j
  simp [upL, h]
theorem fvE_congr {G : GG} {σ σ' : MH} {r : Nat} {f : List (Option Nat)} {ty : FieldType} {k : Nat} (h1 : σ'.2.1 r k = σ.2.1 r k) (h2 : σ'.2.2 r k = σ.2.2 r k) : fvE G σ' r f ty k = fvE G σ r f ty k := by
  cases ty <;> simp [fvE, h1, h2]
theorem cell_congr {G : GG} {σ σ' : MH} {r : Nat} {q : Nat × Nat × List (Option Nat)} (h1 : σ'.2.1 r = σ.2.1 r) (h2 : σ'.2.2 r = σ.2.2 r) : cellE G σ' r q = cellE G σ r q := by
  have hf : fsE G σ' r q.1 q.2.2 = fsE G σ r q.1 q.2.2 := List.map_congr_left (fun k _ => fvE_congr (by rw [h1]) (by rw [h2]))
  unfold cellE
  rw [hf, h1, h2]
theorem getD_of {sh : SHL} {r : Nat} {q : Nat × Nat × List (Option Nat)} (h : sh[r]? = some q) : sh.getD r (0, 0, []) = q := by rw [List.getD_eq_getElem?_getD, h]; rfl
/-- an int of a cell -/
theorem WO.putI {G : GG} {σ : MH} {s : State} {H H1 : Heap} {r k t n : Nat} {f : List (Option Nat)} {x : Int32} {e : va_E} (h : WO G σ s H) (hr : σ.1[r]? = some (t, n, f)) (h3 : 3 ≤ r) (hz : H1.size = H.size)
    (he : cellE G (σ.1, upI σ.2.1 r k x, σ.2.2) r (t, n, f) = e) (hP : va_P G.2.1 vwCl ((wsO G σ).set (r - 3) (adr G r, e)) H1) : WO G (σ.1, upI σ.2.1 r k x, σ.2.2) s H1 := by
  refine WO.put h h3 (List.getElem?_eq_some_iff.mp hr).1 rfl hz (fun _ _ => rfl) (fun r' h' => upI_oth (by omega)) (fun t' n' f' h' => h.2.2.2.2 r t' n' f' h3 h') (fun _ _ => rfl) ?_ (fun r' h' => cell_congr (upI_oth h') rfl) hP
  show cellE G _ r (σ.1.getD r (0, 0, [])) = e
  rw [getD_of hr]
  exact he
theorem WO.putL {G : GG} {σ : MH} {s : State} {H H1 : Heap} {r k t n : Nat} {f : List (Option Nat)} {x : Int64} {e : va_E} (h : WO G σ s H) (hr : σ.1[r]? = some (t, n, f)) (h3 : 3 ≤ r) (hz : H1.size = H.size)
    (he : cellE G (σ.1, σ.2.1, upL σ.2.2 r k x) r (t, n, f) = e) (hP : va_P G.2.1 vwCl ((wsO G σ).set (r - 3) (adr G r, e)) H1) : WO G (σ.1, σ.2.1, upL σ.2.2 r k x) s H1 := by
  refine WO.put h h3 (List.getElem?_eq_some_iff.mp hr).1 rfl hz (fun _ _ => rfl) (fun r' h' => rfl) (fun t' n' f' h' => h.2.2.2.2 r t' n' f' h3 h') (fun _ _ => rfl) ?_ (fun r' h' => cell_congr rfl (upL_oth h')) hP
  show cellE G _ r (σ.1.getD r (0, 0, [])) = e
  rw [getD_of hr]
  exact he
/-- a reference of a cell -/
theorem WO.putR {G : GG} {σ : MH} {s : State} {H H1 : Heap} {r t n : Nat} {f f' : List (Option Nat)} {e : va_E} (h : WO G σ s H) (hr : σ.1[r]? = some (t, n, f)) (h3 : 3 ≤ r) (hz : H1.size = H.size)
    (he : cellE G (σ.1.set r (t, n, f'), σ.2.1, σ.2.2) r (t, n, f') = e) (hP : va_P G.2.1 vwCl ((wsO G σ).set (r - 3) (adr G r, e)) H1) : WO G (σ.1.set r (t, n, f'), σ.2.1, σ.2.2) s H1 := by
  have hlt : r < σ.1.length := (List.getElem?_eq_some_iff.mp hr).1
  have hs : (σ.1.set r (t, n, f'))[r]? = some (t, n, f') := List.getElem?_set_self hlt
  have ho : ∀ r', r' ≠ r → (σ.1.set r (t, n, f'))[r']? = σ.1[r']? := fun r' h' => List.getElem?_set_ne (Ne.symm h')
  refine WO.put h h3 hlt (by simp) hz (fun r' h' => ho r' (by omega)) (fun r' h' => rfl) (fun t' n' f2 h' => ?_) ho ?_ (fun r' h' => ?_) hP
  · cases hs.symm.trans h'
    exact h.2.2.2.2 r t n f h3 hr
  · show cellE G _ r ((σ.1.set r (t, n, f')).getD r (0, 0, [])) = e
    rw [getD_of hs]
    exact he
  · show cellE G _ r' ((σ.1.set r (t, n, f')).getD r' (0, 0, [])) = _
    rw [List.getD_eq_getElem?_getD, ho r' h', ← List.getD_eq_getElem?_getD]
    exact cell_congr rfl rfl
theorem va_S.sz {A : Nat → Prop} {H0 H : Heap} {locs : List Loc} (h : va_S A H0 H locs) : H0.size ≤ H.size := h.1
/-- the rows' heaps: how large they are stands in the world's list -/
theorem tys_at (G : GG) : (tysO G)[0]? = some (G.2.2.1 12, .int) ∧ (tysO G)[1]? = some (G.2.2.1 13, .long) ∧ (tysO G)[2]? = some (G.2.2.1 14, .boolean) ∧ (tysO G)[3]? = some (G.2.2.1 15, .object RX0) ∧ (tysO G)[4]? = some (G.2.2.1 16, .object RX7) ∧ (tysO G)[5]? = some (G.2.2.1 17, .object RX8) := ⟨rfl, rfl, rfl, rfl, rfl, rfl⟩
end
section
/-! the writes, with the heap's size told -/
theorem FL_own_all : ∀ o, o < 16 → (FL o).all (fun q => !(q.2.1 == o) || (match vwCl[q.2.1]? with
  | some (C, T, _) => decide (lw_tbl[q.2.2.2]? = some (.fieldLink (cn o) q.1 C (T q.2.2.1).2.1 (T q.2.2.1).2.2.1)) && goodWord (.fieldLink (cn o) q.1 C (T q.2.2.1).2.1 (T q.2.2.1).2.2.1)
  | none => false)) = true := by decide +kernel
theorem FL_own {o i k : Nat} (ho : o < 16) (h : (FL o).any (fun q => q.1 == i && (q.2.1 == o && q.2.2.1 == k)) = true) {C : String} {T : u_T} {N : Nat} (hc : vwCl[o]? = some (C, T, N)) : Cond.fieldLink (cn o) i C (T k).2.1 (T k).2.2.1 ∈ lwG := by
  obtain ⟨q, hq, h⟩ := List.any_eq_true.mp h
  simp only [Bool.and_eq_true, beq_iff_eq] at h
  obtain ⟨a, b, c⟩ := h
  have h2 := List.all_eq_true.mp (FL_own_all o ho) q hq
  simp only [b, beq_self_eq_true, Bool.not_true, Bool.false_or, hc, Bool.and_eq_true, decide_eq_true_eq] at h2
  subst a; subst c
  exact lwG_of h2.1 h2.2
section
variable {G : GG} {y d pc : Nat} {p : Program} {e : Env} {R : Room} {s : State} {m : MethodId} {args : Array Value} {below : List Frame} {meth : Method} {c : Code} {H : Heap} {locs : List Loc} {Z : State → Prop} {ls : Array Slot} {kc ns : Nat} {σ : MH} {rest : List Value}
theorem putO {r ci k n' idx : Nat} {f : List (Option Nat)} {v : Value} (F : FX G y d p R s m args meth c) (hO : SO G s) (hw : WO G σ s H) (hS : va_S (AA G) s.heap H locs) (hr : σ.1[r]? = some (ci, n', f)) (hci : ci < 12) (hyo : yO y < 16) (hcn : cn (yO y) = (yN y).cls) (h2 : yK y = 2 → (yN y).name = "<init>")
    (hlk : (FL (yO y)).any (fun q => q.1 == idx && (q.2.1 == ci && q.2.2.1 == k)) = true) (hfin : finOK y ci k = true) (hn : narrow (clT ci k) v = v) (hfit : fits (clT ci k) v = true) (hd : decode (yC y) pc = .ok (.putfield idx, 3))
    (kk : ∀ (H1 : Heap) (locs1 : List Loc), va_P G.2.1 vwCl ((wsO G σ).set (r - 3) (adr G r, .inr (ci, (fsE G σ r ci f).set k v))) H1 → H1.size = H.size → va_S (AA G) s.heap H1 locs1 → W p G.1 e R s m args below meth c H1 locs1 kc ns Z (F0 m (pc + 3) ls rest)) :
    W p G.1 e R s m args below meth c H locs kc ns Z (F0 m pc ls (v :: .ref (adr G r) :: rest)) := by
  have h3 : 3 ≤ r := hw.three hr (by omega)
  obtain ⟨C, T, N, hc, hk, hT, hlink⟩ := FL_ok hyo hlk
  obtain ⟨hN, hin, hty, hnm⟩ := C_ok ci C T N hc
  have he : (wsO G σ)[r - 3]? = some (adr G r, .inr (ci, fsE G σ r ci f)) := by rw [wsO_at h3 hr, cell_obj hci]
  have hD := wsO_D G σ
  have hP := hw.1
  have hts := F.2.2.2.2.2.1
  have hown : s.vm.findClass (cn (yO y)) = some m.cls := by rw [hcn]; exact F.2.2.2.2.1
  have hap := va_apart (own := cn (yO y)) hts hin (clT ci) hty hnm hO.1 hc
  obtain ⟨r', h1, cell, q1, q2, q3, q4⟩ := hP _ _ he
  have hr' : r' = (C, T, N) := Option.some.inj (h1.symm.trans hc)
  subst hr'
  obtain ⟨hSl, hfc, kC, hkC, hkind⟩ := hO.1.1 ci _ hc
  obtain ⟨cf, kf, fi, fd, hi, hsl⟩ := hSl k hk
  have hlay := hts _ (hin _ (u_in_lay hk))
  unfold u_lay at hlay
  have hst := (u_facts hfc hkC (u_lays hts hin hk) hi).1
  have hl : k < (fsE G σ r ci f).length := by rw [fsE_len, hN]; exact hk
  have fin : ∀ (H' : Heap), H'[adr G r]? = some (cell.setSlot fd.slot v) → H'.size = H.size → (∀ q, q ≠ adr G r → H'[q]? = H[q]?) → W p G.1 e R s m args below meth c H' (locs ++ [⟨adr G r, fd.slot⟩]) kc ns Z (F0 m (pc + 3) ls rest) := by
    intro H' e1 e2 e3
    rw [hsl] at e1 ⊢
    exact kk H' _ (hP.set hD he ⟨_, hc, t_OB.to (V := updV (vp_V (fsE G σ r ci f)) k v) ⟨_, e1, q2, q3, t_set q4 hap hk v⟩ (fun j _ => vp_updV_set hl v j)⟩ e3) e2 (hS.put e2 e3 (AA_adr h3))
  have hfF : finF ci k = (T k).2.2.2 := by
    unfold finF
    rw [List.getD_eq_getElem?_getD, hc]
    rfl
  have hi' : s.fieldFound? C (T k).2.1 (T k).2.2.1 = some (cf, kf, fi, fd) := by rw [← hT]; exact hi
  cases hb : (T k).2.2.2 with
  | false =>
    rw [if_neg (by rw [hb]; decide)] at hlay
    have h6 := u_store hfc hkC hkind hlay hi (hty k hk) hn hfit
    rcases hlink with hlink | hlink
    · exact W.putK F.1 F.2.1 (f := fd) ⟨hown, hts _ hlink, ⟨_, _, _, hi'⟩, hst⟩ (by rw [q2]; exact h6) q1 q3 (by rw [hsl]; exact k2_hasslot (q4 k hk)) rfl rfl hd fin
    · exact va_WputK F.1 F.2.1 (f := fd) hown (va_Nw.use rfl (hO.2.1 _ hlink)) hi' hst (by rw [q2]; exact h6) q1 q3 (by rw [hsl]; exact k2_hasslot (q4 k hk)) rfl rfl hd fin
  | true =>
    rw [if_pos hb] at hlay
    have hf2 : (Nat.beq (yK y) 2 && Nat.beq (yO y) ci) = true := by
      unfold finOK at hfin
      rw [hfF, hb] at hfin
      exact hfin
    rw [Bool.and_eq_true] at hf2
    have hk2 : yK y = 2 := Nat.eq_of_beq_eq_true hf2.1
    have hoc : yO y = ci := Nat.eq_of_beq_eq_true hf2.2
    subst hoc
    have hlink := FL_own hyo hlk hc
    have hcf : m.cls = cf := by
      obtain ⟨_, _, c', _, _, _, -, -, hf', -, -, -, hown2, -⟩ := Cond.laysFinal_spec hlay
      have e1 : c' = cf := by have := hi.symm.trans hf'; simp at this; exact this.1.symm
      have e3 : cn (yO y) = C := by
        have : vwCl[yO y]? = some (C, T, N) := hc
        have e4 : ∀ o, o < 12 → (vwCl[o]?).map (fun q => q.1) = some (cn o) := by decide +kernel
        have e5 := e4 (yO y) hci
        rw [this] at e5
        exact (Option.some.inj e5).symm
      rw [hT, ← e3] at hown2
      rw [← e1]; exact Option.some.inj (hown.symm.trans hown2)
    have h6 := u_fits hfc hkC hkind (Or.inr hlay) hi (hty k hk) hn hfit
    exact W.putFinK F.1 F.2.1 hown (hts _ hlink) hi' hst hcf (by rw [F.2.2.2.2.2.2.2.1]; exact h2 hk2) (by rw [q2]; exact h6) q1 q3 (by rw [hsl]; exact k2_hasslot (q4 k hk)) rfl rfl hd fin
theorem putAi {r n' : Nat} {f : List (Option Nat)} {i x : Int32} (F : FX G y d p R s m args meth c) (hO : SO G s) (hw : WO G σ s H) (hS : va_S (AA G) s.heap H locs) (hr : σ.1[r]? = some (12, n', f)) (hin : vp_in i n') (hd : decode (yC y) pc = .ok (.iastore, 1))
    (kk : ∀ (H1 : Heap) (locs1 : List Loc), WO G (σ.1, upI σ.2.1 r i.toNatClampNeg x, σ.2.2) s H1 → va_S (AA G) s.heap H1 locs1 → W p G.1 e R s m args below meth c H1 locs1 kc ns Z (F0 m (pc + 1) ls rest)) :
    W p G.1 e R s m args below meth c H locs kc ns Z (F0 m pc ls (.int x :: .int i :: .ref (adr G r) :: rest)) := by
  have h3 : 3 ≤ r := hw.three hr (by omega)
  have ha : (wsO G σ)[r - 3]? = some (adr G r, .inl (G.2.2.1 12, n', .inl (σ.2.1 r))) := by rw [wsO_at h3 hr, cell_int (Or.inl rfl)]
  refine W.iast F.1 F.2.1 (hw.1 _ _ ha) ((hO.1.2 0 _ (tys_at G).1).1 n' (fun j => .int (σ.2.1 r j))) (fun q => by cases q) (by show ¬ (i < 0 ∨ (arrV _ _ _).slots.size ≤ _); rw [arrV_size]; exact hin) rfl rfl hd fun H1 e1 z oq => ?_
  refine kk H1 _ (hw.putI hr h3 z (by rw [cell_int (Or.inl rfl)]) (hw.1.set (wsO_D G σ) ha ?_ oq)) (hS.put z oq (AA_adr h3))
  show H1[adr G r]? = some (vp_cell _ _)
  rw [e1, vp_cell_i, vp_cell_i, arrV_store]
  congr 2
  funext q
  show updV _ _ _ q = .int (upI σ.2.1 r i.toNatClampNeg x r q)
  rw [upI_row]
  by_cases hq : q = i.toNatClampNeg
  · subst hq; simp [updV, upd]
  · simp [updV, upd, hq]
theorem putAz {r n' : Nat} {f : List (Option Nat)} {i x : Int32} (F : FX G y d p R s m args meth c) (hO : SO G s) (hw : WO G σ s H) (hS : va_S (AA G) s.heap H locs) (hr : σ.1[r]? = some (14, n', f)) (hin : vp_in i n') (hx : x = 0 ∨ x = 1) (hd : decode (yC y) pc = .ok (.bastore, 1))
    (kk : ∀ (H1 : Heap) (locs1 : List Loc), WO G (σ.1, upI σ.2.1 r i.toNatClampNeg x, σ.2.2) s H1 → va_S (AA G) s.heap H1 locs1 → W p G.1 e R s m args below meth c H1 locs1 kc ns Z (F0 m (pc + 1) ls rest)) :
    W p G.1 e R s m args below meth c H locs kc ns Z (F0 m pc ls (.int x :: .int i :: .ref (adr G r) :: rest)) := by
  have h3 : 3 ≤ r := hw.three hr (by omega)
  have ha : (wsO G σ)[r - 3]? = some (adr G r, .inl (G.2.2.1 14, n', .inl (σ.2.1 r))) := by rw [wsO_at h3 hr, cell_int (Or.inr rfl)]
  refine W.zast F.1 F.2.1 (hw.1 _ _ ha) ((hO.1.2 2 _ (tys_at G).2.2.1).1 n' (fun j => .int (σ.2.1 r j))) (fun q => by cases q) (by show ¬ (i < 0 ∨ (arrV _ _ _).slots.size ≤ _); rw [arrV_size]; exact hin) rfl rfl hd fun H1 e1 z oq => ?_
  refine kk H1 _ (hw.putI hr h3 z (by rw [cell_int (Or.inr rfl)]) (hw.1.set (wsO_D G σ) ha ?_ oq)) (hS.put z oq (AA_adr h3))
  have hnar : narrow .boolean (.int x) = .int x := by rcases hx with h | h <;> subst h <;> decide
  show H1[adr G r]? = some (vp_cell _ _)
  rw [e1, hnar, vp_cell_i, vp_cell_i, arrV_store]
  congr 2
  funext q
  show updV _ _ _ q = .int (upI σ.2.1 r i.toNatClampNeg x r q)
  rw [upI_row]
  by_cases hq : q = i.toNatClampNeg
  · subst hq; simp [updV, upd]
  · simp [updV, upd, hq]
theorem putAl {r n' : Nat} {f : List (Option Nat)} {i : Int32} {x : Int64} (F : FX G y d p R s m args meth c) (hO : SO G s) (hw : WO G σ s H) (hS : va_S (AA G) s.heap H locs) (hr : σ.1[r]? = some (13, n', f)) (hin : vp_in i n') (hd : decode (yC y) pc = .ok (.lastore, 1))
    (kk : ∀ (H1 : Heap) (locs1 : List Loc), WO G (σ.1, σ.2.1, upL σ.2.2 r i.toNatClampNeg x) s H1 → va_S (AA G) s.heap H1 locs1 → W p G.1 e R s m args below meth c H1 locs1 kc ns Z (F0 m (pc + 1) ls rest)) :
    W p G.1 e R s m args below meth c H locs kc ns Z (F0 m pc ls (.long x :: .int i :: .ref (adr G r) :: rest)) := by
  have h3 : 3 ≤ r := hw.three hr (by omega)
  have ha : (wsO G σ)[r - 3]? = some (adr G r, .inl (G.2.2.1 13, n', .inr (.inl (σ.2.2 r)))) := by rw [wsO_at h3 hr, cell_long]
  refine W.last F.1 F.2.1 (hw.1 _ _ ha) ((hO.1.2 1 _ (tys_at G).2.1).1 n' (fun j => .long (σ.2.2 r j))) (fun q => by cases q) (by show ¬ (i < 0 ∨ (arrV _ _ _).slots.size ≤ _); rw [arrV_size]; exact hin) rfl rfl hd fun H1 e1 z oq => ?_
  refine kk H1 _ (hw.putL hr h3 z (by rw [cell_long]) (hw.1.set (wsO_D G σ) ha ?_ oq)) (hS.put z oq (AA_adr h3))
  show H1[adr G r]? = some (vp_cell _ _)
  rw [e1, vp_cell_l, vp_cell_l, arrV_store]
  congr 2
  funext q
  show updV _ _ _ q = .long (upL σ.2.2 r i.toNatClampNeg x r q)
  rw [upL_row]
  by_cases hq : q = i.toNatClampNeg
  · subst hq; simp [updV, vp_updL]
  · simp [updV, vp_updL, hq]
end
end
section
/-! new cells, rows of references, copies -/
theorem lw_ac_int : Cond.arrayClass .int ∈ lwG := lwG_of (p := 213) (by decide +kernel) rfl
theorem lw_ac_long : Cond.arrayClass .long ∈ lwG := lwG_of (p := 324) (by decide +kernel) rfl
theorem lw_ac_boolean : Cond.arrayClass .boolean ∈ lwG := lwG_of (p := 1302) (by decide +kernel) rfl
theorem zrI_oth {I : Nat → Nat → Int32} {r r' : Nat} (h : r' ≠ r) : zrI I r r' = I r' := by funext j; simp [zrI, h]
theorem zrL_oth {I : Nat → Nat → Int64} {r r' : Nat} (h : r' ≠ r) : zrL I r r' = I r' := by funext j; simp [zrL, h]
theorem zrI_row {I : Nat → Nat → Int32} {r : Nat} : zrI I r r = fun _ => 0 := by funext j; simp [zrI]
theorem zrL_row {I : Nat → Nat → Int64} {r : Nat} : zrL I r r = fun _ => 0 := by funext j; simp [zrL]
abbrev pushM (σ : MH) (q : Nat × Nat × List (Option Nat)) : MH := (σ.1 ++ [q], zrI σ.2.1 σ.1.length, zrL σ.2.2 σ.1.length)
theorem WO.push {G : GG} {σ : MH} {s : State} {H H1 : Heap} {q : Nat × Nat × List (Option Nat)} {e : va_E} (h : WO G σ s H) (hq : q.1 < 18) (hz : H1.size = H.size + 1) (hk : ∀ a, a < H.size → H1[a]? = H[a]?)
    (he : cellE G (pushM σ q) σ.1.length q = e) (hat : va_at G.2.1 vwCl (H.size, e) H1) : WO G (pushM σ q) s H1 := by
  obtain ⟨h1, h2, h3, h4, h5⟩ := h
  have hl : (pushM σ q).1.length = σ.1.length + 1 := by simp
  have hold : ∀ r', r' < σ.1.length → (pushM σ q).1[r']? = σ.1[r']? := fun r' h' => List.getElem?_append_left h'
  refine ⟨?_, by rw [hz, h2, hl]; omega, by rw [hl]; omega, fun r' hr' => ?_, fun r' t n f h6 h7 => ?_⟩
  · rw [← wsO_push (σ := σ) (q := q) (e := e) (a := H.size) h3 rfl h2 he (fun r' h' => cell_congr (zrI_oth (by omega)) (zrL_oth (by omega)))]
    refine (h1.kept (fun k x hx => hk x.1 ((h1 k x hx).lt))).app (fun k x hx => ?_)
    have hk0 : k < 1 := (List.getElem?_eq_some_iff.mp hx).1
    rw [show k = 0 by omega] at hx
    cases hx
    exact hat
  · obtain ⟨n, e1, e2⟩ := h4 r' hr'
    refine ⟨n, by rw [hold r' (by omega)]; exact e1, ?_⟩
    rw [show (pushM σ q).2.1 r' = σ.2.1 r' from zrI_oth (by omega)]
    exact e2
  · by_cases hlt : r' < σ.1.length
    · rw [hold r' hlt] at h7
      exact h5 r' t n f h6 h7
    · have h8 : (σ.1 ++ [q])[r']? = some (t, n, f) := h7
      rw [List.getElem?_append_right (by omega)] at h8
      have h9 : r' - σ.1.length < 1 := (List.getElem?_eq_some_iff.mp h8).1
      rw [show r' - σ.1.length = 0 by omega] at h8
      cases h8
      exact hq
theorem adr_new {G : GG} {σ : MH} {s : State} {H : Heap} (h : WO G σ s H) : adr G σ.1.length = H.size := by rw [adr_ge h.2.2.1, h.2.1]
theorem va_S.grow {A : Nat → Prop} {H0 H H1 : Heap} {locs : List Loc} (h : va_S A H0 H locs) (hz : H1.size = H.size + 1) (hk : ∀ a, a < H.size → H1[a]? = H[a]?) : va_S A H0 H1 locs :=
  ⟨by rw [hz]; exact Nat.le_succ_of_le h.1, fun q h1 h2 => (hk q (Nat.lt_of_lt_of_le h1 h.1)).trans (h.2.1 q h1 h2), h.2.2⟩
theorem fvE_zero {G : GG} {σ : MH} {r k N : Nat} {ty : FieldType} (h1 : σ.2.1 r k = 0) (h2 : σ.2.2 r k = 0) (hty : ty = .int ∨ ty = .long ∨ ty = .boolean ∨ (∃ C, ty = .object C) ∨ ∃ t, ty = .array t) : defaultValue ty = fvE G σ r (List.replicate N none) ty k := by
  have hn : (List.replicate N (none : Option Nat)).getD k none = none := by
    rw [List.getD_eq_getElem?_getD, List.getElem?_replicate]
    split <;> rfl
  have hnull : va_rf (rfO G ((List.replicate N (none : Option Nat)).getD k none)) = .null := by rw [hn]; rfl
  rcases hty with rfl | rfl | rfl | ⟨C, rfl⟩ | ⟨t, rfl⟩
  · show Value.int 0 = .int (σ.2.1 r k); rw [h1]
  · show Value.long 0 = .long (σ.2.2 r k); rw [h2]
  · show Value.int 0 = .int (σ.2.1 r k); rw [h1]
  · exact hnull.symm
  · exact hnull.symm
theorem clT_kind : ∀ t, t < 12 → ∀ k, k < clN t → (match clT t k with
  | .int => true
  | .long => true
  | .boolean => true
  | .object _ => true
  | .array _ => true
  | _ => false) = true := by decide +kernel
theorem clT_cases {t k : Nat} (ht : t < 12) (hk : k < clN t) : clT t k = .int ∨ clT t k = .long ∨ clT t k = .boolean ∨ (∃ C, clT t k = .object C) ∨ ∃ x, clT t k = .array x := by
  have h := clT_kind t ht k hk
  revert h
  cases clT t k <;> simp
section
variable {G : GG} {y d pc : Nat} {p : Program} {e : Env} {R : Room} {s : State} {m : MethodId} {args : Array Value} {below : List Frame} {meth : Method} {c : Code} {H : Heap} {locs : List Loc} {Z : State → Prop} {ls : Array Slot} {kc ns : Nat} {σ : MH} {rest : List Value}
theorem newO {ci idx : Nat} (F : FX G y d p R s m args meth c) (hO : SO G s) (hw : WO G σ s H) (hS : va_S (AA G) s.heap H locs) (hci : ci < 12) (hyo : yO y < 16) (hcn : cn (yO y) = (yN y).cls) (hlk : (NL (yO y)).any (fun q => q.1 == idx && q.2.1 == ci) = true)
    (hc1 : kc + 1 ≤ R.cells) (hc2 : ns + clN ci ≤ R.slots) (hd : decode (yC y) pc = .ok (.new idx, 3))
    (kk : ∀ (H1 : Heap), WO G (pushM σ (ci, clN ci, List.replicate (clN ci) none)) s H1 → va_S (AA G) s.heap H1 locs → W p G.1 e R s m args below meth c H1 locs (kc + 1) (ns + clN ci) Z (F0 m (pc + 3) ls (.ref (adr G σ.1.length) :: rest))) :
    W p G.1 e R s m args below meth c H locs kc ns Z (F0 m pc ls rest) := by
  obtain ⟨C, T, N, hc, g1, g2, g3⟩ := NL_ok hyo hlk
  obtain ⟨hN, hin, hty, hnm⟩ := C_ok ci C T N hc
  have hts := F.2.2.2.2.2.1
  have hown : s.vm.findClass (cn (yO y)) = some m.cls := by rw [hcn]; exact F.2.2.2.2.1
  have hKn := hO.1.1 ci _ hc
  rw [adr_new hw] at kk
  subst hN
  refine W.newcK F.1 F.2.1 hown (hts _ g1) (hts _ g2) (hts _ g3) rfl hd hc1 hc2 hKn.2.1 rfl fun H1 kC hkC e1 z1 o1 => ?_
  refine kk H1 (hw.push (show ci < 18 by omega) z1 o1 (cell_obj hci) ⟨_, hc, (u_born (clT ci) hts hin hKn hkC e1 hty).to (fun j hj => ?_)⟩) (hS.grow z1 o1)
  show defaultValue (clT ci j) = vp_V (fsE G _ _ ci _) j
  unfold vp_V
  rw [List.getD_eq_getElem?_getD, fsE_at hj]
  exact fvE_zero (by show zrI σ.2.1 σ.1.length σ.1.length j = 0; rw [zrI_row]) (by show zrL σ.2.2 σ.1.length σ.1.length j = 0; rw [zrL_row]) (clT_cases hci hj)
theorem newA {a : ArrayType} {x : Int32} (F : FX G y d p R s m args meth c) (hO : SO G s) (hw : WO G σ s H) (hS : va_S (AA G) s.heap H locs) (ha : tagNew a < 18) (hx : ¬ x < 0) (hx2 : x.toNatClampNeg ≤ 65536)
    (hc1 : kc + 1 ≤ R.cells) (hc2 : ns + x.toNatClampNeg ≤ R.slots) (hd : decode (yC y) pc = .ok (.newarray a, 2))
    (kk : ∀ (H1 : Heap), WO G (pushM σ (tagNew a, x.toNatClampNeg, [])) s H1 → va_S (AA G) s.heap H1 locs → W p G.1 e R s m args below meth c H1 locs (kc + 1) (ns + x.toNatClampNeg) Z (F0 m (pc + 2) ls (.ref (adr G σ.1.length) :: rest))) :
    W p G.1 e R s m args below meth c H locs kc ns Z (F0 m pc ls (.int x :: rest)) := by
  have hts := F.2.2.2.2.2.1
  rw [adr_new hw] at kk
  have hfind : ∀ (k : Nat) (cA : ClassId) (ty : FieldType), (tysO G)[k]? = some (cA, ty) → va_RA s cA ty := fun k cA ty h => (hO.1.2 k _ h).2
  cases a <;> first | (exact absurd ha (by decide)) | skip
  · refine va_newaK (atype := .boolean) F.1 F.2.1 (hts (.arrayClass .boolean) lw_ac_boolean) rfl hd rfl hx rfl (by have hb : componentBytes (newarray.typeOf ArrayType.boolean) = 1 := rfl; rw [hb]; omega) hc1 hc2 rfl fun H1 cA e1 z1 o1 hAr hNm => ?_
    have hcA : cA = G.2.2.1 14 := Option.some.inj (hNm.symm.trans (hfind 2 _ _ rfl))
    subst hcA
    refine kk H1 (hw.push ha z1 o1 (cell_int (Or.inr rfl)) ?_) (hS.grow z1 o1)
    show H1[H.size]? = some (vp_cell _ _)
    rw [e1, vp_cell_i]
    congr 2
    funext j
    show _ = Value.int (zrI σ.2.1 σ.1.length σ.1.length j)
    rw [zrI_row]
    rfl
  · refine va_newaK (atype := .int) F.1 F.2.1 (hts (.arrayClass .int) lw_ac_int) rfl hd rfl hx rfl (by have hb : componentBytes (newarray.typeOf ArrayType.int) = 4 := rfl; rw [hb]; omega) hc1 hc2 rfl fun H1 cA e1 z1 o1 hAr hNm => ?_
    have hcA : cA = G.2.2.1 12 := Option.some.inj (hNm.symm.trans (hfind 0 _ _ rfl))
    subst hcA
    refine kk H1 (hw.push ha z1 o1 (cell_int (Or.inl rfl)) ?_) (hS.grow z1 o1)
    show H1[H.size]? = some (vp_cell _ _)
    rw [e1, vp_cell_i]
    congr 2
    funext j
    show _ = Value.int (zrI σ.2.1 σ.1.length σ.1.length j)
    rw [zrI_row]
    rfl
  · refine va_newaK (atype := .long) F.1 F.2.1 (hts (.arrayClass .long) lw_ac_long) rfl hd rfl hx rfl (by have hb : componentBytes (newarray.typeOf ArrayType.long) = 8 := rfl; rw [hb]; omega) hc1 hc2 rfl fun H1 cA e1 z1 o1 hAr hNm => ?_
    have hcA : cA = G.2.2.1 13 := Option.some.inj (hNm.symm.trans (hfind 1 _ _ rfl))
    subst hcA
    refine kk H1 (hw.push ha z1 o1 cell_long ?_) (hS.grow z1 o1)
    show H1[H.size]? = some (vp_cell _ _)
    rw [e1, vp_cell_l]
    congr 2
    funext j
    show _ = Value.long (zrL σ.2.2 σ.1.length σ.1.length j)
    rw [zrL_row]
    rfl
theorem tagC_ty {G : GG} {t : Nat} (ht : t = 15 ∨ t = 16 ∨ t = 17)   : ∃ k : Nat, (tysO G)[k]? = some (G.2.2.1 t, FieldType.object (tagC t)) := by
  rcases ht with rfl | rfl | rfl
  · exact ⟨3, rfl⟩
  · exact ⟨4, rfl⟩
  · exact ⟨5, rfl⟩
theorem newR {t idx : Nat} {x : Int32} (F : FX G y d p R s m args meth c) (hO : SO G s) (hw : WO G σ s H) (hS : va_S (AA G) s.heap H locs) (hyo : yO y < 16) (hcn : cn (yO y) = (yN y).cls) (hlk : (AL (yO y)).any (fun q => q.1 == idx && q.2.1 == t) = true) (hx : ¬ x < 0) (hx2 : x.toNatClampNeg ≤ 65536)
    (hc1 : kc + 1 ≤ R.cells) (hc2 : ns + x.toNatClampNeg ≤ R.slots) (hd : decode (yC y) pc = .ok (.anewarray idx, 3))
    (kk : ∀ (H1 : Heap), WO G (pushM σ (t, x.toNatClampNeg, List.replicate x.toNatClampNeg none)) s H1 → va_S (AA G) s.heap H1 locs → W p G.1 e R s m args below meth c H1 locs (kc + 1) (ns + x.toNatClampNeg) Z (F0 m (pc + 3) ls (.ref (adr G σ.1.length) :: rest))) :
    W p G.1 e R s m args below meth c H locs kc ns Z (F0 m pc ls (.int x :: rest)) := by
  have hts := F.2.2.2.2.2.1
  have hown : s.vm.findClass (cn (yO y)) = some m.cls := by rw [hcn]; exact F.2.2.2.2.1
  obtain ⟨g1, ht⟩ := AL_ok hyo hlk
  have hAO : va_AO (tagC t) s := by
    rcases ht with rfl | rfl | rfl
    · exact hO.2.2.2.2.2.1
    · exact hO.2.2.2.2.2.2.1
    · exact hO.2.2.2.2.2.2.2
  rw [adr_new hw] at kk
  refine W.anew F.1 F.2.1 hown (hts _ g1) (va_AO.use hAO) rfl hd rfl hx (by omega) hc1 hc2 fun cA kA comp f1 f2 f3 f4 => ?_
  obtain ⟨k, hk⟩ := tagC_ty (G := G) ht
  have hcA : cA = G.2.2.1 t := by
    obtain ⟨kA', comp', k1, k2, k3, k4⟩ := (hO.1.2 k _ hk).2
    exact Option.some.inj (f1.symm.trans k4)
  subst hcA
  generalize hH1 : H.push ({ cls := G.2.2.1 t, slots := Array.replicate x.toNatClampNeg .null, vm := .none } : Cell) = H1
  have z1 : H1.size = H.size + 1 := by rw [← hH1, Array.size_push]
  have e1 : H1[H.size]? = some (arrV (G.2.2.1 t) x.toNatClampNeg (fun _ => .null)) := by rw [← hH1, Array.getElem?_push_size, ← arrV_new]
  have o1 : ∀ q : Nat, q < H.size → H1[q]? = H[q]? := fun q hq => by rw [← hH1, Array.getElem?_push, if_neg (Nat.ne_of_lt hq)]
  refine kk H1 (hw.push (show t < 18 by omega) z1 o1 (cell_ref (by omega)) ?_) (hS.grow z1 o1)
  show H1[H.size]? = some (vp_cell _ _)
  rw [e1, vp_cell_q]
  congr 2
  funext j
  have hn : (List.replicate x.toNatClampNeg (none : Option Nat)).getD j none = none := by
    rw [List.getD_eq_getElem?_getD, List.getElem?_replicate]
    split <;> rfl
  rw [hn]
  rfl
theorem putAr {r b t n' t2 n2 : Nat} {f f2 : List (Option Nat)} {i : Int32} (F : FX G y d p R s m args meth c) (hO : SO G s) (hw : WO G σ s H) (hS : va_S (AA G) s.heap H locs) (hr : σ.1[r]? = some (t, n', f)) (ht : t = 15 ∨ t = 16 ∨ t = 17) (hb : σ.1[b]? = some (t2, n2, f2)) (ht2 : t2 = cmpT t) (hl : f.length = n') (hin : vp_in i n') (hd : decode (yC y) pc = .ok (.aastore, 1))
    (kk : ∀ (H1 : Heap) (locs1 : List Loc), WO G (σ.1.set r (t, n', f.set i.toNatClampNeg (some b)), σ.2.1, σ.2.2) s H1 → va_S (AA G) s.heap H1 locs1 → W p G.1 e R s m args below meth c H1 locs1 kc ns Z (F0 m (pc + 1) ls rest)) :
    W p G.1 e R s m args below meth c H locs kc ns Z (F0 m pc ls (.ref (adr G b) :: .int i :: .ref (adr G r) :: rest)) := by
  have h3 : 3 ≤ r := hw.three hr (by omega)
  have ht2' : t2 < 12 := by rw [ht2]; rcases ht with rfl | rfl | rfl <;> decide
  have hb3 : 3 ≤ b := hw.three hb (by omega)
  have ha : (wsO G σ)[r - 3]? = some (adr G r, .inl (G.2.2.1 t, n', .inr (.inr (.inr (.inr (fun j => rfO G (f.getD j none))))))) := by rw [wsO_at h3 hr, cell_ref (by omega)]
  have hv : (wsO G σ)[b - 3]? = some (adr G b, .inr (t2, fsE G σ b t2 f2)) := by rw [wsO_at hb3 hb, cell_obj ht2']
  have hlt : i.toNatClampNeg < n' := Nat.not_le.mp fun q => hin (Or.inr q)
  have h0 : ¬ i < 0 := fun q => hin (Or.inl q)
  obtain ⟨r', hr', cellV, g1, g2, g3, -⟩ := hw.1 _ _ hv
  have hcls := (hO.1.1 t2 r' hr').2
  have hnm : r'.1 = tagC t := by
    rcases ht with rfl | rfl | rfl <;> (rw [ht2] at hr'; cases hr'; rfl)
  obtain ⟨kt, hkt⟩ := tagC_ty (G := G) ht
  obtain ⟨kA, comp, k1, k2, k3, -⟩ := (hO.1.2 kt _ hkt).2
  rw [← hnm] at k3
  have hcomp : comp = G.2.1.1 t2 := Option.some.inj (k3.symm.trans hcls.1)
  subst hcomp
  obtain ⟨kC, hkC, -⟩ := hcls.2
  refine W.aast F.1 F.2.1 (hw.1 _ _ ha) (fun q h => by cases h) (fun h => by cases h) k1 k2 rfl hkC ⟨h0, by show _ < (arrV _ _ _).slots.size; rw [arrV_size]; exact hlt⟩ g1 (fun q h => by rw [g3] at h; cases h) (by rw [g2]; exact hkC) (by rw [g2]; exact va_assign hcls) rfl rfl hd fun H1 e1 z oq => ?_
  refine kk H1 _ (hw.putR hr h3 z (by rw [cell_ref (by omega)]) (hw.1.set (wsO_D G σ) ha ?_ oq)) (hS.put z oq (AA_adr h3))
  show H1[adr G r]? = some (vp_cell _ _)
  rw [e1, vp_cell_q, vp_cell_q, arrV_store]
  congr 2
  funext q
  rw [List.getD_eq_getElem?_getD, List.getElem?_set]
  by_cases hq : q = i.toNatClampNeg
  · subst hq
    simp [updV, va_rf, rfO, hl, hlt]
  · rw [if_neg (Ne.symm hq), ← List.getD_eq_getElem?_getD]
    simp [updV, hq]
end
end
section
/-! reads, copies, calls, ends; WP is sound -/
theorem cpI_row {I : Nat → Nat → Int32} {a0 a sp dp n : Nat} : cpI I a0 a sp dp n a = va_cpy (I a0) (I a) sp dp n := by
  funext j
  simp [cpI, va_cpy]
theorem cpI_oth {I : Nat → Nat → Int32} {a0 a sp dp n r : Nat} (h : r ≠ a) : cpI I a0 a sp dp n r = I r := by
  funext j
  simp [cpI, h]
section
variable {G : GG} {y d pc : Nat} {p : Program} {e : Env} {R : Room} {s : State} {m : MethodId} {args : Array Value} {below : List Frame} {meth : Method} {c : Code} {H : Heap} {locs : List Loc} {Z : State → Prop} {ls : Array Slot} {kc ns : Nat} {σ : MH} {rest : List Value}
theorem getO {r ci k n' idx : Nat} {f : List (Option Nat)} {v : Value} (F : FX G y d p R s m args meth c) (hO : SO G s) (hw : WO G σ s H) (hr : σ.1[r]? = some (ci, n', f)) (hci : ci < 12) (hyo : yO y < 16) (hcn : cn (yO y) = (yN y).cls)
    (hlk : (FL (yO y)).any (fun q => q.1 == idx && (q.2.1 == ci && q.2.2.1 == k)) = true) (hv : fvE G σ r f (clT ci k) k = v) (hd : decode (yC y) pc = .ok (.getfield idx, 3))
    (kk : W p G.1 e R s m args below meth c H locs kc ns Z (F0 m (pc + 3) ls (v :: rest))) :
    W p G.1 e R s m args below meth c H locs kc ns Z (F0 m pc ls (.ref (adr G r) :: rest)) := by
  have h3 : 3 ≤ r := hw.three hr (by omega)
  obtain ⟨C, T, N, hc, hk, hT, hlink⟩ := FL_ok hyo hlk
  obtain ⟨hN, hin, hty, hnm⟩ := C_ok ci C T N hc
  have he : (wsO G σ)[r - 3]? = some (adr G r, .inr (ci, fsE G σ r ci f)) := by rw [wsO_at h3 hr, cell_obj hci]
  have hts := F.2.2.2.2.2.1
  have hown : s.vm.findClass (cn (yO y)) = some m.cls := by rw [hcn]; exact F.2.2.2.2.1
  have hvv : (fsE G σ r ci f)[k]? = some v := by rw [fsE_at (by rw [hN]; exact hk), hv]
  rcases hlink with hlink | hlink
  · exact va_get (ref := C) F.1 F.2.1 hts hin hown hO.1 hw.1 _ he hc k hk (hts _ hlink) (fun x h => by rw [hT] at h; exact h) hvv hd kk
  · exact va_getN (ref := C) F.1 F.2.1 hts hin hown hO.1 hw.1 _ he hc k hk (va_Nw.use rfl (hO.2.1 _ hlink)) (fun x h => by rw [hT] at h; exact h) hvv hd kk
theorem getAi {r t n' : Nat} {f : List (Option Nat)} {i : Int32} (F : FX G y d p R s m args meth c) (hO : SO G s) (hw : WO G σ s H) (hS : va_S (AA G) s.heap H locs) (hr : σ.1[r]? = some (t, n', f)) (ht : t = 12 ∨ t = 20) (hin : vp_in i n') (hd : decode (yC y) pc = .ok (.iaload, 1))
    (kk : W p G.1 e R s m args below meth c H locs kc ns Z (F0 m (pc + 1) ls (.int (σ.2.1 r i.toNatClampNeg) :: rest))) :
    W p G.1 e R s m args below meth c H locs kc ns Z (F0 m pc ls (.int i :: .ref (adr G r) :: rest)) := by
  rcases ht with rfl | rfl
  · have h3 : 3 ≤ r := hw.three hr (by omega)
    exact va_iald F.1 F.2.1 hO.1 hw.1 (r - 3) 0 (by rw [wsO_at h3 hr, cell_int (Or.inl rfl)]) (tys_at G).1 hin hd kk
  · exact va_ti F.1 F.2.1 (hw.ext hr) hS hin rfl hd kk
theorem getAlen {r t n' : Nat} {f : List (Option Nat)} (F : FX G y d p R s m args meth c) (hO : SO G s) (hw : WO G σ s H) (hS : va_S (AA G) s.heap H locs) (hr : σ.1[r]? = some (t, n', f)) (ht : 12 ≤ t) (hd : decode (yC y) pc = .ok (.arraylength, 1))
    (kk : W p G.1 e R s m args below meth c H locs kc ns Z (F0 m (pc + 1) ls (.int (Int32.ofNat n') :: rest))) :
    W p G.1 e R s m args below meth c H locs kc ns Z (F0 m pc ls (.ref (adr G r) :: rest)) := by
  by_cases h20 : t = 20
  · subst h20
    obtain ⟨cell, h1, h2, h3, h4, h5, h6, h7⟩ := hw.ext hr
    exact W.alen (n := Int32.ofNat n') F.1 F.2.1 (by rw [hS.2.1 _ (Array.getElem?_eq_some_iff.mp h1).1 h7]; exact h1) h2 h5 rfl rfl hd kk
  · have h3 : 3 ≤ r := hw.three hr h20
    have h18 := hw.2.2.2.2 r t n' f h3 hr
    have hat := wsO_at (G := G) h3 hr
    rcases (show t = 12 ∨ t = 13 ∨ t = 14 ∨ t = 15 ∨ t = 16 ∨ t = 17 by omega) with rfl | rfl | rfl | rfl | rfl | rfl
    · rw [cell_int (Or.inl rfl)] at hat
      exact va_alen F.1 F.2.1 hO.1 hw.1 _ 0 hat (tys_at G).1 rfl hd kk
    · rw [cell_long] at hat
      exact va_alen F.1 F.2.1 hO.1 hw.1 _ 1 hat (tys_at G).2.1 rfl hd kk
    · rw [cell_int (Or.inr rfl)] at hat
      exact va_alen F.1 F.2.1 hO.1 hw.1 _ 2 hat (tys_at G).2.2.1 rfl hd kk
    · rw [cell_ref (by omega)] at hat
      exact va_alen F.1 F.2.1 hO.1 hw.1 _ 3 hat (tys_at G).2.2.2.1 rfl hd kk
    · rw [cell_ref (by omega)] at hat
      exact va_alen F.1 F.2.1 hO.1 hw.1 _ 4 hat (tys_at G).2.2.2.2.1 rfl hd kk
    · rw [cell_ref (by omega)] at hat
      exact va_alen F.1 F.2.1 hO.1 hw.1 _ 5 hat (tys_at G).2.2.2.2.2 rfl hd kk
theorem copyI {a0 a n0 n1 idx : Nat} {f0 f1 : List (Option Nat)} {sp dp n : Int32} (F : FX G y d p R s m args meth c) (hO : SO G s) (hw : WO G σ s H) (hS : va_S (AA G) s.heap H locs) (hsz : ls.size = yL y) (hr0 : σ.1[a0]? = some (12, n0, f0)) (hr1 : σ.1[a]? = some (12, n1, f1)) (hyo : yO y < 16) (hcn : cn (yO y) = (yN y).cls)
    (hlk : Cond.methodLink (cn (yO y)) idx arraycopyName ∈ lwG) (h1 : ¬ sp < 0) (h2 : ¬ dp < 0) (h3 : ¬ n < 0) (h4 : sp.toNatClampNeg + n.toNatClampNeg ≤ n0) (h5 : dp.toNatClampNeg + n.toNatClampNeg ≤ n1) (hcat : (rest.map fun v => v.category).sum ≤ 8) (hd : decode (yC y) pc = .ok (.invokestatic idx, 3))
    (kk : ∀ (H1 : Heap) (locs1 : List Loc), WO G (σ.1, cpI σ.2.1 a0 a sp.toNatClampNeg dp.toNatClampNeg n.toNatClampNeg, σ.2.2) s H1 → va_S (AA G) s.heap H1 locs1 → W p G.1 e R s m args below meth c H1 locs1 kc ns Z (F0 m (pc + 3) ls rest)) :
    W p G.1 e R s m args below meth c H locs kc ns Z (F0 m pc ls (.int n :: .int dp :: .ref (adr G a) :: .int sp :: .ref (adr G a0) :: rest)) := by
  have g0 : 3 ≤ a0 := hw.three hr0 (by omega)
  have g1 : 3 ≤ a := hw.three hr1 (by omega)
  have ha0 : (wsO G σ)[a0 - 3]? = some (adr G a0, .inl (G.2.2.1 12, n0, .inl (σ.2.1 a0))) := by rw [wsO_at g0 hr0, cell_int (Or.inl rfl)]
  have ha1 : (wsO G σ)[a - 3]? = some (adr G a, .inl (G.2.2.1 12, n1, .inl (σ.2.1 a))) := by rw [wsO_at g1 hr1, cell_int (Or.inl rfl)]
  have hts := F.2.2.2.2.2.1
  have hown : s.vm.findClass (cn (yO y)) = some m.cls := by rw [hcn]; exact F.2.2.2.2.1
  have hml : c.maxLocals = ls.size := by rw [hsz]; exact F.2.2.2.1
  have nn : ∀ z : Int32, ¬ z < 0 → z.toInt = (z.toNatClampNeg : Int) := by
    intro z hz
    have hz0 : (0 : Int) ≤ z.toInt := by
      have := Int32.not_lt.mp hz
      simpa using Int32.le_iff_toInt_le.mp this
    show z.toInt = ((z.toInt.toNat : Nat) : Int)
    omega
  have hP := hw.1
  have hD := wsO_D G σ
  have hc0 : H[adr G a0]? = some (vp_cell (G.2.2.1 12) (n0, .inl (σ.2.1 a0))) := hP _ _ ha0
  have hc1 : H[adr G a]? = some (vp_cell (G.2.2.1 12) (n1, .inl (σ.2.1 a))) := hP _ _ ha1
  obtain ⟨-, k0, hk0, cm0, hkk0⟩ := (hO.1.2 0 _ (tys_at G).1).1 n0 (fun j => .int (σ.2.1 a0 j))
  intro T hT X
  obtain ⟨vm', X', step⟩ := X.arraycopy F.1 hown (hts _ hlk) (hts _ (lw_in (by simp))) (hts _ (lw_in (by simp))) (hts _ (lw_in (by simp))) (src := adr G a0) (dst := adr G a) (cs := vp_cell (G.2.2.1 12) (n0, .inl (σ.2.1 a0))) (cd := vp_cell (G.2.2.1 12) (n1, .inl (σ.2.1 a))) (srcPos := sp) (destPos := dp) (n := n) (by rw [hT]; exact hc0) (by rw [hT]; exact hc1)
    (fun _ h => by cases h) (fun _ h => by cases h) (fun h => by cases h) (fun h => by cases h) hk0 hk0 hkk0 hkk0 (by simp [refKind]) h1 h2 h3
    (by rw [nn sp h1, nn n h3]; show ¬ _ > ((arrV _ n0 (fun j => .int (σ.2.1 a0 j))).slots.size : Int); rw [arrV_size]; omega)
    (by rw [nn dp h2, nn n h3]; show ¬ _ > ((arrV _ n1 (fun j => .int (σ.2.1 a j))).slots.size : Int); rw [arrV_size]; omega)
    (fun vm₁ _ i hi => by
      have e : (vp_cell (G.2.2.1 12) (n0, .inl (σ.2.1 a0))).slots.getD (sp.toNatClampNeg + i) .null = .int (σ.2.1 a0 (sp.toNatClampNeg + i)) := by
        show (arrV _ n0 (fun j => .int (σ.2.1 a0 j))).slots.getD _ _ = _
        rw [Array.getD_eq_getD_getElem?, arrV_read _ _ (by omega)]
        rfl
      refine ⟨?_, ?_⟩
      · rw [e]
        rfl
      · rw [e]
        exact trivial)
    (g := F0 m pc ls (.int n :: .int dp :: .ref (adr G a) :: .int sp :: .ref (adr G a0) :: rest)) rfl (by rw [hml]) (rest := rest) rfl (by rw [F.2.1]; exact hd) (by have := F.2.2.2.2.2.2.2.2.1; omega) (by
      have hR := F.2.2.2.2.2.2.2.2.2.1
      have hnw : nativeFrameWords "java/lang/System" "arraycopy" 5 ≤ 20 := by decide +kernel
      show 2 * 0 + _ + _ ≤ _
      omega)
  have e1 : copied (vp_cell (G.2.2.1 12) (n0, .inl (σ.2.1 a0))) (vp_cell (G.2.2.1 12) (n1, .inl (σ.2.1 a))) sp dp n = vp_cell (G.2.2.1 12) (n1, .inl (va_cpy (σ.2.1 a0) (σ.2.1 a) sp.toNatClampNeg dp.toNatClampNeg n.toNatClampNeg)) := va_copied (fun z => .int z) _ _ _ _ h4
  rw [e1] at X' step
  have hl : adr G a < H.size := (Array.getElem?_eq_some_iff.mp hc1).1
  generalize hcell : vp_cell (G.2.2.1 12) (n1, .inl (va_cpy (σ.2.1 a0) (σ.2.1 a) sp.toNatClampNeg dp.toNatClampNeg n.toNatClampNeg)) = cell at X' step
  have hheap : ((T.setVm vm').setCell (adr G a) cell).heap = H.setIfInBounds (adr G a) cell := by rw [← hT]; rfl
  have oq : ∀ q : Nat, q ≠ adr G a → (H.setIfInBounds (adr G a) cell)[q]? = H[q]? := fun q hq => by simp [Array.getElem?_setIfInBounds, Ne.symm hq]
  have hself : (H.setIfInBounds (adr G a) cell)[adr G a]? = some cell := by simp [Array.getElem?_setIfInBounds, hl]
  have hlt1 : a < σ.1.length := (List.getElem?_eq_some_iff.mp hr1).1
  have hW : WO G (σ.1, cpI σ.2.1 a0 a sp.toNatClampNeg dp.toNatClampNeg n.toNatClampNeg, σ.2.2) s (H.setIfInBounds (adr G a) cell) := by
    refine WO.put (e := .inl (G.2.2.1 12, n1, .inl (va_cpy (σ.2.1 a0) (σ.2.1 a) sp.toNatClampNeg dp.toNatClampNeg n.toNatClampNeg))) hw g1 hlt1 rfl (by simp) (fun _ _ => rfl) (fun r' h' => cpI_oth (by omega)) (fun t' n' f' h' => hw.2.2.2.2 a t' n' f' g1 h') (fun _ _ => rfl) ?_ (fun r' h' => cell_congr (cpI_oth h') rfl) ?_
    · show cellE G _ a (σ.1.getD a (0, 0, [])) = _
      rw [getD_of hr1, cell_int (Or.inl rfl)]
      show Sum.inl (_, _, Sum.inl (cpI σ.2.1 a0 a _ _ _ a)) = _
      rw [cpI_row]
    · refine hP.set hD ha1 ?_ oq
      show _ = some (vp_cell _ _)
      rw [hself, ← hcell]
  obtain ⟨t, a1, b1⟩ := kk _ _ hW ⟨by simp; exact hS.1, fun q g1' g2' => by
      rw [oq q (fun e => g2' (by rw [e]; exact AA_adr g1))]
      exact hS.2.1 q g1' g2', fun q hq => by
      rcases List.mem_append.mp hq with h | h
      · exact hS.2.2 q h
      · obtain ⟨z, -, hz⟩ := List.mem_map.mp h
        rw [← hz]
        exact AA_adr g1⟩ _ hheap X'
  exact ⟨t, step t a1, b1⟩
end
end
section
/-! calls -/
theorem goodG {ws : List Cond} (h : ∀ w ∈ ws, w ∈ lwG) : GoodIn lwG ws := fun w hw => ⟨h w hw, good_of_word (List.mem_filter.mp (h w hw)).2⟩
theorem wsY_in {y : Nat} (h : Yok y) : ∀ w ∈ wsY y, w ∈ lwG := by
  intro w hw
  rcases List.mem_cons.mp hw with rfl | hw
  · exact h.1
  · exact hw
section
variable {G : GG} {y d pc : Nat} {p : Program} {e : Env} {R : Room} {s : State} {m : MethodId} {args : Array Value} {below : List Frame} {meth : Method} {c : Code} {H : Heap} {locs : List Loc} {Z : State → Prop} {ls : Array Slot} {kc ns : Nat} {σ : MH} {rest : List Value} {y' : Nat}
theorem EV.after {L A : List Value} {Q : Option Value → MH → Prop} {st0 : List Value} {Aa : Array Value} (F : FX G y d p R s m args meth c) (hO : SO G s) (hS : va_S (AA G) s.heap H locs) (hl : LH G ls (yL y) L) (hk : kc + yMc y' ≤ yMc y) (hn : ns + yMs y' ≤ yMs y) (hRT : RT G y p e R s m args below meth c Z Q)
    (hr : va_Run p G.1 e R s m args below meth c H locs kc ns (yMc y') (yMs y') (F0 m pc ls st0) (rest.map (cv G)) (QcO G (fun v σ' => EV G y d (kc + yMc y') (ns + yMs y') (pc + 3) L (v.toList ++ rest) σ' Q) Aa) (AA G)) :
    W p G.1 e R s m args below meth c H locs kc ns Z (F0 m pc ls st0) := by
  intro T hT X
  obtain ⟨v0, st₀, t, T', L', h0, X', hL, e1, e2, ⟨v, σ', hv, hK, hWS, hF⟩, st⟩ := hr T hT X
  have hv0 : v0 = v.map (cv G) := by cases hv; rfl
  subst hv0
  have hz : H.size ≤ t.heap.size := by rw [← h0]; exact hF.1
  have hfr : ∀ q, q < H.size → ¬ AA G q → t.heap[q]? = H[q]? := fun q h1 h2 => by rw [← h0] at h1 ⊢; exact hF.2 q h1 h2
  have hh : ∀ q, q < s.heap.size → ¬ AA G q → t.heap[q]? = s.heap[q]? := fun q h1 h2 => by
    rw [hfr q (Nat.lt_of_lt_of_le h1 hS.1) h2]
    exact hS.2.1 q h1 h2
  have hal : s.vm.Alike t.vm := by rw [← e2]; exact X'.warmed.alike
  have hw' : WO G σ' s T'.heap := by rw [e1]; exact WO.back hal hO.2.2.2.2.1 hh hWS.1
  have hS' : va_S (AA G) s.heap T'.heap (locs ++ L') := by
    refine ⟨by rw [e1]; exact Nat.le_trans hS.1 hz, fun q h1 h2 => by rw [e1]; exact hh q h1 h2, fun q hq => ?_⟩
    rcases List.mem_append.mp hq with h | h
    · exact hS.2.2 q h
    · exact hL q h
  obtain ⟨t2, a1, b1⟩ := hK p e R s m args below meth c T'.heap (locs ++ L') Z ls F hO hw' hS' hl hk hn hRT T' rfl X'
  refine ⟨t2, st t2 ?_, b1⟩
  have hst : (v.map (cv G)).toList ++ rest.map (cv G) = (v.toList ++ rest).map (cv G) := by cases v <;> simp
  rw [hst]
  exact a1
theorem hdY {y' : Nat} (h : Yok y') : (yN y').cls ≠ "java/lang/invoke/MethodHandle" ∧ (yN y').cls ≠ "java/lang/invoke/VarHandle" ∧ (parseMethodDescriptor (yN y').desc).map (fun d => d.parameters.length) = some (yNp y') := ⟨h.2.2.1.1, h.2.2.1.2, h.2.2.2.2.1⟩
theorem roomY {y' : Nat} (h : Yok y') (F : FX G y d p R s m args meth c) : (rmO d y').frames + 1 ≤ R.frames ∧ 8 + (yL y' + 11) + (rmO d y').locals ≤ R.locals := by
  have h1 := F.2.2.2.2.2.2.2.2.1
  have h2 := F.2.2.2.2.2.2.2.2.2.1
  have h3 := h.2.2.2.2.2.1
  refine ⟨h1, ?_⟩
  show 8 + (yL y' + 11) + 64 * d ≤ R.locals
  omega
theorem preY {A : List Value} (hO : SO G s) (hw : WO G σ s H) (hS : va_S (AA G) s.heap H locs) : ∀ U : State, U.heap = H → s.WarmedH U.vm → PcO G A σ (A.map (cv G)).toArray U := fun U hU hW => ⟨rfl, WS.of hW hU hO hw hS⟩
theorem callV_run {idx b : Nat} {A : List Value} {t n' : Nat} {f : List (Option Nat)} {K : Option Value → MH → Prop} (F : FX G y d p R s m args meth c) (hO : SO G s) (hw : WO G σ s H) (hS : va_S (AA G) s.heap H locs) (hsz : ls.size = yL y) (hY : Yok y') (hk1 : yK y' = 1) (hcn : cn (yO y) = (yN y).cls)
    (hlk : Cond.methodLink (cn (yO y)) idx (yN y') ∈ lwG ∨ Cond.methodLinkNest (cn (yO y)) idx (yN y') "ShapeDuel" ∈ lwN) (hb : σ.1[b]? = some (t, n', f)) (ht : t = yO y') (hA : A.length = yNp y') (hcat : cats rest ≤ 8) (hd : decode (yC y) pc = .ok (.invokevirtual idx, 3))
    (hc1 : kc + yMc y' ≤ R.cells) (hc2 : ns + yMs y' ≤ R.slots) (hM : MT G d y' (.ref b :: A) σ K) :
    va_Run p G.1 e R s m args below meth c H locs kc ns (yMc y') (yMs y') (F0 m pc ls ((A.map (cv G)).reverse ++ .ref (adr G b) :: rest.map (cv G))) (rest.map (cv G)) (QcO G K (Value.ref (adr G b) :: A.map (cv G)).toArray) (AA G) := by
  have hts := F.2.2.2.2.2.1
  have hown : s.vm.findClass (cn (yO y)) = some m.cls := by rw [hcn]; exact F.2.2.2.2.1
  obtain ⟨w1, w2, w3⟩ := hY.2.2.2.2.2.2.2.2.2.1 hk1
  have hS0 : CallFix p m c (yC y) (yL y) s args lwG (cn (yO y)) := ⟨F.1, F.2.1, F.2.2.2.1, hown, hts⟩
  obtain ⟨q, hq, hq1⟩ := Option.map_eq_some_iff.mp w3
  have ht12 : t < 12 := by rw [ht]; exact (List.getElem?_eq_some_iff.mp hq).1
  have h3 : 3 ≤ b := hw.three hb (by omega)
  have hat := wsO_at (G := G) h3 hb
  rw [cell_obj ht12] at hat
  have hp : PreV s H (yN y').cls (adr G b) (PcO G (.ref b :: A) σ) (A.map (cv G)) := ⟨PcO.blind _ _ _, by rw [← hq1]; exact va_recv hO.1 hw.1 (by rw [ht]; exact hq) hat, preY (A := .ref b :: A) hO hw hS⟩
  have hc8 : 2 * (F0 m pc ls ((A.map (cv G)).reverse ++ .ref (adr G b) :: rest.map (cv G))).monitorRoom + ((rest.map (cv G)).map fun v => v.category).sum ≤ 8 := by
    show 2 * 0 + _ ≤ 8
    rw [cats_eq]; omega
  rcases hlk with hlk | hlk
  · exact va_runV hS0 hM (cwV (ws' := lwG) (bytes := yC y') (maxL := yL y') (ret := yR y') (yNp y') hts (goodG (fun w hw => by
      rcases List.mem_append.mp hw with h | h
      · simp only [List.mem_cons, List.not_mem_nil, or_false] at h
        rcases h with rfl | rfl | rfl | rfl
        · exact hlk
        · exact w1
        · exact w2
        · exact hY.2.2.2.1
      · exact wsY_in hY w h)) rfl rfl rfl ⟨rfl, hdY hY⟩ (roomY hY F)) hp rfl (by simp [hA]) hsz rfl hc8 hd ⟨hc1, hc2⟩
  · exact va_runVN hS0 hM ⟨va_cnB (ws' := lwG) (bytes := yC y') (maxL := yL y') (ret := yR y') (yNp y') hts (goodG (wsY_in hY)) rfl rfl rfl (hO.2.1 _ hlk) (hts _ hY.2.2.2.1) (hdY hY) (roomY hY F), hts _ w1, hts _ w2⟩ hp rfl (by simp [hA]) hsz rfl hc8 hd ⟨hc1, hc2⟩
theorem callS_run {idx : Nat} {A : List Value} {K : Option Value → MH → Prop} (F : FX G y d p R s m args meth c) (hO : SO G s) (hw : WO G σ s H) (hS : va_S (AA G) s.heap H locs) (hsz : ls.size = yL y) (hY : Yok y') (hk1 : yK y' = 0) (hcn : cn (yO y) = (yN y).cls)
    (hlk : Cond.methodLink (cn (yO y)) idx (yN y') ∈ lwG ∨ Cond.methodLinkNest (cn (yO y)) idx (yN y') "ShapeDuel" ∈ lwN) (hA : A.length = yNp y') (hcat : cats rest ≤ 8) (hd : decode (yC y) pc = .ok (.invokestatic idx, 3))
    (hc1 : kc + yMc y' ≤ R.cells) (hc2 : ns + yMs y' ≤ R.slots) (hM : MT G d y' A σ K) :
    va_Run p G.1 e R s m args below meth c H locs kc ns (yMc y') (yMs y') (F0 m pc ls ((A.map (cv G)).reverse ++ rest.map (cv G))) (rest.map (cv G)) (QcO G K (A.map (cv G)).toArray) (AA G) := by
  have hts := F.2.2.2.2.2.1
  have hown : s.vm.findClass (cn (yO y)) = some m.cls := by rw [hcn]; exact F.2.2.2.2.1
  have w1 := hY.2.2.2.2.2.2.2.2.1 hk1
  have hS0 : CallFix p m c (yC y) (yL y) s args lwG (cn (yO y)) := ⟨F.1, F.2.1, F.2.2.2.1, hown, hts⟩
  have hp : PreS s H (PcO G A σ) (A.map (cv G)) := ⟨PcO.blind _ _ _, preY hO hw hS⟩
  have hc8 : 2 * (F0 m pc ls ((A.map (cv G)).reverse ++ rest.map (cv G))).monitorRoom + ((rest.map (cv G)).map fun v => v.category).sum ≤ 8 := by
    show 2 * 0 + _ ≤ 8
    rw [cats_eq]; omega
  rcases hlk with hlk | hlk
  · exact va_runS hS0 hM (va_cwS (ws' := lwG) (bytes := yC y') (maxL := yL y') (ret := yR y') (yNp y') hts (goodG (fun w hw => by
      rcases List.mem_append.mp hw with h | h
      · simp only [List.mem_cons, List.not_mem_nil, or_false] at h
        rcases h with rfl | rfl | rfl
        · exact hlk
        · exact w1
        · exact hY.2.2.2.1
      · exact wsY_in hY w h)) rfl rfl rfl (hdY hY) (roomY hY F)) hp rfl (by simp [hA]) hsz rfl hc8 hd ⟨hc1, hc2⟩
  · exact va_runSN hS0 hM ⟨va_cnB (ws' := lwG) (bytes := yC y') (maxL := yL y') (ret := yR y') (yNp y') hts (goodG (wsY_in hY)) rfl rfl rfl (hO.2.1 _ hlk) (hts _ hY.2.2.2.1) (hdY hY) (roomY hY F), hts _ w1, trivial⟩ hp rfl (by simp [hA]) hsz rfl hc8 hd ⟨hc1, hc2⟩
theorem callI_run {idx b : Nat} {A : List Value} {K : Option Value → MH → Prop} (F : FX G y d p R s m args meth c) (hO : SO G s) (hw : WO G σ s H) (hS : va_S (AA G) s.heap H locs) (hsz : ls.size = yL y) (hY : Yok y') (hk1 : yK y' = 2) (hcn : cn (yO y) = (yN y).cls)
    (hlk : Cond.methodLink (cn (yO y)) idx (yN y') ∈ lwG ∨ Cond.methodLinkNest (cn (yO y)) idx (yN y') "ShapeDuel" ∈ lwN) (hA : A.length = yNp y') (hcat : cats rest ≤ 8) (hd : decode (yC y) pc = .ok (.invokespecial idx, 3))
    (hc1 : kc + yMc y' ≤ R.cells) (hc2 : ns + yMs y' ≤ R.slots) (hM : MT G d y' (.ref b :: A) σ K) :
    va_Run p G.1 e R s m args below meth c H locs kc ns (yMc y') (yMs y') (F0 m pc ls ((A.map (cv G)).reverse ++ .ref (adr G b) :: rest.map (cv G))) (rest.map (cv G)) (QcO G K (Value.ref (adr G b) :: A.map (cv G)).toArray) (AA G) := by
  have hts := F.2.2.2.2.2.1
  have hown : s.vm.findClass (cn (yO y)) = some m.cls := by rw [hcn]; exact F.2.2.2.2.1
  obtain ⟨w1, w2, w3⟩ := hY.2.2.2.2.2.2.2.2.2.2 hk1
  have hS0 : CallFix p m c (yC y) (yL y) s args lwG (cn (yO y)) := ⟨F.1, F.2.1, F.2.2.2.1, hown, hts⟩
  have hp : PreS s H (PcO G (.ref b :: A) σ) (.ref (adr G b) :: A.map (cv G)) := ⟨PcO.blind _ _ _, preY (A := .ref b :: A) hO hw hS⟩
  have hws : wsY y' = Cond.code (yN y') (yC y') (yL y') none :: lwG := by unfold wsY; rw [w3]
  have hc8 : 2 * (F0 m pc ls ((A.map (cv G)).reverse ++ .ref (adr G b) :: rest.map (cv G))).monitorRoom + ((rest.map (cv G)).map fun v => v.category).sum ≤ 8 := by
    show 2 * 0 + _ ≤ 8
    rw [cats_eq]; omega
  rcases hlk with hlk | hlk
  · exact va_runI hS0 hM (cwI (ws' := lwG) (bytes := yC y') (maxL := yL y') (yNp y') hts (goodG (wsY_in hY)) hws rfl rfl (hts _ hY.2.2.2.1) (hts _ hlk) (hts _ w1) w2 (hdY hY) (roomY hY F)) hp rfl (by simp [hA]) hsz rfl hc8 hd ⟨hc1, hc2⟩
  · exact va_runIN hS0 hM ⟨va_cnB (ws' := lwG) (bytes := yC y') (maxL := yL y') (ret := none) (yNp y') hts (goodG (wsY_in hY)) hws rfl rfl (hO.2.1 _ hlk) (hts _ hY.2.2.2.1) (hdY hY) (roomY hY F), w2, hts _ w1⟩ hp rfl (by simp [hA]) hsz rfl hc8 hd ⟨hc1, hc2⟩
end
theorem callC_s {G : GG} {y d k n pc : Nat} {L : List Value} {σ : MH} {Q : Option Value → MH → Prop} {y' : Nat} {A rest : List Value} (h : callC G y d k n pc L σ Q y' A rest) : cats rest ≤ 8 ∧ y' < NMT ∧ ((k + yMc y' ≤ yMc y ∧ n + yMs y' ≤ yMs y) ∨ (yMc y' = 0 ∧ yMs y' = 0)) ∧ MT G d y' A σ (fun v σ' => EV G y d (k + yMc y') (n + yMs y') (pc + 3) L (v.toList ++ rest) σ' Q) := by
  obtain ⟨h1, h⟩ := cB_s h
  obtain ⟨h2, h⟩ := cB_s h
  refine ⟨Nat.le_of_ble_eq_true h1, Nat.le_of_ble_eq_true h2, ?_⟩
  split at h
  · exact ⟨Or.inl h.1, h.2⟩
  · obtain ⟨h3, h⟩ := cB_s h
    rw [Bool.and_eq_true] at h3
    have e1 : yMc y' = 0 := Nat.eq_of_beq_eq_true h3.1
    have e2 : yMs y' = 0 := Nat.eq_of_beq_eq_true h3.2
    refine ⟨Or.inr ⟨e1, e2⟩, ?_⟩
    rw [e1, e2]
    exact h.2
end
section
/-! WP is sound -/
theorem EV.mk {G : GG} {y d k n pc : Nat} {L st : List Value} {σ : MH} {Q : Option Value → MH → Prop} (h : ∀ (p : Program) (e : Env) (R : Room) (s : State) (m : MethodId) (args : Array Value) (below : List Frame) (meth : Method) (c : Code) (H : Heap) (locs : List Loc) (Z : State → Prop) (ls : Array Slot),
    FX G y d p R s m args meth c → SO G s → WO G σ s H → va_S (AA G) s.heap H locs → LH G ls (yL y) L → k ≤ yMc y → n ≤ yMs y → RT G y p e R s m args below meth c Z Q →
    W p G.1 e R s m args below meth c H locs k n Z (F0 m pc ls (st.map (cv G)))) : EV G y d k n pc L st σ Q := h
theorem fV_s {G : GG} {σ : MH} {r ci k : Nat} {refs : List (Option Nat)} {K : Value → Prop} (h : fV σ r ci k refs K) : ∃ v, fvE G σ r refs (clT ci k) k = cv G v ∧ K v := by
  unfold fV at h
  unfold fvE
  revert h
  cases clT ci k <;> intro h <;> first | (exact h.elim) | (exact ⟨_, rfl, h⟩) | (obtain ⟨a, h1, h2⟩ := oS_s h; exact ⟨.ref a, by show va_rf (rfO G (refs.getD k none)) = _; rw [h1]; rfl, h2⟩)
theorem fPr_s {σ : MH} {r ci k n : Nat} {refs : List (Option Nat)} {v : Value} {K : MH → Prop} (h : fPr σ r ci k n refs v K) : ∃ a, v = .ref a ∧ K (σ.1.set r (ci, n, refs.set k (some a)), σ.2.1, σ.2.2) := by
  unfold fPr at h
  cases v <;> first | (exact h.elim) | (exact ⟨_, rfl, h⟩)
theorem set_fsE {G : GG} {σ σ' : MH} {r t k : Nat} {f f' : List (Option Nat)} {v : Value} (hv : fvE G σ' r f' (clT t k) k = v) (ho : ∀ j, j ≠ k → fvE G σ' r f' (clT t j) j = fvE G σ r f (clT t j) j) : fsE G σ' r t f' = (fsE G σ r t f).set k v := by
  apply List.ext_getElem?
  intro j
  by_cases hj : j < clN t
  · rw [fsE_at hj]
    by_cases hk : j = k
    · subst hk
      rw [List.getElem?_set_self (by rw [fsE_len]; exact hj), hv]
    · rw [List.getElem?_set_ne (Ne.symm hk), fsE_at hj, ho j hk]
  · rw [List.getElem?_eq_none (by rw [fsE_len]; omega), List.getElem?_eq_none (by rw [List.length_set, fsE_len]; omega)]
section
variable {G : GG} {y d pc : Nat} {k n : Nat} {L : List Value} {σ : MH} {Q : Option Value → MH → Prop} {rest : List Value}
/-- a write of a field -/
theorem EV.putf {r ci kf n' idx : Nat} {f : List (Option Nat)} {v : Value} {K : MH → Prop} (hr : σ.1[r]? = some (ci, n', f)) (hci : ci < 12) (hyo : yO y < 16) (hcn : cn (yO y) = (yN y).cls) (h2 : yK y = 2 → (yN y).name = "<init>")
    (hlk : (FL (yO y)).any (fun q => q.1 == idx && (q.2.1 == ci && q.2.2.1 == kf)) = true) (hfin : finOK y ci kf = true) (hd : decode (yC y) pc = .ok (.putfield idx, 3)) (h : fP σ r ci kf n' f v K) (hK : ∀ σ', K σ' → EV G y d k n (pc + 3) L rest σ' Q) : EV G y d k n pc L (v :: .ref r :: rest) σ Q := by
  refine EV.mk (fun p e R s m args below meth c H locs Z ls F hO hw hS hl hk hn hr' => ?_)
  have h3 : 3 ≤ r := hw.three hr (by omega)
  have go : ∀ (σ' : MH), narrow (clT ci kf) (cv G v) = cv G v → fits (clT ci kf) (cv G v) = true → (∀ (H1 : Heap), va_P G.2.1 vwCl ((wsO G σ).set (r - 3) (adr G r, .inr (ci, (fsE G σ r ci f).set kf (cv G v)))) H1 → H1.size = H.size → WO G σ' s H1) → K σ' → W p G.1 e R s m args below meth c H locs k n Z (F0 m pc ls ((v :: .ref r :: rest).map (cv G))) :=
    fun σ' g1 g2 g3 g4 => putO F hO hw hS hr hci hyo hcn h2 hlk hfin g1 g2 hd (fun H1 locs1 hP hz hS1 => hK σ' g4 p e R s m args below meth c H1 locs1 Z ls F hO (g3 H1 hP hz) hS1 hl hk hn hr')
  have hI : ∀ (x : Int32), (∀ σ2 : MH, fvE G σ2 r f (clT ci kf) kf = .int (σ2.2.1 r kf)) → cellE G (σ.1, upI σ.2.1 r kf x, σ.2.2) r (ci, n', f) = .inr (ci, (fsE G σ r ci f).set kf (.int x)) := by
    intro x hty
    rw [cell_obj hci, set_fsE (σ := σ) (f := f) (v := .int x) (k := kf)]
    · rw [hty]
      show Value.int (upI σ.2.1 r kf x r kf) = _
      rw [upI_row]
      simp [upd]
    · intro j hj
      refine fvE_congr ?_ rfl
      show upI σ.2.1 r kf x r j = _
      rw [upI_row]
      simp [upd, hj]
  have hRf : ∀ a : Nat, kf < f.length → (∀ (σ2 : MH) (f2 : List (Option Nat)), fvE G σ2 r f2 (clT ci kf) kf = va_rf (rfO G (f2.getD kf none))) → cellE G (σ.1.set r (ci, n', f.set kf (some a)), σ.2.1, σ.2.2) r (ci, n', f.set kf (some a)) = .inr (ci, (fsE G σ r ci f).set kf (.ref (adr G a))) := by
    intro a hlt hty
    rw [cell_obj hci, set_fsE (σ := σ) (f := f) (v := .ref (adr G a)) (k := kf)]
    · rw [hty, List.getD_eq_getElem?_getD, List.getElem?_set_self hlt]
      rfl
    · intro j hj
      have : (f.set kf (some a)).getD j none = f.getD j none := by rw [List.getD_eq_getElem?_getD, List.getD_eq_getElem?_getD, List.getElem?_set_ne (Ne.symm hj)]
      unfold fvE
      rw [this]
  unfold fP at h
  split at h
  · rename_i hty
    cases v <;> first | (exact h.elim) | skip
    rename_i x
    exact go _ (by rw [hty]; rfl) (by rw [hty]; rfl) (fun H1 hP hz => hw.putI hr h3 hz (hI x (fun σ2 => by rw [hty]; rfl)) hP) h
  · rename_i hty
    cases v <;> first | (exact h.elim) | skip
    rename_i x
    exact go _ (by rw [hty]; rcases h.1 with e | e <;> rw [e] <;> rfl) (by rw [hty]; rcases h.1 with e | e <;> rw [e] <;> rfl) (fun H1 hP hz => hw.putI hr h3 hz (hI x (fun σ2 => by rw [hty]; rfl)) hP) h.2
  · rename_i hty
    cases v <;> first | (exact h.elim) | skip
    rename_i x
    refine go _ (by rw [hty]; rfl) (by rw [hty]; rfl) (fun H1 hP hz => hw.putL hr h3 hz ?_ hP) h
    rw [cell_obj hci, set_fsE (σ := σ) (f := f) (v := .long x) (k := kf)]
    · rfl
    · rw [hty]
      show Value.long (upL σ.2.2 r kf x r kf) = _
      rw [upL_row]
      simp [vp_updL]
    · intro j hj
      refine fvE_congr rfl ?_
      show upL σ.2.2 r kf x r j = _
      rw [upL_row]
      simp [vp_updL, hj]
  · rename_i hty
    obtain ⟨hb, h5⟩ := cB_s h
    obtain ⟨a, hva, h6⟩ := fPr_s h5
    subst hva
    exact go _ (by rw [hty]; rfl) (by rw [hty]; rfl) (fun H1 hP hz => hw.putR hr h3 hz (hRf a (Nat.le_of_ble_eq_true hb) (fun _ _ => by rw [hty]; rfl)) hP) h6
  · rename_i hty
    obtain ⟨hb, h5⟩ := cB_s h
    obtain ⟨a, hva, h6⟩ := fPr_s h5
    subst hva
    exact go _ (by rw [hty]; rfl) (by rw [hty]; rfl) (fun H1 hP hz => hw.putR hr h3 hz (hRf a (Nat.le_of_ble_eq_true hb) (fun _ _ => by rw [hty]; rfl)) hP) h6
  · exact h.elim
end
theorem sp4_s {a : Nat} {A B C D E : Prop} (h : sp4 a A B C D E) : (a = 1001 ∧ A) ∨ (a = 1002 ∧ B) ∨ (a = 1003 ∧ C) ∨ (a = 1004 ∧ D) ∨ E := by
  unfold sp4 at h
  split at h
  · rename_i q; exact Or.inl ⟨Nat.eq_of_beq_eq_true q, h⟩
  split at h
  · rename_i q; exact Or.inr (Or.inl ⟨Nat.eq_of_beq_eq_true q, h⟩)
  split at h
  · rename_i q; exact Or.inr (Or.inr (Or.inl ⟨Nat.eq_of_beq_eq_true q, h⟩))
  split at h
  · rename_i q; exact Or.inr (Or.inr (Or.inr (Or.inl ⟨Nat.eq_of_beq_eq_true q, h⟩)))
  · exact Or.inr (Or.inr (Or.inr (Or.inr h)))
theorem beq_n {a b : Nat} (h : Nat.beq a b = true) : a = b := Nat.eq_of_beq_eq_true h
theorem ble_n {a b : Nat} (h : Nat.ble a b = true) : a ≤ b := Nat.le_of_ble_eq_true h
set_option maxHeartbeats 8000000 in
theorem stp_rest {G : GG} {y d : Nat} {pc : Nat} {i : Instr} {len a1 a2 : Nat} {val : Value} {sw : List (Int32 × Nat)} {nx : KT} {jp : Nat → KT} {k n : Nat} {L st : List Value} {σ : MH} {Q : Option Value → MH → Prop}
    (hd : decode (yC y) pc = .ok (i, len)) (hok : okI (yO y) pc i len a1 a2 val sw = true) (hyo : yO y < 16) (hcn : cn (yO y) = (yN y).cls) (hy2 : yK y = 2 → (yN y).name = "<init>") (hnx : ∀ k n L st σ, nx k n L st σ → EV G y d k n (pc + len) L st σ Q) (hjp : ∀ t k n L st σ, jp t k n L st σ → EV G y d k n t L st σ Q)
    (h : stp G y d (pc, i, len, a1, a2, val, sw) nx jp k n L st σ Q) (hp : ¬ plainI i = true) : EV G y d k n pc L st σ Q := by
  cases i
  case getstatic idx =>
    have hok : (len == 3 && (SL (yO y)).any (fun q => q.1 == idx && q.2.1 == a1)) = true := hok
    rw [Bool.and_eq_true] at hok
    have hlen := beq_iff_eq.mp hok.1
    subst hlen
    obtain ⟨hw1, ha⟩ := SL_ok hyo hok.2
    have h : nx k n L (.ref a1 :: st) σ := h
    refine EV.mk (fun p e R s m args below meth c H locs Z ls F hO hw hS hl hk hn hr' => ?_)
    have hown : s.vm.findClass (cn (yO y)) = some m.cls := by rw [hcn]; exact F.2.2.2.2.1
    have hkk := hnx _ _ _ _ _ h p e R s m args below meth c H locs Z ls F hO hw hS hl hk hn hr'
    rcases ha with rfl | rfl
    · exact va_getsN F.1 F.2.1 hO.2.2.1 hS hown (va_Nw.use rfl (hO.2.1 _ hw1)) (fun x h => h) hd hkk
    · exact va_getsN F.1 F.2.1 hO.2.2.2.1 hS hown (va_Nw.use rfl (hO.2.1 _ hw1)) (fun x h => h) hd hkk
  case getfield idx =>
    have hok : (len == 3 && (FL (yO y)).any (fun q => q.1 == idx && (q.2.1 == a1 && q.2.2.1 == a2))) = true := hok
    rw [Bool.and_eq_true] at hok
    have hlen := beq_iff_eq.mp hok.1
    subst hlen
    obtain ⟨a, r, hst, h2⟩ := pR_s h
    clear h
    subst hst
    have h := h2
    clear h2
    obtain ⟨t, n', f, hsh, h⟩ := gA_s h
    obtain ⟨ht, h⟩ := cB_s h
    have ht := beq_n ht
    have ht : t = a1 := ht
    subst ht
    obtain ⟨v, hv, h⟩ := fV_s (G := G) h
    obtain ⟨C, T, N, hc, -⟩ := FL_ok hyo hok.2
    have hci : t < 12 := (List.getElem?_eq_some_iff.mp hc).1
    exact EV.mk (fun p e R s m args below meth c H locs Z ls F hO hw hS hl hk hn hr' => getO F hO hw hsh hci hyo hcn hok.2 hv hd (hnx _ _ _ _ _ h p e R s m args below meth c H locs Z ls F hO hw hS hl hk hn hr'))
  case putfield idx =>
    have hok : (len == 3 && (FL (yO y)).any (fun q => q.1 == idx && (q.2.1 == a1 && q.2.2.1 == a2))) = true := hok
    rw [Bool.and_eq_true] at hok
    have hlen := beq_iff_eq.mp hok.1
    subst hlen
    obtain ⟨v, a, r, hst, h2⟩ := pVR_s h
    clear h
    subst hst
    have h := h2
    clear h2
    obtain ⟨t, n', f, hsh, h⟩ := gA_s h
    obtain ⟨ht, h⟩ := cB_s h
    have ht : t = a1 := beq_n ht
    subst ht
    obtain ⟨hf, h⟩ := cB_s h
    obtain ⟨C, T, N, hc, -⟩ := FL_ok hyo hok.2
    have hci : t < 12 := (List.getElem?_eq_some_iff.mp hc).1
    exact EV.putf hsh hci hyo hcn hy2 hok.2 hf hd h (fun σ' hK => hnx _ _ _ _ _ hK)
  case iaload =>
    have hlen : len = 1 := beq_iff_eq.mp (show (len == 1) = true from hok)
    subst hlen
    obtain ⟨i, a, r, hst, h2⟩ := pIR_s h
    clear h
    subst hst
    have h := h2
    clear h2
    obtain ⟨t, n', f, hsh, h⟩ := gA_s h
    obtain ⟨ht, h⟩ := cB_s h
    rw [Bool.or_eq_true] at ht
    have ht : t = 12 ∨ t = 20 := ht.elim (fun q => Or.inl (beq_n q)) (fun q => Or.inr (beq_n q))
    exact EV.mk (fun p e R s m args below meth c H locs Z ls F hO hw hS hl hk hn hr' => getAi F hO hw hS hsh ht h.1 hd (hnx _ _ _ _ _ h.2 p e R s m args below meth c H locs Z ls F hO hw hS hl hk hn hr'))
  case baload =>
    have hlen : len = 1 := beq_iff_eq.mp (show (len == 1) = true from hok)
    subst hlen
    obtain ⟨i, a, r, hst, h2⟩ := pIR_s h
    clear h
    subst hst
    have h := h2
    clear h2
    obtain ⟨t, n', f, hsh, h⟩ := gA_s h
    obtain ⟨ht, h⟩ := cB_s h
    have ht := beq_n ht
    subst ht
    exact EV.mk (fun p e R s m args below meth c H locs Z ls F hO hw hS hl hk hn hr' => va_zald F.1 F.2.1 hO.1 hw.1 (a - 3) 2 (by rw [wsO_at (hw.three hsh (by omega)) hsh, cell_int (Or.inr rfl)]) (tys_at G).2.2.1 h.1 hd (hnx _ _ _ _ _ h.2 p e R s m args below meth c H locs Z ls F hO hw hS hl hk hn hr'))
  case laload =>
    have hlen : len = 1 := beq_iff_eq.mp (show (len == 1) = true from hok)
    subst hlen
    obtain ⟨i, a, r, hst, h2⟩ := pIR_s h
    clear h
    subst hst
    have h := h2
    clear h2
    obtain ⟨t, n', f, hsh, h⟩ := gA_s h
    obtain ⟨ht, h⟩ := cB_s h
    have ht := beq_n ht
    subst ht
    exact EV.mk (fun p e R s m args below meth c H locs Z ls F hO hw hS hl hk hn hr' => va_lald F.1 F.2.1 hO.1 hw.1 (a - 3) 1 (by rw [wsO_at (hw.three hsh (by omega)) hsh, cell_long]) (tys_at G).2.1 h.1 hd (hnx _ _ _ _ _ h.2 p e R s m args below meth c H locs Z ls F hO hw hS hl hk hn hr'))
  case aaload =>
    have hlen : len = 1 := beq_iff_eq.mp (show (len == 1) = true from hok)
    subst hlen
    obtain ⟨i, a, r, hst, h2⟩ := pIR_s h
    clear h
    subst hst
    have h := h2
    clear h2
    obtain ⟨t, n', f, hsh, h⟩ := gA_s h
    obtain ⟨ht, h⟩ := cB_s h
    rw [Bool.and_eq_true] at ht
    have ht1 := ble_n ht.1
    have ht2 := ble_n ht.2
    obtain ⟨hin, h⟩ := h
    obtain ⟨b, hb, h⟩ := oS_s h
    refine EV.mk (fun p e R s m args below meth c H locs Z ls F hO hw hS hl hk hn hr' => ?_)
    obtain ⟨q, hq⟩ := tagC_ty (G := G) (show t = 15 ∨ t = 16 ∨ t = 17 by omega)
    refine va_aldq F.1 F.2.1 hO.1 hw.1 (a - 3) q (by rw [wsO_at (hw.three hsh (by omega)) hsh, cell_ref ht1]) hq hin hd ?_
    rw [hb]
    exact hnx _ _ _ _ _ h p e R s m args below meth c H locs Z ls F hO hw hS hl hk hn hr'
  case iastore =>
    have hlen : len = 1 := beq_iff_eq.mp (show (len == 1) = true from hok)
    subst hlen
    obtain ⟨x, i, a, r, hst, h2⟩ := pIIR_s h
    clear h
    subst hst
    have h := h2
    clear h2
    obtain ⟨t, n', f, hsh, h⟩ := gA_s h
    obtain ⟨ht, h⟩ := cB_s h
    have ht := beq_n ht
    subst ht
    exact EV.mk (fun p e R s m args below meth c H locs Z ls F hO hw hS hl hk hn hr' => putAi F hO hw hS hsh h.1 hd (fun H1 locs1 hw1 hS1 => hnx _ _ _ _ _ h.2 p e R s m args below meth c H1 locs1 Z ls F hO hw1 hS1 hl hk hn hr'))
  case bastore =>
    have hlen : len = 1 := beq_iff_eq.mp (show (len == 1) = true from hok)
    subst hlen
    obtain ⟨x, i, a, r, hst, h2⟩ := pIIR_s h
    clear h
    subst hst
    have h := h2
    clear h2
    obtain ⟨t, n', f, hsh, h⟩ := gA_s h
    obtain ⟨ht, h⟩ := cB_s h
    have ht := beq_n ht
    subst ht
    exact EV.mk (fun p e R s m args below meth c H locs Z ls F hO hw hS hl hk hn hr' => putAz F hO hw hS hsh h.1.1 h.1.2 hd (fun H1 locs1 hw1 hS1 => hnx _ _ _ _ _ h.2 p e R s m args below meth c H1 locs1 Z ls F hO hw1 hS1 hl hk hn hr'))
  case lastore =>
    have hlen : len = 1 := beq_iff_eq.mp (show (len == 1) = true from hok)
    subst hlen
    obtain ⟨x, i, a, r, hst, h2⟩ := pJIR_s h
    clear h
    subst hst
    have h := h2
    clear h2
    obtain ⟨t, n', f, hsh, h⟩ := gA_s h
    obtain ⟨ht, h⟩ := cB_s h
    have ht := beq_n ht
    subst ht
    exact EV.mk (fun p e R s m args below meth c H locs Z ls F hO hw hS hl hk hn hr' => putAl F hO hw hS hsh h.1 hd (fun H1 locs1 hw1 hS1 => hnx _ _ _ _ _ h.2 p e R s m args below meth c H1 locs1 Z ls F hO hw1 hS1 hl hk hn hr'))
  case aastore =>
    have hlen : len = 1 := beq_iff_eq.mp (show (len == 1) = true from hok)
    subst hlen
    obtain ⟨b, i, a, r, hst, h2⟩ := pRIR_s h
    clear h
    subst hst
    have h := h2
    clear h2
    obtain ⟨t, n', f, hsh, h⟩ := gA_s h
    obtain ⟨ht, h⟩ := cB_s h
    rw [Bool.and_eq_true] at ht
    have ht1 := ble_n ht.1
    have ht2 := ble_n ht.2
    obtain ⟨t2, n2, f2, hsh2, h⟩ := gA_s h
    obtain ⟨htt, h⟩ := cB_s h
    obtain ⟨hle, h⟩ := cB_s h
    exact EV.mk (fun p e R s m args below meth c H locs Z ls F hO hw hS hl hk hn hr' => putAr F hO hw hS hsh (by omega) hsh2 (beq_n htt) (beq_n hle) h.1 hd (fun H1 locs1 hw1 hS1 => hnx _ _ _ _ _ h.2 p e R s m args below meth c H1 locs1 Z ls F hO hw1 hS1 hl hk hn hr'))
  case arraylength =>
    have hlen : len = 1 := beq_iff_eq.mp (show (len == 1) = true from hok)
    subst hlen
    obtain ⟨a, r, hst, h2⟩ := pR_s h
    clear h
    subst hst
    have h := h2
    clear h2
    obtain ⟨t, n', f, hsh, h⟩ := gA_s h
    obtain ⟨ht, h⟩ := cB_s h
    exact EV.mk (fun p e R s m args below meth c H locs Z ls F hO hw hS hl hk hn hr' => getAlen F hO hw hS hsh (ble_n ht) hd (hnx _ _ _ _ _ h p e R s m args below meth c H locs Z ls F hO hw hS hl hk hn hr'))
  case new idx =>
    have hok : (len == 3 && (Nat.ble 12 a1 || (NL (yO y)).any (fun q => q.1 == idx && q.2.1 == a1))) = true := hok
    rw [Bool.and_eq_true, Bool.or_eq_true] at hok
    have hlen := beq_iff_eq.mp hok.1
    subst hlen
    obtain ⟨hci, h⟩ := cB_s h
    have hci : a1 < 12 := ble_n hci
    have hlk := hok.2.elim (fun q => absurd (ble_n q) (by omega)) id
    obtain ⟨⟨g1, g2⟩, h⟩ := h
    refine EV.mk (fun p e R s m args below meth c H locs Z ls F hO hw hS hl hk hn hr' => newO F hO hw hS hci hyo hcn hlk (Nat.le_trans g1 F.2.2.2.2.2.2.2.2.2.2.1) (Nat.le_trans g2 F.2.2.2.2.2.2.2.2.2.2.2) hd (fun H1 hw1 hS1 => hnx _ _ _ _ _ h p e R s m args below meth c H1 locs Z ls F hO hw1 hS1 hl g1 g2 hr'))
  case newarray a =>
    have hlen : len = 2 := beq_iff_eq.mp (show (len == 2) = true from hok)
    subst hlen
    obtain ⟨x, r, hst, h2⟩ := pI_s h
    clear h
    subst hst
    have h := h2
    clear h2
    obtain ⟨hci, h⟩ := cB_s h
    obtain ⟨⟨g0, g0', g1, g2⟩, h⟩ := h
    refine EV.mk (fun p e R s m args below meth c H locs Z ls F hO hw hS hl hk hn hr' => newA F hO hw hS (ble_n hci) g0 g0' (Nat.le_trans g1 F.2.2.2.2.2.2.2.2.2.2.1) (Nat.le_trans g2 F.2.2.2.2.2.2.2.2.2.2.2) hd (fun H1 hw1 hS1 => hnx _ _ _ _ _ h p e R s m args below meth c H1 locs Z ls F hO hw1 hS1 hl g1 g2 hr'))
  case anewarray idx =>
    have hok : (len == 3 && (AL (yO y)).any (fun q => q.1 == idx && q.2.1 == a1)) = true := hok
    rw [Bool.and_eq_true] at hok
    have hlen := beq_iff_eq.mp hok.1
    subst hlen
    obtain ⟨x, r, hst, h2⟩ := pI_s h
    clear h
    subst hst
    have h := h2
    clear h2
    obtain ⟨⟨g0, g0', g1, g2⟩, h⟩ := h
    refine EV.mk (fun p e R s m args below meth c H locs Z ls F hO hw hS hl hk hn hr' => newR F hO hw hS hyo hcn hok.2 g0 g0' (Nat.le_trans g1 F.2.2.2.2.2.2.2.2.2.2.1) (Nat.le_trans g2 F.2.2.2.2.2.2.2.2.2.2.2) hd (fun H1 hw1 hS1 => hnx _ _ _ _ _ h p e R s m args below meth c H1 locs Z ls F hO hw1 hS1 hl g1 g2 hr'))
  case ireturn =>
    have hlen : len = 1 := beq_iff_eq.mp (show (len == 1) = true from hok)
    subst hlen
    match st, h with
    | [.int x], h =>
      cases hR : yR y with
      | none => have h : (match yR y with | some .boolean => (x = 0 ∨ x = 1) ∧ Q (some (.int x)) σ | some .int => True ∧ Q (some (.int x)) σ | _ => False) := h; rw [hR] at h; exact h.elim
      | some ty =>
        have h : (match yR y with | some .boolean => (x = 0 ∨ x = 1) ∧ Q (some (.int x)) σ | some .int => True ∧ Q (some (.int x)) σ | _ => False) := h
        rw [hR] at h
        cases ty <;> first | (exact h.elim) | skip
        · exact EV.mk (fun p e R s m args below meth c H locs Z ls F hO hw hS hl hk hn hr' => hr' (some (.int x)) σ H locs k n pc ls h.2 (by unfold rOK; rw [hR]; exact h.1) hw hS hk hn hd)
        · exact EV.mk (fun p e R s m args below meth c H locs Z ls F hO hw hS hl hk hn hr' => hr' (some (.int x)) σ H locs k n pc ls h.2 (by unfold rOK; rw [hR]; first | exact h.1 | trivial) hw hS hk hn hd)
  case lreturn =>
    have hlen : len = 1 := beq_iff_eq.mp (show (len == 1) = true from hok)
    subst hlen
    match st, h with
    | [.long x], h =>
      have h : (match yR y with | some .long => True ∧ Q (some (.long x)) σ | _ => False) := h
      cases hR : yR y with
      | none => rw [hR] at h; exact h.elim
      | some ty =>
        rw [hR] at h
        cases ty <;> first | (exact h.elim) | skip
        exact EV.mk (fun p e R s m args below meth c H locs Z ls F hO hw hS hl hk hn hr' => hr' (some (.long x)) σ H locs k n pc ls h.2 (by unfold rOK; rw [hR]; first | exact h.1 | trivial) hw hS hk hn hd)
  case return_ =>
    have hlen : len = 1 := beq_iff_eq.mp (show (len == 1) = true from hok)
    subst hlen
    match st, h with
    | [], h =>
      have h : (match yR y with | none => True ∧ Q none σ | _ => False) := h
      cases hR : yR y with
      | some ty => rw [hR] at h; exact h.elim
      | none =>
        rw [hR] at h
        exact EV.mk (fun p e R s m args below meth c H locs Z ls F hO hw hS hl hk hn hr' => hr' none σ H locs k n pc ls h.2 (by unfold rOK; rw [hR]; first | exact h.1 | trivial) hw hS hk hn hd)
  case invokevirtual idx =>
    have hok : (len == 3 && (a1 == 2000 || (ML (yO y)).any (fun q => q.1 == idx && q.2.1 == a1))) = true := hok
    rw [Bool.and_eq_true, Bool.or_eq_true] at hok
    have hlen := beq_iff_eq.mp hok.1
    subst hlen
    obtain ⟨hK1, h⟩ := cB_s h
    obtain ⟨A, r, hA, hst0, h2⟩ := takeA_s h
    clear h
    subst hst0
    have h := h2
    clear h2
    rw [List.append_nil] at h
    obtain ⟨b, r', hst, h2⟩ := pR_s h
    clear h
    subst hst
    have h := h2
    clear h2
    obtain ⟨t, n', f, hsh, h⟩ := gA_s h
    obtain ⟨ht, h⟩ := cB_s h
    obtain ⟨hcat, hN, hmm, hM⟩ := callC_s h
    have hN : a1 < NMT := hN
    have hlk := ML_ok hyo (hok.2.elim (fun q => absurd (beq_iff_eq.mp q) (by have : a1 < 265 := hN; omega)) id)
    have hsp : spN a1 = none := by unfold spN; have : a1 < 265 := hN; rw [if_neg (by omega), if_neg (by omega), if_neg (by omega), if_neg (by omega), if_neg (by omega)]
    unfold MLok at hlk
    rw [hsp] at hlk
    refine EV.mk (fun p e R s m args below meth c H locs Z ls F hO hw hS hl hk hn hr' => ?_)
    have hm1 : k + yMc a1 ≤ yMc y := by rcases hmm with q | q; exact q.1; (have := q.1; have : yMc a1 = 0 := this; omega)
    have hm2 : n + yMs a1 ≤ yMs y := by rcases hmm with q | q; exact q.2; (have := q.2; have : yMs a1 = 0 := this; omega)
    have hrun := callV_run (e := e) (below := below) (ls := ls) (y' := a1) F hO hw hS hl.1 (Y_ok hN) (beq_n hK1) hcn hlk hsh (beq_n ht) hA hcat hd (Nat.le_trans hm1 F.2.2.2.2.2.2.2.2.2.2.1) (Nat.le_trans hm2 F.2.2.2.2.2.2.2.2.2.2.2) hM
    have hst : (A.reverse ++ .ref b :: r').map (cv G) = (A.map (cv G)).reverse ++ .ref (adr G b) :: r'.map (cv G) := by simp [cv]
    rw [hst]
    exact EV.after (y' := a1) (A := A) F hO hS hl hm1 hm2 hr' hrun
  case invokespecial idx =>
    have hok : (len == 3 && (a1 == 2000 || (ML (yO y)).any (fun q => q.1 == idx && q.2.1 == a1))) = true := hok
    rw [Bool.and_eq_true, Bool.or_eq_true] at hok
    have hlen := beq_iff_eq.mp hok.1
    subst hlen
    have h : (match Nat.beq a1 1000 with | true => pR st (fun _ r => cB (Nat.ble (cats r) 8) (nx k n L r σ)) | false => cB (Nat.beq (yK a1) 2) (takeA (yNp a1) st [] (fun A r => pR r (fun b r' => callC G y d k n pc L σ Q a1 (.ref b :: A) r')))) := h
    cases h0 : Nat.beq a1 1000 with
    | true =>
      rw [h0] at h
      have ha := beq_n h0
      subst ha
      obtain ⟨b, r, hst, h2⟩ := pR_s h
      clear h
      subst hst
      have h := h2
      clear h2
      obtain ⟨hcat, h⟩ := cB_s h
      have hlk : MLok (yO y) idx 1000 := ML_ok hyo (hok.2.elim (fun q => absurd (beq_iff_eq.mp q) (by omega)) id)
      have hlk : Cond.methodLink (cn (yO y)) idx objectInit ∈ lwG := hlk
      refine EV.mk (fun p e R s m args below meth c H locs Z ls F hO hw hS hl hk hn hr' => ?_)
      have hown : s.vm.findClass (cn (yO y)) = some m.cls := by rw [hcn]; exact F.2.2.2.2.1
      have hts := F.2.2.2.2.2.1
      have q1 := F.2.2.2.2.2.2.2.2.1
      have q2 := F.2.2.2.2.2.2.2.2.2.1
      have q3 := ble_n hcat
      exact W.objInit F.1 F.2.1 hown (hts _ hlk) (hts _ (lw_in (by simp))) (hts _ lw_obj) rfl (by rw [F.2.2.2.1]; exact hl.1) rfl hd (by omega) (by show 2 * 0 + _ + 12 ≤ _; rw [cats_eq]; omega) (hnx _ _ _ _ _ h p e R s m args below meth c H locs Z ls F hO hw hS hl hk hn hr')
    | false =>
      rw [h0] at h
      obtain ⟨hK1, h⟩ := cB_s h
      obtain ⟨A, r, hA, hst0, h2⟩ := takeA_s h
      clear h
      subst hst0
      have h := h2
      clear h2
      rw [List.append_nil] at h
      obtain ⟨b, r', hst, h2⟩ := pR_s h
      clear h
      subst hst
      have h := h2
      clear h2
      obtain ⟨hcat, hN, hmm, hM⟩ := callC_s h
      have hlk := ML_ok hyo (hok.2.elim (fun q => absurd (beq_iff_eq.mp q) (by have : a1 < 265 := hN; omega)) id)
      have hsp : spN a1 = none := by unfold spN; have : a1 < 265 := hN; rw [if_neg (by omega), if_neg (by omega), if_neg (by omega), if_neg (by omega), if_neg (by omega)]
      unfold MLok at hlk
      rw [hsp] at hlk
      refine EV.mk (fun p e R s m args below meth c H locs Z ls F hO hw hS hl hk hn hr' => ?_)
      have hm1 : k + yMc a1 ≤ yMc y := by rcases hmm with q | q; exact q.1; (have := q.1; have : yMc a1 = 0 := this; omega)
      have hm2 : n + yMs a1 ≤ yMs y := by rcases hmm with q | q; exact q.2; (have := q.2; have : yMs a1 = 0 := this; omega)
      have hrun := callI_run (e := e) (below := below) (ls := ls) (y' := a1) F hO hw hS hl.1 (Y_ok hN) (beq_n hK1) hcn hlk hA hcat hd (Nat.le_trans hm1 F.2.2.2.2.2.2.2.2.2.2.1) (Nat.le_trans hm2 F.2.2.2.2.2.2.2.2.2.2.2) hM
      have hst : (A.reverse ++ .ref b :: r').map (cv G) = (A.map (cv G)).reverse ++ .ref (adr G b) :: r'.map (cv G) := by simp [cv]
      rw [hst]
      exact EV.after (y' := a1) (A := A) F hO hS hl hm1 hm2 hr' hrun
  case invokestatic idx =>
    have hok : (len == 3 && (a1 == 2000 || (ML (yO y)).any (fun q => q.1 == idx && q.2.1 == a1))) = true := hok
    rw [Bool.and_eq_true, Bool.or_eq_true] at hok
    have hlen := beq_iff_eq.mp hok.1
    subst hlen
    rcases sp4_s h with ⟨e1, h5⟩ | ⟨e1, h5⟩ | ⟨e1, h5⟩ | ⟨e1, h5⟩ | h5
    · have e1 : a1 = 1001 := e1
      subst e1
      have hlk : MLok (yO y) idx 1001 := ML_ok hyo (hok.2.elim (fun q => absurd (beq_iff_eq.mp q) (by omega)) id)
      have hlk : Cond.methodLink (cn (yO y)) idx arraycopyName ∈ lwG := hlk
      obtain ⟨m', dp, a, sp, a0, r, hst, h6⟩ := pCp_s h5
      obtain ⟨t0, n0, f0, hs0, h7⟩ := gA_s h6
      obtain ⟨t1, n1, f1, hs1, h8⟩ := gA_s h7
      obtain ⟨ht, h9⟩ := cB_s h8
      rw [Bool.and_eq_true, Bool.and_eq_true] at ht
      have h12 := beq_n ht.1
      have h12' := beq_n ht.2.1
      rw [h12] at hs0
      rw [h12'] at hs1
      obtain ⟨⟨g1, g2, g3, g4, g5⟩, hA⟩ := h9
      rw [hst]
      exact EV.mk (fun p e R s m args below meth c H locs Z ls F hO hw hS hl hk hn hr' => copyI F hO hw hS hl.1 hs0 hs1 hyo hcn hlk g1 g2 g3 g4 g5 (by rw [cats_eq]; exact ble_n ht.2.2) hd (fun H1 locs1 hw1 hS1 => hnx _ _ _ _ _ hA p e R s m args below meth c H1 locs1 Z ls F hO hw1 hS1 hl hk hn hr'))
    · have e1 : a1 = 1002 := e1
      subst e1
      have hlk : MLok (yO y) idx 1002 := ML_ok hyo (hok.2.elim (fun q => absurd (beq_iff_eq.mp q) (by omega)) id)
      have hlk : Cond.methodLink (cn (yO y)) idx Lib.Math.max.name ∈ lwG := hlk
      obtain ⟨x, z, r, hst, h6⟩ := pII_s h5
      obtain ⟨hcat, h7⟩ := cB_s h6
      have q3 := ble_n hcat
      rw [hst]
      refine EV.mk (fun p e R s m args below meth c H locs Z ls F hO hw hS hl hk hn hr' => ?_)
      have hown : s.vm.findClass (cn (yO y)) = some m.cls := by rw [hcn]; exact F.2.2.2.2.1
      have hts := F.2.2.2.2.2.1
      have q1 := F.2.2.2.2.2.2.2.2.1
      have q2 := F.2.2.2.2.2.2.2.2.2.1
      exact va_mmax F.1 F.2.1 (by rw [F.2.2.2.1]; exact hl.1.symm) hown (hts _ hlk) (hts _ (lw_min (by simp))) (hts _ (lw_min (by simp))) (hts _ lw_math.1) (by omega) (by rw [cats_eq]; omega) (Nat.le_trans hk F.2.2.2.2.2.2.2.2.2.2.1) (Nat.le_trans hn F.2.2.2.2.2.2.2.2.2.2.2) hd (hnx _ _ _ _ _ h7 p e R s m args below meth c H locs Z ls F hO hw hS hl hk hn hr')
    · have e1 : a1 = 1003 := e1
      subst e1
      have hlk : MLok (yO y) idx 1003 := ML_ok hyo (hok.2.elim (fun q => absurd (beq_iff_eq.mp q) (by omega)) id)
      have hlk : Cond.methodLink (cn (yO y)) idx Lib.MathLoose.max_long.x ∈ lwG := hlk
      obtain ⟨x, z, r, hst, h6⟩ := pJJ_s h5
      obtain ⟨hcat, h7⟩ := cB_s h6
      have q3 := ble_n hcat
      rw [hst]
      refine EV.mk (fun p e R s m args below meth c H locs Z ls F hO hw hS hl hk hn hr' => ?_)
      have hown : s.vm.findClass (cn (yO y)) = some m.cls := by rw [hcn]; exact F.2.2.2.2.1
      have hts := F.2.2.2.2.2.1
      have q1 := F.2.2.2.2.2.2.2.2.1
      have q2 := F.2.2.2.2.2.2.2.2.2.1
      intro T hT X
      obtain ⟨vm', X', st'⟩ := X.mathMaxLH F.1 hown (hts _ hlk) (hts _ (lw_min (by simp))) (hts _ (lw_min (by simp))) (hts _ lw_math.2.1) (g := F0 m pc ls ((.long z :: .long x :: r).map (cv G))) rfl (by rw [F.2.2.2.1]; exact hl.1) (a := x) (b := z) (rest := r.map (cv G)) rfl (by rw [F.2.1]; exact hd) (by omega) (by show 2 * 0 + _ + 15 ≤ _; rw [cats_eq]; omega) (Nat.le_trans hk F.2.2.2.2.2.2.2.2.2.2.1) (Nat.le_trans hn F.2.2.2.2.2.2.2.2.2.2.2)
      obtain ⟨t, b1, b2⟩ := hnx _ _ _ _ _ h7 p e R s m args below meth c H locs Z ls F hO hw hS hl hk hn hr' (T.setVm vm') hT X'
      exact ⟨t, st' t b1, b2⟩
    · have e1 : a1 = 1004 := e1
      subst e1
      have hlk : MLok (yO y) idx 1004 := ML_ok hyo (hok.2.elim (fun q => absurd (beq_iff_eq.mp q) (by omega)) id)
      have hlk : Cond.methodLink (cn (yO y)) idx Lib.Math.min.name ∈ lwG := hlk
      obtain ⟨x, z, r, hst, h6⟩ := pII_s h5
      obtain ⟨hcat, h7⟩ := cB_s h6
      have q3 := ble_n hcat
      rw [hst]
      refine EV.mk (fun p e R s m args below meth c H locs Z ls F hO hw hS hl hk hn hr' => ?_)
      have hown : s.vm.findClass (cn (yO y)) = some m.cls := by rw [hcn]; exact F.2.2.2.2.1
      have hts := F.2.2.2.2.2.1
      have q1 := F.2.2.2.2.2.2.2.2.1
      have q2 := F.2.2.2.2.2.2.2.2.2.1
      exact va_mmin F.1 F.2.1 (by rw [F.2.2.2.1]; exact hl.1.symm) hown (hts _ hlk) (hts _ (lw_min (by simp))) (hts _ (lw_min (by simp))) (hts _ lw_math.2.2) (by omega) (by rw [cats_eq]; omega) (Nat.le_trans hk F.2.2.2.2.2.2.2.2.2.2.1) (Nat.le_trans hn F.2.2.2.2.2.2.2.2.2.2.2) hd (hnx _ _ _ _ _ h7 p e R s m args below meth c H locs Z ls F hO hw hS hl hk hn hr')
    obtain ⟨hK1, h6⟩ := cB_s h5
    obtain ⟨A, r, hA, hst0, h7⟩ := takeA_s h6
    rw [List.append_nil] at h7
    obtain ⟨hcat, hN, hmm, hM⟩ := callC_s h7
    have hlk := ML_ok hyo (hok.2.elim (fun q => absurd (beq_iff_eq.mp q) (by have : a1 < 265 := hN; omega)) id)
    have hsp : spN a1 = none := by unfold spN; have : a1 < 265 := hN; rw [if_neg (by omega), if_neg (by omega), if_neg (by omega), if_neg (by omega), if_neg (by omega)]
    unfold MLok at hlk
    rw [hsp] at hlk
    rw [hst0]
    refine EV.mk (fun p e R s m args below meth c H locs Z ls F hO hw hS hl hk hn hr' => ?_)
    have hm1 : k + yMc a1 ≤ yMc y := by rcases hmm with q | q; exact q.1; (have := q.1; have : yMc a1 = 0 := this; omega)
    have hm2 : n + yMs a1 ≤ yMs y := by rcases hmm with q | q; exact q.2; (have := q.2; have : yMs a1 = 0 := this; omega)
    have hrun := callS_run (e := e) (below := below) (ls := ls) (y' := a1) F hO hw hS hl.1 (Y_ok hN) (beq_n hK1) hcn hlk hA hcat hd (Nat.le_trans hm1 F.2.2.2.2.2.2.2.2.2.2.1) (Nat.le_trans hm2 F.2.2.2.2.2.2.2.2.2.2.2) hM
    have hst : (A.reverse ++ r).map (cv G) = (A.map (cv G)).reverse ++ r.map (cv G) := by simp
    rw [hst]
    exact EV.after (y' := a1) (A := A) F hO hS hl hm1 hm2 hr' hrun
  all_goals first | (exact False.elim h) | (exact absurd rfl hp)
theorem stp_sound {G : GG} {y d : Nat} {ce : CE} {nx : KT} {jp : Nat → KT} {k n : Nat} {L st : List Value} {σ : MH} {Q : Option Value → MH → Prop}
    (hok : okB (yO y) (yC y) ce = true) (hyo : yO y < 16) (hcn : cn (yO y) = (yN y).cls) (hy2 : yK y = 2 → (yN y).name = "<init>") (hnx : ∀ k n L st σ, nx k n L st σ → EV G y d k n (ce.1 + ce.2.2.1) L st σ Q) (hjp : ∀ t k n L st σ, jp t k n L st σ → EV G y d k n t L st σ Q)
    (h : stp G y d ce nx jp k n L st σ Q) : EV G y d k n ce.1 L st σ Q := by
  obtain ⟨pc, i, len, a1, a2, val, sw⟩ := ce
  have hok2 : (decide (decode (yC y) pc = .ok (i, len)) && okI (yO y) pc i len a1 a2 val sw) = true := hok
  rw [Bool.and_eq_true] at hok2
  by_cases hp : plainI i = true
  · exact stp_plain rfl (of_decide_eq_true hok2.1) hok2.2 hyo hcn hnx hjp h hp
  · exact stp_rest (of_decide_eq_true hok2.1) hok2.2 hyo hcn hy2 hnx hjp h hp
theorem findC_s : ∀ {C : List CE} {t : Nat} {K : List CE → Prop}, findC C t K → ∃ pre r, C = pre ++ r ∧ pcH r = t ∧ r ≠ [] ∧ K r
  | [], _, _, h => h.elim
  | ce :: l, t, K, h => by
    unfold findC at h
    split at h
    · rename_i h1
      exact ⟨[], ce :: l, rfl, beq_n h1, by simp, h⟩
    · obtain ⟨pre, r, h1, h2, h3, h4⟩ := findC_s (C := l) h
      exact ⟨ce :: pre, r, by rw [h1]; rfl, h2, h3, h4⟩
theorem EV.of_wp {G : GG} {y d : Nat} {Q : Option Value → MH → Prop} {cuts : List Nat} {C : List CE} (hC : ∀ ce ∈ C, okB (yO y) (yC y) ce = true) (hyo : yO y < 16) (hcn : cn (yO y) = (yN y).cls) (hy2 : yK y = 2 → (yN y).name = "<init>") :
    ∀ (f : Nat) (rem : List CE) (k n : Nat) (L st : List Value) (σ : MH), (∀ ce ∈ rem, ce ∈ C) → wp G y d Q cuts C f rem k n L st σ → EV G y d k n (pcH rem) L st σ Q := by
  intro f
  induction f with
  | zero => intro rem k n L st σ _ h; exact h.2
  | succ f ih =>
    intro rem k n L st σ hsub h
    match rem, hsub, h with
    | [], _, h => exact h.elim
    | ce :: rem', hsub, h =>
      have h : stp G y d ce (nxK G y d Q cuts (wp G y d Q cuts C f) ce.1 ce.2.2.1 rem') (jpK G y d Q cuts C (wp G y d Q cuts C f) ce.1) k n L st σ Q := h
      refine stp_sound (hC ce (hsub ce List.mem_cons_self)) hyo hcn hy2 (fun k n L st σ q => ?_) (fun t k n L st σ q => ?_) h
      · unfold nxK at q
        split at q
        · exact q.2
        · obtain ⟨q1, q2⟩ := cB_s q
          have := ih rem' k n L st σ (fun c hc => hsub c (List.mem_cons_of_mem _ hc)) q2
          rw [beq_n q1] at this
          exact this
      · unfold jpK at q
        split at q
        · exact q.2
        · obtain ⟨pre, r, h1, h2, h3, h4⟩ := findC_s q
          have := ih r k n L st σ (fun c hc => by rw [h1]; exact List.mem_append_right _ hc) h4
          rw [h2] at this
          exact this
end
section
/-! the code, by program (wip/whole/gen2.py) -/
/-- ShapeDuel$Fight.<init>(LShapeDuel$Table;)V -/
def cd0 : List CE := [(0, .aload_n 0, 1, 0, 0, .null, []), (1, .invokespecial 3, 3, 1000, 0, .null, []), (4, .aload_n 0, 1, 0, 0, .null, []), (5, .iconst 0, 1, 0, 0, .int 0, []), (6, .putfield 9, 3, 0, 1, .null, []), (9, .aload_n 0, 1, 0, 0, .null, []), (10, .iconst 2, 1, 0, 0, .int 2, []), (11, .anewarray 15, 3, 16, 0, .null, []), (14, .dup, 1, 0, 0, .null, []), (15, .iconst 0, 1, 0, 0, .int 0, []), (16, .new 15, 3, 7, 0, .null, []), (19, .dup, 1, 0, 0, .null, []), (20, .invokespecial 17, 3, 66, 0, .null, []), (23, .aastore, 1, 0, 0, .null, []), (24, .dup, 1, 0, 0, .null, []), (25, .iconst 1, 1, 0, 0, .int 1, []), (26, .new 15, 3, 7, 0, .null, []), (29, .dup, 1, 0, 0, .null, []), (30, .invokespecial 17, 3, 66, 0, .null, []), (33, .aastore, 1, 0, 0, .null, []), (34, .putfield 18, 3, 0, 2, .null, []), (37, .aload_n 0, 1, 0, 0, .null, []), (38, .bipush 40, 2, 0, 0, .int 40, []), (40, .newarray .int, 2, 12, 0, .null, []), (42, .putfield 22, 3, 0, 3, .null, []), (45, .aload_n 0, 1, 0, 0, .null, []), (46, .bipush 40, 2, 0, 0, .int 40, []), (48, .newarray .int, 2, 12, 0, .null, []), (50, .putfield 26, 3, 0, 4, .null, []), (53, .aload_n 0, 1, 0, 0, .null, []), (54, .iconst 0, 1, 0, 0, .int 0, []), (55, .putfield 29, 3, 0, 5, .null, []), (58, .aload_n 0, 1, 0, 0, .null, []), (59, .aload_n 1, 1, 0, 0, .null, []), (60, .putfield 33, 3, 0, 0, .null, []), (63, .return_, 1, 0, 0, .null, [])]
set_option maxRecDepth 100000 in
theorem ck0 : ∀ ce ∈ cd0, okB (yO 0) (yC 0) ce = true := List.all_eq_true.mp (by decide +kernel)
/-- ShapeDuel$Fight.begin([I[I)V -/
def cd1 : List CE := [(0, .aload_n 0, 1, 0, 0, .null, []), (1, .iconst 1, 1, 0, 0, .int 1, []), (2, .putfield 9, 3, 0, 1, .null, []), (5, .aload_n 0, 1, 0, 0, .null, []), (6, .iconst 0, 1, 0, 0, .int 0, []), (7, .putfield 29, 3, 0, 5, .null, []), (10, .iconst 0, 1, 0, 0, .int 0, []), (11, .istore_n 3, 1, 0, 0, .null, []), (12, .iload_n 3, 1, 0, 0, .null, []), (13, .iconst 2, 1, 0, 0, .int 2, []), (14, .if_icmp .ge 67, 3, 81, 0, .null, []), (17, .aload_n 0, 1, 0, 0, .null, []), (18, .getfield 18, 3, 0, 2, .null, []), (21, .iload_n 3, 1, 0, 0, .null, []), (22, .aaload, 1, 0, 0, .null, []), (23, .aload_n 1, 1, 0, 0, .null, []), (24, .iload_n 3, 1, 0, 0, .null, []), (25, .iaload, 1, 0, 0, .null, []), (26, .putfield 37, 3, 7, 0, .null, []), (29, .aload_n 0, 1, 0, 0, .null, []), (30, .getfield 18, 3, 0, 2, .null, []), (33, .iload_n 3, 1, 0, 0, .null, []), (34, .aaload, 1, 0, 0, .null, []), (35, .aload_n 2, 1, 0, 0, .null, []), (36, .iload_n 3, 1, 0, 0, .null, []), (37, .iaload, 1, 0, 0, .null, []), (38, .putfield 40, 3, 7, 1, .null, []), (41, .aload_n 0, 1, 0, 0, .null, []), (42, .getfield 18, 3, 0, 2, .null, []), (45, .iload_n 3, 1, 0, 0, .null, []), (46, .aaload, 1, 0, 0, .null, []), (47, .iconst 1, 1, 0, 0, .int 1, []), (48, .aload_n 1, 1, 0, 0, .null, []), (49, .iload_n 3, 1, 0, 0, .null, []), (50, .iaload, 1, 0, 0, .null, []), (51, .ishl, 1, 0, 0, .null, []), (52, .putfield 43, 3, 7, 2, .null, []), (55, .aload_n 0, 1, 0, 0, .null, []), (56, .getfield 18, 3, 0, 2, .null, []), (59, .iload_n 3, 1, 0, 0, .null, []), (60, .aaload, 1, 0, 0, .null, []), (61, .iconst 1, 1, 0, 0, .int 1, []), (62, .aload_n 0, 1, 0, 0, .null, []), (63, .getfield 33, 3, 0, 0, .null, []), (66, .getfield 46, 3, 9, 3, .null, []), (69, .ishl, 1, 0, 0, .null, []), (70, .iconst 1, 1, 0, 0, .int 1, []), (71, .isub, 1, 0, 0, .null, []), (72, .putfield 51, 3, 7, 3, .null, []), (75, .iinc 3 1, 3, 0, 0, .int 1, []), (78, .goto (-66), 3, 12, 0, .null, []), (81, .return_, 1, 0, 0, .null, [])]
set_option maxRecDepth 100000 in
theorem ck1 : ∀ ce ∈ cd1, okB (yO 1) (yC 1) ce = true := List.all_eq_true.mp (by decide +kernel)
/-- ShapeDuel$Fight.takeOver(LShapeDuel$Fight;)V -/
def cd2 : List CE := [(0, .aload_n 0, 1, 0, 0, .null, []), (1, .aload_n 1, 1, 0, 0, .null, []), (2, .getfield 9, 3, 0, 1, .null, []), (5, .putfield 9, 3, 0, 1, .null, []), (8, .aload_n 0, 1, 0, 0, .null, []), (9, .aload_n 1, 1, 0, 0, .null, []), (10, .getfield 29, 3, 0, 5, .null, []), (13, .putfield 29, 3, 0, 5, .null, []), (16, .aload_n 0, 1, 0, 0, .null, []), (17, .getfield 18, 3, 0, 2, .null, []), (20, .iconst 0, 1, 0, 0, .int 0, []), (21, .aaload, 1, 0, 0, .null, []), (22, .aload_n 1, 1, 0, 0, .null, []), (23, .getfield 18, 3, 0, 2, .null, []), (26, .iconst 0, 1, 0, 0, .int 0, []), (27, .aaload, 1, 0, 0, .null, []), (28, .invokevirtual 54, 3, 67, 0, .null, []), (31, .aload_n 0, 1, 0, 0, .null, []), (32, .getfield 18, 3, 0, 2, .null, []), (35, .iconst 1, 1, 0, 0, .int 1, []), (36, .aaload, 1, 0, 0, .null, []), (37, .aload_n 1, 1, 0, 0, .null, []), (38, .getfield 18, 3, 0, 2, .null, []), (41, .iconst 1, 1, 0, 0, .int 1, []), (42, .aaload, 1, 0, 0, .null, []), (43, .invokevirtual 54, 3, 67, 0, .null, []), (46, .aload_n 1, 1, 0, 0, .null, []), (47, .getfield 22, 3, 0, 3, .null, []), (50, .iconst 0, 1, 0, 0, .int 0, []), (51, .aload_n 0, 1, 0, 0, .null, []), (52, .getfield 22, 3, 0, 3, .null, []), (55, .iconst 0, 1, 0, 0, .int 0, []), (56, .aload_n 0, 1, 0, 0, .null, []), (57, .getfield 29, 3, 0, 5, .null, []), (60, .invokestatic 58, 3, 1001, 0, .null, []), (63, .aload_n 1, 1, 0, 0, .null, []), (64, .getfield 26, 3, 0, 4, .null, []), (67, .iconst 0, 1, 0, 0, .int 0, []), (68, .aload_n 0, 1, 0, 0, .null, []), (69, .getfield 26, 3, 0, 4, .null, []), (72, .iconst 0, 1, 0, 0, .int 0, []), (73, .aload_n 0, 1, 0, 0, .null, []), (74, .getfield 29, 3, 0, 5, .null, []), (77, .invokestatic 58, 3, 1001, 0, .null, []), (80, .return_, 1, 0, 0, .null, [])]
set_option maxRecDepth 100000 in
theorem ck2 : ∀ ce ∈ cd2, okB (yO 2) (yC 2) ce = true := List.all_eq_true.mp (by decide +kernel)
/-- ShapeDuel$Fight.mover()I -/
def cd3 : List CE := [(0, .aload_n 0, 1, 0, 0, .null, []), (1, .getfield 29, 3, 0, 5, .null, []), (4, .iconst 1, 1, 0, 0, .int 1, []), (5, .iand, 1, 0, 0, .null, []), (6, .ireturn, 1, 0, 0, .null, [])]
set_option maxRecDepth 100000 in
theorem ck3 : ∀ ce ∈ cd3, okB (yO 3) (yC 3) ce = true := List.all_eq_true.mp (by decide +kernel)
/-- ShapeDuel$Fight.packed()I -/
def cd4 : List CE := [(0, .aload_n 0, 1, 0, 0, .null, []), (1, .getfield 18, 3, 0, 2, .null, []), (4, .iconst 0, 1, 0, 0, .int 0, []), (5, .aaload, 1, 0, 0, .null, []), (6, .invokevirtual 64, 3, 69, 0, .null, []), (9, .bipush 11, 2, 0, 0, .int 11, []), (11, .ishl, 1, 0, 0, .null, []), (12, .aload_n 0, 1, 0, 0, .null, []), (13, .getfield 18, 3, 0, 2, .null, []), (16, .iconst 1, 1, 0, 0, .int 1, []), (17, .aaload, 1, 0, 0, .null, []), (18, .invokevirtual 64, 3, 69, 0, .null, []), (21, .ior, 1, 0, 0, .null, []), (22, .ireturn, 1, 0, 0, .null, [])]
set_option maxRecDepth 100000 in
theorem ck4 : ∀ ce ∈ cd4, okB (yO 4) (yC 4) ce = true := List.all_eq_true.mp (by decide +kernel)
/-- ShapeDuel$Fight.unpack(I)V -/
def cd5 : List CE := [(0, .aload_n 0, 1, 0, 0, .null, []), (1, .getfield 18, 3, 0, 2, .null, []), (4, .iconst 0, 1, 0, 0, .int 0, []), (5, .aaload, 1, 0, 0, .null, []), (6, .iload_n 1, 1, 0, 0, .null, []), (7, .bipush 11, 2, 0, 0, .int 11, []), (9, .ishr, 1, 0, 0, .null, []), (10, .invokevirtual 68, 3, 70, 0, .null, []), (13, .aload_n 0, 1, 0, 0, .null, []), (14, .getfield 18, 3, 0, 2, .null, []), (17, .iconst 1, 1, 0, 0, .int 1, []), (18, .aaload, 1, 0, 0, .null, []), (19, .iload_n 1, 1, 0, 0, .null, []), (20, .sipush 2047, 3, 0, 0, .int 2047, []), (23, .iand, 1, 0, 0, .null, []), (24, .invokevirtual 68, 3, 70, 0, .null, []), (27, .return_, 1, 0, 0, .null, [])]
set_option maxRecDepth 100000 in
theorem ck5 : ∀ ce ∈ cd5, okB (yO 5) (yC 5) ce = true := List.all_eq_true.mp (by decide +kernel)
/-- ShapeDuel$Fight.takes(II)I -/
def cd6 : List CE := [(0, .aload_n 0, 1, 0, 0, .null, []), (1, .getfield 18, 3, 0, 2, .null, []), (4, .iload_n 1, 1, 0, 0, .null, []), (5, .aaload, 1, 0, 0, .null, []), (6, .astore_n 3, 1, 0, 0, .null, []), (7, .aload_n 3, 1, 0, 0, .null, []), (8, .getfield 51, 3, 7, 3, .null, []), (11, .iload_n 2, 1, 0, 0, .null, []), (12, .invokestatic 72, 3, 143, 0, .null, []), (15, .ifCond .eq 19, 3, 34, 0, .null, []), (18, .aload_n 0, 1, 0, 0, .null, []), (19, .getfield 33, 3, 0, 0, .null, []), (22, .getfield 76, 3, 9, 4, .null, []), (25, .iload_n 2, 1, 0, 0, .null, []), (26, .iaload, 1, 0, 0, .null, []), (27, .aload_n 3, 1, 0, 0, .null, []), (28, .getfield 37, 3, 7, 0, .null, []), (31, .if_icmp .eq 5, 3, 36, 0, .null, []), (34, .iconst 0, 1, 0, 0, .int 0, []), (35, .ireturn, 1, 0, 0, .null, []), (36, .aload_n 0, 1, 0, 0, .null, []), (37, .getfield 33, 3, 0, 0, .null, []), (40, .getfield 79, 3, 9, 5, .null, []), (43, .iload_n 2, 1, 0, 0, .null, []), (44, .iaload, 1, 0, 0, .null, []), (45, .istore 4, 2, 0, 0, .null, []), (47, .aload_n 0, 1, 0, 0, .null, []), (48, .getfield 18, 3, 0, 2, .null, []), (51, .iconst 1, 1, 0, 0, .int 1, []), (52, .iload_n 1, 1, 0, 0, .null, []), (53, .isub, 1, 0, 0, .null, []), (54, .aaload, 1, 0, 0, .null, []), (55, .getfield 37, 3, 7, 0, .null, []), (58, .istore 5, 2, 0, 0, .null, []), (60, .aload_n 3, 1, 0, 0, .null, []), (61, .getfield 43, 3, 7, 2, .null, []), (64, .iload 4, 2, 0, 0, .null, []), (66, .invokestatic 72, 3, 143, 0, .null, []), (69, .iconst 1, 1, 0, 0, .int 1, []), (70, .if_icmp .ne 16, 3, 86, 0, .null, []), (73, .aload_n 0, 1, 0, 0, .null, []), (74, .getfield 33, 3, 0, 0, .null, []), (77, .iload 4, 2, 0, 0, .null, []), (79, .iconst 2, 1, 0, 0, .int 2, []), (80, .invokevirtual 82, 3, 80, 0, .null, []), (83, .ifCond .eq 17, 3, 100, 0, .null, []), (86, .aload_n 0, 1, 0, 0, .null, []), (87, .getfield 33, 3, 0, 0, .null, []), (90, .iload 4, 2, 0, 0, .null, []), (92, .iload 5, 2, 0, 0, .null, []), (94, .invokevirtual 86, 3, 81, 0, .null, []), (97, .ifCond .ne 5, 3, 102, 0, .null, []), (100, .iconst 0, 1, 0, 0, .int 0, []), (101, .ireturn, 1, 0, 0, .null, []), (102, .aload_n 0, 1, 0, 0, .null, []), (103, .getfield 33, 3, 0, 0, .null, []), (106, .iload_n 2, 1, 0, 0, .null, []), (107, .iload 5, 2, 0, 0, .null, []), (109, .invokevirtual 89, 3, 91, 0, .null, []), (112, .istore 6, 2, 0, 0, .null, []), (114, .iload 6, 2, 0, 0, .null, []), (116, .aload_n 3, 1, 0, 0, .null, []), (117, .getfield 40, 3, 7, 1, .null, []), (120, .if_icmp .gt 8, 3, 128, 0, .null, []), (123, .iload 6, 2, 0, 0, .null, []), (125, .goto 4, 3, 129, 0, .null, []), (128, .iconst 0, 1, 0, 0, .int 0, []), (129, .ireturn, 1, 0, 0, .null, [])]
set_option maxRecDepth 100000 in
theorem ck6 : ∀ ce ∈ cd6, okB (yO 6) (yC 6) ce = true := List.all_eq_true.mp (by decide +kernel)
/-- ShapeDuel$Fight.options(I)I -/
def cd7 : List CE := [(0, .iconst 0, 1, 0, 0, .int 0, []), (1, .istore_n 2, 1, 0, 0, .null, []), (2, .iconst 0, 1, 0, 0, .int 0, []), (3, .istore_n 3, 1, 0, 0, .null, []), (4, .iload_n 3, 1, 0, 0, .null, []), (5, .aload_n 0, 1, 0, 0, .null, []), (6, .getfield 33, 3, 0, 0, .null, []), (9, .getfield 46, 3, 9, 3, .null, []), (12, .if_icmp .ge 28, 3, 40, 0, .null, []), (15, .iload_n 2, 1, 0, 0, .null, []), (16, .aload_n 0, 1, 0, 0, .null, []), (17, .iload_n 1, 1, 0, 0, .null, []), (18, .iload_n 3, 1, 0, 0, .null, []), (19, .invokevirtual 92, 3, 6, 0, .null, []), (22, .ifCond .le 9, 3, 31, 0, .null, []), (25, .iconst 1, 1, 0, 0, .int 1, []), (26, .iload_n 3, 1, 0, 0, .null, []), (27, .ishl, 1, 0, 0, .null, []), (28, .goto 4, 3, 32, 0, .null, []), (31, .iconst 0, 1, 0, 0, .int 0, []), (32, .ior, 1, 0, 0, .null, []), (33, .istore_n 2, 1, 0, 0, .null, []), (34, .iinc 3 1, 3, 0, 0, .int 1, []), (37, .goto (-33), 3, 4, 0, .null, []), (40, .iload_n 2, 1, 0, 0, .null, []), (41, .ireturn, 1, 0, 0, .null, [])]
set_option maxRecDepth 100000 in
theorem ck7 : ∀ ce ∈ cd7, okB (yO 7) (yC 7) ce = true := List.all_eq_true.mp (by decide +kernel)
/-- ShapeDuel$Fight.step(III)V -/
def cd8 : List CE := [(0, .aload_n 0, 1, 0, 0, .null, []), (1, .getfield 18, 3, 0, 2, .null, []), (4, .iload_n 1, 1, 0, 0, .null, []), (5, .aaload, 1, 0, 0, .null, []), (6, .astore 4, 2, 0, 0, .null, []), (8, .aload 4, 2, 0, 0, .null, []), (10, .aload_n 0, 1, 0, 0, .null, []), (11, .getfield 33, 3, 0, 0, .null, []), (14, .getfield 79, 3, 9, 5, .null, []), (17, .iload_n 2, 1, 0, 0, .null, []), (18, .iaload, 1, 0, 0, .null, []), (19, .putfield 37, 3, 7, 0, .null, []), (22, .aload 4, 2, 0, 0, .null, []), (24, .dup, 1, 0, 0, .null, []), (25, .getfield 43, 3, 7, 2, .null, []), (28, .iconst 1, 1, 0, 0, .int 1, []), (29, .aload 4, 2, 0, 0, .null, []), (31, .getfield 37, 3, 7, 0, .null, []), (34, .ishl, 1, 0, 0, .null, []), (35, .ior, 1, 0, 0, .null, []), (36, .putfield 43, 3, 7, 2, .null, []), (39, .aload 4, 2, 0, 0, .null, []), (41, .dup, 1, 0, 0, .null, []), (42, .getfield 40, 3, 7, 1, .null, []), (45, .iload_n 3, 1, 0, 0, .null, []), (46, .isub, 1, 0, 0, .null, []), (47, .putfield 40, 3, 7, 1, .null, []), (50, .return_, 1, 0, 0, .null, [])]
set_option maxRecDepth 100000 in
theorem ck8 : ∀ ce ∈ cd8, okB (yO 8) (yC 8) ce = true := List.all_eq_true.mp (by decide +kernel)
/-- ShapeDuel$Fight.perform(II)Z -/
def cd9 : List CE := [(0, .aload_n 0, 1, 0, 0, .null, []), (1, .getfield 29, 3, 0, 5, .null, []), (4, .bipush 40, 2, 0, 0, .int 40, []), (6, .if_icmp .lt 5, 3, 11, 0, .null, []), (9, .iconst 0, 1, 0, 0, .int 0, []), (10, .ireturn, 1, 0, 0, .null, []), (11, .aload_n 0, 1, 0, 0, .null, []), (12, .getfield 22, 3, 0, 3, .null, []), (15, .aload_n 0, 1, 0, 0, .null, []), (16, .getfield 29, 3, 0, 5, .null, []), (19, .iload_n 1, 1, 0, 0, .null, []), (20, .iastore, 1, 0, 0, .null, []), (21, .aload_n 0, 1, 0, 0, .null, []), (22, .getfield 26, 3, 0, 4, .null, []), (25, .aload_n 0, 1, 0, 0, .null, []), (26, .getfield 29, 3, 0, 5, .null, []), (29, .aload_n 0, 1, 0, 0, .null, []), (30, .invokevirtual 95, 3, 4, 0, .null, []), (33, .iastore, 1, 0, 0, .null, []), (34, .aload_n 0, 1, 0, 0, .null, []), (35, .aload_n 0, 1, 0, 0, .null, []), (36, .invokevirtual 96, 3, 3, 0, .null, []), (39, .iload_n 1, 1, 0, 0, .null, []), (40, .iload_n 2, 1, 0, 0, .null, []), (41, .invokevirtual 99, 3, 8, 0, .null, []), (44, .aload_n 0, 1, 0, 0, .null, []), (45, .dup, 1, 0, 0, .null, []), (46, .getfield 29, 3, 0, 5, .null, []), (49, .iconst 1, 1, 0, 0, .int 1, []), (50, .iadd, 1, 0, 0, .null, []), (51, .putfield 29, 3, 0, 5, .null, []), (54, .iconst 1, 1, 0, 0, .int 1, []), (55, .ireturn, 1, 0, 0, .null, [])]
set_option maxRecDepth 100000 in
theorem ck9 : ∀ ce ∈ cd9, okB (yO 9) (yC 9) ce = true := List.all_eq_true.mp (by decide +kernel)
/-- ShapeDuel$Fight.takeBack(I)I -/
def cd10 : List CE := [(0, .aload_n 0, 1, 0, 0, .null, []), (1, .getfield 29, 3, 0, 5, .null, []), (4, .iload_n 1, 1, 0, 0, .null, []), (5, .isub, 1, 0, 0, .null, []), (6, .istore_n 2, 1, 0, 0, .null, []), (7, .iload_n 2, 1, 0, 0, .null, []), (8, .ifCond .le 18, 3, 26, 0, .null, []), (11, .aload_n 0, 1, 0, 0, .null, []), (12, .aload_n 0, 1, 0, 0, .null, []), (13, .getfield 26, 3, 0, 4, .null, []), (16, .iload_n 1, 1, 0, 0, .null, []), (17, .iaload, 1, 0, 0, .null, []), (18, .invokevirtual 103, 3, 5, 0, .null, []), (21, .aload_n 0, 1, 0, 0, .null, []), (22, .iload_n 1, 1, 0, 0, .null, []), (23, .putfield 29, 3, 0, 5, .null, []), (26, .iload_n 2, 1, 0, 0, .null, []), (27, .ireturn, 1, 0, 0, .null, [])]
set_option maxRecDepth 100000 in
theorem ck10 : ∀ ce ∈ cd10, okB (yO 10) (yC 10) ce = true := List.all_eq_true.mp (by decide +kernel)
/-- ShapeDuel$Fight.follow(LShapeDuel$Strip;)I -/
def cd11 : List CE := [(0, .iconst 0, 1, 0, 0, .int 0, []), (1, .istore_n 2, 1, 0, 0, .null, []), (2, .iload_n 2, 1, 0, 0, .null, []), (3, .aload_n 1, 1, 0, 0, .null, []), (4, .getfield 104, 3, 8, 1, .null, []), (7, .if_icmp .ge 51, 3, 58, 0, .null, []), (10, .aload_n 0, 1, 0, 0, .null, []), (11, .invokevirtual 96, 3, 3, 0, .null, []), (14, .iload_n 2, 1, 0, 0, .null, []), (15, .iadd, 1, 0, 0, .null, []), (16, .iconst 1, 1, 0, 0, .int 1, []), (17, .iand, 1, 0, 0, .null, []), (18, .istore_n 3, 1, 0, 0, .null, []), (19, .aload_n 0, 1, 0, 0, .null, []), (20, .iload_n 3, 1, 0, 0, .null, []), (21, .aload_n 1, 1, 0, 0, .null, []), (22, .getfield 107, 3, 8, 0, .null, []), (25, .iload_n 2, 1, 0, 0, .null, []), (26, .iaload, 1, 0, 0, .null, []), (27, .invokevirtual 92, 3, 6, 0, .null, []), (30, .istore 4, 2, 0, 0, .null, []), (32, .iload 4, 2, 0, 0, .null, []), (34, .ifCond .ne 5, 3, 39, 0, .null, []), (37, .iload_n 2, 1, 0, 0, .null, []), (38, .ireturn, 1, 0, 0, .null, []), (39, .aload_n 0, 1, 0, 0, .null, []), (40, .iload_n 3, 1, 0, 0, .null, []), (41, .aload_n 1, 1, 0, 0, .null, []), (42, .getfield 107, 3, 8, 0, .null, []), (45, .iload_n 2, 1, 0, 0, .null, []), (46, .iaload, 1, 0, 0, .null, []), (47, .iload 4, 2, 0, 0, .null, []), (49, .invokevirtual 99, 3, 8, 0, .null, []), (52, .iinc 2 1, 3, 0, 0, .int 1, []), (55, .goto (-53), 3, 2, 0, .null, []), (58, .aload_n 1, 1, 0, 0, .null, []), (59, .getfield 104, 3, 8, 1, .null, []), (62, .ireturn, 1, 0, 0, .null, [])]
set_option maxRecDepth 100000 in
theorem ck11 : ∀ ce ∈ cd11, okB (yO 11) (yC 11) ce = true := List.all_eq_true.mp (by decide +kernel)
/-- ShapeDuel$Fight.whoUsed(I)I -/
def cd12 : List CE := [(0, .aload_n 0, 1, 0, 0, .null, []), (1, .getfield 18, 3, 0, 2, .null, []), (4, .iconst 0, 1, 0, 0, .int 0, []), (5, .aaload, 1, 0, 0, .null, []), (6, .getfield 43, 3, 7, 2, .null, []), (9, .iload_n 1, 1, 0, 0, .null, []), (10, .invokestatic 72, 3, 143, 0, .null, []), (13, .aload_n 0, 1, 0, 0, .null, []), (14, .getfield 18, 3, 0, 2, .null, []), (17, .iconst 1, 1, 0, 0, .int 1, []), (18, .aaload, 1, 0, 0, .null, []), (19, .getfield 43, 3, 7, 2, .null, []), (22, .iload_n 1, 1, 0, 0, .null, []), (23, .invokestatic 72, 3, 143, 0, .null, []), (26, .iconst 1, 1, 0, 0, .int 1, []), (27, .ishl, 1, 0, 0, .null, []), (28, .ior, 1, 0, 0, .null, []), (29, .ireturn, 1, 0, 0, .null, [])]
set_option maxRecDepth 100000 in
theorem ck12 : ∀ ce ∈ cd12, okB (yO 12) (yC 12) ce = true := List.all_eq_true.mp (by decide +kernel)
/-- ShapeDuel$Fight.whoKnows(I)I -/
def cd13 : List CE := [(0, .aload_n 0, 1, 0, 0, .null, []), (1, .getfield 18, 3, 0, 2, .null, []), (4, .iconst 0, 1, 0, 0, .int 0, []), (5, .aaload, 1, 0, 0, .null, []), (6, .getfield 51, 3, 7, 3, .null, []), (9, .iload_n 1, 1, 0, 0, .null, []), (10, .invokestatic 72, 3, 143, 0, .null, []), (13, .aload_n 0, 1, 0, 0, .null, []), (14, .getfield 18, 3, 0, 2, .null, []), (17, .iconst 1, 1, 0, 0, .int 1, []), (18, .aaload, 1, 0, 0, .null, []), (19, .getfield 51, 3, 7, 3, .null, []), (22, .iload_n 1, 1, 0, 0, .null, []), (23, .invokestatic 72, 3, 143, 0, .null, []), (26, .iconst 1, 1, 0, 0, .int 1, []), (27, .ishl, 1, 0, 0, .null, []), (28, .ior, 1, 0, 0, .null, []), (29, .ireturn, 1, 0, 0, .null, [])]
set_option maxRecDepth 100000 in
theorem ck13 : ∀ ce ∈ cd13, okB (yO 13) (yC 13) ce = true := List.all_eq_true.mp (by decide +kernel)
/-- ShapeDuel$Memo.<init>()V -/
def cd21 : List CE := [(0, .aload_n 0, 1, 0, 0, .null, []), (1, .invokespecial 3, 3, 1000, 0, .null, []), (4, .aload_n 0, 1, 0, 0, .null, []), (5, .sipush 2048, 3, 0, 0, .int 2048, []), (8, .newarray .long, 2, 13, 0, .null, []), (10, .putfield 9, 3, 2, 0, .null, []), (13, .aload_n 0, 1, 0, 0, .null, []), (14, .sipush 2048, 3, 0, 0, .int 2048, []), (17, .newarray .long, 2, 13, 0, .null, []), (19, .putfield 13, 3, 2, 1, .null, []), (22, .aload_n 0, 1, 0, 0, .null, []), (23, .lconst 0, 1, 0, 0, .long 0, []), (24, .putfield 16, 3, 2, 2, .null, []), (27, .return_, 1, 0, 0, .null, [])]
set_option maxRecDepth 100000 in
theorem ck21 : ∀ ce ∈ cd21, okB (yO 21) (yC 21) ce = true := List.all_eq_true.mp (by decide +kernel)
/-- ShapeDuel$Memo.forget()V -/
def cd22 : List CE := [(0, .aload_n 0, 1, 0, 0, .null, []), (1, .dup, 1, 0, 0, .null, []), (2, .getfield 16, 3, 2, 2, .null, []), (5, .lconst 1, 1, 0, 0, .long 1, []), (6, .ladd, 1, 0, 0, .null, []), (7, .putfield 16, 3, 2, 2, .null, []), (10, .return_, 1, 0, 0, .null, [])]
set_option maxRecDepth 100000 in
theorem ck22 : ∀ ce ∈ cd22, okB (yO 22) (yC 22) ce = true := List.all_eq_true.mp (by decide +kernel)
/-- ShapeDuel$Memo.keyOf(II)J -/
def cd23 : List CE := [(0, .aload_n 0, 1, 0, 0, .null, []), (1, .getfield 16, 3, 2, 2, .null, []), (4, .bipush 32, 2, 0, 0, .int 32, []), (6, .lshl, 1, 0, 0, .null, []), (7, .iload_n 1, 1, 0, 0, .null, []), (8, .iconst 1, 1, 0, 0, .int 1, []), (9, .ishl, 1, 0, 0, .null, []), (10, .i2l, 1, 0, 0, .null, []), (11, .lor, 1, 0, 0, .null, []), (12, .iload_n 2, 1, 0, 0, .null, []), (13, .i2l, 1, 0, 0, .null, []), (14, .lor, 1, 0, 0, .null, []), (15, .lreturn, 1, 0, 0, .null, [])]
set_option maxRecDepth 100000 in
theorem ck23 : ∀ ce ∈ cd23, okB (yO 23) (yC 23) ce = true := List.all_eq_true.mp (by decide +kernel)
/-- ShapeDuel$Memo.slotFor(J)I -/
def cd24 : List CE := [(0, .lload_n 1, 1, 0, 0, .null, []), (1, .l2i, 1, 0, 0, .null, []), (2, .ldc 20, 2, 0, 0, .int (-1640531535), []), (4, .imul, 1, 0, 0, .null, []), (5, .bipush 21, 2, 0, 0, .int 21, []), (7, .iushr, 1, 0, 0, .null, []), (8, .istore_n 3, 1, 0, 0, .null, []), (9, .iconst 0, 1, 0, 0, .int 0, []), (10, .istore 4, 2, 0, 0, .null, []), (12, .iload 4, 2, 0, 0, .null, []), (14, .bipush 16, 2, 0, 0, .int 16, []), (16, .if_icmp .ge 47, 3, 63, 0, .null, []), (19, .aload_n 0, 1, 0, 0, .null, []), (20, .getfield 9, 3, 2, 0, .null, []), (23, .iload_n 3, 1, 0, 0, .null, []), (24, .laload, 1, 0, 0, .null, []), (25, .lload_n 1, 1, 0, 0, .null, []), (26, .lcmp, 1, 0, 0, .null, []), (27, .ifCond .eq 20, 3, 47, 0, .null, []), (30, .aload_n 0, 1, 0, 0, .null, []), (31, .getfield 9, 3, 2, 0, .null, []), (34, .iload_n 3, 1, 0, 0, .null, []), (35, .laload, 1, 0, 0, .null, []), (36, .bipush 32, 2, 0, 0, .int 32, []), (38, .lushr, 1, 0, 0, .null, []), (39, .aload_n 0, 1, 0, 0, .null, []), (40, .getfield 16, 3, 2, 2, .null, []), (43, .lcmp, 1, 0, 0, .null, []), (44, .ifCond .eq 5, 3, 49, 0, .null, []), (47, .iload_n 3, 1, 0, 0, .null, []), (48, .ireturn, 1, 0, 0, .null, []), (49, .iload_n 3, 1, 0, 0, .null, []), (50, .iconst 1, 1, 0, 0, .int 1, []), (51, .iadd, 1, 0, 0, .null, []), (52, .sipush 2047, 3, 0, 0, .int 2047, []), (55, .iand, 1, 0, 0, .null, []), (56, .istore_n 3, 1, 0, 0, .null, []), (57, .iinc 4 1, 3, 0, 0, .int 1, []), (60, .goto (-48), 3, 12, 0, .null, []), (63, .iconst (-1), 1, 0, 0, .int (-1), []), (64, .ireturn, 1, 0, 0, .null, [])]
set_option maxRecDepth 100000 in
theorem ck24 : ∀ ce ∈ cd24, okB (yO 24) (yC 24) ce = true := List.all_eq_true.mp (by decide +kernel)
/-- ShapeDuel$Memo.has(IJ)Z -/
def cd25 : List CE := [(0, .iload_n 1, 1, 0, 0, .null, []), (1, .ifCond .lt 18, 3, 19, 0, .null, []), (4, .aload_n 0, 1, 0, 0, .null, []), (5, .getfield 9, 3, 2, 0, .null, []), (8, .iload_n 1, 1, 0, 0, .null, []), (9, .laload, 1, 0, 0, .null, []), (10, .lload_n 2, 1, 0, 0, .null, []), (11, .lcmp, 1, 0, 0, .null, []), (12, .ifCond .ne 7, 3, 19, 0, .null, []), (15, .iconst 1, 1, 0, 0, .int 1, []), (16, .goto 4, 3, 20, 0, .null, []), (19, .iconst 0, 1, 0, 0, .int 0, []), (20, .ireturn, 1, 0, 0, .null, [])]
set_option maxRecDepth 100000 in
theorem ck25 : ∀ ce ∈ cd25, okB (yO 25) (yC 25) ce = true := List.all_eq_true.mp (by decide +kernel)
/-- ShapeDuel$Memo.store(JJ)V -/
def cd26 : List CE := [(0, .aload_n 0, 1, 0, 0, .null, []), (1, .lload_n 1, 1, 0, 0, .null, []), (2, .invokevirtual 21, 3, 24, 0, .null, []), (5, .istore 5, 2, 0, 0, .null, []), (7, .iload 5, 2, 0, 0, .null, []), (9, .ifCond .lt 19, 3, 28, 0, .null, []), (12, .aload_n 0, 1, 0, 0, .null, []), (13, .getfield 9, 3, 2, 0, .null, []), (16, .iload 5, 2, 0, 0, .null, []), (18, .lload_n 1, 1, 0, 0, .null, []), (19, .lastore, 1, 0, 0, .null, []), (20, .aload_n 0, 1, 0, 0, .null, []), (21, .getfield 13, 3, 2, 1, .null, []), (24, .iload 5, 2, 0, 0, .null, []), (26, .lload_n 3, 1, 0, 0, .null, []), (27, .lastore, 1, 0, 0, .null, []), (28, .return_, 1, 0, 0, .null, [])]
set_option maxRecDepth 100000 in
theorem ck26 : ∀ ce ∈ cd26, okB (yO 26) (yC 26) ce = true := List.all_eq_true.mp (by decide +kernel)
/-- ShapeDuel$Side.<init>()V -/
def cd66 : List CE := [(0, .aload_n 0, 1, 0, 0, .null, []), (1, .invokespecial 1, 3, 1000, 0, .null, []), (4, .aload_n 0, 1, 0, 0, .null, []), (5, .iconst 0, 1, 0, 0, .int 0, []), (6, .putfield 7, 3, 7, 0, .null, []), (9, .aload_n 0, 1, 0, 0, .null, []), (10, .iconst 0, 1, 0, 0, .int 0, []), (11, .putfield 13, 3, 7, 1, .null, []), (14, .aload_n 0, 1, 0, 0, .null, []), (15, .iconst 0, 1, 0, 0, .int 0, []), (16, .putfield 16, 3, 7, 2, .null, []), (19, .aload_n 0, 1, 0, 0, .null, []), (20, .iconst 0, 1, 0, 0, .int 0, []), (21, .putfield 19, 3, 7, 3, .null, []), (24, .return_, 1, 0, 0, .null, [])]
set_option maxRecDepth 100000 in
theorem ck66 : ∀ ce ∈ cd66, okB (yO 66) (yC 66) ce = true := List.all_eq_true.mp (by decide +kernel)
/-- ShapeDuel$Side.takeOver(LShapeDuel$Side;)V -/
def cd67 : List CE := [(0, .aload_n 0, 1, 0, 0, .null, []), (1, .aload_n 1, 1, 0, 0, .null, []), (2, .getfield 7, 3, 7, 0, .null, []), (5, .putfield 7, 3, 7, 0, .null, []), (8, .aload_n 0, 1, 0, 0, .null, []), (9, .aload_n 1, 1, 0, 0, .null, []), (10, .getfield 13, 3, 7, 1, .null, []), (13, .putfield 13, 3, 7, 1, .null, []), (16, .aload_n 0, 1, 0, 0, .null, []), (17, .aload_n 1, 1, 0, 0, .null, []), (18, .getfield 16, 3, 7, 2, .null, []), (21, .putfield 16, 3, 7, 2, .null, []), (24, .aload_n 0, 1, 0, 0, .null, []), (25, .aload_n 1, 1, 0, 0, .null, []), (26, .getfield 19, 3, 7, 3, .null, []), (29, .putfield 19, 3, 7, 3, .null, []), (32, .return_, 1, 0, 0, .null, [])]
set_option maxRecDepth 100000 in
theorem ck67 : ∀ ce ∈ cd67, okB (yO 67) (yC 67) ce = true := List.all_eq_true.mp (by decide +kernel)
/-- ShapeDuel$Side.about(I)I -/
def cd68 : List CE := [(0, .iload_n 1, 1, 0, 0, .null, []), (1, .tableswitch 42 0 2 #[27, 32, 37], 27, 43, 0, .null, [(0, 28), (1, 33), (2, 38)]), (28, .aload_n 0, 1, 0, 0, .null, []), (29, .getfield 7, 3, 7, 0, .null, []), (32, .ireturn, 1, 0, 0, .null, []), (33, .aload_n 0, 1, 0, 0, .null, []), (34, .getfield 13, 3, 7, 1, .null, []), (37, .ireturn, 1, 0, 0, .null, []), (38, .aload_n 0, 1, 0, 0, .null, []), (39, .getfield 16, 3, 7, 2, .null, []), (42, .ireturn, 1, 0, 0, .null, []), (43, .aload_n 0, 1, 0, 0, .null, []), (44, .getfield 19, 3, 7, 3, .null, []), (47, .ireturn, 1, 0, 0, .null, [])]
set_option maxRecDepth 100000 in
theorem ck68 : ∀ ce ∈ cd68, okB (yO 68) (yC 68) ce = true := List.all_eq_true.mp (by decide +kernel)
/-- ShapeDuel$Side.packed()I -/
def cd69 : List CE := [(0, .aload_n 0, 1, 0, 0, .null, []), (1, .getfield 7, 3, 7, 0, .null, []), (4, .iconst 3, 1, 0, 0, .int 3, []), (5, .ishl, 1, 0, 0, .null, []), (6, .aload_n 0, 1, 0, 0, .null, []), (7, .getfield 13, 3, 7, 1, .null, []), (10, .ior, 1, 0, 0, .null, []), (11, .iconst 5, 1, 0, 0, .int 5, []), (12, .ishl, 1, 0, 0, .null, []), (13, .aload_n 0, 1, 0, 0, .null, []), (14, .getfield 16, 3, 7, 2, .null, []), (17, .ior, 1, 0, 0, .null, []), (18, .ireturn, 1, 0, 0, .null, [])]
set_option maxRecDepth 100000 in
theorem ck69 : ∀ ce ∈ cd69, okB (yO 69) (yC 69) ce = true := List.all_eq_true.mp (by decide +kernel)
/-- ShapeDuel$Side.unpack(I)V -/
def cd70 : List CE := [(0, .aload_n 0, 1, 0, 0, .null, []), (1, .iload_n 1, 1, 0, 0, .null, []), (2, .bipush 8, 2, 0, 0, .int 8, []), (4, .ishr, 1, 0, 0, .null, []), (5, .bipush 7, 2, 0, 0, .int 7, []), (7, .iand, 1, 0, 0, .null, []), (8, .putfield 7, 3, 7, 0, .null, []), (11, .aload_n 0, 1, 0, 0, .null, []), (12, .iload_n 1, 1, 0, 0, .null, []), (13, .iconst 5, 1, 0, 0, .int 5, []), (14, .ishr, 1, 0, 0, .null, []), (15, .bipush 7, 2, 0, 0, .int 7, []), (17, .iand, 1, 0, 0, .null, []), (18, .putfield 13, 3, 7, 1, .null, []), (21, .aload_n 0, 1, 0, 0, .null, []), (22, .iload_n 1, 1, 0, 0, .null, []), (23, .bipush 31, 2, 0, 0, .int 31, []), (25, .iand, 1, 0, 0, .null, []), (26, .putfield 16, 3, 7, 2, .null, []), (29, .return_, 1, 0, 0, .null, [])]
set_option maxRecDepth 100000 in
theorem ck70 : ∀ ce ∈ cd70, okB (yO 70) (yC 70) ce = true := List.all_eq_true.mp (by decide +kernel)
/-- ShapeDuel$Strip.<init>(I)V -/
def cd71 : List CE := [(0, .aload_n 0, 1, 0, 0, .null, []), (1, .invokespecial 1, 3, 1000, 0, .null, []), (4, .aload_n 0, 1, 0, 0, .null, []), (5, .iconst (-1), 1, 0, 0, .int (-1), []), (6, .putfield 7, 3, 8, 1, .null, []), (9, .aload_n 0, 1, 0, 0, .null, []), (10, .iload_n 1, 1, 0, 0, .null, []), (11, .newarray .int, 2, 12, 0, .null, []), (13, .putfield 13, 3, 8, 0, .null, []), (16, .return_, 1, 0, 0, .null, [])]
set_option maxRecDepth 100000 in
theorem ck71 : ∀ ce ∈ cd71, okB (yO 71) (yC 71) ce = true := List.all_eq_true.mp (by decide +kernel)
/-- ShapeDuel$Strip.fillAnew(II)V -/
def cd72 : List CE := [(0, .aload_n 0, 1, 0, 0, .null, []), (1, .iload_n 1, 1, 0, 0, .null, []), (2, .putfield 7, 3, 8, 1, .null, []), (5, .aload_n 0, 1, 0, 0, .null, []), (6, .getfield 13, 3, 8, 0, .null, []), (9, .iconst 0, 1, 0, 0, .int 0, []), (10, .iload_n 1, 1, 0, 0, .null, []), (11, .iload_n 2, 1, 0, 0, .null, []), (12, .invokestatic 17, 3, 264, 0, .null, []), (15, .return_, 1, 0, 0, .null, [])]
set_option maxRecDepth 100000 in
theorem ck72 : ∀ ce ∈ cd72, okB (yO 72) (yC 72) ce = true := List.all_eq_true.mp (by decide +kernel)
/-- ShapeDuel$Strip.setTo([II)V -/
def cd73 : List CE := [(0, .aload_n 0, 1, 0, 0, .null, []), (1, .iload_n 2, 1, 0, 0, .null, []), (2, .putfield 7, 3, 8, 1, .null, []), (5, .aload_n 1, 1, 0, 0, .null, []), (6, .iconst 0, 1, 0, 0, .int 0, []), (7, .aload_n 0, 1, 0, 0, .null, []), (8, .getfield 13, 3, 8, 0, .null, []), (11, .iconst 0, 1, 0, 0, .int 0, []), (12, .iload_n 2, 1, 0, 0, .null, []), (13, .invokestatic 23, 3, 1001, 0, .null, []), (16, .return_, 1, 0, 0, .null, [])]
set_option maxRecDepth 100000 in
theorem ck73 : ∀ ce ∈ cd73, okB (yO 73) (yC 73) ce = true := List.all_eq_true.mp (by decide +kernel)
/-- ShapeDuel$Strip.holds(II)Z -/
def cd74 : List CE := [(0, .iload_n 1, 1, 0, 0, .null, []), (1, .ifCond .lt 25, 3, 26, 0, .null, []), (4, .iload_n 2, 1, 0, 0, .null, []), (5, .aload_n 0, 1, 0, 0, .null, []), (6, .getfield 7, 3, 8, 1, .null, []), (9, .if_icmp .gt 17, 3, 26, 0, .null, []), (12, .iload_n 1, 1, 0, 0, .null, []), (13, .aload_n 0, 1, 0, 0, .null, []), (14, .getfield 7, 3, 8, 1, .null, []), (17, .iload_n 2, 1, 0, 0, .null, []), (18, .isub, 1, 0, 0, .null, []), (19, .if_icmp .gt 7, 3, 26, 0, .null, []), (22, .iconst 1, 1, 0, 0, .int 1, []), (23, .goto 4, 3, 27, 0, .null, []), (26, .iconst 0, 1, 0, 0, .int 0, []), (27, .ireturn, 1, 0, 0, .null, [])]
set_option maxRecDepth 100000 in
theorem ck74 : ∀ ce ∈ cd74, okB (yO 74) (yC 74) ce = true := List.all_eq_true.mp (by decide +kernel)
/-- ShapeDuel$Strip.allWithin(I)Z -/
def cd75 : List CE := [(0, .iconst 0, 1, 0, 0, .int 0, []), (1, .istore_n 2, 1, 0, 0, .null, []), (2, .iload_n 2, 1, 0, 0, .null, []), (3, .aload_n 0, 1, 0, 0, .null, []), (4, .getfield 7, 3, 8, 1, .null, []), (7, .if_icmp .ge 24, 3, 31, 0, .null, []), (10, .aload_n 0, 1, 0, 0, .null, []), (11, .getfield 13, 3, 8, 0, .null, []), (14, .iload_n 2, 1, 0, 0, .null, []), (15, .iaload, 1, 0, 0, .null, []), (16, .iload_n 1, 1, 0, 0, .null, []), (17, .invokestatic 29, 3, 142, 0, .null, []), (20, .ifCond .ne 5, 3, 25, 0, .null, []), (23, .iconst 0, 1, 0, 0, .int 0, []), (24, .ireturn, 1, 0, 0, .null, []), (25, .iinc 2 1, 3, 0, 0, .int 1, []), (28, .goto (-26), 3, 2, 0, .null, []), (31, .iconst 1, 1, 0, 0, .int 1, []), (32, .ireturn, 1, 0, 0, .null, [])]
set_option maxRecDepth 100000 in
theorem ck75 : ∀ ce ∈ cd75, okB (yO 75) (yC 75) ce = true := List.all_eq_true.mp (by decide +kernel)
/-- ShapeDuel$Strip.sum()J -/
def cd76 : List CE := [(0, .lconst 0, 1, 0, 0, .long 0, []), (1, .lstore_n 1, 1, 0, 0, .null, []), (2, .iconst 0, 1, 0, 0, .int 0, []), (3, .istore_n 3, 1, 0, 0, .null, []), (4, .iload_n 3, 1, 0, 0, .null, []), (5, .aload_n 0, 1, 0, 0, .null, []), (6, .getfield 7, 3, 8, 1, .null, []), (9, .if_icmp .ge 19, 3, 28, 0, .null, []), (12, .lload_n 1, 1, 0, 0, .null, []), (13, .aload_n 0, 1, 0, 0, .null, []), (14, .getfield 13, 3, 8, 0, .null, []), (17, .iload_n 3, 1, 0, 0, .null, []), (18, .iaload, 1, 0, 0, .null, []), (19, .i2l, 1, 0, 0, .null, []), (20, .ladd, 1, 0, 0, .null, []), (21, .lstore_n 1, 1, 0, 0, .null, []), (22, .iinc 3 1, 3, 0, 0, .int 1, []), (25, .goto (-21), 3, 4, 0, .null, []), (28, .lload_n 1, 1, 0, 0, .null, []), (29, .lreturn, 1, 0, 0, .null, [])]
set_option maxRecDepth 100000 in
theorem ck76 : ∀ ce ∈ cd76, okB (yO 76) (yC 76) ce = true := List.all_eq_true.mp (by decide +kernel)
/-- ShapeDuel$Strip.mixInto(J)J -/
def cd77 : List CE := [(0, .ldc2_w 35, 3, 0, 0, .long (31), []), (3, .lload_n 1, 1, 0, 0, .null, []), (4, .lmul, 1, 0, 0, .null, []), (5, .aload_n 0, 1, 0, 0, .null, []), (6, .getfield 7, 3, 8, 1, .null, []), (9, .i2l, 1, 0, 0, .null, []), (10, .ladd, 1, 0, 0, .null, []), (11, .lstore_n 3, 1, 0, 0, .null, []), (12, .iconst 0, 1, 0, 0, .int 0, []), (13, .istore 5, 2, 0, 0, .null, []), (15, .iload 5, 2, 0, 0, .null, []), (17, .aload_n 0, 1, 0, 0, .null, []), (18, .getfield 7, 3, 8, 1, .null, []), (21, .if_icmp .ge 24, 3, 45, 0, .null, []), (24, .ldc2_w 35, 3, 0, 0, .long (31), []), (27, .lload_n 3, 1, 0, 0, .null, []), (28, .lmul, 1, 0, 0, .null, []), (29, .aload_n 0, 1, 0, 0, .null, []), (30, .getfield 13, 3, 8, 0, .null, []), (33, .iload 5, 2, 0, 0, .null, []), (35, .iaload, 1, 0, 0, .null, []), (36, .i2l, 1, 0, 0, .null, []), (37, .ladd, 1, 0, 0, .null, []), (38, .lstore_n 3, 1, 0, 0, .null, []), (39, .iinc 5 1, 3, 0, 0, .int 1, []), (42, .goto (-27), 3, 15, 0, .null, []), (45, .lload_n 3, 1, 0, 0, .null, []), (46, .lreturn, 1, 0, 0, .null, [])]
set_option maxRecDepth 100000 in
theorem ck77 : ∀ ce ∈ cd77, okB (yO 77) (yC 77) ce = true := List.all_eq_true.mp (by decide +kernel)
/-- ShapeDuel$Table.<init>()V -/
def cd78 : List CE := [(0, .aload_n 0, 1, 0, 0, .null, []), (1, .invokespecial 3, 3, 1000, 0, .null, []), (4, .aload_n 0, 1, 0, 0, .null, []), (5, .iconst 0, 1, 0, 0, .int 0, []), (6, .putfield 9, 3, 9, 0, .null, []), (9, .aload_n 0, 1, 0, 0, .null, []), (10, .iconst 5, 1, 0, 0, .int 5, []), (11, .newarray .int, 2, 12, 0, .null, []), (13, .putfield 15, 3, 9, 1, .null, []), (16, .aload_n 0, 1, 0, 0, .null, []), (17, .iconst 5, 1, 0, 0, .int 5, []), (18, .newarray .int, 2, 12, 0, .null, []), (20, .putfield 19, 3, 9, 2, .null, []), (23, .aload_n 0, 1, 0, 0, .null, []), (24, .iconst 0, 1, 0, 0, .int 0, []), (25, .putfield 22, 3, 9, 3, .null, []), (28, .aload_n 0, 1, 0, 0, .null, []), (29, .bipush 12, 2, 0, 0, .int 12, []), (31, .newarray .int, 2, 12, 0, .null, []), (33, .putfield 25, 3, 9, 4, .null, []), (36, .aload_n 0, 1, 0, 0, .null, []), (37, .bipush 12, 2, 0, 0, .int 12, []), (39, .newarray .int, 2, 12, 0, .null, []), (41, .putfield 28, 3, 9, 5, .null, []), (44, .aload_n 0, 1, 0, 0, .null, []), (45, .bipush 12, 2, 0, 0, .int 12, []), (47, .newarray .int, 2, 12, 0, .null, []), (49, .putfield 31, 3, 9, 6, .null, []), (52, .return_, 1, 0, 0, .null, [])]
set_option maxRecDepth 100000 in
theorem ck78 : ∀ ce ∈ cd78, okB (yO 78) (yC 78) ce = true := List.all_eq_true.mp (by decide +kernel)
/-- ShapeDuel$Table.takeOver(LShapeDuel$Table;)V -/
def cd79 : List CE := [(0, .aload_n 0, 1, 0, 0, .null, []), (1, .aload_n 1, 1, 0, 0, .null, []), (2, .getfield 9, 3, 9, 0, .null, []), (5, .putfield 9, 3, 9, 0, .null, []), (8, .aload_n 0, 1, 0, 0, .null, []), (9, .aload_n 1, 1, 0, 0, .null, []), (10, .getfield 22, 3, 9, 3, .null, []), (13, .putfield 22, 3, 9, 3, .null, []), (16, .iconst 0, 1, 0, 0, .int 0, []), (17, .istore_n 2, 1, 0, 0, .null, []), (18, .iload_n 2, 1, 0, 0, .null, []), (19, .aload_n 0, 1, 0, 0, .null, []), (20, .getfield 9, 3, 9, 0, .null, []), (23, .if_icmp .ge 48, 3, 71, 0, .null, []), (26, .aload_n 0, 1, 0, 0, .null, []), (27, .getfield 15, 3, 9, 1, .null, []), (30, .iload_n 2, 1, 0, 0, .null, []), (31, .aload_n 1, 1, 0, 0, .null, []), (32, .getfield 15, 3, 9, 1, .null, []), (35, .iload_n 2, 1, 0, 0, .null, []), (36, .iaload, 1, 0, 0, .null, []), (37, .iastore, 1, 0, 0, .null, []), (38, .aload_n 0, 1, 0, 0, .null, []), (39, .getfield 19, 3, 9, 2, .null, []), (42, .iload_n 2, 1, 0, 0, .null, []), (43, .aload_n 1, 1, 0, 0, .null, []), (44, .getfield 19, 3, 9, 2, .null, []), (47, .iload_n 2, 1, 0, 0, .null, []), (48, .iaload, 1, 0, 0, .null, []), (49, .iconst 1, 1, 0, 0, .int 1, []), (50, .aload_n 0, 1, 0, 0, .null, []), (51, .getfield 9, 3, 9, 0, .null, []), (54, .ishl, 1, 0, 0, .null, []), (55, .iconst 1, 1, 0, 0, .int 1, []), (56, .isub, 1, 0, 0, .null, []), (57, .iand, 1, 0, 0, .null, []), (58, .iconst 1, 1, 0, 0, .int 1, []), (59, .iload_n 2, 1, 0, 0, .null, []), (60, .ishl, 1, 0, 0, .null, []), (61, .iconst (-1), 1, 0, 0, .int (-1), []), (62, .ixor, 1, 0, 0, .null, []), (63, .iand, 1, 0, 0, .null, []), (64, .iastore, 1, 0, 0, .null, []), (65, .iinc 2 1, 3, 0, 0, .int 1, []), (68, .goto (-50), 3, 18, 0, .null, []), (71, .aload_n 1, 1, 0, 0, .null, []), (72, .getfield 25, 3, 9, 4, .null, []), (75, .iconst 0, 1, 0, 0, .int 0, []), (76, .aload_n 0, 1, 0, 0, .null, []), (77, .getfield 25, 3, 9, 4, .null, []), (80, .iconst 0, 1, 0, 0, .int 0, []), (81, .aload_n 0, 1, 0, 0, .null, []), (82, .getfield 22, 3, 9, 3, .null, []), (85, .invokestatic 34, 3, 1001, 0, .null, []), (88, .aload_n 1, 1, 0, 0, .null, []), (89, .getfield 28, 3, 9, 5, .null, []), (92, .iconst 0, 1, 0, 0, .int 0, []), (93, .aload_n 0, 1, 0, 0, .null, []), (94, .getfield 28, 3, 9, 5, .null, []), (97, .iconst 0, 1, 0, 0, .int 0, []), (98, .aload_n 0, 1, 0, 0, .null, []), (99, .getfield 22, 3, 9, 3, .null, []), (102, .invokestatic 34, 3, 1001, 0, .null, []), (105, .aload_n 1, 1, 0, 0, .null, []), (106, .getfield 31, 3, 9, 6, .null, []), (109, .iconst 0, 1, 0, 0, .int 0, []), (110, .aload_n 0, 1, 0, 0, .null, []), (111, .getfield 31, 3, 9, 6, .null, []), (114, .iconst 0, 1, 0, 0, .int 0, []), (115, .aload_n 0, 1, 0, 0, .null, []), (116, .getfield 22, 3, 9, 3, .null, []), (119, .invokestatic 34, 3, 1001, 0, .null, []), (122, .return_, 1, 0, 0, .null, [])]
set_option maxRecDepth 100000 in
theorem ck79 : ∀ ce ∈ cd79, okB (yO 79) (yC 79) ce = true := List.all_eq_true.mp (by decide +kernel)
/-- ShapeDuel$Table.isOf(II)Z -/
def cd80 : List CE := [(0, .aload_n 0, 1, 0, 0, .null, []), (1, .getfield 15, 3, 9, 1, .null, []), (4, .iload_n 1, 1, 0, 0, .null, []), (5, .iaload, 1, 0, 0, .null, []), (6, .iload_n 2, 1, 0, 0, .null, []), (7, .if_icmp .eq 17, 3, 24, 0, .null, []), (10, .getstatic 40, 3, 2, 0, .null, []), (13, .aload_n 0, 1, 0, 0, .null, []), (14, .getfield 15, 3, 9, 1, .null, []), (17, .iload_n 1, 1, 0, 0, .null, []), (18, .iaload, 1, 0, 0, .null, []), (19, .iaload, 1, 0, 0, .null, []), (20, .iload_n 2, 1, 0, 0, .null, []), (21, .if_icmp .ne 7, 3, 28, 0, .null, []), (24, .iconst 1, 1, 0, 0, .int 1, []), (25, .goto 4, 3, 29, 0, .null, []), (28, .iconst 0, 1, 0, 0, .int 0, []), (29, .ireturn, 1, 0, 0, .null, [])]
set_option maxRecDepth 100000 in
theorem ck80 : ∀ ce ∈ cd80, okB (yO 80) (yC 80) ce = true := List.all_eq_true.mp (by decide +kernel)
/-- ShapeDuel$Table.beats(II)Z -/
def cd81 : List CE := [(0, .aload_n 0, 1, 0, 0, .null, []), (1, .getfield 19, 3, 9, 2, .null, []), (4, .iload_n 1, 1, 0, 0, .null, []), (5, .iaload, 1, 0, 0, .null, []), (6, .iload_n 2, 1, 0, 0, .null, []), (7, .invokestatic 43, 3, 143, 0, .null, []), (10, .iconst 1, 1, 0, 0, .int 1, []), (11, .if_icmp .ne 27, 3, 38, 0, .null, []), (14, .aload_n 0, 1, 0, 0, .null, []), (15, .getfield 15, 3, 9, 1, .null, []), (18, .iload_n 1, 1, 0, 0, .null, []), (19, .iaload, 1, 0, 0, .null, []), (20, .iconst 3, 1, 0, 0, .int 3, []), (21, .if_icmp .ne 13, 3, 34, 0, .null, []), (24, .aload_n 0, 1, 0, 0, .null, []), (25, .getfield 15, 3, 9, 1, .null, []), (28, .iload_n 2, 1, 0, 0, .null, []), (29, .iaload, 1, 0, 0, .null, []), (30, .iconst 5, 1, 0, 0, .int 5, []), (31, .if_icmp .eq 7, 3, 38, 0, .null, []), (34, .iconst 1, 1, 0, 0, .int 1, []), (35, .goto 4, 3, 39, 0, .null, []), (38, .iconst 0, 1, 0, 0, .int 0, []), (39, .ireturn, 1, 0, 0, .null, [])]
set_option maxRecDepth 100000 in
theorem ck81 : ∀ ce ∈ cd81, okB (yO 81) (yC 81) ce = true := List.all_eq_true.mp (by decide +kernel)
/-- ShapeDuel$Table.beatenBy(I)I -/
def cd82 : List CE := [(0, .iconst 0, 1, 0, 0, .int 0, []), (1, .istore_n 2, 1, 0, 0, .null, []), (2, .iconst 0, 1, 0, 0, .int 0, []), (3, .istore_n 3, 1, 0, 0, .null, []), (4, .iload_n 3, 1, 0, 0, .null, []), (5, .aload_n 0, 1, 0, 0, .null, []), (6, .getfield 9, 3, 9, 0, .null, []), (9, .if_icmp .ge 28, 3, 37, 0, .null, []), (12, .iload_n 2, 1, 0, 0, .null, []), (13, .aload_n 0, 1, 0, 0, .null, []), (14, .iload_n 1, 1, 0, 0, .null, []), (15, .iload_n 3, 1, 0, 0, .null, []), (16, .invokevirtual 47, 3, 81, 0, .null, []), (19, .ifCond .eq 9, 3, 28, 0, .null, []), (22, .iconst 1, 1, 0, 0, .int 1, []), (23, .iload_n 3, 1, 0, 0, .null, []), (24, .ishl, 1, 0, 0, .null, []), (25, .goto 4, 3, 29, 0, .null, []), (28, .iconst 0, 1, 0, 0, .int 0, []), (29, .ior, 1, 0, 0, .null, []), (30, .istore_n 2, 1, 0, 0, .null, []), (31, .iinc 3 1, 3, 0, 0, .int 1, []), (34, .goto (-30), 3, 4, 0, .null, []), (37, .iload_n 2, 1, 0, 0, .null, []), (38, .ireturn, 1, 0, 0, .null, [])]
set_option maxRecDepth 100000 in
theorem ck82 : ∀ ce ∈ cd82, okB (yO 82) (yC 82) ce = true := List.all_eq_true.mp (by decide +kernel)
/-- ShapeDuel$Table.beatersOf(I)I -/
def cd83 : List CE := [(0, .iconst 0, 1, 0, 0, .int 0, []), (1, .istore_n 2, 1, 0, 0, .null, []), (2, .iconst 0, 1, 0, 0, .int 0, []), (3, .istore_n 3, 1, 0, 0, .null, []), (4, .iload_n 3, 1, 0, 0, .null, []), (5, .aload_n 0, 1, 0, 0, .null, []), (6, .getfield 9, 3, 9, 0, .null, []), (9, .if_icmp .ge 28, 3, 37, 0, .null, []), (12, .iload_n 2, 1, 0, 0, .null, []), (13, .aload_n 0, 1, 0, 0, .null, []), (14, .iload_n 3, 1, 0, 0, .null, []), (15, .iload_n 1, 1, 0, 0, .null, []), (16, .invokevirtual 47, 3, 81, 0, .null, []), (19, .ifCond .eq 9, 3, 28, 0, .null, []), (22, .iconst 1, 1, 0, 0, .int 1, []), (23, .iload_n 3, 1, 0, 0, .null, []), (24, .ishl, 1, 0, 0, .null, []), (25, .goto 4, 3, 29, 0, .null, []), (28, .iconst 0, 1, 0, 0, .int 0, []), (29, .ior, 1, 0, 0, .null, []), (30, .istore_n 2, 1, 0, 0, .null, []), (31, .iinc 3 1, 3, 0, 0, .int 1, []), (34, .goto (-30), 3, 4, 0, .null, []), (37, .iload_n 2, 1, 0, 0, .null, []), (38, .ireturn, 1, 0, 0, .null, [])]
set_option maxRecDepth 100000 in
theorem ck83 : ∀ ce ∈ cd83, okB (yO 83) (yC 83) ce = true := List.all_eq_true.mp (by decide +kernel)
/-- ShapeDuel$Table.lead(I)I -/
def cd84 : List CE := [(0, .aload_n 0, 1, 0, 0, .null, []), (1, .iload_n 1, 1, 0, 0, .null, []), (2, .invokevirtual 51, 3, 82, 0, .null, []), (5, .invokestatic 55, 3, 261, 0, .null, []), (8, .aload_n 0, 1, 0, 0, .null, []), (9, .iload_n 1, 1, 0, 0, .null, []), (10, .invokevirtual 60, 3, 83, 0, .null, []), (13, .invokestatic 55, 3, 261, 0, .null, []), (16, .isub, 1, 0, 0, .null, []), (17, .ireturn, 1, 0, 0, .null, [])]
set_option maxRecDepth 100000 in
theorem ck84 : ∀ ce ∈ cd84, okB (yO 84) (yC 84) ce = true := List.all_eq_true.mp (by decide +kernel)
/-- ShapeDuel$Table.aboutShape(II)I -/
def cd85 : List CE := [(0, .iload_n 2, 1, 0, 0, .null, []), (1, .tableswitch 46 0 2 #[27, 34, 40], 27, 47, 0, .null, [(0, 28), (1, 35), (2, 41)]), (28, .aload_n 0, 1, 0, 0, .null, []), (29, .getfield 15, 3, 9, 1, .null, []), (32, .iload_n 1, 1, 0, 0, .null, []), (33, .iaload, 1, 0, 0, .null, []), (34, .ireturn, 1, 0, 0, .null, []), (35, .aload_n 0, 1, 0, 0, .null, []), (36, .iload_n 1, 1, 0, 0, .null, []), (37, .invokevirtual 51, 3, 82, 0, .null, []), (40, .ireturn, 1, 0, 0, .null, []), (41, .aload_n 0, 1, 0, 0, .null, []), (42, .iload_n 1, 1, 0, 0, .null, []), (43, .invokevirtual 60, 3, 83, 0, .null, []), (46, .ireturn, 1, 0, 0, .null, []), (47, .aload_n 0, 1, 0, 0, .null, []), (48, .iload_n 1, 1, 0, 0, .null, []), (49, .invokevirtual 63, 3, 87, 0, .null, []), (52, .ireturn, 1, 0, 0, .null, [])]
set_option maxRecDepth 100000 in
theorem ck85 : ∀ ce ∈ cd85, okB (yO 85) (yC 85) ce = true := List.all_eq_true.mp (by decide +kernel)
/-- ShapeDuel$Table.changesFrom(I)I -/
def cd86 : List CE := [(0, .iconst 0, 1, 0, 0, .int 0, []), (1, .istore_n 2, 1, 0, 0, .null, []), (2, .iconst 0, 1, 0, 0, .int 0, []), (3, .istore_n 3, 1, 0, 0, .null, []), (4, .iload_n 3, 1, 0, 0, .null, []), (5, .aload_n 0, 1, 0, 0, .null, []), (6, .getfield 22, 3, 9, 3, .null, []), (9, .if_icmp .ge 27, 3, 36, 0, .null, []), (12, .iload_n 2, 1, 0, 0, .null, []), (13, .aload_n 0, 1, 0, 0, .null, []), (14, .getfield 25, 3, 9, 4, .null, []), (17, .iload_n 3, 1, 0, 0, .null, []), (18, .iaload, 1, 0, 0, .null, []), (19, .iload_n 1, 1, 0, 0, .null, []), (20, .if_icmp .ne 7, 3, 27, 0, .null, []), (23, .iconst 1, 1, 0, 0, .int 1, []), (24, .goto 4, 3, 28, 0, .null, []), (27, .iconst 0, 1, 0, 0, .int 0, []), (28, .iadd, 1, 0, 0, .null, []), (29, .istore_n 2, 1, 0, 0, .null, []), (30, .iinc 3 1, 3, 0, 0, .int 1, []), (33, .goto (-29), 3, 4, 0, .null, []), (36, .iload_n 2, 1, 0, 0, .null, []), (37, .ireturn, 1, 0, 0, .null, [])]
set_option maxRecDepth 100000 in
theorem ck86 : ∀ ce ∈ cd86, okB (yO 86) (yC 86) ce = true := List.all_eq_true.mp (by decide +kernel)
/-- ShapeDuel$Table.changesInto(I)I -/
def cd87 : List CE := [(0, .iconst 0, 1, 0, 0, .int 0, []), (1, .istore_n 2, 1, 0, 0, .null, []), (2, .iconst 0, 1, 0, 0, .int 0, []), (3, .istore_n 3, 1, 0, 0, .null, []), (4, .iload_n 3, 1, 0, 0, .null, []), (5, .aload_n 0, 1, 0, 0, .null, []), (6, .getfield 22, 3, 9, 3, .null, []), (9, .if_icmp .ge 27, 3, 36, 0, .null, []), (12, .iload_n 2, 1, 0, 0, .null, []), (13, .aload_n 0, 1, 0, 0, .null, []), (14, .getfield 28, 3, 9, 5, .null, []), (17, .iload_n 3, 1, 0, 0, .null, []), (18, .iaload, 1, 0, 0, .null, []), (19, .iload_n 1, 1, 0, 0, .null, []), (20, .if_icmp .ne 7, 3, 27, 0, .null, []), (23, .iconst 1, 1, 0, 0, .int 1, []), (24, .goto 4, 3, 28, 0, .null, []), (27, .iconst 0, 1, 0, 0, .int 0, []), (28, .iadd, 1, 0, 0, .null, []), (29, .istore_n 2, 1, 0, 0, .null, []), (30, .iinc 3 1, 3, 0, 0, .int 1, []), (33, .goto (-29), 3, 4, 0, .null, []), (36, .iload_n 2, 1, 0, 0, .null, []), (37, .ireturn, 1, 0, 0, .null, [])]
set_option maxRecDepth 100000 in
theorem ck87 : ∀ ce ∈ cd87, okB (yO 87) (yC 87) ce = true := List.all_eq_true.mp (by decide +kernel)
/-- ShapeDuel$Table.cheapestInto(I)I -/
def cd88 : List CE := [(0, .bipush (-9), 2, 0, 0, .int (-9), []), (2, .istore_n 2, 1, 0, 0, .null, []), (3, .iconst 0, 1, 0, 0, .int 0, []), (4, .istore_n 3, 1, 0, 0, .null, []), (5, .iload_n 3, 1, 0, 0, .null, []), (6, .aload_n 0, 1, 0, 0, .null, []), (7, .getfield 22, 3, 9, 3, .null, []), (10, .if_icmp .ge 42, 3, 52, 0, .null, []), (13, .aload_n 0, 1, 0, 0, .null, []), (14, .getfield 28, 3, 9, 5, .null, []), (17, .iload_n 3, 1, 0, 0, .null, []), (18, .iaload, 1, 0, 0, .null, []), (19, .iload_n 1, 1, 0, 0, .null, []), (20, .if_icmp .ne 26, 3, 46, 0, .null, []), (23, .iload_n 2, 1, 0, 0, .null, []), (24, .bipush (-9), 2, 0, 0, .int (-9), []), (26, .if_icmp .eq 13, 3, 39, 0, .null, []), (29, .aload_n 0, 1, 0, 0, .null, []), (30, .getfield 31, 3, 9, 6, .null, []), (33, .iload_n 3, 1, 0, 0, .null, []), (34, .iaload, 1, 0, 0, .null, []), (35, .iload_n 2, 1, 0, 0, .null, []), (36, .if_icmp .ge 10, 3, 46, 0, .null, []), (39, .aload_n 0, 1, 0, 0, .null, []), (40, .getfield 31, 3, 9, 6, .null, []), (43, .iload_n 3, 1, 0, 0, .null, []), (44, .iaload, 1, 0, 0, .null, []), (45, .istore_n 2, 1, 0, 0, .null, []), (46, .iinc 3 1, 3, 0, 0, .int 1, []), (49, .goto (-44), 3, 5, 0, .null, []), (52, .iload_n 2, 1, 0, 0, .null, []), (53, .ireturn, 1, 0, 0, .null, [])]
set_option maxRecDepth 100000 in
theorem ck88 : ∀ ce ∈ cd88, okB (yO 88) (yC 88) ce = true := List.all_eq_true.mp (by decide +kernel)
/-- ShapeDuel$Table.beastsToldToBeat(I)I -/
def cd89 : List CE := [(0, .iconst 0, 1, 0, 0, .int 0, []), (1, .istore_n 2, 1, 0, 0, .null, []), (2, .iconst 0, 1, 0, 0, .int 0, []), (3, .istore_n 3, 1, 0, 0, .null, []), (4, .iload_n 3, 1, 0, 0, .null, []), (5, .aload_n 0, 1, 0, 0, .null, []), (6, .getfield 9, 3, 9, 0, .null, []), (9, .if_icmp .ge 36, 3, 45, 0, .null, []), (12, .iload_n 2, 1, 0, 0, .null, []), (13, .aload_n 0, 1, 0, 0, .null, []), (14, .getfield 15, 3, 9, 1, .null, []), (17, .iload_n 3, 1, 0, 0, .null, []), (18, .iaload, 1, 0, 0, .null, []), (19, .iconst 3, 1, 0, 0, .int 3, []), (20, .if_icmp .ne 16, 3, 36, 0, .null, []), (23, .aload_n 0, 1, 0, 0, .null, []), (24, .getfield 19, 3, 9, 2, .null, []), (27, .iload_n 3, 1, 0, 0, .null, []), (28, .iaload, 1, 0, 0, .null, []), (29, .iload_n 1, 1, 0, 0, .null, []), (30, .invokestatic 43, 3, 143, 0, .null, []), (33, .goto 4, 3, 37, 0, .null, []), (36, .iconst 0, 1, 0, 0, .int 0, []), (37, .iadd, 1, 0, 0, .null, []), (38, .istore_n 2, 1, 0, 0, .null, []), (39, .iinc 3 1, 3, 0, 0, .int 1, []), (42, .goto (-38), 3, 4, 0, .null, []), (45, .iload_n 2, 1, 0, 0, .null, []), (46, .ireturn, 1, 0, 0, .null, [])]
set_option maxRecDepth 100000 in
theorem ck89 : ∀ ce ∈ cd89, okB (yO 89) (yC 89) ce = true := List.all_eq_true.mp (by decide +kernel)
/-- ShapeDuel$Table.countOf(I)I -/
def cd90 : List CE := [(0, .iconst 0, 1, 0, 0, .int 0, []), (1, .istore_n 2, 1, 0, 0, .null, []), (2, .iconst 0, 1, 0, 0, .int 0, []), (3, .istore_n 3, 1, 0, 0, .null, []), (4, .iload_n 3, 1, 0, 0, .null, []), (5, .aload_n 0, 1, 0, 0, .null, []), (6, .getfield 9, 3, 9, 0, .null, []), (9, .if_icmp .ge 26, 3, 35, 0, .null, []), (12, .iload_n 2, 1, 0, 0, .null, []), (13, .aload_n 0, 1, 0, 0, .null, []), (14, .iload_n 3, 1, 0, 0, .null, []), (15, .iload_n 1, 1, 0, 0, .null, []), (16, .invokevirtual 66, 3, 80, 0, .null, []), (19, .ifCond .eq 7, 3, 26, 0, .null, []), (22, .iconst 1, 1, 0, 0, .int 1, []), (23, .goto 4, 3, 27, 0, .null, []), (26, .iconst 0, 1, 0, 0, .int 0, []), (27, .iadd, 1, 0, 0, .null, []), (28, .istore_n 2, 1, 0, 0, .null, []), (29, .iinc 3 1, 3, 0, 0, .int 1, []), (32, .goto (-28), 3, 4, 0, .null, []), (35, .iload_n 2, 1, 0, 0, .null, []), (36, .ireturn, 1, 0, 0, .null, [])]
set_option maxRecDepth 100000 in
theorem ck90 : ∀ ce ∈ cd90, okB (yO 90) (yC 90) ce = true := List.all_eq_true.mp (by decide +kernel)
/-- ShapeDuel$Table.price(II)I -/
def cd91 : List CE := [(0, .aload_n 0, 1, 0, 0, .null, []), (1, .getfield 31, 3, 9, 6, .null, []), (4, .iload_n 1, 1, 0, 0, .null, []), (5, .iaload, 1, 0, 0, .null, []), (6, .istore_n 3, 1, 0, 0, .null, []), (7, .iload_n 3, 1, 0, 0, .null, []), (8, .aload_n 0, 1, 0, 0, .null, []), (9, .aload_n 0, 1, 0, 0, .null, []), (10, .getfield 28, 3, 9, 5, .null, []), (13, .iload_n 1, 1, 0, 0, .null, []), (14, .iaload, 1, 0, 0, .null, []), (15, .iconst 1, 1, 0, 0, .int 1, []), (16, .invokevirtual 66, 3, 80, 0, .null, []), (19, .ifCond .eq 7, 3, 26, 0, .null, []), (22, .iconst 1, 1, 0, 0, .int 1, []), (23, .goto 4, 3, 27, 0, .null, []), (26, .iconst 0, 1, 0, 0, .int 0, []), (27, .isub, 1, 0, 0, .null, []), (28, .istore_n 3, 1, 0, 0, .null, []), (29, .iload_n 3, 1, 0, 0, .null, []), (30, .aload_n 0, 1, 0, 0, .null, []), (31, .getfield 15, 3, 9, 1, .null, []), (34, .aload_n 0, 1, 0, 0, .null, []), (35, .getfield 25, 3, 9, 4, .null, []), (38, .iload_n 1, 1, 0, 0, .null, []), (39, .iaload, 1, 0, 0, .null, []), (40, .iaload, 1, 0, 0, .null, []), (41, .iconst 3, 1, 0, 0, .int 3, []), (42, .if_icmp .ne 7, 3, 49, 0, .null, []), (45, .iconst 1, 1, 0, 0, .int 1, []), (46, .goto 4, 3, 50, 0, .null, []), (49, .iconst 0, 1, 0, 0, .int 0, []), (50, .iadd, 1, 0, 0, .null, []), (51, .istore_n 3, 1, 0, 0, .null, []), (52, .iload_n 3, 1, 0, 0, .null, []), (53, .aload_n 0, 1, 0, 0, .null, []), (54, .getfield 15, 3, 9, 1, .null, []), (57, .iload_n 2, 1, 0, 0, .null, []), (58, .iaload, 1, 0, 0, .null, []), (59, .iconst 4, 1, 0, 0, .int 4, []), (60, .if_icmp .ne 7, 3, 67, 0, .null, []), (63, .iconst 1, 1, 0, 0, .int 1, []), (64, .goto 4, 3, 68, 0, .null, []), (67, .iconst 0, 1, 0, 0, .int 0, []), (68, .iadd, 1, 0, 0, .null, []), (69, .istore_n 3, 1, 0, 0, .null, []), (70, .iload_n 3, 1, 0, 0, .null, []), (71, .iconst 1, 1, 0, 0, .int 1, []), (72, .invokestatic 69, 3, 1002, 0, .null, []), (75, .ireturn, 1, 0, 0, .null, [])]
set_option maxRecDepth 100000 in
theorem ck91 : ∀ ce ∈ cd91, okB (yO 91) (yC 91) ce = true := List.all_eq_true.mp (by decide +kernel)
/-- java/lang/Integer.numberOfTrailingZeros(I)I -/
def cd260 : List CE := [(0, .iload_n 0, 1, 0, 0, .null, []), (1, .iconst (-1), 1, 0, 0, .int (-1), []), (2, .ixor, 1, 0, 0, .null, []), (3, .iload_n 0, 1, 0, 0, .null, []), (4, .iconst 1, 1, 0, 0, .int 1, []), (5, .isub, 1, 0, 0, .null, []), (6, .iand, 1, 0, 0, .null, []), (7, .istore_n 0, 1, 0, 0, .null, []), (8, .iload_n 0, 1, 0, 0, .null, []), (9, .ifCond .gt 8, 3, 17, 0, .null, []), (12, .iload_n 0, 1, 0, 0, .null, []), (13, .bipush 32, 2, 0, 0, .int 32, []), (15, .iand, 1, 0, 0, .null, []), (16, .ireturn, 1, 0, 0, .null, []), (17, .iconst 1, 1, 0, 0, .int 1, []), (18, .istore_n 1, 1, 0, 0, .null, []), (19, .iload_n 0, 1, 0, 0, .null, []), (20, .ldc_w 264, 3, 0, 0, .int (65536), []), (23, .if_icmp .le 11, 3, 34, 0, .null, []), (26, .iinc 1 16, 3, 0, 0, .int 16, []), (29, .iload_n 0, 1, 0, 0, .null, []), (30, .bipush 16, 2, 0, 0, .int 16, []), (32, .iushr, 1, 0, 0, .null, []), (33, .istore_n 0, 1, 0, 0, .null, []), (34, .iload_n 0, 1, 0, 0, .null, []), (35, .sipush 256, 3, 0, 0, .int 256, []), (38, .if_icmp .le 11, 3, 49, 0, .null, []), (41, .iinc 1 8, 3, 0, 0, .int 8, []), (44, .iload_n 0, 1, 0, 0, .null, []), (45, .bipush 8, 2, 0, 0, .int 8, []), (47, .iushr, 1, 0, 0, .null, []), (48, .istore_n 0, 1, 0, 0, .null, []), (49, .iload_n 0, 1, 0, 0, .null, []), (50, .bipush 16, 2, 0, 0, .int 16, []), (52, .if_icmp .le 10, 3, 62, 0, .null, []), (55, .iinc 1 4, 3, 0, 0, .int 4, []), (58, .iload_n 0, 1, 0, 0, .null, []), (59, .iconst 4, 1, 0, 0, .int 4, []), (60, .iushr, 1, 0, 0, .null, []), (61, .istore_n 0, 1, 0, 0, .null, []), (62, .iload_n 0, 1, 0, 0, .null, []), (63, .iconst 4, 1, 0, 0, .int 4, []), (64, .if_icmp .le 10, 3, 74, 0, .null, []), (67, .iinc 1 2, 3, 0, 0, .int 2, []), (70, .iload_n 0, 1, 0, 0, .null, []), (71, .iconst 2, 1, 0, 0, .int 2, []), (72, .iushr, 1, 0, 0, .null, []), (73, .istore_n 0, 1, 0, 0, .null, []), (74, .iload_n 1, 1, 0, 0, .null, []), (75, .iload_n 0, 1, 0, 0, .null, []), (76, .iconst 1, 1, 0, 0, .int 1, []), (77, .iushr, 1, 0, 0, .null, []), (78, .iadd, 1, 0, 0, .null, []), (79, .ireturn, 1, 0, 0, .null, [])]
set_option maxRecDepth 100000 in
theorem ck260 : ∀ ce ∈ cd260, okB (yO 260) (yC 260) ce = true := List.all_eq_true.mp (by decide +kernel)
/-- java/lang/Integer.bitCount(I)I -/
def cd261 : List CE := [(0, .iload_n 0, 1, 0, 0, .null, []), (1, .iload_n 0, 1, 0, 0, .null, []), (2, .iconst 1, 1, 0, 0, .int 1, []), (3, .iushr, 1, 0, 0, .null, []), (4, .ldc_w 265, 3, 0, 0, .int (1431655765), []), (7, .iand, 1, 0, 0, .null, []), (8, .isub, 1, 0, 0, .null, []), (9, .istore_n 0, 1, 0, 0, .null, []), (10, .iload_n 0, 1, 0, 0, .null, []), (11, .ldc_w 266, 3, 0, 0, .int (858993459), []), (14, .iand, 1, 0, 0, .null, []), (15, .iload_n 0, 1, 0, 0, .null, []), (16, .iconst 2, 1, 0, 0, .int 2, []), (17, .iushr, 1, 0, 0, .null, []), (18, .ldc_w 266, 3, 0, 0, .int (858993459), []), (21, .iand, 1, 0, 0, .null, []), (22, .iadd, 1, 0, 0, .null, []), (23, .istore_n 0, 1, 0, 0, .null, []), (24, .iload_n 0, 1, 0, 0, .null, []), (25, .iload_n 0, 1, 0, 0, .null, []), (26, .iconst 4, 1, 0, 0, .int 4, []), (27, .iushr, 1, 0, 0, .null, []), (28, .iadd, 1, 0, 0, .null, []), (29, .ldc_w 267, 3, 0, 0, .int (252645135), []), (32, .iand, 1, 0, 0, .null, []), (33, .istore_n 0, 1, 0, 0, .null, []), (34, .iload_n 0, 1, 0, 0, .null, []), (35, .iload_n 0, 1, 0, 0, .null, []), (36, .bipush 8, 2, 0, 0, .int 8, []), (38, .iushr, 1, 0, 0, .null, []), (39, .iadd, 1, 0, 0, .null, []), (40, .istore_n 0, 1, 0, 0, .null, []), (41, .iload_n 0, 1, 0, 0, .null, []), (42, .iload_n 0, 1, 0, 0, .null, []), (43, .bipush 16, 2, 0, 0, .int 16, []), (45, .iushr, 1, 0, 0, .null, []), (46, .iadd, 1, 0, 0, .null, []), (47, .istore_n 0, 1, 0, 0, .null, []), (48, .iload_n 0, 1, 0, 0, .null, []), (49, .bipush 63, 2, 0, 0, .int 63, []), (51, .iand, 1, 0, 0, .null, []), (52, .ireturn, 1, 0, 0, .null, [])]
set_option maxRecDepth 100000 in
theorem ck261 : ∀ ce ∈ cd261, okB (yO 261) (yC 261) ce = true := List.all_eq_true.mp (by decide +kernel)
/-- java/util/Arrays.rangeCheck(III)V -/
def cd262 : List CE := [(0, .iload_n 1, 1, 0, 0, .null, []), (1, .iload_n 2, 1, 0, 0, .null, []), (2, .if_icmp .le 44, 3, 46, 0, .null, []), (5, .new 43, 3, 999, 0, .null, []), (8, .dup, 1, 0, 0, .null, []), (9, .new 45, 3, 999, 0, .null, []), (12, .dup, 1, 0, 0, .null, []), (13, .invokespecial 47, 3, 2000, 0, .null, []), (16, .ldc 48, 2, 0, 0, .null, []), (18, .invokevirtual 50, 3, 2000, 0, .null, []), (21, .iload_n 1, 1, 0, 0, .null, []), (22, .invokevirtual 54, 3, 2000, 0, .null, []), (25, .ldc 57, 2, 0, 0, .null, []), (27, .invokevirtual 50, 3, 2000, 0, .null, []), (30, .iload_n 2, 1, 0, 0, .null, []), (31, .invokevirtual 54, 3, 2000, 0, .null, []), (34, .ldc 59, 2, 0, 0, .null, []), (36, .invokevirtual 50, 3, 2000, 0, .null, []), (39, .invokevirtual 61, 3, 2000, 0, .null, []), (42, .invokespecial 65, 3, 2000, 0, .null, []), (45, .athrow, 1, 0, 0, .null, []), (46, .iload_n 1, 1, 0, 0, .null, []), (47, .ifCond .ge 12, 3, 59, 0, .null, []), (50, .new 68, 3, 999, 0, .null, []), (53, .dup, 1, 0, 0, .null, []), (54, .iload_n 1, 1, 0, 0, .null, []), (55, .invokespecial 70, 3, 2000, 0, .null, []), (58, .athrow, 1, 0, 0, .null, []), (59, .iload_n 2, 1, 0, 0, .null, []), (60, .iload_n 0, 1, 0, 0, .null, []), (61, .if_icmp .le 12, 3, 73, 0, .null, []), (64, .new 68, 3, 999, 0, .null, []), (67, .dup, 1, 0, 0, .null, []), (68, .iload_n 2, 1, 0, 0, .null, []), (69, .invokespecial 70, 3, 2000, 0, .null, []), (72, .athrow, 1, 0, 0, .null, []), (73, .return_, 1, 0, 0, .null, [])]
set_option maxRecDepth 100000 in
theorem ck262 : ∀ ce ∈ cd262, okB (yO 262) (yC 262) ce = true := List.all_eq_true.mp (by decide +kernel)
/-- java/util/Arrays.fill([II)V -/
def cd263 : List CE := [(0, .iconst 0, 1, 0, 0, .int 0, []), (1, .istore_n 2, 1, 0, 0, .null, []), (2, .aload_n 0, 1, 0, 0, .null, []), (3, .arraylength, 1, 0, 0, .null, []), (4, .istore_n 3, 1, 0, 0, .null, []), (5, .iload_n 2, 1, 0, 0, .null, []), (6, .iload_n 3, 1, 0, 0, .null, []), (7, .if_icmp .ge 13, 3, 20, 0, .null, []), (10, .aload_n 0, 1, 0, 0, .null, []), (11, .iload_n 2, 1, 0, 0, .null, []), (12, .iload_n 1, 1, 0, 0, .null, []), (13, .iastore, 1, 0, 0, .null, []), (14, .iinc 2 1, 3, 0, 0, .int 1, []), (17, .goto (-12), 3, 5, 0, .null, []), (20, .return_, 1, 0, 0, .null, [])]
set_option maxRecDepth 100000 in
theorem ck263 : ∀ ce ∈ cd263, okB (yO 263) (yC 263) ce = true := List.all_eq_true.mp (by decide +kernel)
/-- java/util/Arrays.fill([IIII)V -/
def cd264 : List CE := [(0, .aload_n 0, 1, 0, 0, .null, []), (1, .arraylength, 1, 0, 0, .null, []), (2, .iload_n 1, 1, 0, 0, .null, []), (3, .iload_n 2, 1, 0, 0, .null, []), (4, .invokestatic 13, 3, 262, 0, .null, []), (7, .iload_n 1, 1, 0, 0, .null, []), (8, .istore 4, 2, 0, 0, .null, []), (10, .iload 4, 2, 0, 0, .null, []), (12, .iload_n 2, 1, 0, 0, .null, []), (13, .if_icmp .ge 14, 3, 27, 0, .null, []), (16, .aload_n 0, 1, 0, 0, .null, []), (17, .iload 4, 2, 0, 0, .null, []), (19, .iload_n 3, 1, 0, 0, .null, []), (20, .iastore, 1, 0, 0, .null, []), (21, .iinc 4 1, 3, 0, 0, .int 1, []), (24, .goto (-14), 3, 10, 0, .null, []), (27, .return_, 1, 0, 0, .null, [])]
set_option maxRecDepth 100000 in
theorem ck264 : ∀ ce ∈ cd264, okB (yO 264) (yC 264) ce = true := List.all_eq_true.mp (by decide +kernel)
end
section
/-! the code, by program (wip/whole/gen2.py) -/
/-- ShapeDuel$Lottery.<init>(LShapeDuel$Fight;LShapeDuel$Memo;)V -/
def cd14 : List CE := [(0, .aload_n 0, 1, 0, 0, .null, []), (1, .invokespecial 3, 3, 1000, 0, .null, []), (4, .aload_n 0, 1, 0, 0, .null, []), (5, .bipush (-9), 2, 0, 0, .int (-9), []), (7, .putfield 9, 3, 1, 3, .null, []), (10, .aload_n 0, 1, 0, 0, .null, []), (11, .bipush (-9), 2, 0, 0, .int (-9), []), (13, .putfield 15, 3, 1, 4, .null, []), (16, .aload_n 0, 1, 0, 0, .null, []), (17, .aload_n 1, 1, 0, 0, .null, []), (18, .putfield 18, 3, 1, 0, .null, []), (21, .aload_n 0, 1, 0, 0, .null, []), (22, .aload_n 2, 1, 0, 0, .null, []), (23, .putfield 22, 3, 1, 2, .null, []), (26, .aload_n 0, 1, 0, 0, .null, []), (27, .aload_n 1, 1, 0, 0, .null, []), (28, .getfield 26, 3, 0, 0, .null, []), (31, .putfield 32, 3, 1, 1, .null, []), (34, .return_, 1, 0, 0, .null, [])]
set_option maxRecDepth 100000 in
theorem ck14 : ∀ ce ∈ cd14, okB (yO 14) (yC 14) ce = true := List.all_eq_true.mp (by decide +kernel)
/-- ShapeDuel$Lottery.chanceByLots()J -/
def cd15 : List CE := [(0, .aload_n 0, 1, 0, 0, .null, []), (1, .getfield 22, 3, 1, 2, .null, []), (4, .invokevirtual 33, 3, 22, 0, .null, []), (7, .aload_n 0, 1, 0, 0, .null, []), (8, .bipush (-9), 2, 0, 0, .int (-9), []), (10, .putfield 9, 3, 1, 3, .null, []), (13, .aload_n 0, 1, 0, 0, .null, []), (14, .aload_n 0, 1, 0, 0, .null, []), (15, .getfield 18, 3, 1, 0, .null, []), (18, .invokevirtual 38, 3, 3, 0, .null, []), (21, .iconst 0, 1, 0, 0, .int 0, []), (22, .invokevirtual 42, 3, 17, 0, .null, []), (25, .lreturn, 1, 0, 0, .null, [])]
set_option maxRecDepth 100000 in
theorem ck15 : ∀ ce ∈ cd15, okB (yO 15) (yC 15) ce = true := List.all_eq_true.mp (by decide +kernel)
/-- ShapeDuel$Lottery.bestChance()J -/
def cd16 : List CE := [(0, .aload_n 0, 1, 0, 0, .null, []), (1, .getfield 22, 3, 1, 2, .null, []), (4, .invokevirtual 33, 3, 22, 0, .null, []), (7, .aload_n 0, 1, 0, 0, .null, []), (8, .aload_n 0, 1, 0, 0, .null, []), (9, .getfield 18, 3, 1, 0, .null, []), (12, .invokevirtual 38, 3, 3, 0, .null, []), (15, .putfield 9, 3, 1, 3, .null, []), (18, .aload_n 0, 1, 0, 0, .null, []), (19, .bipush (-9), 2, 0, 0, .int (-9), []), (21, .putfield 15, 3, 1, 4, .null, []), (24, .lconst 0, 1, 0, 0, .long 0, []), (25, .lstore_n 1, 1, 0, 0, .null, []), (26, .iconst 0, 1, 0, 0, .int 0, []), (27, .istore_n 3, 1, 0, 0, .null, []), (28, .iload_n 3, 1, 0, 0, .null, []), (29, .aload_n 0, 1, 0, 0, .null, []), (30, .getfield 32, 3, 1, 1, .null, []), (33, .getfield 46, 3, 9, 3, .null, []), (36, .if_icmp .ge 66, 3, 102, 0, .null, []), (39, .aload_n 0, 1, 0, 0, .null, []), (40, .getfield 18, 3, 1, 0, .null, []), (43, .aload_n 0, 1, 0, 0, .null, []), (44, .getfield 9, 3, 1, 3, .null, []), (47, .iload_n 3, 1, 0, 0, .null, []), (48, .invokevirtual 51, 3, 6, 0, .null, []), (51, .istore 4, 2, 0, 0, .null, []), (53, .iload 4, 2, 0, 0, .null, []), (55, .ifCond .le 41, 3, 96, 0, .null, []), (58, .aload_n 0, 1, 0, 0, .null, []), (59, .aload_n 0, 1, 0, 0, .null, []), (60, .getfield 9, 3, 1, 3, .null, []), (63, .iload_n 3, 1, 0, 0, .null, []), (64, .iload 4, 2, 0, 0, .null, []), (66, .iconst 0, 1, 0, 0, .int 0, []), (67, .invokevirtual 55, 3, 18, 0, .null, []), (70, .lstore 5, 2, 0, 0, .null, []), (72, .aload_n 0, 1, 0, 0, .null, []), (73, .getfield 15, 3, 1, 4, .null, []), (76, .bipush (-9), 2, 0, 0, .int (-9), []), (78, .if_icmp .eq 10, 3, 88, 0, .null, []), (81, .lload 5, 2, 0, 0, .null, []), (83, .lload_n 1, 1, 0, 0, .null, []), (84, .lcmp, 1, 0, 0, .null, []), (85, .ifCond .le 11, 3, 96, 0, .null, []), (88, .lload 5, 2, 0, 0, .null, []), (90, .lstore_n 1, 1, 0, 0, .null, []), (91, .aload_n 0, 1, 0, 0, .null, []), (92, .iload_n 3, 1, 0, 0, .null, []), (93, .putfield 15, 3, 1, 4, .null, []), (96, .iinc 3 1, 3, 0, 0, .int 1, []), (99, .goto (-71), 3, 28, 0, .null, []), (102, .lload_n 1, 1, 0, 0, .null, []), (103, .lreturn, 1, 0, 0, .null, [])]
set_option maxRecDepth 100000 in
theorem ck16 : ∀ ce ∈ cd16, okB (yO 16) (yC 16) ce = true := List.all_eq_true.mp (by decide +kernel)
/-- ShapeDuel$Lottery.chance(II)J -/
def cd17 : List CE := [(0, .iload_n 2, 1, 0, 0, .null, []), (1, .bipush 10, 2, 0, 0, .int 10, []), (3, .if_icmp .lt 5, 3, 8, 0, .null, []), (6, .lconst 0, 1, 0, 0, .long 0, []), (7, .lreturn, 1, 0, 0, .null, []), (8, .aload_n 0, 1, 0, 0, .null, []), (9, .getfield 22, 3, 1, 2, .null, []), (12, .aload_n 0, 1, 0, 0, .null, []), (13, .getfield 18, 3, 1, 0, .null, []), (16, .invokevirtual 61, 3, 4, 0, .null, []), (19, .iload_n 1, 1, 0, 0, .null, []), (20, .invokevirtual 64, 3, 23, 0, .null, []), (23, .lstore_n 3, 1, 0, 0, .null, []), (24, .aload_n 0, 1, 0, 0, .null, []), (25, .getfield 22, 3, 1, 2, .null, []), (28, .lload_n 3, 1, 0, 0, .null, []), (29, .invokevirtual 67, 3, 24, 0, .null, []), (32, .istore 5, 2, 0, 0, .null, []), (34, .aload_n 0, 1, 0, 0, .null, []), (35, .getfield 22, 3, 1, 2, .null, []), (38, .iload 5, 2, 0, 0, .null, []), (40, .lload_n 3, 1, 0, 0, .null, []), (41, .invokevirtual 71, 3, 25, 0, .null, []), (44, .ifCond .eq 14, 3, 58, 0, .null, []), (47, .aload_n 0, 1, 0, 0, .null, []), (48, .getfield 22, 3, 1, 2, .null, []), (51, .getfield 75, 3, 2, 1, .null, []), (54, .iload 5, 2, 0, 0, .null, []), (56, .laload, 1, 0, 0, .null, []), (57, .lreturn, 1, 0, 0, .null, []), (58, .lconst 0, 1, 0, 0, .long 0, []), (59, .lstore 6, 2, 0, 0, .null, []), (61, .lconst 0, 1, 0, 0, .long 0, []), (62, .lstore 8, 2, 0, 0, .null, []), (64, .iconst 0, 1, 0, 0, .int 0, []), (65, .istore 10, 2, 0, 0, .null, []), (67, .iconst 0, 1, 0, 0, .int 0, []), (68, .istore 11, 2, 0, 0, .null, []), (70, .iload 11, 2, 0, 0, .null, []), (72, .aload_n 0, 1, 0, 0, .null, []), (73, .getfield 32, 3, 1, 1, .null, []), (76, .getfield 46, 3, 9, 3, .null, []), (79, .if_icmp .ge 57, 3, 136, 0, .null, []), (82, .aload_n 0, 1, 0, 0, .null, []), (83, .getfield 18, 3, 1, 0, .null, []), (86, .iload_n 1, 1, 0, 0, .null, []), (87, .iload 11, 2, 0, 0, .null, []), (89, .invokevirtual 51, 3, 6, 0, .null, []), (92, .istore 12, 2, 0, 0, .null, []), (94, .iload 12, 2, 0, 0, .null, []), (96, .ifCond .le 34, 3, 130, 0, .null, []), (99, .aload_n 0, 1, 0, 0, .null, []), (100, .iload_n 1, 1, 0, 0, .null, []), (101, .iload 11, 2, 0, 0, .null, []), (103, .iload 12, 2, 0, 0, .null, []), (105, .iload_n 2, 1, 0, 0, .null, []), (106, .invokevirtual 55, 3, 18, 0, .null, []), (109, .lstore 13, 2, 0, 0, .null, []), (111, .lload 6, 2, 0, 0, .null, []), (113, .lload 13, 2, 0, 0, .null, []), (115, .invokestatic 79, 3, 1003, 0, .null, []), (118, .lstore 6, 2, 0, 0, .null, []), (120, .lload 8, 2, 0, 0, .null, []), (122, .lload 13, 2, 0, 0, .null, []), (124, .ladd, 1, 0, 0, .null, []), (125, .lstore 8, 2, 0, 0, .null, []), (127, .iinc 10 1, 3, 0, 0, .int 1, []), (130, .iinc 11 1, 3, 0, 0, .int 1, []), (133, .goto (-63), 3, 70, 0, .null, []), (136, .iload_n 1, 1, 0, 0, .null, []), (137, .aload_n 0, 1, 0, 0, .null, []), (138, .getfield 9, 3, 1, 3, .null, []), (141, .if_icmp .eq 8, 3, 149, 0, .null, []), (144, .iload 10, 2, 0, 0, .null, []), (146, .ifCond .ne 8, 3, 154, 0, .null, []), (149, .lload 6, 2, 0, 0, .null, []), (151, .goto 9, 3, 160, 0, .null, []), (154, .lload 8, 2, 0, 0, .null, []), (156, .iload 10, 2, 0, 0, .null, []), (158, .i2l, 1, 0, 0, .null, []), (159, .ldiv, 1, 0, 0, .null, []), (160, .lstore 11, 2, 0, 0, .null, []), (162, .aload_n 0, 1, 0, 0, .null, []), (163, .getfield 22, 3, 1, 2, .null, []), (166, .lload_n 3, 1, 0, 0, .null, []), (167, .lload 11, 2, 0, 0, .null, []), (169, .invokevirtual 85, 3, 26, 0, .null, []), (172, .lload 11, 2, 0, 0, .null, []), (174, .lreturn, 1, 0, 0, .null, [])]
set_option maxRecDepth 100000 in
theorem ck17 : ∀ ce ∈ cd17, okB (yO 17) (yC 17) ce = true := List.all_eq_true.mp (by decide +kernel)
/-- ShapeDuel$Lottery.chanceBy(IIII)J -/
def cd18 : List CE := [(0, .aload_n 0, 1, 0, 0, .null, []), (1, .getfield 18, 3, 1, 0, .null, []), (4, .invokevirtual 61, 3, 4, 0, .null, []), (7, .istore 5, 2, 0, 0, .null, []), (9, .aload_n 0, 1, 0, 0, .null, []), (10, .getfield 18, 3, 1, 0, .null, []), (13, .iload_n 1, 1, 0, 0, .null, []), (14, .iload_n 2, 1, 0, 0, .null, []), (15, .iload_n 3, 1, 0, 0, .null, []), (16, .invokevirtual 89, 3, 8, 0, .null, []), (19, .aload_n 0, 1, 0, 0, .null, []), (20, .iconst 1, 1, 0, 0, .int 1, []), (21, .iload_n 1, 1, 0, 0, .null, []), (22, .isub, 1, 0, 0, .null, []), (23, .iload 4, 2, 0, 0, .null, []), (25, .iconst 1, 1, 0, 0, .int 1, []), (26, .iadd, 1, 0, 0, .null, []), (27, .invokevirtual 42, 3, 17, 0, .null, []), (30, .lstore 6, 2, 0, 0, .null, []), (32, .aload_n 0, 1, 0, 0, .null, []), (33, .getfield 18, 3, 1, 0, .null, []), (36, .iload 5, 2, 0, 0, .null, []), (38, .invokevirtual 93, 3, 5, 0, .null, []), (41, .ldc2_w 97, 3, 0, 0, .long (61917364224), []), (44, .lload 6, 2, 0, 0, .null, []), (46, .lsub, 1, 0, 0, .null, []), (47, .lreturn, 1, 0, 0, .null, [])]
set_option maxRecDepth 100000 in
theorem ck18 : ∀ ce ∈ cd18, okB (yO 18) (yC 18) ce = true := List.all_eq_true.mp (by decide +kernel)
/-- ShapeDuel$Lottery.draw(II)I -/
def cd19 : List CE := [(0, .iload_n 2, 1, 0, 0, .null, []), (1, .i2l, 1, 0, 0, .null, []), (2, .lstore_n 3, 1, 0, 0, .null, []), (3, .iconst 0, 1, 0, 0, .int 0, []), (4, .istore 5, 2, 0, 0, .null, []), (6, .iload 5, 2, 0, 0, .null, []), (8, .iload_n 1, 1, 0, 0, .null, []), (9, .if_icmp .ge 84, 3, 93, 0, .null, []), (12, .aload_n 0, 1, 0, 0, .null, []), (13, .getfield 18, 3, 1, 0, .null, []), (16, .invokevirtual 38, 3, 3, 0, .null, []), (19, .istore 6, 2, 0, 0, .null, []), (21, .aload_n 0, 1, 0, 0, .null, []), (22, .getfield 18, 3, 1, 0, .null, []), (25, .iload 6, 2, 0, 0, .null, []), (27, .invokevirtual 99, 3, 7, 0, .null, []), (30, .istore 7, 2, 0, 0, .null, []), (32, .iload 7, 2, 0, 0, .null, []), (34, .ifCond .ne 6, 3, 40, 0, .null, []), (37, .iload 5, 2, 0, 0, .null, []), (39, .ireturn, 1, 0, 0, .null, []), (40, .lload_n 3, 1, 0, 0, .null, []), (41, .ldc2_w 103, 3, 0, 0, .long (48271), []), (44, .lmul, 1, 0, 0, .null, []), (45, .ldc2_w 105, 3, 0, 0, .long (2147483647), []), (48, .lrem, 1, 0, 0, .null, []), (49, .lstore_n 3, 1, 0, 0, .null, []), (50, .iload 7, 2, 0, 0, .null, []), (52, .lload_n 3, 1, 0, 0, .null, []), (53, .iload 7, 2, 0, 0, .null, []), (55, .invokestatic 107, 3, 261, 0, .null, []), (58, .i2l, 1, 0, 0, .null, []), (59, .lrem, 1, 0, 0, .null, []), (60, .l2i, 1, 0, 0, .null, []), (61, .invokestatic 112, 3, 20, 0, .null, []), (64, .istore 8, 2, 0, 0, .null, []), (66, .aload_n 0, 1, 0, 0, .null, []), (67, .getfield 18, 3, 1, 0, .null, []), (70, .iload 8, 2, 0, 0, .null, []), (72, .aload_n 0, 1, 0, 0, .null, []), (73, .getfield 18, 3, 1, 0, .null, []), (76, .iload 6, 2, 0, 0, .null, []), (78, .iload 8, 2, 0, 0, .null, []), (80, .invokevirtual 51, 3, 6, 0, .null, []), (83, .invokevirtual 115, 3, 9, 0, .null, []), (86, .pop, 1, 0, 0, .null, []), (87, .iinc 5 1, 3, 0, 0, .int 1, []), (90, .goto (-84), 3, 6, 0, .null, []), (93, .iload_n 1, 1, 0, 0, .null, []), (94, .ireturn, 1, 0, 0, .null, [])]
set_option maxRecDepth 100000 in
theorem ck19 : ∀ ce ∈ cd19, okB (yO 19) (yC 19) ce = true := List.all_eq_true.mp (by decide +kernel)
/-- ShapeDuel$Lottery.nthBit(II)I -/
def cd20 : List CE := [(0, .iload_n 0, 1, 0, 0, .null, []), (1, .istore_n 2, 1, 0, 0, .null, []), (2, .iconst 0, 1, 0, 0, .int 0, []), (3, .istore_n 3, 1, 0, 0, .null, []), (4, .iload_n 3, 1, 0, 0, .null, []), (5, .iload_n 1, 1, 0, 0, .null, []), (6, .if_icmp .ge 15, 3, 21, 0, .null, []), (9, .iload_n 2, 1, 0, 0, .null, []), (10, .iload_n 2, 1, 0, 0, .null, []), (11, .iconst 1, 1, 0, 0, .int 1, []), (12, .isub, 1, 0, 0, .null, []), (13, .iand, 1, 0, 0, .null, []), (14, .istore_n 2, 1, 0, 0, .null, []), (15, .iinc 3 1, 3, 0, 0, .int 1, []), (18, .goto (-14), 3, 4, 0, .null, []), (21, .iload_n 2, 1, 0, 0, .null, []), (22, .invokestatic 119, 3, 260, 0, .null, []), (25, .ireturn, 1, 0, 0, .null, [])]
set_option maxRecDepth 100000 in
theorem ck20 : ∀ ce ∈ cd20, okB (yO 20) (yC 20) ce = true := List.all_eq_true.mp (by decide +kernel)
/-- ShapeDuel$Patterns.<init>(LShapeDuel$Table;)V -/
def cd27 : List CE := [(0, .aload_n 0, 1, 0, 0, .null, []), (1, .invokespecial 3, 3, 1000, 0, .null, []), (4, .aload_n 0, 1, 0, 0, .null, []), (5, .iconst 5, 1, 0, 0, .int 5, []), (6, .newarray .int, 2, 12, 0, .null, []), (8, .putfield 9, 3, 3, 1, .null, []), (11, .aload_n 0, 1, 0, 0, .null, []), (12, .iconst 0, 1, 0, 0, .int 0, []), (13, .putfield 15, 3, 3, 2, .null, []), (16, .aload_n 0, 1, 0, 0, .null, []), (17, .aload_n 1, 1, 0, 0, .null, []), (18, .putfield 19, 3, 3, 0, .null, []), (21, .return_, 1, 0, 0, .null, [])]
set_option maxRecDepth 100000 in
theorem ck27 : ∀ ce ∈ cd27, okB (yO 27) (yC 27) ce = true := List.all_eq_true.mp (by decide +kernel)
/-- ShapeDuel$Patterns.countRings()I -/
def cd28 : List CE := [(0, .iconst 0, 1, 0, 0, .int 0, []), (1, .istore_n 1, 1, 0, 0, .null, []), (2, .iconst 0, 1, 0, 0, .int 0, []), (3, .istore_n 2, 1, 0, 0, .null, []), (4, .iconst 0, 1, 0, 0, .int 0, []), (5, .istore_n 3, 1, 0, 0, .null, []), (6, .iload_n 3, 1, 0, 0, .null, []), (7, .aload_n 0, 1, 0, 0, .null, []), (8, .getfield 19, 3, 3, 0, .null, []), (11, .getfield 23, 3, 9, 0, .null, []), (14, .if_icmp .ge 114, 3, 128, 0, .null, []), (17, .iload_n 3, 1, 0, 0, .null, []), (18, .iconst 1, 1, 0, 0, .int 1, []), (19, .iadd, 1, 0, 0, .null, []), (20, .istore 4, 2, 0, 0, .null, []), (22, .iload 4, 2, 0, 0, .null, []), (24, .aload_n 0, 1, 0, 0, .null, []), (25, .getfield 19, 3, 3, 0, .null, []), (28, .getfield 23, 3, 9, 0, .null, []), (31, .if_icmp .ge 91, 3, 122, 0, .null, []), (34, .iload_n 3, 1, 0, 0, .null, []), (35, .iconst 1, 1, 0, 0, .int 1, []), (36, .iadd, 1, 0, 0, .null, []), (37, .istore 5, 2, 0, 0, .null, []), (39, .iload 5, 2, 0, 0, .null, []), (41, .aload_n 0, 1, 0, 0, .null, []), (42, .getfield 19, 3, 3, 0, .null, []), (45, .getfield 23, 3, 9, 0, .null, []), (48, .if_icmp .ge 68, 3, 116, 0, .null, []), (51, .aload_n 0, 1, 0, 0, .null, []), (52, .getfield 19, 3, 3, 0, .null, []), (55, .iload_n 3, 1, 0, 0, .null, []), (56, .iload 4, 2, 0, 0, .null, []), (58, .invokevirtual 28, 3, 81, 0, .null, []), (61, .ifCond .eq 49, 3, 110, 0, .null, []), (64, .aload_n 0, 1, 0, 0, .null, []), (65, .getfield 19, 3, 3, 0, .null, []), (68, .iload 4, 2, 0, 0, .null, []), (70, .iload 5, 2, 0, 0, .null, []), (72, .invokevirtual 28, 3, 81, 0, .null, []), (75, .ifCond .eq 35, 3, 110, 0, .null, []), (78, .aload_n 0, 1, 0, 0, .null, []), (79, .getfield 19, 3, 3, 0, .null, []), (82, .iload 5, 2, 0, 0, .null, []), (84, .iload_n 3, 1, 0, 0, .null, []), (85, .invokevirtual 28, 3, 81, 0, .null, []), (88, .ifCond .eq 22, 3, 110, 0, .null, []), (91, .iinc 1 1, 3, 0, 0, .int 1, []), (94, .iload_n 2, 1, 0, 0, .null, []), (95, .iconst 1, 1, 0, 0, .int 1, []), (96, .iload_n 3, 1, 0, 0, .null, []), (97, .ishl, 1, 0, 0, .null, []), (98, .iconst 1, 1, 0, 0, .int 1, []), (99, .iload 4, 2, 0, 0, .null, []), (101, .ishl, 1, 0, 0, .null, []), (102, .ior, 1, 0, 0, .null, []), (103, .iconst 1, 1, 0, 0, .int 1, []), (104, .iload 5, 2, 0, 0, .null, []), (106, .ishl, 1, 0, 0, .null, []), (107, .ior, 1, 0, 0, .null, []), (108, .ior, 1, 0, 0, .null, []), (109, .istore_n 2, 1, 0, 0, .null, []), (110, .iinc 5 1, 3, 0, 0, .int 1, []), (113, .goto (-74), 3, 39, 0, .null, []), (116, .iinc 4 1, 3, 0, 0, .int 1, []), (119, .goto (-97), 3, 22, 0, .null, []), (122, .iinc 3 1, 3, 0, 0, .int 1, []), (125, .goto (-119), 3, 6, 0, .null, []), (128, .aload_n 0, 1, 0, 0, .null, []), (129, .iconst 1, 1, 0, 0, .int 1, []), (130, .aload_n 0, 1, 0, 0, .null, []), (131, .getfield 19, 3, 3, 0, .null, []), (134, .getfield 23, 3, 9, 0, .null, []), (137, .ishl, 1, 0, 0, .null, []), (138, .iconst 1, 1, 0, 0, .int 1, []), (139, .isub, 1, 0, 0, .null, []), (140, .iload_n 2, 1, 0, 0, .null, []), (141, .iconst (-1), 1, 0, 0, .int (-1), []), (142, .ixor, 1, 0, 0, .null, []), (143, .iand, 1, 0, 0, .null, []), (144, .putfield 15, 3, 3, 2, .null, []), (147, .iload_n 1, 1, 0, 0, .null, []), (148, .ireturn, 1, 0, 0, .null, [])]
set_option maxRecDepth 100000 in
theorem ck28 : ∀ ce ∈ cd28, okB (yO 28) (yC 28) ce = true := List.all_eq_true.mp (by decide +kernel)
/-- ShapeDuel$Patterns.smallestCover()I -/
def cd29 : List CE := [(0, .iconst 1, 1, 0, 0, .int 1, []), (1, .aload_n 0, 1, 0, 0, .null, []), (2, .getfield 19, 3, 3, 0, .null, []), (5, .getfield 23, 3, 9, 0, .null, []), (8, .ishl, 1, 0, 0, .null, []), (9, .iconst 1, 1, 0, 0, .int 1, []), (10, .isub, 1, 0, 0, .null, []), (11, .istore_n 1, 1, 0, 0, .null, []), (12, .aload_n 0, 1, 0, 0, .null, []), (13, .iload_n 1, 1, 0, 0, .null, []), (14, .invokevirtual 32, 3, 30, 0, .null, []), (17, .istore_n 2, 1, 0, 0, .null, []), (18, .aload_n 0, 1, 0, 0, .null, []), (19, .getfield 19, 3, 3, 0, .null, []), (22, .getfield 23, 3, 9, 0, .null, []), (25, .istore_n 3, 1, 0, 0, .null, []), (26, .aload_n 0, 1, 0, 0, .null, []), (27, .iload_n 1, 1, 0, 0, .null, []), (28, .putfield 15, 3, 3, 2, .null, []), (31, .iload_n 1, 1, 0, 0, .null, []), (32, .istore 4, 2, 0, 0, .null, []), (34, .iload 4, 2, 0, 0, .null, []), (36, .ifCond .lt 40, 3, 76, 0, .null, []), (39, .aload_n 0, 1, 0, 0, .null, []), (40, .iload 4, 2, 0, 0, .null, []), (42, .invokevirtual 32, 3, 30, 0, .null, []), (45, .iload_n 2, 1, 0, 0, .null, []), (46, .if_icmp .ne 24, 3, 70, 0, .null, []), (49, .iload 4, 2, 0, 0, .null, []), (51, .invokestatic 36, 3, 261, 0, .null, []), (54, .iload_n 3, 1, 0, 0, .null, []), (55, .if_icmp .gt 15, 3, 70, 0, .null, []), (58, .iload 4, 2, 0, 0, .null, []), (60, .invokestatic 36, 3, 261, 0, .null, []), (63, .istore_n 3, 1, 0, 0, .null, []), (64, .aload_n 0, 1, 0, 0, .null, []), (65, .iload 4, 2, 0, 0, .null, []), (67, .putfield 15, 3, 3, 2, .null, []), (70, .iinc 4 (-1), 3, 0, 0, .int (-1), []), (73, .goto (-39), 3, 34, 0, .null, []), (76, .iload_n 3, 1, 0, 0, .null, []), (77, .ireturn, 1, 0, 0, .null, [])]
set_option maxRecDepth 100000 in
theorem ck29 : ∀ ce ∈ cd29, okB (yO 29) (yC 29) ce = true := List.all_eq_true.mp (by decide +kernel)
/-- ShapeDuel$Patterns.beatenByAny(I)I -/
def cd30 : List CE := [(0, .iconst 0, 1, 0, 0, .int 0, []), (1, .istore_n 2, 1, 0, 0, .null, []), (2, .iconst 0, 1, 0, 0, .int 0, []), (3, .istore_n 3, 1, 0, 0, .null, []), (4, .iload_n 3, 1, 0, 0, .null, []), (5, .aload_n 0, 1, 0, 0, .null, []), (6, .getfield 19, 3, 3, 0, .null, []), (9, .getfield 23, 3, 9, 0, .null, []), (12, .if_icmp .ge 33, 3, 45, 0, .null, []), (15, .iload_n 2, 1, 0, 0, .null, []), (16, .iload_n 1, 1, 0, 0, .null, []), (17, .iload_n 3, 1, 0, 0, .null, []), (18, .invokestatic 41, 3, 143, 0, .null, []), (21, .iconst 1, 1, 0, 0, .int 1, []), (22, .if_icmp .ne 14, 3, 36, 0, .null, []), (25, .aload_n 0, 1, 0, 0, .null, []), (26, .getfield 19, 3, 3, 0, .null, []), (29, .iload_n 3, 1, 0, 0, .null, []), (30, .invokevirtual 45, 3, 82, 0, .null, []), (33, .goto 4, 3, 37, 0, .null, []), (36, .iconst 0, 1, 0, 0, .int 0, []), (37, .ior, 1, 0, 0, .null, []), (38, .istore_n 2, 1, 0, 0, .null, []), (39, .iinc 3 1, 3, 0, 0, .int 1, []), (42, .goto (-38), 3, 4, 0, .null, []), (45, .iload_n 2, 1, 0, 0, .null, []), (46, .ireturn, 1, 0, 0, .null, [])]
set_option maxRecDepth 100000 in
theorem ck30 : ∀ ce ∈ cd30, okB (yO 30) (yC 30) ce = true := List.all_eq_true.mp (by decide +kernel)
/-- ShapeDuel$Patterns.countAlike()I -/
def cd31 : List CE := [(0, .aload_n 0, 1, 0, 0, .null, []), (1, .iconst 0, 1, 0, 0, .int 0, []), (2, .putfield 15, 3, 3, 2, .null, []), (5, .aload_n 0, 1, 0, 0, .null, []), (6, .iconst 0, 1, 0, 0, .int 0, []), (7, .iconst 0, 1, 0, 0, .int 0, []), (8, .invokevirtual 48, 3, 32, 0, .null, []), (11, .ireturn, 1, 0, 0, .null, [])]
set_option maxRecDepth 100000 in
theorem ck31 : ∀ ce ∈ cd31, okB (yO 31) (yC 31) ce = true := List.all_eq_true.mp (by decide +kernel)
/-- ShapeDuel$Patterns.placingsFrom(II)I -/
def cd32 : List CE := [(0, .iload_n 1, 1, 0, 0, .null, []), (1, .aload_n 0, 1, 0, 0, .null, []), (2, .getfield 19, 3, 3, 0, .null, []), (5, .getfield 23, 3, 9, 0, .null, []), (8, .if_icmp .lt 9, 3, 17, 0, .null, []), (11, .aload_n 0, 1, 0, 0, .null, []), (12, .invokevirtual 51, 3, 34, 0, .null, []), (15, .iconst 1, 1, 0, 0, .int 1, []), (16, .ireturn, 1, 0, 0, .null, []), (17, .iconst 0, 1, 0, 0, .int 0, []), (18, .istore_n 3, 1, 0, 0, .null, []), (19, .iconst 0, 1, 0, 0, .int 0, []), (20, .istore 4, 2, 0, 0, .null, []), (22, .iload 4, 2, 0, 0, .null, []), (24, .aload_n 0, 1, 0, 0, .null, []), (25, .getfield 19, 3, 3, 0, .null, []), (28, .getfield 23, 3, 9, 0, .null, []), (31, .if_icmp .ge 52, 3, 83, 0, .null, []), (34, .iload_n 2, 1, 0, 0, .null, []), (35, .iload 4, 2, 0, 0, .null, []), (37, .invokestatic 41, 3, 143, 0, .null, []), (40, .ifCond .ne 37, 3, 77, 0, .null, []), (43, .aload_n 0, 1, 0, 0, .null, []), (44, .iload_n 1, 1, 0, 0, .null, []), (45, .iload 4, 2, 0, 0, .null, []), (47, .invokevirtual 54, 3, 33, 0, .null, []), (50, .ifCond .eq 27, 3, 77, 0, .null, []), (53, .aload_n 0, 1, 0, 0, .null, []), (54, .getfield 9, 3, 3, 1, .null, []), (57, .iload_n 1, 1, 0, 0, .null, []), (58, .iload 4, 2, 0, 0, .null, []), (60, .iastore, 1, 0, 0, .null, []), (61, .iload_n 3, 1, 0, 0, .null, []), (62, .aload_n 0, 1, 0, 0, .null, []), (63, .iload_n 1, 1, 0, 0, .null, []), (64, .iconst 1, 1, 0, 0, .int 1, []), (65, .iadd, 1, 0, 0, .null, []), (66, .iload_n 2, 1, 0, 0, .null, []), (67, .iconst 1, 1, 0, 0, .int 1, []), (68, .iload 4, 2, 0, 0, .null, []), (70, .ishl, 1, 0, 0, .null, []), (71, .ior, 1, 0, 0, .null, []), (72, .invokevirtual 48, 3, 32, 0, .null, []), (75, .iadd, 1, 0, 0, .null, []), (76, .istore_n 3, 1, 0, 0, .null, []), (77, .iinc 4 1, 3, 0, 0, .int 1, []), (80, .goto (-58), 3, 22, 0, .null, []), (83, .iload_n 3, 1, 0, 0, .null, []), (84, .ireturn, 1, 0, 0, .null, [])]
set_option maxRecDepth 100000 in
theorem ck32 : ∀ ce ∈ cd32, okB (yO 32) (yC 32) ce = true := List.all_eq_true.mp (by decide +kernel)
/-- ShapeDuel$Patterns.fits(II)Z -/
def cd33 : List CE := [(0, .iconst 0, 1, 0, 0, .int 0, []), (1, .istore_n 3, 1, 0, 0, .null, []), (2, .iload_n 3, 1, 0, 0, .null, []), (3, .iload_n 1, 1, 0, 0, .null, []), (4, .if_icmp .ge 63, 3, 67, 0, .null, []), (7, .aload_n 0, 1, 0, 0, .null, []), (8, .getfield 9, 3, 3, 1, .null, []), (11, .iload_n 3, 1, 0, 0, .null, []), (12, .iaload, 1, 0, 0, .null, []), (13, .istore 4, 2, 0, 0, .null, []), (15, .aload_n 0, 1, 0, 0, .null, []), (16, .getfield 19, 3, 3, 0, .null, []), (19, .iload_n 1, 1, 0, 0, .null, []), (20, .iload_n 3, 1, 0, 0, .null, []), (21, .invokevirtual 28, 3, 81, 0, .null, []), (24, .aload_n 0, 1, 0, 0, .null, []), (25, .getfield 19, 3, 3, 0, .null, []), (28, .iload_n 2, 1, 0, 0, .null, []), (29, .iload 4, 2, 0, 0, .null, []), (31, .invokevirtual 28, 3, 81, 0, .null, []), (34, .if_icmp .ne 25, 3, 59, 0, .null, []), (37, .aload_n 0, 1, 0, 0, .null, []), (38, .getfield 19, 3, 3, 0, .null, []), (41, .iload_n 3, 1, 0, 0, .null, []), (42, .iload_n 1, 1, 0, 0, .null, []), (43, .invokevirtual 28, 3, 81, 0, .null, []), (46, .aload_n 0, 1, 0, 0, .null, []), (47, .getfield 19, 3, 3, 0, .null, []), (50, .iload 4, 2, 0, 0, .null, []), (52, .iload_n 2, 1, 0, 0, .null, []), (53, .invokevirtual 28, 3, 81, 0, .null, []), (56, .if_icmp .eq 5, 3, 61, 0, .null, []), (59, .iconst 0, 1, 0, 0, .int 0, []), (60, .ireturn, 1, 0, 0, .null, []), (61, .iinc 3 1, 3, 0, 0, .int 1, []), (64, .goto (-62), 3, 2, 0, .null, []), (67, .iconst 1, 1, 0, 0, .int 1, []), (68, .ireturn, 1, 0, 0, .null, [])]
set_option maxRecDepth 100000 in
theorem ck33 : ∀ ce ∈ cd33, okB (yO 33) (yC 33) ce = true := List.all_eq_true.mp (by decide +kernel)
/-- ShapeDuel$Patterns.noteMoved()V -/
def cd34 : List CE := [(0, .iconst 0, 1, 0, 0, .int 0, []), (1, .istore_n 1, 1, 0, 0, .null, []), (2, .iload_n 1, 1, 0, 0, .null, []), (3, .aload_n 0, 1, 0, 0, .null, []), (4, .getfield 19, 3, 3, 0, .null, []), (7, .getfield 23, 3, 9, 0, .null, []), (10, .if_icmp .ge 40, 3, 50, 0, .null, []), (13, .aload_n 0, 1, 0, 0, .null, []), (14, .dup, 1, 0, 0, .null, []), (15, .getfield 15, 3, 3, 2, .null, []), (18, .aload_n 0, 1, 0, 0, .null, []), (19, .getfield 9, 3, 3, 1, .null, []), (22, .iload_n 1, 1, 0, 0, .null, []), (23, .iaload, 1, 0, 0, .null, []), (24, .iload_n 1, 1, 0, 0, .null, []), (25, .if_icmp .eq 14, 3, 39, 0, .null, []), (28, .iconst 1, 1, 0, 0, .int 1, []), (29, .aload_n 0, 1, 0, 0, .null, []), (30, .getfield 9, 3, 3, 1, .null, []), (33, .iload_n 1, 1, 0, 0, .null, []), (34, .iaload, 1, 0, 0, .null, []), (35, .ishl, 1, 0, 0, .null, []), (36, .goto 4, 3, 40, 0, .null, []), (39, .iconst 0, 1, 0, 0, .int 0, []), (40, .ior, 1, 0, 0, .null, []), (41, .putfield 15, 3, 3, 2, .null, []), (44, .iinc 1 1, 3, 0, 0, .int 1, []), (47, .goto (-45), 3, 2, 0, .null, []), (50, .return_, 1, 0, 0, .null, [])]
set_option maxRecDepth 100000 in
theorem ck34 : ∀ ce ∈ cd34, okB (yO 34) (yC 34) ce = true := List.all_eq_true.mp (by decide +kernel)
/-- ShapeDuel$Patterns.firstBest()I -/
def cd35 : List CE := [(0, .iconst 0, 1, 0, 0, .int 0, []), (1, .istore_n 1, 1, 0, 0, .null, []), (2, .iconst 1, 1, 0, 0, .int 1, []), (3, .istore_n 2, 1, 0, 0, .null, []), (4, .iload_n 2, 1, 0, 0, .null, []), (5, .aload_n 0, 1, 0, 0, .null, []), (6, .getfield 19, 3, 3, 0, .null, []), (9, .getfield 23, 3, 9, 0, .null, []), (12, .if_icmp .ge 30, 3, 42, 0, .null, []), (15, .aload_n 0, 1, 0, 0, .null, []), (16, .getfield 19, 3, 3, 0, .null, []), (19, .iload_n 2, 1, 0, 0, .null, []), (20, .invokevirtual 57, 3, 84, 0, .null, []), (23, .aload_n 0, 1, 0, 0, .null, []), (24, .getfield 19, 3, 3, 0, .null, []), (27, .iload_n 1, 1, 0, 0, .null, []), (28, .invokevirtual 57, 3, 84, 0, .null, []), (31, .if_icmp .le 5, 3, 36, 0, .null, []), (34, .iload_n 2, 1, 0, 0, .null, []), (35, .istore_n 1, 1, 0, 0, .null, []), (36, .iinc 2 1, 3, 0, 0, .int 1, []), (39, .goto (-35), 3, 4, 0, .null, []), (42, .iload_n 1, 1, 0, 0, .null, []), (43, .ireturn, 1, 0, 0, .null, [])]
set_option maxRecDepth 100000 in
theorem ck35 : ∀ ce ∈ cd35, okB (yO 35) (yC 35) ce = true := List.all_eq_true.mp (by decide +kernel)
/-- ShapeDuel$Reader.<init>()V -/
def cd36 : List CE := [(0, .aload_n 0, 1, 0, 0, .null, []), (1, .invokespecial 3, 3, 1000, 0, .null, []), (4, .aload_n 0, 1, 0, 0, .null, []), (5, .new 9, 3, 9, 0, .null, []), (8, .dup, 1, 0, 0, .null, []), (9, .invokespecial 11, 3, 78, 0, .null, []), (12, .putfield 12, 3, 4, 0, .null, []), (15, .aload_n 0, 1, 0, 0, .null, []), (16, .iconst 2, 1, 0, 0, .int 2, []), (17, .newarray .int, 2, 12, 0, .null, []), (19, .putfield 18, 3, 4, 1, .null, []), (22, .aload_n 0, 1, 0, 0, .null, []), (23, .iconst 2, 1, 0, 0, .int 2, []), (24, .newarray .int, 2, 12, 0, .null, []), (26, .putfield 22, 3, 4, 2, .null, []), (29, .aload_n 0, 1, 0, 0, .null, []), (30, .iconst 0, 1, 0, 0, .int 0, []), (31, .putfield 25, 3, 4, 3, .null, []), (34, .aload_n 0, 1, 0, 0, .null, []), (35, .iconst 0, 1, 0, 0, .int 0, []), (36, .putfield 29, 3, 4, 4, .null, []), (39, .return_, 1, 0, 0, .null, [])]
set_option maxRecDepth 100000 in
theorem ck36 : ∀ ce ∈ cd36, okB (yO 36) (yC 36) ce = true := List.all_eq_true.mp (by decide +kernel)
/-- ShapeDuel$Reader.read(LShapeDuel$Strip;)I -/
def cd37 : List CE := [(0, .aload_n 0, 1, 0, 0, .null, []), (1, .getfield 12, 3, 4, 0, .null, []), (4, .iconst 0, 1, 0, 0, .int 0, []), (5, .putfield 32, 3, 9, 0, .null, []), (8, .aload_n 0, 1, 0, 0, .null, []), (9, .getfield 12, 3, 4, 0, .null, []), (12, .iconst 0, 1, 0, 0, .int 0, []), (13, .putfield 35, 3, 9, 3, .null, []), (16, .aload_n 0, 1, 0, 0, .null, []), (17, .iconst 0, 1, 0, 0, .int 0, []), (18, .putfield 25, 3, 4, 3, .null, []), (21, .aload_n 0, 1, 0, 0, .null, []), (22, .iconst 0, 1, 0, 0, .int 0, []), (23, .putfield 29, 3, 4, 4, .null, []), (26, .iconst 0, 1, 0, 0, .int 0, []), (27, .istore_n 2, 1, 0, 0, .null, []), (28, .iload_n 2, 1, 0, 0, .null, []), (29, .bipush 80, 2, 0, 0, .int 80, []), (31, .if_icmp .ge 69, 3, 100, 0, .null, []), (34, .aload_n 0, 1, 0, 0, .null, []), (35, .getfield 29, 3, 4, 4, .null, []), (38, .aload_n 1, 1, 0, 0, .null, []), (39, .getfield 38, 3, 8, 1, .null, []), (42, .if_icmp .ge 58, 3, 100, 0, .null, []), (45, .aload_n 1, 1, 0, 0, .null, []), (46, .getfield 43, 3, 8, 0, .null, []), (49, .aload_n 0, 1, 0, 0, .null, []), (50, .getfield 29, 3, 4, 4, .null, []), (53, .iaload, 1, 0, 0, .null, []), (54, .bipush 32, 2, 0, 0, .int 32, []), (56, .if_icmp .ne 16, 3, 72, 0, .null, []), (59, .aload_n 0, 1, 0, 0, .null, []), (60, .dup, 1, 0, 0, .null, []), (61, .getfield 29, 3, 4, 4, .null, []), (64, .iconst 1, 1, 0, 0, .int 1, []), (65, .iadd, 1, 0, 0, .null, []), (66, .putfield 29, 3, 4, 4, .null, []), (69, .goto 25, 3, 94, 0, .null, []), (72, .aload_n 0, 1, 0, 0, .null, []), (73, .aload_n 1, 1, 0, 0, .null, []), (74, .aload_n 1, 1, 0, 0, .null, []), (75, .getfield 43, 3, 8, 0, .null, []), (78, .aload_n 0, 1, 0, 0, .null, []), (79, .getfield 29, 3, 4, 4, .null, []), (82, .iaload, 1, 0, 0, .null, []), (83, .invokevirtual 46, 3, 38, 0, .null, []), (86, .ifCond .ne 8, 3, 94, 0, .null, []), (89, .aload_n 0, 1, 0, 0, .null, []), (90, .getfield 29, 3, 4, 4, .null, []), (93, .ireturn, 1, 0, 0, .null, []), (94, .iinc 2 1, 3, 0, 0, .int 1, []), (97, .goto (-69), 3, 28, 0, .null, []), (100, .aload_n 0, 1, 0, 0, .null, []), (101, .getfield 25, 3, 4, 3, .null, []), (104, .iconst 2, 1, 0, 0, .int 2, []), (105, .if_icmp .ne 8, 3, 113, 0, .null, []), (108, .bipush (-9), 2, 0, 0, .int (-9), []), (110, .goto 7, 3, 117, 0, .null, []), (113, .aload_n 1, 1, 0, 0, .null, []), (114, .getfield 38, 3, 8, 1, .null, []), (117, .ireturn, 1, 0, 0, .null, [])]
set_option maxRecDepth 100000 in
theorem ck37 : ∀ ce ∈ cd37, okB (yO 37) (yC 37) ce = true := List.all_eq_true.mp (by decide +kernel)
/-- ShapeDuel$Reader.readItem(LShapeDuel$Strip;I)Z -/
def cd38 : List CE := [(0, .iload_n 2, 1, 0, 0, .null, []), (1, .bipush 120, 2, 0, 0, .int 120, []), (3, .if_icmp .ne 9, 3, 12, 0, .null, []), (6, .aload_n 0, 1, 0, 0, .null, []), (7, .aload_n 1, 1, 0, 0, .null, []), (8, .invokevirtual 50, 3, 40, 0, .null, []), (11, .ireturn, 1, 0, 0, .null, []), (12, .iload_n 2, 1, 0, 0, .null, []), (13, .bipush 102, 2, 0, 0, .int 102, []), (15, .if_icmp .ne 9, 3, 24, 0, .null, []), (18, .aload_n 0, 1, 0, 0, .null, []), (19, .aload_n 1, 1, 0, 0, .null, []), (20, .invokevirtual 54, 3, 41, 0, .null, []), (23, .ireturn, 1, 0, 0, .null, []), (24, .iconst 0, 1, 0, 0, .int 0, []), (25, .istore_n 3, 1, 0, 0, .null, []), (26, .iload_n 3, 1, 0, 0, .null, []), (27, .getstatic 57, 3, 1, 0, .null, []), (30, .arraylength, 1, 0, 0, .null, []), (31, .if_icmp .ge 25, 3, 56, 0, .null, []), (34, .getstatic 57, 3, 1, 0, .null, []), (37, .iload_n 3, 1, 0, 0, .null, []), (38, .iaload, 1, 0, 0, .null, []), (39, .iload_n 2, 1, 0, 0, .null, []), (40, .if_icmp .ne 10, 3, 50, 0, .null, []), (43, .aload_n 0, 1, 0, 0, .null, []), (44, .aload_n 1, 1, 0, 0, .null, []), (45, .iload_n 3, 1, 0, 0, .null, []), (46, .invokevirtual 60, 3, 39, 0, .null, []), (49, .ireturn, 1, 0, 0, .null, []), (50, .iinc 3 1, 3, 0, 0, .int 1, []), (53, .goto (-27), 3, 26, 0, .null, []), (56, .iconst 0, 1, 0, 0, .int 0, []), (57, .ireturn, 1, 0, 0, .null, [])]
set_option maxRecDepth 100000 in
theorem ck38 : ∀ ce ∈ cd38, okB (yO 38) (yC 38) ce = true := List.all_eq_true.mp (by decide +kernel)
/-- ShapeDuel$Reader.readShape(LShapeDuel$Strip;I)Z -/
def cd39 : List CE := [(0, .aload_n 0, 1, 0, 0, .null, []), (1, .getfield 12, 3, 4, 0, .null, []), (4, .getfield 35, 3, 9, 3, .null, []), (7, .ifCond .gt 21, 3, 28, 0, .null, []), (10, .aload_n 0, 1, 0, 0, .null, []), (11, .getfield 25, 3, 4, 3, .null, []), (14, .ifCond .gt 14, 3, 28, 0, .null, []), (17, .aload_n 0, 1, 0, 0, .null, []), (18, .getfield 12, 3, 4, 0, .null, []), (21, .getfield 32, 3, 9, 0, .null, []), (24, .iconst 5, 1, 0, 0, .int 5, []), (25, .if_icmp .ne 5, 3, 30, 0, .null, []), (28, .iconst 0, 1, 0, 0, .int 0, []), (29, .ireturn, 1, 0, 0, .null, []), (30, .aload_n 0, 1, 0, 0, .null, []), (31, .dup, 1, 0, 0, .null, []), (32, .getfield 29, 3, 4, 4, .null, []), (35, .iconst 1, 1, 0, 0, .int 1, []), (36, .iadd, 1, 0, 0, .null, []), (37, .putfield 29, 3, 4, 4, .null, []), (40, .iconst 0, 1, 0, 0, .int 0, []), (41, .istore_n 3, 1, 0, 0, .null, []), (42, .iconst 0, 1, 0, 0, .int 0, []), (43, .istore 4, 2, 0, 0, .null, []), (45, .iload 4, 2, 0, 0, .null, []), (47, .iconst 5, 1, 0, 0, .int 5, []), (48, .if_icmp .ge 40, 3, 88, 0, .null, []), (51, .aload_n 0, 1, 0, 0, .null, []), (52, .aload_n 1, 1, 0, 0, .null, []), (53, .iload 4, 2, 0, 0, .null, []), (55, .iload 4, 2, 0, 0, .null, []), (57, .invokevirtual 63, 3, 42, 0, .null, []), (60, .iload 4, 2, 0, 0, .null, []), (62, .if_icmp .ne 20, 3, 82, 0, .null, []), (65, .iload_n 3, 1, 0, 0, .null, []), (66, .iconst 1, 1, 0, 0, .int 1, []), (67, .iload 4, 2, 0, 0, .null, []), (69, .ishl, 1, 0, 0, .null, []), (70, .ior, 1, 0, 0, .null, []), (71, .istore_n 3, 1, 0, 0, .null, []), (72, .aload_n 0, 1, 0, 0, .null, []), (73, .dup, 1, 0, 0, .null, []), (74, .getfield 29, 3, 4, 4, .null, []), (77, .iconst 1, 1, 0, 0, .int 1, []), (78, .iadd, 1, 0, 0, .null, []), (79, .putfield 29, 3, 4, 4, .null, []), (82, .iinc 4 1, 3, 0, 0, .int 1, []), (85, .goto (-40), 3, 45, 0, .null, []), (88, .aload_n 0, 1, 0, 0, .null, []), (89, .getfield 12, 3, 4, 0, .null, []), (92, .getfield 67, 3, 9, 1, .null, []), (95, .aload_n 0, 1, 0, 0, .null, []), (96, .getfield 12, 3, 4, 0, .null, []), (99, .getfield 32, 3, 9, 0, .null, []), (102, .iload_n 2, 1, 0, 0, .null, []), (103, .iastore, 1, 0, 0, .null, []), (104, .aload_n 0, 1, 0, 0, .null, []), (105, .getfield 12, 3, 4, 0, .null, []), (108, .getfield 70, 3, 9, 2, .null, []), (111, .aload_n 0, 1, 0, 0, .null, []), (112, .getfield 12, 3, 4, 0, .null, []), (115, .getfield 32, 3, 9, 0, .null, []), (118, .iload_n 3, 1, 0, 0, .null, []), (119, .iastore, 1, 0, 0, .null, []), (120, .aload_n 0, 1, 0, 0, .null, []), (121, .getfield 12, 3, 4, 0, .null, []), (124, .dup, 1, 0, 0, .null, []), (125, .getfield 32, 3, 9, 0, .null, []), (128, .iconst 1, 1, 0, 0, .int 1, []), (129, .iadd, 1, 0, 0, .null, []), (130, .putfield 32, 3, 9, 0, .null, []), (133, .iconst 1, 1, 0, 0, .int 1, []), (134, .ireturn, 1, 0, 0, .null, [])]
set_option maxRecDepth 100000 in
theorem ck39 : ∀ ce ∈ cd39, okB (yO 39) (yC 39) ce = true := List.all_eq_true.mp (by decide +kernel)
/-- ShapeDuel$Reader.readChange(LShapeDuel$Strip;)Z -/
def cd40 : List CE := [(0, .aload_n 0, 1, 0, 0, .null, []), (1, .getfield 12, 3, 4, 0, .null, []), (4, .getfield 32, 3, 9, 0, .null, []), (7, .ifCond .eq 22, 3, 29, 0, .null, []), (10, .aload_n 0, 1, 0, 0, .null, []), (11, .getfield 25, 3, 4, 3, .null, []), (14, .ifCond .gt 15, 3, 29, 0, .null, []), (17, .aload_n 0, 1, 0, 0, .null, []), (18, .getfield 12, 3, 4, 0, .null, []), (21, .getfield 35, 3, 9, 3, .null, []), (24, .bipush 12, 2, 0, 0, .int 12, []), (26, .if_icmp .ne 5, 3, 31, 0, .null, []), (29, .iconst 0, 1, 0, 0, .int 0, []), (30, .ireturn, 1, 0, 0, .null, []), (31, .aload_n 0, 1, 0, 0, .null, []), (32, .dup, 1, 0, 0, .null, []), (33, .getfield 29, 3, 4, 4, .null, []), (36, .iconst 1, 1, 0, 0, .int 1, []), (37, .iadd, 1, 0, 0, .null, []), (38, .putfield 29, 3, 4, 4, .null, []), (41, .aload_n 0, 1, 0, 0, .null, []), (42, .aload_n 1, 1, 0, 0, .null, []), (43, .iconst 0, 1, 0, 0, .int 0, []), (44, .aload_n 0, 1, 0, 0, .null, []), (45, .getfield 12, 3, 4, 0, .null, []), (48, .getfield 32, 3, 9, 0, .null, []), (51, .iconst 1, 1, 0, 0, .int 1, []), (52, .isub, 1, 0, 0, .null, []), (53, .invokevirtual 63, 3, 42, 0, .null, []), (56, .istore_n 2, 1, 0, 0, .null, []), (57, .iload_n 2, 1, 0, 0, .null, []), (58, .ifCond .lt 15, 3, 73, 0, .null, []), (61, .aload_n 0, 1, 0, 0, .null, []), (62, .getfield 12, 3, 4, 0, .null, []), (65, .iload_n 2, 1, 0, 0, .null, []), (66, .invokevirtual 73, 3, 86, 0, .null, []), (69, .iconst 4, 1, 0, 0, .int 4, []), (70, .if_icmp .ne 5, 3, 75, 0, .null, []), (73, .iconst 0, 1, 0, 0, .int 0, []), (74, .ireturn, 1, 0, 0, .null, []), (75, .aload_n 0, 1, 0, 0, .null, []), (76, .dup, 1, 0, 0, .null, []), (77, .getfield 29, 3, 4, 4, .null, []), (80, .iconst 1, 1, 0, 0, .int 1, []), (81, .iadd, 1, 0, 0, .null, []), (82, .putfield 29, 3, 4, 4, .null, []), (85, .aload_n 0, 1, 0, 0, .null, []), (86, .aload_n 1, 1, 0, 0, .null, []), (87, .iconst 0, 1, 0, 0, .int 0, []), (88, .aload_n 0, 1, 0, 0, .null, []), (89, .getfield 12, 3, 4, 0, .null, []), (92, .getfield 32, 3, 9, 0, .null, []), (95, .iconst 1, 1, 0, 0, .int 1, []), (96, .isub, 1, 0, 0, .null, []), (97, .invokevirtual 63, 3, 42, 0, .null, []), (100, .istore_n 3, 1, 0, 0, .null, []), (101, .iload_n 3, 1, 0, 0, .null, []), (102, .ifCond .lt 8, 3, 110, 0, .null, []), (105, .iload_n 3, 1, 0, 0, .null, []), (106, .iload_n 2, 1, 0, 0, .null, []), (107, .if_icmp .ne 5, 3, 112, 0, .null, []), (110, .iconst 0, 1, 0, 0, .int 0, []), (111, .ireturn, 1, 0, 0, .null, []), (112, .aload_n 0, 1, 0, 0, .null, []), (113, .dup, 1, 0, 0, .null, []), (114, .getfield 29, 3, 4, 4, .null, []), (117, .iconst 1, 1, 0, 0, .int 1, []), (118, .iadd, 1, 0, 0, .null, []), (119, .putfield 29, 3, 4, 4, .null, []), (122, .aload_n 0, 1, 0, 0, .null, []), (123, .aload_n 1, 1, 0, 0, .null, []), (124, .iconst 1, 1, 0, 0, .int 1, []), (125, .iconst 5, 1, 0, 0, .int 5, []), (126, .invokevirtual 63, 3, 42, 0, .null, []), (129, .istore 4, 2, 0, 0, .null, []), (131, .iload 4, 2, 0, 0, .null, []), (133, .ifCond .ge 5, 3, 138, 0, .null, []), (136, .iconst 0, 1, 0, 0, .int 0, []), (137, .ireturn, 1, 0, 0, .null, []), (138, .aload_n 0, 1, 0, 0, .null, []), (139, .dup, 1, 0, 0, .null, []), (140, .getfield 29, 3, 4, 4, .null, []), (143, .iconst 1, 1, 0, 0, .int 1, []), (144, .iadd, 1, 0, 0, .null, []), (145, .putfield 29, 3, 4, 4, .null, []), (148, .aload_n 0, 1, 0, 0, .null, []), (149, .getfield 12, 3, 4, 0, .null, []), (152, .getfield 77, 3, 9, 4, .null, []), (155, .aload_n 0, 1, 0, 0, .null, []), (156, .getfield 12, 3, 4, 0, .null, []), (159, .getfield 35, 3, 9, 3, .null, []), (162, .iload_n 2, 1, 0, 0, .null, []), (163, .iastore, 1, 0, 0, .null, []), (164, .aload_n 0, 1, 0, 0, .null, []), (165, .getfield 12, 3, 4, 0, .null, []), (168, .getfield 80, 3, 9, 5, .null, []), (171, .aload_n 0, 1, 0, 0, .null, []), (172, .getfield 12, 3, 4, 0, .null, []), (175, .getfield 35, 3, 9, 3, .null, []), (178, .iload_n 3, 1, 0, 0, .null, []), (179, .iastore, 1, 0, 0, .null, []), (180, .aload_n 0, 1, 0, 0, .null, []), (181, .getfield 12, 3, 4, 0, .null, []), (184, .getfield 83, 3, 9, 6, .null, []), (187, .aload_n 0, 1, 0, 0, .null, []), (188, .getfield 12, 3, 4, 0, .null, []), (191, .getfield 35, 3, 9, 3, .null, []), (194, .iload 4, 2, 0, 0, .null, []), (196, .iastore, 1, 0, 0, .null, []), (197, .aload_n 0, 1, 0, 0, .null, []), (198, .getfield 12, 3, 4, 0, .null, []), (201, .dup, 1, 0, 0, .null, []), (202, .getfield 35, 3, 9, 3, .null, []), (205, .iconst 1, 1, 0, 0, .int 1, []), (206, .iadd, 1, 0, 0, .null, []), (207, .putfield 35, 3, 9, 3, .null, []), (210, .iconst 1, 1, 0, 0, .int 1, []), (211, .ireturn, 1, 0, 0, .null, [])]
set_option maxRecDepth 100000 in
theorem ck40 : ∀ ce ∈ cd40, okB (yO 40) (yC 40) ce = true := List.all_eq_true.mp (by decide +kernel)
/-- ShapeDuel$Reader.readFighter(LShapeDuel$Strip;)Z -/
def cd41 : List CE := [(0, .aload_n 0, 1, 0, 0, .null, []), (1, .getfield 12, 3, 4, 0, .null, []), (4, .getfield 32, 3, 9, 0, .null, []), (7, .ifCond .eq 11, 3, 18, 0, .null, []), (10, .aload_n 0, 1, 0, 0, .null, []), (11, .getfield 25, 3, 4, 3, .null, []), (14, .iconst 2, 1, 0, 0, .int 2, []), (15, .if_icmp .ne 5, 3, 20, 0, .null, []), (18, .iconst 0, 1, 0, 0, .int 0, []), (19, .ireturn, 1, 0, 0, .null, []), (20, .aload_n 0, 1, 0, 0, .null, []), (21, .dup, 1, 0, 0, .null, []), (22, .getfield 29, 3, 4, 4, .null, []), (25, .iconst 1, 1, 0, 0, .int 1, []), (26, .iadd, 1, 0, 0, .null, []), (27, .putfield 29, 3, 4, 4, .null, []), (30, .aload_n 0, 1, 0, 0, .null, []), (31, .aload_n 1, 1, 0, 0, .null, []), (32, .iconst 0, 1, 0, 0, .int 0, []), (33, .aload_n 0, 1, 0, 0, .null, []), (34, .getfield 12, 3, 4, 0, .null, []), (37, .getfield 32, 3, 9, 0, .null, []), (40, .iconst 1, 1, 0, 0, .int 1, []), (41, .isub, 1, 0, 0, .null, []), (42, .invokevirtual 63, 3, 42, 0, .null, []), (45, .istore_n 2, 1, 0, 0, .null, []), (46, .iload_n 2, 1, 0, 0, .null, []), (47, .ifCond .ge 5, 3, 52, 0, .null, []), (50, .iconst 0, 1, 0, 0, .int 0, []), (51, .ireturn, 1, 0, 0, .null, []), (52, .aload_n 0, 1, 0, 0, .null, []), (53, .dup, 1, 0, 0, .null, []), (54, .getfield 29, 3, 4, 4, .null, []), (57, .iconst 1, 1, 0, 0, .int 1, []), (58, .iadd, 1, 0, 0, .null, []), (59, .putfield 29, 3, 4, 4, .null, []), (62, .aload_n 0, 1, 0, 0, .null, []), (63, .aload_n 1, 1, 0, 0, .null, []), (64, .iconst 0, 1, 0, 0, .int 0, []), (65, .iconst 5, 1, 0, 0, .int 5, []), (66, .invokevirtual 63, 3, 42, 0, .null, []), (69, .istore_n 3, 1, 0, 0, .null, []), (70, .iload_n 3, 1, 0, 0, .null, []), (71, .ifCond .ge 5, 3, 76, 0, .null, []), (74, .iconst 0, 1, 0, 0, .int 0, []), (75, .ireturn, 1, 0, 0, .null, []), (76, .aload_n 0, 1, 0, 0, .null, []), (77, .dup, 1, 0, 0, .null, []), (78, .getfield 29, 3, 4, 4, .null, []), (81, .iconst 1, 1, 0, 0, .int 1, []), (82, .iadd, 1, 0, 0, .null, []), (83, .putfield 29, 3, 4, 4, .null, []), (86, .aload_n 0, 1, 0, 0, .null, []), (87, .getfield 18, 3, 4, 1, .null, []), (90, .aload_n 0, 1, 0, 0, .null, []), (91, .getfield 25, 3, 4, 3, .null, []), (94, .iload_n 2, 1, 0, 0, .null, []), (95, .iastore, 1, 0, 0, .null, []), (96, .aload_n 0, 1, 0, 0, .null, []), (97, .getfield 22, 3, 4, 2, .null, []), (100, .aload_n 0, 1, 0, 0, .null, []), (101, .getfield 25, 3, 4, 3, .null, []), (104, .iload_n 3, 1, 0, 0, .null, []), (105, .iastore, 1, 0, 0, .null, []), (106, .aload_n 0, 1, 0, 0, .null, []), (107, .dup, 1, 0, 0, .null, []), (108, .getfield 25, 3, 4, 3, .null, []), (111, .iconst 1, 1, 0, 0, .int 1, []), (112, .iadd, 1, 0, 0, .null, []), (113, .putfield 25, 3, 4, 3, .null, []), (116, .iconst 1, 1, 0, 0, .int 1, []), (117, .ireturn, 1, 0, 0, .null, [])]
set_option maxRecDepth 100000 in
theorem ck41 : ∀ ce ∈ cd41, okB (yO 41) (yC 41) ce = true := List.all_eq_true.mp (by decide +kernel)
/-- ShapeDuel$Reader.figureFrom(LShapeDuel$Strip;II)I -/
def cd42 : List CE := [(0, .aload_n 0, 1, 0, 0, .null, []), (1, .getfield 29, 3, 4, 4, .null, []), (4, .aload_n 1, 1, 0, 0, .null, []), (5, .getfield 38, 3, 8, 1, .null, []), (8, .if_icmp .lt 5, 3, 13, 0, .null, []), (11, .iconst (-1), 1, 0, 0, .int (-1), []), (12, .ireturn, 1, 0, 0, .null, []), (13, .aload_n 1, 1, 0, 0, .null, []), (14, .getfield 43, 3, 8, 0, .null, []), (17, .aload_n 0, 1, 0, 0, .null, []), (18, .getfield 29, 3, 4, 4, .null, []), (21, .iaload, 1, 0, 0, .null, []), (22, .bipush 48, 2, 0, 0, .int 48, []), (24, .isub, 1, 0, 0, .null, []), (25, .istore 4, 2, 0, 0, .null, []), (27, .iload 4, 2, 0, 0, .null, []), (29, .iload_n 2, 1, 0, 0, .null, []), (30, .if_icmp .lt 14, 3, 44, 0, .null, []), (33, .iload 4, 2, 0, 0, .null, []), (35, .iload_n 3, 1, 0, 0, .null, []), (36, .if_icmp .gt 8, 3, 44, 0, .null, []), (39, .iload 4, 2, 0, 0, .null, []), (41, .goto 4, 3, 45, 0, .null, []), (44, .iconst (-1), 1, 0, 0, .int (-1), []), (45, .ireturn, 1, 0, 0, .null, [])]
set_option maxRecDepth 100000 in
theorem ck42 : ∀ ce ∈ cd42, okB (yO 42) (yC 42) ce = true := List.all_eq_true.mp (by decide +kernel)
/-- ShapeDuel$Search.<init>(LShapeDuel$Fight;LShapeDuel$Memo;)V -/
def cd43 : List CE := [(0, .aload_n 0, 1, 0, 0, .null, []), (1, .invokespecial 3, 3, 1000, 0, .null, []), (4, .aload_n 0, 1, 0, 0, .null, []), (5, .iconst 0, 1, 0, 0, .int 0, []), (6, .putfield 9, 3, 5, 3, .null, []), (9, .aload_n 0, 1, 0, 0, .null, []), (10, .aload_n 1, 1, 0, 0, .null, []), (11, .putfield 15, 3, 5, 0, .null, []), (14, .aload_n 0, 1, 0, 0, .null, []), (15, .aload_n 2, 1, 0, 0, .null, []), (16, .putfield 19, 3, 5, 2, .null, []), (19, .aload_n 0, 1, 0, 0, .null, []), (20, .aload_n 1, 1, 0, 0, .null, []), (21, .getfield 23, 3, 0, 0, .null, []), (24, .putfield 29, 3, 5, 1, .null, []), (27, .return_, 1, 0, 0, .null, [])]
set_option maxRecDepth 100000 in
theorem ck43 : ∀ ce ∈ cd43, okB (yO 43) (yC 43) ce = true := List.all_eq_true.mp (by decide +kernel)
/-- ShapeDuel$Search.length()I -/
def cd44 : List CE := [(0, .aload_n 0, 1, 0, 0, .null, []), (1, .getfield 19, 3, 5, 2, .null, []), (4, .invokevirtual 30, 3, 22, 0, .null, []), (7, .aload_n 0, 1, 0, 0, .null, []), (8, .aload_n 0, 1, 0, 0, .null, []), (9, .getfield 15, 3, 5, 0, .null, []), (12, .invokevirtual 35, 3, 3, 0, .null, []), (15, .iconst 0, 1, 0, 0, .int 0, []), (16, .invokevirtual 39, 3, 45, 0, .null, []), (19, .ireturn, 1, 0, 0, .null, [])]
set_option maxRecDepth 100000 in
theorem ck44 : ∀ ce ∈ cd44, okB (yO 44) (yC 44) ce = true := List.all_eq_true.mp (by decide +kernel)
/-- ShapeDuel$Search.endsIn(II)I -/
def cd45 : List CE := [(0, .iload_n 2, 1, 0, 0, .null, []), (1, .bipush 10, 2, 0, 0, .int 10, []), (3, .if_icmp .lt 5, 3, 8, 0, .null, []), (6, .iconst 0, 1, 0, 0, .int 0, []), (7, .ireturn, 1, 0, 0, .null, []), (8, .aload_n 0, 1, 0, 0, .null, []), (9, .getfield 19, 3, 5, 2, .null, []), (12, .aload_n 0, 1, 0, 0, .null, []), (13, .getfield 15, 3, 5, 0, .null, []), (16, .invokevirtual 43, 3, 4, 0, .null, []), (19, .iload_n 1, 1, 0, 0, .null, []), (20, .invokevirtual 46, 3, 23, 0, .null, []), (23, .lstore_n 3, 1, 0, 0, .null, []), (24, .aload_n 0, 1, 0, 0, .null, []), (25, .getfield 19, 3, 5, 2, .null, []), (28, .lload_n 3, 1, 0, 0, .null, []), (29, .invokevirtual 50, 3, 24, 0, .null, []), (32, .istore 5, 2, 0, 0, .null, []), (34, .aload_n 0, 1, 0, 0, .null, []), (35, .getfield 19, 3, 5, 2, .null, []), (38, .iload 5, 2, 0, 0, .null, []), (40, .lload_n 3, 1, 0, 0, .null, []), (41, .invokevirtual 54, 3, 25, 0, .null, []), (44, .ifCond .eq 15, 3, 59, 0, .null, []), (47, .aload_n 0, 1, 0, 0, .null, []), (48, .getfield 19, 3, 5, 2, .null, []), (51, .getfield 58, 3, 2, 1, .null, []), (54, .iload 5, 2, 0, 0, .null, []), (56, .laload, 1, 0, 0, .null, []), (57, .l2i, 1, 0, 0, .null, []), (58, .ireturn, 1, 0, 0, .null, []), (59, .iconst 0, 1, 0, 0, .int 0, []), (60, .istore 6, 2, 0, 0, .null, []), (62, .iconst 0, 1, 0, 0, .int 0, []), (63, .istore 7, 2, 0, 0, .null, []), (65, .iload 7, 2, 0, 0, .null, []), (67, .aload_n 0, 1, 0, 0, .null, []), (68, .getfield 29, 3, 5, 1, .null, []), (71, .getfield 62, 3, 9, 3, .null, []), (74, .if_icmp .ge 45, 3, 119, 0, .null, []), (77, .aload_n 0, 1, 0, 0, .null, []), (78, .getfield 15, 3, 5, 0, .null, []), (81, .iload_n 1, 1, 0, 0, .null, []), (82, .iload 7, 2, 0, 0, .null, []), (84, .invokevirtual 67, 3, 6, 0, .null, []), (87, .istore 8, 2, 0, 0, .null, []), (89, .iload 8, 2, 0, 0, .null, []), (91, .ifCond .le 22, 3, 113, 0, .null, []), (94, .iload 6, 2, 0, 0, .null, []), (96, .iconst 1, 1, 0, 0, .int 1, []), (97, .aload_n 0, 1, 0, 0, .null, []), (98, .iload_n 1, 1, 0, 0, .null, []), (99, .iload 7, 2, 0, 0, .null, []), (101, .iload 8, 2, 0, 0, .null, []), (103, .iload_n 2, 1, 0, 0, .null, []), (104, .invokevirtual 70, 3, 46, 0, .null, []), (107, .iadd, 1, 0, 0, .null, []), (108, .invokestatic 74, 3, 47, 0, .null, []), (111, .istore 6, 2, 0, 0, .null, []), (113, .iinc 7 1, 3, 0, 0, .int 1, []), (116, .goto (-51), 3, 65, 0, .null, []), (119, .aload_n 0, 1, 0, 0, .null, []), (120, .getfield 19, 3, 5, 2, .null, []), (123, .lload_n 3, 1, 0, 0, .null, []), (124, .iload 6, 2, 0, 0, .null, []), (126, .i2l, 1, 0, 0, .null, []), (127, .invokevirtual 77, 3, 26, 0, .null, []), (130, .iload 6, 2, 0, 0, .null, []), (132, .ireturn, 1, 0, 0, .null, [])]
set_option maxRecDepth 100000 in
theorem ck45 : ∀ ce ∈ cd45, okB (yO 45) (yC 45) ce = true := List.all_eq_true.mp (by decide +kernel)
/-- ShapeDuel$Search.endsBehind(IIII)I -/
def cd46 : List CE := [(0, .aload_n 0, 1, 0, 0, .null, []), (1, .getfield 15, 3, 5, 0, .null, []), (4, .invokevirtual 43, 3, 4, 0, .null, []), (7, .istore 5, 2, 0, 0, .null, []), (9, .aload_n 0, 1, 0, 0, .null, []), (10, .getfield 15, 3, 5, 0, .null, []), (13, .iload_n 1, 1, 0, 0, .null, []), (14, .iload_n 2, 1, 0, 0, .null, []), (15, .iload_n 3, 1, 0, 0, .null, []), (16, .invokevirtual 81, 3, 8, 0, .null, []), (19, .aload_n 0, 1, 0, 0, .null, []), (20, .iconst 1, 1, 0, 0, .int 1, []), (21, .iload_n 1, 1, 0, 0, .null, []), (22, .isub, 1, 0, 0, .null, []), (23, .iload 4, 2, 0, 0, .null, []), (25, .iconst 1, 1, 0, 0, .int 1, []), (26, .iadd, 1, 0, 0, .null, []), (27, .invokevirtual 39, 3, 45, 0, .null, []), (30, .istore 6, 2, 0, 0, .null, []), (32, .aload_n 0, 1, 0, 0, .null, []), (33, .getfield 15, 3, 5, 0, .null, []), (36, .iload 5, 2, 0, 0, .null, []), (38, .invokevirtual 85, 3, 5, 0, .null, []), (41, .iload 6, 2, 0, 0, .null, []), (43, .ireturn, 1, 0, 0, .null, [])]
set_option maxRecDepth 100000 in
theorem ck46 : ∀ ce ∈ cd46, okB (yO 46) (yC 46) ce = true := List.all_eq_true.mp (by decide +kernel)
/-- ShapeDuel$Search.better(II)I -/
def cd47 : List CE := [(0, .iload_n 1, 1, 0, 0, .null, []), (1, .iconst 1, 1, 0, 0, .int 1, []), (2, .iand, 1, 0, 0, .null, []), (3, .iconst 1, 1, 0, 0, .int 1, []), (4, .if_icmp .ne 7, 3, 11, 0, .null, []), (7, .iconst 1, 1, 0, 0, .int 1, []), (8, .goto 4, 3, 12, 0, .null, []), (11, .iconst 0, 1, 0, 0, .int 0, []), (12, .istore_n 2, 1, 0, 0, .null, []), (13, .iload_n 2, 1, 0, 0, .null, []), (14, .iload_n 0, 1, 0, 0, .null, []), (15, .iconst 1, 1, 0, 0, .int 1, []), (16, .iand, 1, 0, 0, .null, []), (17, .iconst 1, 1, 0, 0, .int 1, []), (18, .if_icmp .ne 7, 3, 25, 0, .null, []), (21, .iconst 1, 1, 0, 0, .int 1, []), (22, .goto 4, 3, 26, 0, .null, []), (25, .iconst 0, 1, 0, 0, .int 0, []), (26, .if_icmp .eq 13, 3, 39, 0, .null, []), (29, .iload_n 2, 1, 0, 0, .null, []), (30, .ifCond .eq 7, 3, 37, 0, .null, []), (33, .iload_n 1, 1, 0, 0, .null, []), (34, .goto 4, 3, 38, 0, .null, []), (37, .iload_n 0, 1, 0, 0, .null, []), (38, .ireturn, 1, 0, 0, .null, []), (39, .iload_n 2, 1, 0, 0, .null, []), (40, .ifCond .eq 11, 3, 51, 0, .null, []), (43, .iload_n 0, 1, 0, 0, .null, []), (44, .iload_n 1, 1, 0, 0, .null, []), (45, .invokestatic 89, 3, 1004, 0, .null, []), (48, .goto 8, 3, 56, 0, .null, []), (51, .iload_n 0, 1, 0, 0, .null, []), (52, .iload_n 1, 1, 0, 0, .null, []), (53, .invokestatic 94, 3, 1002, 0, .null, []), (56, .ireturn, 1, 0, 0, .null, [])]
set_option maxRecDepth 100000 in
theorem ck47 : ∀ ce ∈ cd47, okB (yO 47) (yC 47) ce = true := List.all_eq_true.mp (by decide +kernel)
/-- ShapeDuel$Search.firstWinning()I -/
def cd48 : List CE := [(0, .aload_n 0, 1, 0, 0, .null, []), (1, .getfield 19, 3, 5, 2, .null, []), (4, .invokevirtual 30, 3, 22, 0, .null, []), (7, .aload_n 0, 1, 0, 0, .null, []), (8, .getfield 15, 3, 5, 0, .null, []), (11, .invokevirtual 35, 3, 3, 0, .null, []), (14, .istore_n 1, 1, 0, 0, .null, []), (15, .iconst 0, 1, 0, 0, .int 0, []), (16, .istore_n 2, 1, 0, 0, .null, []), (17, .iload_n 2, 1, 0, 0, .null, []), (18, .aload_n 0, 1, 0, 0, .null, []), (19, .getfield 29, 3, 5, 1, .null, []), (22, .getfield 62, 3, 9, 3, .null, []), (25, .if_icmp .ge 38, 3, 63, 0, .null, []), (28, .aload_n 0, 1, 0, 0, .null, []), (29, .getfield 15, 3, 5, 0, .null, []), (32, .iload_n 1, 1, 0, 0, .null, []), (33, .iload_n 2, 1, 0, 0, .null, []), (34, .invokevirtual 67, 3, 6, 0, .null, []), (37, .istore_n 3, 1, 0, 0, .null, []), (38, .iload_n 3, 1, 0, 0, .null, []), (39, .ifCond .le 18, 3, 57, 0, .null, []), (42, .aload_n 0, 1, 0, 0, .null, []), (43, .iload_n 1, 1, 0, 0, .null, []), (44, .iload_n 2, 1, 0, 0, .null, []), (45, .iload_n 3, 1, 0, 0, .null, []), (46, .iconst 0, 1, 0, 0, .int 0, []), (47, .invokevirtual 70, 3, 46, 0, .null, []), (50, .iconst 1, 1, 0, 0, .int 1, []), (51, .iand, 1, 0, 0, .null, []), (52, .ifCond .ne 5, 3, 57, 0, .null, []), (55, .iload_n 2, 1, 0, 0, .null, []), (56, .ireturn, 1, 0, 0, .null, []), (57, .iinc 2 1, 3, 0, 0, .int 1, []), (60, .goto (-43), 3, 17, 0, .null, []), (63, .bipush (-9), 2, 0, 0, .int (-9), []), (65, .ireturn, 1, 0, 0, .null, [])]
set_option maxRecDepth 100000 in
theorem ck48 : ∀ ce ∈ cd48, okB (yO 48) (yC 48) ce = true := List.all_eq_true.mp (by decide +kernel)
/-- ShapeDuel$Search.bestLine(LShapeDuel$Strip;)V -/
def cd49 : List CE := [(0, .aload_n 0, 1, 0, 0, .null, []), (1, .getfield 15, 3, 5, 0, .null, []), (4, .invokevirtual 43, 3, 4, 0, .null, []), (7, .istore_n 2, 1, 0, 0, .null, []), (8, .aload_n 0, 1, 0, 0, .null, []), (9, .invokevirtual 97, 3, 44, 0, .null, []), (12, .istore_n 3, 1, 0, 0, .null, []), (13, .aload_n 1, 1, 0, 0, .null, []), (14, .iload_n 3, 1, 0, 0, .null, []), (15, .iconst 0, 1, 0, 0, .int 0, []), (16, .invokevirtual 100, 3, 72, 0, .null, []), (19, .iconst 0, 1, 0, 0, .int 0, []), (20, .istore 4, 2, 0, 0, .null, []), (22, .iload 4, 2, 0, 0, .null, []), (24, .iload_n 3, 1, 0, 0, .null, []), (25, .if_icmp .ge 70, 3, 95, 0, .null, []), (28, .aload_n 0, 1, 0, 0, .null, []), (29, .getfield 15, 3, 5, 0, .null, []), (32, .invokevirtual 35, 3, 3, 0, .null, []), (35, .iload 4, 2, 0, 0, .null, []), (37, .iadd, 1, 0, 0, .null, []), (38, .iconst 1, 1, 0, 0, .int 1, []), (39, .iand, 1, 0, 0, .null, []), (40, .istore 5, 2, 0, 0, .null, []), (42, .aload_n 0, 1, 0, 0, .null, []), (43, .iload 5, 2, 0, 0, .null, []), (45, .iload_n 3, 1, 0, 0, .null, []), (46, .iconst 1, 1, 0, 0, .int 1, []), (47, .isub, 1, 0, 0, .null, []), (48, .iload 4, 2, 0, 0, .null, []), (50, .isub, 1, 0, 0, .null, []), (51, .iload 4, 2, 0, 0, .null, []), (53, .invokevirtual 106, 3, 50, 0, .null, []), (56, .istore 6, 2, 0, 0, .null, []), (58, .aload_n 1, 1, 0, 0, .null, []), (59, .getfield 110, 3, 8, 0, .null, []), (62, .iload 4, 2, 0, 0, .null, []), (64, .iload 6, 2, 0, 0, .null, []), (66, .iastore, 1, 0, 0, .null, []), (67, .aload_n 0, 1, 0, 0, .null, []), (68, .getfield 15, 3, 5, 0, .null, []), (71, .iload 5, 2, 0, 0, .null, []), (73, .iload 6, 2, 0, 0, .null, []), (75, .aload_n 0, 1, 0, 0, .null, []), (76, .getfield 15, 3, 5, 0, .null, []), (79, .iload 5, 2, 0, 0, .null, []), (81, .iload 6, 2, 0, 0, .null, []), (83, .invokevirtual 67, 3, 6, 0, .null, []), (86, .invokevirtual 81, 3, 8, 0, .null, []), (89, .iinc 4 1, 3, 0, 0, .int 1, []), (92, .goto (-70), 3, 22, 0, .null, []), (95, .aload_n 0, 1, 0, 0, .null, []), (96, .getfield 15, 3, 5, 0, .null, []), (99, .iload_n 2, 1, 0, 0, .null, []), (100, .invokevirtual 85, 3, 5, 0, .null, []), (103, .return_, 1, 0, 0, .null, [])]
set_option maxRecDepth 100000 in
theorem ck49 : ∀ ce ∈ cd49, okB (yO 49) (yC 49) ce = true := List.all_eq_true.mp (by decide +kernel)
/-- ShapeDuel$Search.firstWithRest(III)I -/
def cd50 : List CE := [(0, .iconst 0, 1, 0, 0, .int 0, []), (1, .istore 4, 2, 0, 0, .null, []), (3, .iload 4, 2, 0, 0, .null, []), (5, .aload_n 0, 1, 0, 0, .null, []), (6, .getfield 29, 3, 5, 1, .null, []), (9, .getfield 62, 3, 9, 3, .null, []), (12, .if_icmp .ge 43, 3, 55, 0, .null, []), (15, .aload_n 0, 1, 0, 0, .null, []), (16, .getfield 15, 3, 5, 0, .null, []), (19, .iload_n 1, 1, 0, 0, .null, []), (20, .iload 4, 2, 0, 0, .null, []), (22, .invokevirtual 67, 3, 6, 0, .null, []), (25, .istore 5, 2, 0, 0, .null, []), (27, .iload 5, 2, 0, 0, .null, []), (29, .ifCond .le 20, 3, 49, 0, .null, []), (32, .aload_n 0, 1, 0, 0, .null, []), (33, .iload_n 1, 1, 0, 0, .null, []), (34, .iload 4, 2, 0, 0, .null, []), (36, .iload 5, 2, 0, 0, .null, []), (38, .iload_n 3, 1, 0, 0, .null, []), (39, .invokevirtual 70, 3, 46, 0, .null, []), (42, .iload_n 2, 1, 0, 0, .null, []), (43, .if_icmp .ne 6, 3, 49, 0, .null, []), (46, .iload 4, 2, 0, 0, .null, []), (48, .ireturn, 1, 0, 0, .null, []), (49, .iinc 4 1, 3, 0, 0, .int 1, []), (52, .goto (-49), 3, 3, 0, .null, []), (55, .iconst 0, 1, 0, 0, .int 0, []), (56, .ireturn, 1, 0, 0, .null, [])]
set_option maxRecDepth 100000 in
theorem ck50 : ∀ ce ∈ cd50, okB (yO 50) (yC 50) ce = true := List.all_eq_true.mp (by decide +kernel)
/-- ShapeDuel$Search.isWonBy(I)Z -/
def cd51 : List CE := [(0, .aload_n 0, 1, 0, 0, .null, []), (1, .getfield 19, 3, 5, 2, .null, []), (4, .invokevirtual 30, 3, 22, 0, .null, []), (7, .aload_n 0, 1, 0, 0, .null, []), (8, .getfield 15, 3, 5, 0, .null, []), (11, .invokevirtual 35, 3, 3, 0, .null, []), (14, .istore_n 2, 1, 0, 0, .null, []), (15, .aload_n 0, 1, 0, 0, .null, []), (16, .iload_n 2, 1, 0, 0, .null, []), (17, .iconst 0, 1, 0, 0, .int 0, []), (18, .invokevirtual 39, 3, 45, 0, .null, []), (21, .iconst 1, 1, 0, 0, .int 1, []), (22, .iand, 1, 0, 0, .null, []), (23, .iconst 1, 1, 0, 0, .int 1, []), (24, .if_icmp .ne 7, 3, 31, 0, .null, []), (27, .iconst 1, 1, 0, 0, .int 1, []), (28, .goto 4, 3, 32, 0, .null, []), (31, .iconst 0, 1, 0, 0, .int 0, []), (32, .istore_n 3, 1, 0, 0, .null, []), (33, .iload_n 3, 1, 0, 0, .null, []), (34, .iload_n 1, 1, 0, 0, .null, []), (35, .iload_n 2, 1, 0, 0, .null, []), (36, .if_icmp .ne 7, 3, 43, 0, .null, []), (39, .iconst 1, 1, 0, 0, .int 1, []), (40, .goto 4, 3, 44, 0, .null, []), (43, .iconst 0, 1, 0, 0, .int 0, []), (44, .if_icmp .ne 7, 3, 51, 0, .null, []), (47, .iconst 1, 1, 0, 0, .int 1, []), (48, .goto 4, 3, 52, 0, .null, []), (51, .iconst 0, 1, 0, 0, .int 0, []), (52, .ireturn, 1, 0, 0, .null, [])]
set_option maxRecDepth 100000 in
theorem ck51 : ∀ ce ∈ cd51, okB (yO 51) (yC 51) ce = true := List.all_eq_true.mp (by decide +kernel)
/-- ShapeDuel$Search.leastFire(I)I -/
def cd52 : List CE := [(0, .aload_n 0, 1, 0, 0, .null, []), (1, .getfield 15, 3, 5, 0, .null, []), (4, .getfield 114, 3, 0, 2, .null, []), (7, .iload_n 1, 1, 0, 0, .null, []), (8, .aaload, 1, 0, 0, .null, []), (9, .astore_n 2, 1, 0, 0, .null, []), (10, .aload_n 2, 1, 0, 0, .null, []), (11, .getfield 118, 3, 7, 1, .null, []), (14, .istore_n 3, 1, 0, 0, .null, []), (15, .bipush (-9), 2, 0, 0, .int (-9), []), (17, .istore 4, 2, 0, 0, .null, []), (19, .iconst 0, 1, 0, 0, .int 0, []), (20, .istore 5, 2, 0, 0, .null, []), (22, .iload 5, 2, 0, 0, .null, []), (24, .iconst 5, 1, 0, 0, .int 5, []), (25, .if_icmp .gt 39, 3, 64, 0, .null, []), (28, .iload 4, 2, 0, 0, .null, []), (30, .bipush (-9), 2, 0, 0, .int (-9), []), (32, .if_icmp .ne 32, 3, 64, 0, .null, []), (35, .aload_n 2, 1, 0, 0, .null, []), (36, .iload 5, 2, 0, 0, .null, []), (38, .putfield 118, 3, 7, 1, .null, []), (41, .aload_n 0, 1, 0, 0, .null, []), (42, .iload_n 1, 1, 0, 0, .null, []), (43, .invokevirtual 123, 3, 51, 0, .null, []), (46, .ifCond .eq 8, 3, 54, 0, .null, []), (49, .iload 5, 2, 0, 0, .null, []), (51, .goto 5, 3, 56, 0, .null, []), (54, .bipush (-9), 2, 0, 0, .int (-9), []), (56, .istore 4, 2, 0, 0, .null, []), (58, .iinc 5 1, 3, 0, 0, .int 1, []), (61, .goto (-39), 3, 22, 0, .null, []), (64, .aload_n 2, 1, 0, 0, .null, []), (65, .iload_n 3, 1, 0, 0, .null, []), (66, .putfield 118, 3, 7, 1, .null, []), (69, .iload 4, 2, 0, 0, .null, []), (71, .ireturn, 1, 0, 0, .null, [])]
set_option maxRecDepth 100000 in
theorem ck52 : ∀ ce ∈ cd52, okB (yO 52) (yC 52) ce = true := List.all_eq_true.mp (by decide +kernel)
/-- ShapeDuel$Search.firstToLearn(I)I -/
def cd53 : List CE := [(0, .aload_n 0, 1, 0, 0, .null, []), (1, .iload_n 1, 1, 0, 0, .null, []), (2, .invokevirtual 123, 3, 51, 0, .null, []), (5, .ifCond .eq 6, 3, 11, 0, .null, []), (8, .bipush (-9), 2, 0, 0, .int (-9), []), (10, .ireturn, 1, 0, 0, .null, []), (11, .aload_n 0, 1, 0, 0, .null, []), (12, .getfield 15, 3, 5, 0, .null, []), (15, .getfield 114, 3, 0, 2, .null, []), (18, .iload_n 1, 1, 0, 0, .null, []), (19, .aaload, 1, 0, 0, .null, []), (20, .astore_n 2, 1, 0, 0, .null, []), (21, .aload_n 2, 1, 0, 0, .null, []), (22, .getfield 127, 3, 7, 3, .null, []), (25, .istore_n 3, 1, 0, 0, .null, []), (26, .bipush (-9), 2, 0, 0, .int (-9), []), (28, .istore 4, 2, 0, 0, .null, []), (30, .iconst 0, 1, 0, 0, .int 0, []), (31, .istore 5, 2, 0, 0, .null, []), (33, .iload 5, 2, 0, 0, .null, []), (35, .aload_n 0, 1, 0, 0, .null, []), (36, .getfield 29, 3, 5, 1, .null, []), (39, .getfield 62, 3, 9, 3, .null, []), (42, .if_icmp .ge 52, 3, 94, 0, .null, []), (45, .iload 4, 2, 0, 0, .null, []), (47, .bipush (-9), 2, 0, 0, .int (-9), []), (49, .if_icmp .ne 45, 3, 94, 0, .null, []), (52, .aload_n 2, 1, 0, 0, .null, []), (53, .iload_n 3, 1, 0, 0, .null, []), (54, .iconst 1, 1, 0, 0, .int 1, []), (55, .iload 5, 2, 0, 0, .null, []), (57, .ishl, 1, 0, 0, .null, []), (58, .ior, 1, 0, 0, .null, []), (59, .putfield 127, 3, 7, 3, .null, []), (62, .iload_n 3, 1, 0, 0, .null, []), (63, .iload 5, 2, 0, 0, .null, []), (65, .invokestatic 130, 3, 143, 0, .null, []), (68, .ifCond .ne 16, 3, 84, 0, .null, []), (71, .aload_n 0, 1, 0, 0, .null, []), (72, .iload_n 1, 1, 0, 0, .null, []), (73, .invokevirtual 123, 3, 51, 0, .null, []), (76, .ifCond .eq 8, 3, 84, 0, .null, []), (79, .iload 5, 2, 0, 0, .null, []), (81, .goto 5, 3, 86, 0, .null, []), (84, .bipush (-9), 2, 0, 0, .int (-9), []), (86, .istore 4, 2, 0, 0, .null, []), (88, .iinc 5 1, 3, 0, 0, .int 1, []), (91, .goto (-58), 3, 33, 0, .null, []), (94, .aload_n 2, 1, 0, 0, .null, []), (95, .iload_n 3, 1, 0, 0, .null, []), (96, .putfield 127, 3, 7, 3, .null, []), (99, .iload 4, 2, 0, 0, .null, []), (101, .ireturn, 1, 0, 0, .null, [])]
set_option maxRecDepth 100000 in
theorem ck53 : ∀ ce ∈ cd53, okB (yO 53) (yC 53) ce = true := List.all_eq_true.mp (by decide +kernel)
/-- ShapeDuel$Search.needed(I)I -/
def cd54 : List CE := [(0, .aload_n 0, 1, 0, 0, .null, []), (1, .iload_n 1, 1, 0, 0, .null, []), (2, .invokevirtual 123, 3, 51, 0, .null, []), (5, .ifCond .ne 5, 3, 10, 0, .null, []), (8, .iconst 0, 1, 0, 0, .int 0, []), (9, .ireturn, 1, 0, 0, .null, []), (10, .aload_n 0, 1, 0, 0, .null, []), (11, .getfield 15, 3, 5, 0, .null, []), (14, .getfield 114, 3, 0, 2, .null, []), (17, .iload_n 1, 1, 0, 0, .null, []), (18, .aaload, 1, 0, 0, .null, []), (19, .astore_n 2, 1, 0, 0, .null, []), (20, .aload_n 2, 1, 0, 0, .null, []), (21, .getfield 127, 3, 7, 3, .null, []), (24, .istore_n 3, 1, 0, 0, .null, []), (25, .iconst 0, 1, 0, 0, .int 0, []), (26, .istore 4, 2, 0, 0, .null, []), (28, .iconst 0, 1, 0, 0, .int 0, []), (29, .istore 5, 2, 0, 0, .null, []), (31, .iload 5, 2, 0, 0, .null, []), (33, .aload_n 0, 1, 0, 0, .null, []), (34, .getfield 29, 3, 5, 1, .null, []), (37, .getfield 62, 3, 9, 3, .null, []), (40, .if_icmp .ge 52, 3, 92, 0, .null, []), (43, .aload_n 2, 1, 0, 0, .null, []), (44, .iload_n 3, 1, 0, 0, .null, []), (45, .iconst 1, 1, 0, 0, .int 1, []), (46, .iload 5, 2, 0, 0, .null, []), (48, .ishl, 1, 0, 0, .null, []), (49, .iconst (-1), 1, 0, 0, .int (-1), []), (50, .ixor, 1, 0, 0, .null, []), (51, .iand, 1, 0, 0, .null, []), (52, .putfield 127, 3, 7, 3, .null, []), (55, .iload 4, 2, 0, 0, .null, []), (57, .iload_n 3, 1, 0, 0, .null, []), (58, .iload 5, 2, 0, 0, .null, []), (60, .invokestatic 130, 3, 143, 0, .null, []), (63, .iconst 1, 1, 0, 0, .int 1, []), (64, .if_icmp .ne 18, 3, 82, 0, .null, []), (67, .aload_n 0, 1, 0, 0, .null, []), (68, .iload_n 1, 1, 0, 0, .null, []), (69, .invokevirtual 123, 3, 51, 0, .null, []), (72, .ifCond .ne 10, 3, 82, 0, .null, []), (75, .iconst 1, 1, 0, 0, .int 1, []), (76, .iload 5, 2, 0, 0, .null, []), (78, .ishl, 1, 0, 0, .null, []), (79, .goto 4, 3, 83, 0, .null, []), (82, .iconst 0, 1, 0, 0, .int 0, []), (83, .ior, 1, 0, 0, .null, []), (84, .istore 4, 2, 0, 0, .null, []), (86, .iinc 5 1, 3, 0, 0, .int 1, []), (89, .goto (-58), 3, 31, 0, .null, []), (92, .aload_n 2, 1, 0, 0, .null, []), (93, .iload_n 3, 1, 0, 0, .null, []), (94, .putfield 127, 3, 7, 3, .null, []), (97, .iload 4, 2, 0, 0, .null, []), (99, .ireturn, 1, 0, 0, .null, [])]
set_option maxRecDepth 100000 in
theorem ck54 : ∀ ce ∈ cd54, okB (yO 54) (yC 54) ce = true := List.all_eq_true.mp (by decide +kernel)
/-- ShapeDuel$Search.countRows(I)I -/
def cd55 : List CE := [(0, .aload_n 0, 1, 0, 0, .null, []), (1, .iconst 0, 1, 0, 0, .int 0, []), (2, .putfield 9, 3, 5, 3, .null, []), (5, .aload_n 0, 1, 0, 0, .null, []), (6, .aload_n 0, 1, 0, 0, .null, []), (7, .getfield 15, 3, 5, 0, .null, []), (10, .invokevirtual 35, 3, 3, 0, .null, []), (13, .iload_n 1, 1, 0, 0, .null, []), (14, .invokevirtual 133, 3, 56, 0, .null, []), (17, .ireturn, 1, 0, 0, .null, [])]
set_option maxRecDepth 100000 in
theorem ck55 : ∀ ce ∈ cd55, okB (yO 55) (yC 55) ce = true := List.all_eq_true.mp (by decide +kernel)
/-- ShapeDuel$Search.rowsFrom(II)I -/
def cd56 : List CE := [(0, .iload_n 2, 1, 0, 0, .null, []), (1, .ifCond .gt 30, 3, 31, 0, .null, []), (4, .aload_n 0, 1, 0, 0, .null, []), (5, .dup, 1, 0, 0, .null, []), (6, .getfield 9, 3, 5, 3, .null, []), (9, .aload_n 0, 1, 0, 0, .null, []), (10, .getfield 15, 3, 5, 0, .null, []), (13, .iload_n 1, 1, 0, 0, .null, []), (14, .invokevirtual 136, 3, 7, 0, .null, []), (17, .ifCond .ne 7, 3, 24, 0, .null, []), (20, .iconst 1, 1, 0, 0, .int 1, []), (21, .goto 4, 3, 25, 0, .null, []), (24, .iconst 0, 1, 0, 0, .int 0, []), (25, .iadd, 1, 0, 0, .null, []), (26, .putfield 9, 3, 5, 3, .null, []), (29, .iconst 1, 1, 0, 0, .int 1, []), (30, .ireturn, 1, 0, 0, .null, []), (31, .iconst 0, 1, 0, 0, .int 0, []), (32, .istore_n 3, 1, 0, 0, .null, []), (33, .iconst 0, 1, 0, 0, .int 0, []), (34, .istore 4, 2, 0, 0, .null, []), (36, .iload 4, 2, 0, 0, .null, []), (38, .aload_n 0, 1, 0, 0, .null, []), (39, .getfield 29, 3, 5, 1, .null, []), (42, .getfield 62, 3, 9, 3, .null, []), (45, .if_icmp .ge 69, 3, 114, 0, .null, []), (48, .aload_n 0, 1, 0, 0, .null, []), (49, .getfield 15, 3, 5, 0, .null, []), (52, .iload_n 1, 1, 0, 0, .null, []), (53, .iload 4, 2, 0, 0, .null, []), (55, .invokevirtual 67, 3, 6, 0, .null, []), (58, .istore 5, 2, 0, 0, .null, []), (60, .iload 5, 2, 0, 0, .null, []), (62, .ifCond .le 46, 3, 108, 0, .null, []), (65, .aload_n 0, 1, 0, 0, .null, []), (66, .getfield 15, 3, 5, 0, .null, []), (69, .invokevirtual 43, 3, 4, 0, .null, []), (72, .istore 6, 2, 0, 0, .null, []), (74, .aload_n 0, 1, 0, 0, .null, []), (75, .getfield 15, 3, 5, 0, .null, []), (78, .iload_n 1, 1, 0, 0, .null, []), (79, .iload 4, 2, 0, 0, .null, []), (81, .iload 5, 2, 0, 0, .null, []), (83, .invokevirtual 81, 3, 8, 0, .null, []), (86, .iload_n 3, 1, 0, 0, .null, []), (87, .aload_n 0, 1, 0, 0, .null, []), (88, .iconst 1, 1, 0, 0, .int 1, []), (89, .iload_n 1, 1, 0, 0, .null, []), (90, .isub, 1, 0, 0, .null, []), (91, .iload_n 2, 1, 0, 0, .null, []), (92, .iconst 1, 1, 0, 0, .int 1, []), (93, .isub, 1, 0, 0, .null, []), (94, .invokevirtual 133, 3, 56, 0, .null, []), (97, .iadd, 1, 0, 0, .null, []), (98, .istore_n 3, 1, 0, 0, .null, []), (99, .aload_n 0, 1, 0, 0, .null, []), (100, .getfield 15, 3, 5, 0, .null, []), (103, .iload 6, 2, 0, 0, .null, []), (105, .invokevirtual 85, 3, 5, 0, .null, []), (108, .iinc 4 1, 3, 0, 0, .int 1, []), (111, .goto (-75), 3, 36, 0, .null, []), (114, .iload_n 3, 1, 0, 0, .null, []), (115, .ireturn, 1, 0, 0, .null, [])]
set_option maxRecDepth 100000 in
theorem ck56 : ∀ ce ∈ cd56, okB (yO 56) (yC 56) ce = true := List.all_eq_true.mp (by decide +kernel)
/-- ShapeDuel$Showing.<init>(LShapeDuel$Fight;)V -/
def cd57 : List CE := [(0, .aload_n 0, 1, 0, 0, .null, []), (1, .invokespecial 3, 3, 1000, 0, .null, []), (4, .aload_n 0, 1, 0, 0, .null, []), (5, .bipush 8, 2, 0, 0, .int 8, []), (7, .newarray .int, 2, 12, 0, .null, []), (9, .putfield 9, 3, 6, 2, .null, []), (12, .aload_n 0, 1, 0, 0, .null, []), (13, .iconst 0, 1, 0, 0, .int 0, []), (14, .putfield 15, 3, 6, 3, .null, []), (17, .aload_n 0, 1, 0, 0, .null, []), (18, .sipush 324, 3, 0, 0, .int 324, []), (21, .newarray .int, 2, 12, 0, .null, []), (23, .putfield 19, 3, 6, 4, .null, []), (26, .aload_n 0, 1, 0, 0, .null, []), (27, .aload_n 1, 1, 0, 0, .null, []), (28, .putfield 22, 3, 6, 0, .null, []), (31, .aload_n 0, 1, 0, 0, .null, []), (32, .aload_n 1, 1, 0, 0, .null, []), (33, .getfield 26, 3, 0, 0, .null, []), (36, .putfield 32, 3, 6, 1, .null, []), (39, .return_, 1, 0, 0, .null, [])]
set_option maxRecDepth 100000 in
theorem ck57 : ∀ ce ∈ cd57, okB (yO 57) (yC 57) ce = true := List.all_eq_true.mp (by decide +kernel)
/-- ShapeDuel$Showing.see(LShapeDuel$Strip;)V -/
def cd58 : List CE := [(0, .aload_n 0, 1, 0, 0, .null, []), (1, .aload_n 1, 1, 0, 0, .null, []), (2, .getfield 33, 3, 8, 1, .null, []), (5, .bipush 8, 2, 0, 0, .int 8, []), (7, .invokestatic 36, 3, 1004, 0, .null, []), (10, .putfield 15, 3, 6, 3, .null, []), (13, .aload_n 1, 1, 0, 0, .null, []), (14, .getfield 42, 3, 8, 0, .null, []), (17, .iconst 0, 1, 0, 0, .int 0, []), (18, .aload_n 0, 1, 0, 0, .null, []), (19, .getfield 9, 3, 6, 2, .null, []), (22, .iconst 0, 1, 0, 0, .int 0, []), (23, .aload_n 0, 1, 0, 0, .null, []), (24, .getfield 15, 3, 6, 3, .null, []), (27, .invokestatic 45, 3, 1001, 0, .null, []), (30, .return_, 1, 0, 0, .null, [])]
set_option maxRecDepth 100000 in
theorem ck58 : ∀ ce ∈ cd58, okB (yO 58) (yC 58) ce = true := List.all_eq_true.mp (by decide +kernel)
/-- ShapeDuel$Showing.countWays()I -/
def cd59 : List CE := [(0, .aload_n 0, 1, 0, 0, .null, []), (1, .getfield 19, 3, 6, 4, .null, []), (4, .iconst (-1), 1, 0, 0, .int (-1), []), (5, .invokestatic 51, 3, 263, 0, .null, []), (8, .aload_n 0, 1, 0, 0, .null, []), (9, .iconst 0, 1, 0, 0, .int 0, []), (10, .invokevirtual 57, 3, 60, 0, .null, []), (13, .ireturn, 1, 0, 0, .null, [])]
set_option maxRecDepth 100000 in
theorem ck59 : ∀ ce ∈ cd59, okB (yO 59) (yC 59) ce = true := List.all_eq_true.mp (by decide +kernel)
/-- ShapeDuel$Showing.waysFrom(I)I -/
def cd60 : List CE := [(0, .iload_n 1, 1, 0, 0, .null, []), (1, .aload_n 0, 1, 0, 0, .null, []), (2, .getfield 15, 3, 6, 3, .null, []), (5, .if_icmp .lt 5, 3, 10, 0, .null, []), (8, .iconst 1, 1, 0, 0, .int 1, []), (9, .ireturn, 1, 0, 0, .null, []), (10, .iload_n 1, 1, 0, 0, .null, []), (11, .bipush 6, 2, 0, 0, .int 6, []), (13, .imul, 1, 0, 0, .null, []), (14, .aload_n 0, 1, 0, 0, .null, []), (15, .getfield 22, 3, 6, 0, .null, []), (18, .getfield 61, 3, 0, 2, .null, []), (21, .iconst 0, 1, 0, 0, .int 0, []), (22, .aaload, 1, 0, 0, .null, []), (23, .getfield 65, 3, 7, 1, .null, []), (26, .iadd, 1, 0, 0, .null, []), (27, .bipush 6, 2, 0, 0, .int 6, []), (29, .imul, 1, 0, 0, .null, []), (30, .aload_n 0, 1, 0, 0, .null, []), (31, .getfield 22, 3, 6, 0, .null, []), (34, .getfield 61, 3, 0, 2, .null, []), (37, .iconst 1, 1, 0, 0, .int 1, []), (38, .aaload, 1, 0, 0, .null, []), (39, .getfield 65, 3, 7, 1, .null, []), (42, .iadd, 1, 0, 0, .null, []), (43, .istore_n 2, 1, 0, 0, .null, []), (44, .aload_n 0, 1, 0, 0, .null, []), (45, .getfield 19, 3, 6, 4, .null, []), (48, .iload_n 2, 1, 0, 0, .null, []), (49, .iaload, 1, 0, 0, .null, []), (50, .ifCond .lt 10, 3, 60, 0, .null, []), (53, .aload_n 0, 1, 0, 0, .null, []), (54, .getfield 19, 3, 6, 4, .null, []), (57, .iload_n 2, 1, 0, 0, .null, []), (58, .iaload, 1, 0, 0, .null, []), (59, .ireturn, 1, 0, 0, .null, []), (60, .iconst 0, 1, 0, 0, .int 0, []), (61, .istore_n 3, 1, 0, 0, .null, []), (62, .iconst 0, 1, 0, 0, .int 0, []), (63, .istore 4, 2, 0, 0, .null, []), (65, .iload 4, 2, 0, 0, .null, []), (67, .aload_n 0, 1, 0, 0, .null, []), (68, .getfield 32, 3, 6, 1, .null, []), (71, .getfield 70, 3, 9, 3, .null, []), (74, .if_icmp .ge 19, 3, 93, 0, .null, []), (77, .iload_n 3, 1, 0, 0, .null, []), (78, .aload_n 0, 1, 0, 0, .null, []), (79, .iload_n 1, 1, 0, 0, .null, []), (80, .iload 4, 2, 0, 0, .null, []), (82, .invokevirtual 75, 3, 61, 0, .null, []), (85, .iadd, 1, 0, 0, .null, []), (86, .istore_n 3, 1, 0, 0, .null, []), (87, .iinc 4 1, 3, 0, 0, .int 1, []), (90, .goto (-25), 3, 65, 0, .null, []), (93, .aload_n 0, 1, 0, 0, .null, []), (94, .getfield 19, 3, 6, 4, .null, []), (97, .iload_n 2, 1, 0, 0, .null, []), (98, .iload_n 3, 1, 0, 0, .null, []), (99, .iastore, 1, 0, 0, .null, []), (100, .iload_n 3, 1, 0, 0, .null, []), (101, .ireturn, 1, 0, 0, .null, [])]
set_option maxRecDepth 100000 in
theorem ck60 : ∀ ce ∈ cd60, okB (yO 60) (yC 60) ce = true := List.all_eq_true.mp (by decide +kernel)
/-- ShapeDuel$Showing.waysBy(II)I -/
def cd61 : List CE := [(0, .aload_n 0, 1, 0, 0, .null, []), (1, .iload_n 1, 1, 0, 0, .null, []), (2, .invokevirtual 78, 3, 62, 0, .null, []), (5, .istore_n 3, 1, 0, 0, .null, []), (6, .aload_n 0, 1, 0, 0, .null, []), (7, .getfield 32, 3, 6, 1, .null, []), (10, .getfield 81, 3, 9, 5, .null, []), (13, .iload_n 2, 1, 0, 0, .null, []), (14, .iaload, 1, 0, 0, .null, []), (15, .aload_n 0, 1, 0, 0, .null, []), (16, .getfield 9, 3, 6, 2, .null, []), (19, .iload_n 1, 1, 0, 0, .null, []), (20, .iaload, 1, 0, 0, .null, []), (21, .if_icmp .ne 15, 3, 36, 0, .null, []), (24, .aload_n 0, 1, 0, 0, .null, []), (25, .getfield 22, 3, 6, 0, .null, []), (28, .iload_n 3, 1, 0, 0, .null, []), (29, .iload_n 2, 1, 0, 0, .null, []), (30, .invokevirtual 84, 3, 6, 0, .null, []), (33, .goto 4, 3, 37, 0, .null, []), (36, .iconst 0, 1, 0, 0, .int 0, []), (37, .istore 4, 2, 0, 0, .null, []), (39, .iload 4, 2, 0, 0, .null, []), (41, .ifCond .ne 5, 3, 46, 0, .null, []), (44, .iconst 0, 1, 0, 0, .int 0, []), (45, .ireturn, 1, 0, 0, .null, []), (46, .aload_n 0, 1, 0, 0, .null, []), (47, .getfield 22, 3, 6, 0, .null, []), (50, .invokevirtual 87, 3, 4, 0, .null, []), (53, .istore 5, 2, 0, 0, .null, []), (55, .aload_n 0, 1, 0, 0, .null, []), (56, .getfield 22, 3, 6, 0, .null, []), (59, .iload_n 3, 1, 0, 0, .null, []), (60, .iload_n 2, 1, 0, 0, .null, []), (61, .iload 4, 2, 0, 0, .null, []), (63, .invokevirtual 91, 3, 8, 0, .null, []), (66, .aload_n 0, 1, 0, 0, .null, []), (67, .iload_n 1, 1, 0, 0, .null, []), (68, .iconst 1, 1, 0, 0, .int 1, []), (69, .iadd, 1, 0, 0, .null, []), (70, .invokevirtual 57, 3, 60, 0, .null, []), (73, .istore 6, 2, 0, 0, .null, []), (75, .aload_n 0, 1, 0, 0, .null, []), (76, .getfield 22, 3, 6, 0, .null, []), (79, .iload 5, 2, 0, 0, .null, []), (81, .invokevirtual 95, 3, 5, 0, .null, []), (84, .iload 6, 2, 0, 0, .null, []), (86, .ireturn, 1, 0, 0, .null, [])]
set_option maxRecDepth 100000 in
theorem ck61 : ∀ ce ∈ cd61, okB (yO 61) (yC 61) ce = true := List.all_eq_true.mp (by decide +kernel)
/-- ShapeDuel$Showing.whoAt(I)I -/
def cd62 : List CE := [(0, .aload_n 0, 1, 0, 0, .null, []), (1, .getfield 22, 3, 6, 0, .null, []), (4, .invokevirtual 99, 3, 3, 0, .null, []), (7, .iload_n 1, 1, 0, 0, .null, []), (8, .iadd, 1, 0, 0, .null, []), (9, .iconst 1, 1, 0, 0, .int 1, []), (10, .iand, 1, 0, 0, .null, []), (11, .ireturn, 1, 0, 0, .null, [])]
set_option maxRecDepth 100000 in
theorem ck62 : ∀ ce ∈ cd62, okB (yO 62) (yC 62) ce = true := List.all_eq_true.mp (by decide +kernel)
/-- ShapeDuel$Showing.firstWay(LShapeDuel$Strip;)V -/
def cd63 : List CE := [(0, .aload_n 0, 1, 0, 0, .null, []), (1, .getfield 22, 3, 6, 0, .null, []), (4, .invokevirtual 87, 3, 4, 0, .null, []), (7, .istore_n 2, 1, 0, 0, .null, []), (8, .aload_n 1, 1, 0, 0, .null, []), (9, .aload_n 0, 1, 0, 0, .null, []), (10, .getfield 15, 3, 6, 3, .null, []), (13, .iconst 0, 1, 0, 0, .int 0, []), (14, .invokevirtual 102, 3, 72, 0, .null, []), (17, .iconst 0, 1, 0, 0, .int 0, []), (18, .istore_n 3, 1, 0, 0, .null, []), (19, .iload_n 3, 1, 0, 0, .null, []), (20, .aload_n 0, 1, 0, 0, .null, []), (21, .getfield 15, 3, 6, 3, .null, []), (24, .if_icmp .ge 52, 3, 76, 0, .null, []), (27, .aload_n 0, 1, 0, 0, .null, []), (28, .iload_n 3, 1, 0, 0, .null, []), (29, .invokevirtual 106, 3, 64, 0, .null, []), (32, .istore 4, 2, 0, 0, .null, []), (34, .aload_n 1, 1, 0, 0, .null, []), (35, .getfield 42, 3, 8, 0, .null, []), (38, .iload_n 3, 1, 0, 0, .null, []), (39, .iload 4, 2, 0, 0, .null, []), (41, .iastore, 1, 0, 0, .null, []), (42, .aload_n 0, 1, 0, 0, .null, []), (43, .getfield 22, 3, 6, 0, .null, []), (46, .aload_n 0, 1, 0, 0, .null, []), (47, .iload_n 3, 1, 0, 0, .null, []), (48, .invokevirtual 78, 3, 62, 0, .null, []), (51, .iload 4, 2, 0, 0, .null, []), (53, .aload_n 0, 1, 0, 0, .null, []), (54, .getfield 22, 3, 6, 0, .null, []), (57, .aload_n 0, 1, 0, 0, .null, []), (58, .iload_n 3, 1, 0, 0, .null, []), (59, .invokevirtual 78, 3, 62, 0, .null, []), (62, .iload 4, 2, 0, 0, .null, []), (64, .invokevirtual 84, 3, 6, 0, .null, []), (67, .invokevirtual 91, 3, 8, 0, .null, []), (70, .iinc 3 1, 3, 0, 0, .int 1, []), (73, .goto (-54), 3, 19, 0, .null, []), (76, .aload_n 0, 1, 0, 0, .null, []), (77, .getfield 22, 3, 6, 0, .null, []), (80, .iload_n 2, 1, 0, 0, .null, []), (81, .invokevirtual 95, 3, 5, 0, .null, []), (84, .return_, 1, 0, 0, .null, [])]
set_option maxRecDepth 100000 in
theorem ck63 : ∀ ce ∈ cd63, okB (yO 63) (yC 63) ce = true := List.all_eq_true.mp (by decide +kernel)
/-- ShapeDuel$Showing.firstAt(I)I -/
def cd64 : List CE := [(0, .iconst 0, 1, 0, 0, .int 0, []), (1, .istore_n 2, 1, 0, 0, .null, []), (2, .iload_n 2, 1, 0, 0, .null, []), (3, .aload_n 0, 1, 0, 0, .null, []), (4, .getfield 32, 3, 6, 1, .null, []), (7, .getfield 70, 3, 9, 3, .null, []), (10, .if_icmp .ge 20, 3, 30, 0, .null, []), (13, .aload_n 0, 1, 0, 0, .null, []), (14, .iload_n 1, 1, 0, 0, .null, []), (15, .iload_n 2, 1, 0, 0, .null, []), (16, .invokevirtual 75, 3, 61, 0, .null, []), (19, .ifCond .le 5, 3, 24, 0, .null, []), (22, .iload_n 2, 1, 0, 0, .null, []), (23, .ireturn, 1, 0, 0, .null, []), (24, .iinc 2 1, 3, 0, 0, .int 1, []), (27, .goto (-25), 3, 2, 0, .null, []), (30, .iconst 0, 1, 0, 0, .int 0, []), (31, .ireturn, 1, 0, 0, .null, [])]
set_option maxRecDepth 100000 in
theorem ck64 : ∀ ce ∈ cd64, okB (yO 64) (yC 64) ce = true := List.all_eq_true.mp (by decide +kernel)
/-- ShapeDuel$Showing.inAllWays(I)I -/
def cd65 : List CE := [(0, .aload_n 0, 1, 0, 0, .null, []), (1, .invokevirtual 109, 3, 59, 0, .null, []), (4, .ifCond .ne 5, 3, 9, 0, .null, []), (7, .iconst 0, 1, 0, 0, .int 0, []), (8, .ireturn, 1, 0, 0, .null, []), (9, .aload_n 0, 1, 0, 0, .null, []), (10, .getfield 22, 3, 6, 0, .null, []), (13, .getfield 61, 3, 0, 2, .null, []), (16, .iload_n 1, 1, 0, 0, .null, []), (17, .aaload, 1, 0, 0, .null, []), (18, .astore_n 2, 1, 0, 0, .null, []), (19, .aload_n 2, 1, 0, 0, .null, []), (20, .getfield 112, 3, 7, 3, .null, []), (23, .istore_n 3, 1, 0, 0, .null, []), (24, .iconst 0, 1, 0, 0, .int 0, []), (25, .istore 4, 2, 0, 0, .null, []), (27, .iconst 0, 1, 0, 0, .int 0, []), (28, .istore 5, 2, 0, 0, .null, []), (30, .iload 5, 2, 0, 0, .null, []), (32, .aload_n 0, 1, 0, 0, .null, []), (33, .getfield 32, 3, 6, 1, .null, []), (36, .getfield 70, 3, 9, 3, .null, []), (39, .if_icmp .ge 51, 3, 90, 0, .null, []), (42, .aload_n 2, 1, 0, 0, .null, []), (43, .iload_n 3, 1, 0, 0, .null, []), (44, .iconst 1, 1, 0, 0, .int 1, []), (45, .iload 5, 2, 0, 0, .null, []), (47, .ishl, 1, 0, 0, .null, []), (48, .iconst (-1), 1, 0, 0, .int (-1), []), (49, .ixor, 1, 0, 0, .null, []), (50, .iand, 1, 0, 0, .null, []), (51, .putfield 112, 3, 7, 3, .null, []), (54, .iload 4, 2, 0, 0, .null, []), (56, .iload_n 3, 1, 0, 0, .null, []), (57, .iload 5, 2, 0, 0, .null, []), (59, .invokestatic 115, 3, 143, 0, .null, []), (62, .iconst 1, 1, 0, 0, .int 1, []), (63, .if_icmp .ne 17, 3, 80, 0, .null, []), (66, .aload_n 0, 1, 0, 0, .null, []), (67, .invokevirtual 109, 3, 59, 0, .null, []), (70, .ifCond .ne 10, 3, 80, 0, .null, []), (73, .iconst 1, 1, 0, 0, .int 1, []), (74, .iload 5, 2, 0, 0, .null, []), (76, .ishl, 1, 0, 0, .null, []), (77, .goto 4, 3, 81, 0, .null, []), (80, .iconst 0, 1, 0, 0, .int 0, []), (81, .ior, 1, 0, 0, .null, []), (82, .istore 4, 2, 0, 0, .null, []), (84, .iinc 5 1, 3, 0, 0, .int 1, []), (87, .goto (-57), 3, 30, 0, .null, []), (90, .aload_n 2, 1, 0, 0, .null, []), (91, .iload_n 3, 1, 0, 0, .null, []), (92, .putfield 112, 3, 7, 3, .null, []), (95, .iload 4, 2, 0, 0, .null, []), (97, .ireturn, 1, 0, 0, .null, [])]
set_option maxRecDepth 100000 in
theorem ck65 : ∀ ce ∈ cd65, okB (yO 65) (yC 65) ce = true := List.all_eq_true.mp (by decide +kernel)
end
section
/-! the code, by program (wip/whole/gen2.py) -/
/-- ShapeDuel.<init>()V -/
def cd92_0 : List CE := [(0, .aload_n 0, 1, 0, 0, .null, []), (1, .invokespecial 1, 3, 1000, 0, .null, []), (4, .aload_n 0, 1, 0, 0, .null, []), (5, .bipush 6, 2, 0, 0, .int 6, []), (7, .anewarray 9, 3, 17, 0, .null, []), (10, .putfield 11, 3, 10, 0, .null, []), (13, .aload_n 0, 1, 0, 0, .null, []), (14, .iconst 4, 1, 0, 0, .int 4, []), (15, .anewarray 9, 3, 17, 0, .null, []), (18, .putfield 15, 3, 10, 1, .null, []), (21, .aload_n 0, 1, 0, 0, .null, []), (22, .new 18, 3, 9, 0, .null, []), (25, .dup, 1, 0, 0, .null, []), (26, .invokespecial 20, 3, 78, 0, .null, []), (29, .putfield 21, 3, 10, 2, .null, []), (32, .aload_n 0, 1, 0, 0, .null, []), (33, .new 25, 3, 0, 0, .null, []), (36, .dup, 1, 0, 0, .null, []), (37, .aload_n 0, 1, 0, 0, .null, []), (38, .getfield 21, 3, 10, 2, .null, []), (41, .invokespecial 27, 3, 0, 0, .null, []), (44, .putfield 30, 3, 10, 3, .null, []), (47, .aload_n 0, 1, 0, 0, .null, []), (48, .iconst 3, 1, 0, 0, .int 3, []), (49, .anewarray 25, 3, 15, 0, .null, []), (52, .putfield 34, 3, 10, 4, .null, []), (55, .aload_n 0, 1, 0, 0, .null, []), (56, .new 38, 3, 4, 0, .null, []), (59, .dup, 1, 0, 0, .null, []), (60, .invokespecial 40, 3, 36, 0, .null, []), (63, .putfield 41, 3, 10, 5, .null, []), (66, .aload_n 0, 1, 0, 0, .null, []), (67, .new 45, 3, 2, 0, .null, []), (70, .dup, 1, 0, 0, .null, []), (71, .invokespecial 47, 3, 21, 0, .null, []), (74, .putfield 48, 3, 10, 6, .null, []), (77, .aload_n 0, 1, 0, 0, .null, []), (78, .new 52, 3, 5, 0, .null, []), (81, .dup, 1, 0, 0, .null, []), (82, .aload_n 0, 1, 0, 0, .null, []), (83, .getfield 30, 3, 10, 3, .null, []), (86, .aload_n 0, 1, 0, 0, .null, []), (87, .getfield 48, 3, 10, 6, .null, []), (90, .invokespecial 54, 3, 43, 0, .null, []), (93, .putfield 57, 3, 10, 7, .null, []), (96, .aload_n 0, 1, 0, 0, .null, []), (97, .new 61, 3, 1, 0, .null, []), (100, .dup, 1, 0, 0, .null, []), (101, .aload_n 0, 1, 0, 0, .null, []), (102, .getfield 30, 3, 10, 3, .null, []), (105, .aload_n 0, 1, 0, 0, .null, []), (106, .getfield 48, 3, 10, 6, .null, []), (109, .invokespecial 63, 3, 14, 0, .null, []), (112, .putfield 64, 3, 10, 8, .null, []), (115, .aload_n 0, 1, 0, 0, .null, []), (116, .new 68, 3, 6, 0, .null, []), (119, .dup, 1, 0, 0, .null, []), (120, .aload_n 0, 1, 0, 0, .null, []), (121, .getfield 30, 3, 10, 3, .null, []), (124, .invokespecial 70, 3, 57, 0, .null, []), (127, .putfield 73, 3, 10, 9, .null, []), (130, .aload_n 0, 1, 0, 0, .null, []), (131, .new 77, 3, 3, 0, .null, []), (134, .dup, 1, 0, 0, .null, []), (135, .aload_n 0, 1, 0, 0, .null, []), (136, .getfield 21, 3, 10, 2, .null, []), (139, .invokespecial 79, 3, 27, 0, .null, []), (142, .putfield 80, 3, 10, 10, .null, []), (145, .aload_n 0, 1, 0, 0, .null, []), (146, .bipush 6, 2, 0, 0, .int 6, []), (148, .newarray .int, 2, 12, 0, .null, []), (150, .putfield 84, 3, 10, 11, .null, []), (153, .aload_n 0, 1, 0, 0, .null, []), (154, .iconst 0, 1, 0, 0, .int 0, []), (155, .putfield 88, 3, 10, 12, .null, []), (158, .aload_n 0, 1, 0, 0, .null, []), (159, .iconst 0, 1, 0, 0, .int 0, []), (160, .putfield 92, 3, 10, 13, .null, []), (163, .aload_n 0, 1, 0, 0, .null, []), (164, .lconst 0, 1, 0, 0, .long 0, []), (165, .putfield 95, 3, 10, 14, .null, []), (168, .aload_n 0, 1, 0, 0, .null, []), (169, .lconst 1, 1, 0, 0, .long 1, []), (170, .putfield 99, 3, 10, 15, .null, []), (173, .iconst 0, 1, 0, 0, .int 0, []), (174, .istore_n 1, 1, 0, 0, .null, []), (175, .iload_n 1, 1, 0, 0, .null, []), (176, .bipush 6, 2, 0, 0, .int 6, []), (178, .if_icmp .ge 24, 3, 202, 0, .null, []), (181, .aload_n 0, 1, 0, 0, .null, []), (182, .getfield 11, 3, 10, 0, .null, []), (185, .iload_n 1, 1, 0, 0, .null, []), (186, .new 9, 3, 8, 0, .null, []), (189, .dup, 1, 0, 0, .null, []), (190, .bipush 40, 2, 0, 0, .int 40, []), (192, .invokespecial 102, 3, 71, 0, .null, []), (195, .aastore, 1, 0, 0, .null, []), (196, .iinc 1 1, 3, 0, 0, .int 1, []), (199, .goto (-24), 3, 175, 0, .null, []), (202, .iconst 0, 1, 0, 0, .int 0, [])]
set_option maxRecDepth 100000 in
theorem ck92_0 : ∀ ce ∈ cd92_0, okB (yO 92) (yC 92) ce = true := List.all_eq_true.mp (by decide +kernel)
def cd92_1 : List CE := [(203, .istore_n 1, 1, 0, 0, .null, []), (204, .iload_n 1, 1, 0, 0, .null, []), (205, .iconst 4, 1, 0, 0, .int 4, []), (206, .if_icmp .ge 24, 3, 230, 0, .null, []), (209, .aload_n 0, 1, 0, 0, .null, []), (210, .getfield 15, 3, 10, 1, .null, []), (213, .iload_n 1, 1, 0, 0, .null, []), (214, .new 9, 3, 8, 0, .null, []), (217, .dup, 1, 0, 0, .null, []), (218, .bipush 80, 2, 0, 0, .int 80, []), (220, .invokespecial 102, 3, 71, 0, .null, []), (223, .aastore, 1, 0, 0, .null, []), (224, .iinc 1 1, 3, 0, 0, .int 1, []), (227, .goto (-23), 3, 204, 0, .null, []), (230, .iconst 0, 1, 0, 0, .int 0, []), (231, .istore_n 1, 1, 0, 0, .null, []), (232, .iload_n 1, 1, 0, 0, .null, []), (233, .iconst 3, 1, 0, 0, .int 3, []), (234, .if_icmp .ge 26, 3, 260, 0, .null, []), (237, .aload_n 0, 1, 0, 0, .null, []), (238, .getfield 34, 3, 10, 4, .null, []), (241, .iload_n 1, 1, 0, 0, .null, []), (242, .new 25, 3, 0, 0, .null, []), (245, .dup, 1, 0, 0, .null, []), (246, .aload_n 0, 1, 0, 0, .null, []), (247, .getfield 21, 3, 10, 2, .null, []), (250, .invokespecial 27, 3, 0, 0, .null, []), (253, .aastore, 1, 0, 0, .null, []), (254, .iinc 1 1, 3, 0, 0, .int 1, []), (257, .goto (-25), 3, 232, 0, .null, []), (260, .return_, 1, 0, 0, .null, [])]
set_option maxRecDepth 100000 in
theorem ck92_1 : ∀ ce ∈ cd92_1, okB (yO 92) (yC 92) ce = true := List.all_eq_true.mp (by decide +kernel)
def cd92 : List CE := cd92_0 ++ (cd92_1)
theorem ck92 : ∀ ce ∈ cd92, okB (yO 92) (yC 92) ce = true := List.forall_mem_append.mpr ⟨ck92_0, ck92_1⟩
/-- ShapeDuel.row(II)I -/
def cd93 : List CE := [(0, .aload_n 0, 1, 0, 0, .null, []), (1, .aload_n 0, 1, 0, 0, .null, []), (2, .getfield 11, 3, 10, 0, .null, []), (5, .iload_n 1, 1, 0, 0, .null, []), (6, .iload_n 2, 1, 0, 0, .null, []), (7, .iconst 0, 1, 0, 0, .int 0, []), (8, .invokevirtual 105, 3, 150, 0, .null, []), (11, .ireturn, 1, 0, 0, .null, [])]
set_option maxRecDepth 100000 in
theorem ck93 : ∀ ce ∈ cd93, okB (yO 93) (yC 93) ce = true := List.all_eq_true.mp (by decide +kernel)
/-- ShapeDuel.lay(III)I -/
def cd94 : List CE := [(0, .aload_n 0, 1, 0, 0, .null, []), (1, .aload_n 0, 1, 0, 0, .null, []), (2, .getfield 11, 3, 10, 0, .null, []), (5, .iload_n 1, 1, 0, 0, .null, []), (6, .iload_n 2, 1, 0, 0, .null, []), (7, .invokevirtual 109, 3, 152, 0, .null, []), (10, .istore 4, 2, 0, 0, .null, []), (12, .iload 4, 2, 0, 0, .null, []), (14, .ifCond .eq 6, 3, 20, 0, .null, []), (17, .iload 4, 2, 0, 0, .null, []), (19, .ireturn, 1, 0, 0, .null, []), (20, .aload_n 0, 1, 0, 0, .null, []), (21, .aload_n 0, 1, 0, 0, .null, []), (22, .getfield 11, 3, 10, 0, .null, []), (25, .iload_n 1, 1, 0, 0, .null, []), (26, .aaload, 1, 0, 0, .null, []), (27, .getfield 113, 3, 8, 0, .null, []), (30, .iload_n 2, 1, 0, 0, .null, []), (31, .iaload, 1, 0, 0, .null, []), (32, .putfield 92, 3, 10, 13, .null, []), (35, .aload_n 0, 1, 0, 0, .null, []), (36, .getfield 11, 3, 10, 0, .null, []), (39, .iload_n 1, 1, 0, 0, .null, []), (40, .aaload, 1, 0, 0, .null, []), (41, .getfield 113, 3, 8, 0, .null, []), (44, .iload_n 2, 1, 0, 0, .null, []), (45, .iload_n 3, 1, 0, 0, .null, []), (46, .iastore, 1, 0, 0, .null, []), (47, .iconst 1, 1, 0, 0, .int 1, []), (48, .ireturn, 1, 0, 0, .null, [])]
set_option maxRecDepth 100000 in
theorem ck94 : ∀ ce ∈ cd94, okB (yO 94) (yC 94) ce = true := List.all_eq_true.mp (by decide +kernel)
/-- ShapeDuel.at(II)I -/
def cd95 : List CE := [(0, .aload_n 0, 1, 0, 0, .null, []), (1, .aload_n 0, 1, 0, 0, .null, []), (2, .getfield 11, 3, 10, 0, .null, []), (5, .iload_n 1, 1, 0, 0, .null, []), (6, .iload_n 2, 1, 0, 0, .null, []), (7, .invokevirtual 109, 3, 152, 0, .null, []), (10, .istore_n 3, 1, 0, 0, .null, []), (11, .iload_n 3, 1, 0, 0, .null, []), (12, .ifCond .eq 5, 3, 17, 0, .null, []), (15, .iload_n 3, 1, 0, 0, .null, []), (16, .ireturn, 1, 0, 0, .null, []), (17, .aload_n 0, 1, 0, 0, .null, []), (18, .aload_n 0, 1, 0, 0, .null, []), (19, .getfield 11, 3, 10, 0, .null, []), (22, .iload_n 1, 1, 0, 0, .null, []), (23, .aaload, 1, 0, 0, .null, []), (24, .getfield 113, 3, 8, 0, .null, []), (27, .iload_n 2, 1, 0, 0, .null, []), (28, .iaload, 1, 0, 0, .null, []), (29, .invokevirtual 116, 3, 147, 0, .null, []), (32, .ireturn, 1, 0, 0, .null, [])]
set_option maxRecDepth 100000 in
theorem ck95 : ∀ ce ∈ cd95, okB (yO 95) (yC 95) ce = true := List.all_eq_true.mp (by decide +kernel)
/-- ShapeDuel.tear(I)I -/
def cd96 : List CE := [(0, .aload_n 0, 1, 0, 0, .null, []), (1, .aload_n 0, 1, 0, 0, .null, []), (2, .getfield 11, 3, 10, 0, .null, []), (5, .iload_n 1, 1, 0, 0, .null, []), (6, .invokevirtual 120, 3, 151, 0, .null, []), (9, .istore_n 2, 1, 0, 0, .null, []), (10, .iload_n 2, 1, 0, 0, .null, []), (11, .ifCond .eq 5, 3, 16, 0, .null, []), (14, .iload_n 2, 1, 0, 0, .null, []), (15, .ireturn, 1, 0, 0, .null, []), (16, .aload_n 0, 1, 0, 0, .null, []), (17, .getfield 11, 3, 10, 0, .null, []), (20, .iload_n 1, 1, 0, 0, .null, []), (21, .aaload, 1, 0, 0, .null, []), (22, .iconst (-1), 1, 0, 0, .int (-1), []), (23, .putfield 124, 3, 8, 1, .null, []), (26, .iconst 1, 1, 0, 0, .int 1, []), (27, .ireturn, 1, 0, 0, .null, [])]
set_option maxRecDepth 100000 in
theorem ck96 : ∀ ce ∈ cd96, okB (yO 96) (yC 96) ce = true := List.all_eq_true.mp (by decide +kernel)
/-- ShapeDuel.copy(IIIII)I -/
def cd97 : List CE := [(0, .iload_n 1, 1, 0, 0, .null, []), (1, .bipush 6, 2, 0, 0, .int 6, []), (3, .invokestatic 127, 3, 142, 0, .null, []), (6, .ifCond .eq 12, 3, 18, 0, .null, []), (9, .iload_n 3, 1, 0, 0, .null, []), (10, .bipush 6, 2, 0, 0, .int 6, []), (12, .invokestatic 127, 3, 142, 0, .null, []), (15, .ifCond .ne 5, 3, 20, 0, .null, []), (18, .iconst (-1), 1, 0, 0, .int (-1), []), (19, .ireturn, 1, 0, 0, .null, []), (20, .iload 5, 2, 0, 0, .null, []), (22, .ifCond .ge 9, 3, 31, 0, .null, []), (25, .aload_n 0, 1, 0, 0, .null, []), (26, .iconst 5, 1, 0, 0, .int 5, []), (27, .invokevirtual 131, 3, 146, 0, .null, []), (30, .ireturn, 1, 0, 0, .null, []), (31, .aload_n 0, 1, 0, 0, .null, []), (32, .getfield 11, 3, 10, 0, .null, []), (35, .iload_n 1, 1, 0, 0, .null, []), (36, .aaload, 1, 0, 0, .null, []), (37, .getfield 124, 3, 8, 1, .null, []), (40, .ifCond .lt 15, 3, 55, 0, .null, []), (43, .aload_n 0, 1, 0, 0, .null, []), (44, .getfield 11, 3, 10, 0, .null, []), (47, .iload_n 3, 1, 0, 0, .null, []), (48, .aaload, 1, 0, 0, .null, []), (49, .getfield 124, 3, 8, 1, .null, []), (52, .ifCond .ge 9, 3, 61, 0, .null, []), (55, .aload_n 0, 1, 0, 0, .null, []), (56, .iconst 1, 1, 0, 0, .int 1, []), (57, .invokevirtual 131, 3, 146, 0, .null, []), (60, .ireturn, 1, 0, 0, .null, []), (61, .aload_n 0, 1, 0, 0, .null, []), (62, .getfield 11, 3, 10, 0, .null, []), (65, .iload_n 1, 1, 0, 0, .null, []), (66, .aaload, 1, 0, 0, .null, []), (67, .iload_n 2, 1, 0, 0, .null, []), (68, .iload 5, 2, 0, 0, .null, []), (70, .invokevirtual 134, 3, 74, 0, .null, []), (73, .ifCond .eq 19, 3, 92, 0, .null, []), (76, .aload_n 0, 1, 0, 0, .null, []), (77, .getfield 11, 3, 10, 0, .null, []), (80, .iload_n 3, 1, 0, 0, .null, []), (81, .aaload, 1, 0, 0, .null, []), (82, .iload 4, 2, 0, 0, .null, []), (84, .iload 5, 2, 0, 0, .null, []), (86, .invokevirtual 134, 3, 74, 0, .null, []), (89, .ifCond .ne 9, 3, 98, 0, .null, []), (92, .aload_n 0, 1, 0, 0, .null, []), (93, .iconst 2, 1, 0, 0, .int 2, []), (94, .invokevirtual 131, 3, 146, 0, .null, []), (97, .ireturn, 1, 0, 0, .null, []), (98, .aload_n 0, 1, 0, 0, .null, []), (99, .getfield 11, 3, 10, 0, .null, []), (102, .iload_n 1, 1, 0, 0, .null, []), (103, .aaload, 1, 0, 0, .null, []), (104, .getfield 113, 3, 8, 0, .null, []), (107, .iload_n 2, 1, 0, 0, .null, []), (108, .aload_n 0, 1, 0, 0, .null, []), (109, .getfield 11, 3, 10, 0, .null, []), (112, .iload_n 3, 1, 0, 0, .null, []), (113, .aaload, 1, 0, 0, .null, []), (114, .getfield 113, 3, 8, 0, .null, []), (117, .iload 4, 2, 0, 0, .null, []), (119, .iload 5, 2, 0, 0, .null, []), (121, .invokestatic 137, 3, 1001, 0, .null, []), (124, .iconst 1, 1, 0, 0, .int 1, []), (125, .ireturn, 1, 0, 0, .null, [])]
set_option maxRecDepth 100000 in
theorem ck97 : ∀ ce ∈ cd97, okB (yO 97) (yC 97) ce = true := List.all_eq_true.mp (by decide +kernel)
/-- ShapeDuel.mean(I)I -/
def cd98 : List CE := [(0, .aload_n 0, 1, 0, 0, .null, []), (1, .aload_n 0, 1, 0, 0, .null, []), (2, .getfield 11, 3, 10, 0, .null, []), (5, .iload_n 1, 1, 0, 0, .null, []), (6, .invokevirtual 120, 3, 151, 0, .null, []), (9, .istore_n 2, 1, 0, 0, .null, []), (10, .iload_n 2, 1, 0, 0, .null, []), (11, .ifCond .eq 5, 3, 16, 0, .null, []), (14, .iload_n 2, 1, 0, 0, .null, []), (15, .ireturn, 1, 0, 0, .null, []), (16, .aload_n 0, 1, 0, 0, .null, []), (17, .getfield 11, 3, 10, 0, .null, []), (20, .iload_n 1, 1, 0, 0, .null, []), (21, .aaload, 1, 0, 0, .null, []), (22, .getfield 124, 3, 8, 1, .null, []), (25, .ifCond .ne 9, 3, 34, 0, .null, []), (28, .aload_n 0, 1, 0, 0, .null, []), (29, .iconst 4, 1, 0, 0, .int 4, []), (30, .invokevirtual 131, 3, 146, 0, .null, []), (33, .ireturn, 1, 0, 0, .null, []), (34, .aload_n 0, 1, 0, 0, .null, []), (35, .aload_n 0, 1, 0, 0, .null, []), (36, .getfield 11, 3, 10, 0, .null, []), (39, .iload_n 1, 1, 0, 0, .null, []), (40, .aaload, 1, 0, 0, .null, []), (41, .invokevirtual 143, 3, 76, 0, .null, []), (44, .aload_n 0, 1, 0, 0, .null, []), (45, .getfield 11, 3, 10, 0, .null, []), (48, .iload_n 1, 1, 0, 0, .null, []), (49, .aaload, 1, 0, 0, .null, []), (50, .getfield 124, 3, 8, 1, .null, []), (53, .i2l, 1, 0, 0, .null, []), (54, .ldiv, 1, 0, 0, .null, []), (55, .l2i, 1, 0, 0, .null, []), (56, .invokevirtual 116, 3, 147, 0, .null, []), (59, .ireturn, 1, 0, 0, .null, [])]
set_option maxRecDepth 100000 in
theorem ck98 : ∀ ce ∈ cd98, okB (yO 98) (yC 98) ce = true := List.all_eq_true.mp (by decide +kernel)
/-- ShapeDuel.text(II)I -/
def cd99 : List CE := [(0, .aload_n 0, 1, 0, 0, .null, []), (1, .aload_n 0, 1, 0, 0, .null, []), (2, .getfield 15, 3, 10, 1, .null, []), (5, .iload_n 1, 1, 0, 0, .null, []), (6, .iload_n 2, 1, 0, 0, .null, []), (7, .bipush 32, 2, 0, 0, .int 32, []), (9, .invokevirtual 105, 3, 150, 0, .null, []), (12, .ireturn, 1, 0, 0, .null, [])]
set_option maxRecDepth 100000 in
theorem ck99 : ∀ ce ∈ cd99, okB (yO 99) (yC 99) ce = true := List.all_eq_true.mp (by decide +kernel)
/-- ShapeDuel.put(III)I -/
def cd100 : List CE := [(0, .aload_n 0, 1, 0, 0, .null, []), (1, .aload_n 0, 1, 0, 0, .null, []), (2, .getfield 15, 3, 10, 1, .null, []), (5, .iload_n 1, 1, 0, 0, .null, []), (6, .iload_n 2, 1, 0, 0, .null, []), (7, .invokevirtual 109, 3, 152, 0, .null, []), (10, .istore 4, 2, 0, 0, .null, []), (12, .iload 4, 2, 0, 0, .null, []), (14, .ifCond .eq 6, 3, 20, 0, .null, []), (17, .iload 4, 2, 0, 0, .null, []), (19, .ireturn, 1, 0, 0, .null, []), (20, .aload_n 0, 1, 0, 0, .null, []), (21, .getfield 15, 3, 10, 1, .null, []), (24, .iload_n 1, 1, 0, 0, .null, []), (25, .aaload, 1, 0, 0, .null, []), (26, .getfield 113, 3, 8, 0, .null, []), (29, .iload_n 2, 1, 0, 0, .null, []), (30, .iaload, 1, 0, 0, .null, []), (31, .istore 5, 2, 0, 0, .null, []), (33, .aload_n 0, 1, 0, 0, .null, []), (34, .getfield 15, 3, 10, 1, .null, []), (37, .iload_n 1, 1, 0, 0, .null, []), (38, .aaload, 1, 0, 0, .null, []), (39, .getfield 113, 3, 8, 0, .null, []), (42, .iload_n 2, 1, 0, 0, .null, []), (43, .iload_n 3, 1, 0, 0, .null, []), (44, .i2b, 1, 0, 0, .null, []), (45, .iastore, 1, 0, 0, .null, []), (46, .iload 5, 2, 0, 0, .null, []), (48, .sipush 1000, 3, 0, 0, .int 1000, []), (51, .iadd, 1, 0, 0, .null, []), (52, .ireturn, 1, 0, 0, .null, [])]
set_option maxRecDepth 100000 in
theorem ck100 : ∀ ce ∈ cd100, okB (yO 100) (yC 100) ce = true := List.all_eq_true.mp (by decide +kernel)
/-- ShapeDuel.fault(I)I -/
def cd101 : List CE := [(0, .aload_n 0, 1, 0, 0, .null, []), (1, .aload_n 0, 1, 0, 0, .null, []), (2, .getfield 15, 3, 10, 1, .null, []), (5, .iload_n 1, 1, 0, 0, .null, []), (6, .invokevirtual 120, 3, 151, 0, .null, []), (9, .istore_n 2, 1, 0, 0, .null, []), (10, .iload_n 2, 1, 0, 0, .null, []), (11, .ifCond .eq 7, 3, 18, 0, .null, []), (14, .iload_n 2, 1, 0, 0, .null, []), (15, .goto 16, 3, 31, 0, .null, []), (18, .aload_n 0, 1, 0, 0, .null, []), (19, .getfield 41, 3, 10, 5, .null, []), (22, .aload_n 0, 1, 0, 0, .null, []), (23, .getfield 15, 3, 10, 1, .null, []), (26, .iload_n 1, 1, 0, 0, .null, []), (27, .aaload, 1, 0, 0, .null, []), (28, .invokevirtual 147, 3, 37, 0, .null, []), (31, .ireturn, 1, 0, 0, .null, [])]
set_option maxRecDepth 100000 in
theorem ck101 : ∀ ce ∈ cd101, okB (yO 101) (yC 101) ce = true := List.all_eq_true.mp (by decide +kernel)
/-- ShapeDuel.night(I)I -/
def cd102 : List CE := [(0, .aload_n 0, 1, 0, 0, .null, []), (1, .aload_n 0, 1, 0, 0, .null, []), (2, .getfield 15, 3, 10, 1, .null, []), (5, .iload_n 1, 1, 0, 0, .null, []), (6, .invokevirtual 120, 3, 151, 0, .null, []), (9, .istore_n 2, 1, 0, 0, .null, []), (10, .iload_n 2, 1, 0, 0, .null, []), (11, .ifCond .eq 5, 3, 16, 0, .null, []), (14, .iload_n 2, 1, 0, 0, .null, []), (15, .ireturn, 1, 0, 0, .null, []), (16, .aload_n 0, 1, 0, 0, .null, []), (17, .getfield 41, 3, 10, 5, .null, []), (20, .aload_n 0, 1, 0, 0, .null, []), (21, .getfield 15, 3, 10, 1, .null, []), (24, .iload_n 1, 1, 0, 0, .null, []), (25, .aaload, 1, 0, 0, .null, []), (26, .invokevirtual 147, 3, 37, 0, .null, []), (29, .bipush (-9), 2, 0, 0, .int (-9), []), (31, .if_icmp .eq 6, 3, 37, 0, .null, []), (34, .bipush (-4), 2, 0, 0, .int (-4), []), (36, .ireturn, 1, 0, 0, .null, []), (37, .aload_n 0, 1, 0, 0, .null, []), (38, .getfield 21, 3, 10, 2, .null, []), (41, .aload_n 0, 1, 0, 0, .null, []), (42, .getfield 41, 3, 10, 5, .null, []), (45, .getfield 151, 3, 4, 0, .null, []), (48, .invokevirtual 154, 3, 79, 0, .null, []), (51, .aload_n 0, 1, 0, 0, .null, []), (52, .getfield 30, 3, 10, 3, .null, []), (55, .aload_n 0, 1, 0, 0, .null, []), (56, .getfield 41, 3, 10, 5, .null, []), (59, .getfield 157, 3, 4, 1, .null, []), (62, .aload_n 0, 1, 0, 0, .null, []), (63, .getfield 41, 3, 10, 5, .null, []), (66, .getfield 160, 3, 4, 2, .null, []), (69, .invokevirtual 163, 3, 1, 0, .null, []), (72, .iconst 0, 1, 0, 0, .int 0, []), (73, .istore_n 3, 1, 0, 0, .null, []), (74, .iload_n 3, 1, 0, 0, .null, []), (75, .iconst 3, 1, 0, 0, .int 3, []), (76, .if_icmp .ge 19, 3, 95, 0, .null, []), (79, .aload_n 0, 1, 0, 0, .null, []), (80, .getfield 34, 3, 10, 4, .null, []), (83, .iload_n 3, 1, 0, 0, .null, []), (84, .aaload, 1, 0, 0, .null, []), (85, .iconst 0, 1, 0, 0, .int 0, []), (86, .putfield 167, 3, 0, 1, .null, []), (89, .iinc 3 1, 3, 0, 0, .int 1, []), (92, .goto (-18), 3, 74, 0, .null, []), (95, .aload_n 0, 1, 0, 0, .null, []), (96, .getfield 21, 3, 10, 2, .null, []), (99, .getfield 171, 3, 9, 0, .null, []), (102, .ireturn, 1, 0, 0, .null, [])]
set_option maxRecDepth 100000 in
theorem ck102 : ∀ ce ∈ cd102, okB (yO 102) (yC 102) ce = true := List.all_eq_true.mp (by decide +kernel)
/-- ShapeDuel.shape(II)I -/
def cd103 : List CE := [(0, .iload_n 1, 1, 0, 0, .null, []), (1, .aload_n 0, 1, 0, 0, .null, []), (2, .getfield 21, 3, 10, 2, .null, []), (5, .getfield 171, 3, 9, 0, .null, []), (8, .invokestatic 127, 3, 142, 0, .null, []), (11, .ifCond .eq 11, 3, 22, 0, .null, []), (14, .iload_n 2, 1, 0, 0, .null, []), (15, .iconst 4, 1, 0, 0, .int 4, []), (16, .invokestatic 127, 3, 142, 0, .null, []), (19, .ifCond .ne 5, 3, 24, 0, .null, []), (22, .iconst (-1), 1, 0, 0, .int (-1), []), (23, .ireturn, 1, 0, 0, .null, []), (24, .aload_n 0, 1, 0, 0, .null, []), (25, .aload_n 0, 1, 0, 0, .null, []), (26, .getfield 21, 3, 10, 2, .null, []), (29, .iload_n 1, 1, 0, 0, .null, []), (30, .iload_n 2, 1, 0, 0, .null, []), (31, .invokevirtual 174, 3, 85, 0, .null, []), (34, .invokevirtual 116, 3, 147, 0, .null, []), (37, .ireturn, 1, 0, 0, .null, [])]
set_option maxRecDepth 100000 in
theorem ck103 : ∀ ce ∈ cd103, okB (yO 103) (yC 103) ce = true := List.all_eq_true.mp (by decide +kernel)
/-- ShapeDuel.change(II)I -/
def cd104 : List CE := [(0, .iload_n 1, 1, 0, 0, .null, []), (1, .aload_n 0, 1, 0, 0, .null, []), (2, .getfield 21, 3, 10, 2, .null, []), (5, .getfield 178, 3, 9, 3, .null, []), (8, .invokestatic 127, 3, 142, 0, .null, []), (11, .ifCond .eq 11, 3, 22, 0, .null, []), (14, .iload_n 2, 1, 0, 0, .null, []), (15, .iconst 4, 1, 0, 0, .int 4, []), (16, .invokestatic 127, 3, 142, 0, .null, []), (19, .ifCond .ne 5, 3, 24, 0, .null, []), (22, .iconst (-1), 1, 0, 0, .int (-1), []), (23, .ireturn, 1, 0, 0, .null, []), (24, .aload_n 0, 1, 0, 0, .null, []), (25, .aload_n 0, 1, 0, 0, .null, []), (26, .iload_n 1, 1, 0, 0, .null, []), (27, .iload_n 2, 1, 0, 0, .null, []), (28, .invokevirtual 181, 3, 154, 0, .null, []), (31, .invokevirtual 116, 3, 147, 0, .null, []), (34, .ireturn, 1, 0, 0, .null, [])]
set_option maxRecDepth 100000 in
theorem ck104 : ∀ ce ∈ cd104, okB (yO 104) (yC 104) ce = true := List.all_eq_true.mp (by decide +kernel)
/-- ShapeDuel.mark(II)I -/
def cd105 : List CE := [(0, .iload_n 1, 1, 0, 0, .null, []), (1, .aload_n 0, 1, 0, 0, .null, []), (2, .getfield 21, 3, 10, 2, .null, []), (5, .getfield 171, 3, 9, 0, .null, []), (8, .invokestatic 127, 3, 142, 0, .null, []), (11, .ifCond .eq 13, 3, 24, 0, .null, []), (14, .iload_n 2, 1, 0, 0, .null, []), (15, .iconst 1, 1, 0, 0, .int 1, []), (16, .if_icmp .lt 8, 3, 24, 0, .null, []), (19, .iload_n 2, 1, 0, 0, .null, []), (20, .iconst 5, 1, 0, 0, .int 5, []), (21, .if_icmp .le 5, 3, 26, 0, .null, []), (24, .iconst (-1), 1, 0, 0, .int (-1), []), (25, .ireturn, 1, 0, 0, .null, []), (26, .aload_n 0, 1, 0, 0, .null, []), (27, .getfield 21, 3, 10, 2, .null, []), (30, .iload_n 1, 1, 0, 0, .null, []), (31, .iload_n 2, 1, 0, 0, .null, []), (32, .invokevirtual 184, 3, 80, 0, .null, []), (35, .ifCond .ne 9, 3, 44, 0, .null, []), (38, .aload_n 0, 1, 0, 0, .null, []), (39, .iconst 3, 1, 0, 0, .int 3, []), (40, .invokevirtual 131, 3, 146, 0, .null, []), (43, .ireturn, 1, 0, 0, .null, []), (44, .iload_n 2, 1, 0, 0, .null, []), (45, .tableswitch 70 1 4 #[31, 40, 49, 58], 31, 115, 0, .null, [(1, 76), (2, 85), (3, 94), (4, 103)]), (76, .aload_n 0, 1, 0, 0, .null, []), (77, .getfield 21, 3, 10, 2, .null, []), (80, .iload_n 1, 1, 0, 0, .null, []), (81, .invokevirtual 187, 3, 88, 0, .null, []), (84, .ireturn, 1, 0, 0, .null, []), (85, .aload_n 0, 1, 0, 0, .null, []), (86, .getfield 30, 3, 10, 3, .null, []), (89, .iload_n 1, 1, 0, 0, .null, []), (90, .invokevirtual 190, 3, 12, 0, .null, []), (93, .ireturn, 1, 0, 0, .null, []), (94, .aload_n 0, 1, 0, 0, .null, []), (95, .getfield 21, 3, 10, 2, .null, []), (98, .iload_n 1, 1, 0, 0, .null, []), (99, .invokevirtual 193, 3, 86, 0, .null, []), (102, .ireturn, 1, 0, 0, .null, []), (103, .aload_n 0, 1, 0, 0, .null, []), (104, .getfield 21, 3, 10, 2, .null, []), (107, .iload_n 1, 1, 0, 0, .null, []), (108, .invokevirtual 196, 3, 83, 0, .null, []), (111, .invokestatic 199, 3, 261, 0, .null, []), (114, .ireturn, 1, 0, 0, .null, []), (115, .aload_n 0, 1, 0, 0, .null, []), (116, .getfield 21, 3, 10, 2, .null, []), (119, .iload_n 1, 1, 0, 0, .null, []), (120, .invokevirtual 204, 3, 89, 0, .null, []), (123, .ireturn, 1, 0, 0, .null, [])]
set_option maxRecDepth 100000 in
theorem ck105 : ∀ ce ∈ cd105, okB (yO 105) (yC 105) ce = true := List.all_eq_true.mp (by decide +kernel)
/-- ShapeDuel.fighter(II)I -/
def cd106 : List CE := [(0, .aload_n 0, 1, 0, 0, .null, []), (1, .iload_n 1, 1, 0, 0, .null, []), (2, .invokevirtual 207, 3, 145, 0, .null, []), (5, .ifCond .eq 11, 3, 16, 0, .null, []), (8, .iload_n 2, 1, 0, 0, .null, []), (9, .iconst 4, 1, 0, 0, .int 4, []), (10, .invokestatic 127, 3, 142, 0, .null, []), (13, .ifCond .ne 5, 3, 18, 0, .null, []), (16, .iconst (-1), 1, 0, 0, .int (-1), []), (17, .ireturn, 1, 0, 0, .null, []), (18, .aload_n 0, 1, 0, 0, .null, []), (19, .aload_n 0, 1, 0, 0, .null, []), (20, .getfield 30, 3, 10, 3, .null, []), (23, .getfield 211, 3, 0, 2, .null, []), (26, .iload_n 1, 1, 0, 0, .null, []), (27, .aaload, 1, 0, 0, .null, []), (28, .iload_n 2, 1, 0, 0, .null, []), (29, .invokevirtual 215, 3, 68, 0, .null, []), (32, .invokevirtual 116, 3, 147, 0, .null, []), (35, .ireturn, 1, 0, 0, .null, [])]
set_option maxRecDepth 100000 in
theorem ck106 : ∀ ce ∈ cd106, okB (yO 106) (yC 106) ce = true := List.all_eq_true.mp (by decide +kernel)
/-- ShapeDuel.teach(III)I -/
def cd107 : List CE := [(0, .aload_n 0, 1, 0, 0, .null, []), (1, .iload_n 1, 1, 0, 0, .null, []), (2, .invokevirtual 207, 3, 145, 0, .null, []), (5, .ifCond .eq 25, 3, 30, 0, .null, []), (8, .iload_n 2, 1, 0, 0, .null, []), (9, .aload_n 0, 1, 0, 0, .null, []), (10, .getfield 21, 3, 10, 2, .null, []), (13, .getfield 178, 3, 9, 3, .null, []), (16, .invokestatic 127, 3, 142, 0, .null, []), (19, .ifCond .eq 11, 3, 30, 0, .null, []), (22, .iload_n 3, 1, 0, 0, .null, []), (23, .iconst 2, 1, 0, 0, .int 2, []), (24, .invokestatic 127, 3, 142, 0, .null, []), (27, .ifCond .ne 5, 3, 32, 0, .null, []), (30, .iconst (-1), 1, 0, 0, .int (-1), []), (31, .ireturn, 1, 0, 0, .null, []), (32, .aload_n 0, 1, 0, 0, .null, []), (33, .getfield 30, 3, 10, 3, .null, []), (36, .getfield 211, 3, 0, 2, .null, []), (39, .iload_n 1, 1, 0, 0, .null, []), (40, .aaload, 1, 0, 0, .null, []), (41, .astore 4, 2, 0, 0, .null, []), (43, .aload 4, 2, 0, 0, .null, []), (45, .getfield 220, 3, 7, 3, .null, []), (48, .iload_n 2, 1, 0, 0, .null, []), (49, .invokestatic 223, 3, 143, 0, .null, []), (52, .istore 5, 2, 0, 0, .null, []), (54, .aload 4, 2, 0, 0, .null, []), (56, .aload 4, 2, 0, 0, .null, []), (58, .getfield 220, 3, 7, 3, .null, []), (61, .iload_n 2, 1, 0, 0, .null, []), (62, .iload_n 3, 1, 0, 0, .null, []), (63, .invokestatic 226, 3, 144, 0, .null, []), (66, .putfield 220, 3, 7, 3, .null, []), (69, .iload 5, 2, 0, 0, .null, []), (71, .ireturn, 1, 0, 0, .null, [])]
set_option maxRecDepth 100000 in
theorem ck107 : ∀ ce ∈ cd107, okB (yO 107) (yC 107) ce = true := List.all_eq_true.mp (by decide +kernel)
/-- ShapeDuel.fire(II)I -/
def cd108 : List CE := [(0, .aload_n 0, 1, 0, 0, .null, []), (1, .iload_n 1, 1, 0, 0, .null, []), (2, .invokevirtual 207, 3, 145, 0, .null, []), (5, .ifCond .eq 12, 3, 17, 0, .null, []), (8, .iload_n 2, 1, 0, 0, .null, []), (9, .ifCond .lt 8, 3, 17, 0, .null, []), (12, .iload_n 2, 1, 0, 0, .null, []), (13, .iconst 5, 1, 0, 0, .int 5, []), (14, .if_icmp .le 5, 3, 19, 0, .null, []), (17, .iconst (-1), 1, 0, 0, .int (-1), []), (18, .ireturn, 1, 0, 0, .null, []), (19, .aload_n 0, 1, 0, 0, .null, []), (20, .getfield 30, 3, 10, 3, .null, []), (23, .getfield 211, 3, 0, 2, .null, []), (26, .iload_n 1, 1, 0, 0, .null, []), (27, .aaload, 1, 0, 0, .null, []), (28, .getfield 230, 3, 7, 1, .null, []), (31, .istore_n 3, 1, 0, 0, .null, []), (32, .aload_n 0, 1, 0, 0, .null, []), (33, .getfield 30, 3, 10, 3, .null, []), (36, .getfield 211, 3, 0, 2, .null, []), (39, .iload_n 1, 1, 0, 0, .null, []), (40, .aaload, 1, 0, 0, .null, []), (41, .iload_n 2, 1, 0, 0, .null, []), (42, .putfield 230, 3, 7, 1, .null, []), (45, .iload_n 3, 1, 0, 0, .null, []), (46, .ireturn, 1, 0, 0, .null, [])]
set_option maxRecDepth 100000 in
theorem ck108 : ∀ ce ∈ cd108, okB (yO 108) (yC 108) ce = true := List.all_eq_true.mp (by decide +kernel)
/-- ShapeDuel.beat(III)I -/
def cd109 : List CE := [(0, .iload_n 1, 1, 0, 0, .null, []), (1, .aload_n 0, 1, 0, 0, .null, []), (2, .getfield 21, 3, 10, 2, .null, []), (5, .getfield 171, 3, 9, 0, .null, []), (8, .invokestatic 127, 3, 142, 0, .null, []), (11, .ifCond .eq 30, 3, 41, 0, .null, []), (14, .iload_n 2, 1, 0, 0, .null, []), (15, .aload_n 0, 1, 0, 0, .null, []), (16, .getfield 21, 3, 10, 2, .null, []), (19, .getfield 171, 3, 9, 0, .null, []), (22, .invokestatic 127, 3, 142, 0, .null, []), (25, .ifCond .eq 16, 3, 41, 0, .null, []), (28, .iload_n 1, 1, 0, 0, .null, []), (29, .iload_n 2, 1, 0, 0, .null, []), (30, .if_icmp .eq 11, 3, 41, 0, .null, []), (33, .iload_n 3, 1, 0, 0, .null, []), (34, .iconst 2, 1, 0, 0, .int 2, []), (35, .invokestatic 127, 3, 142, 0, .null, []), (38, .ifCond .ne 5, 3, 43, 0, .null, []), (41, .iconst (-1), 1, 0, 0, .int (-1), []), (42, .ireturn, 1, 0, 0, .null, []), (43, .aload_n 0, 1, 0, 0, .null, []), (44, .getfield 21, 3, 10, 2, .null, []), (47, .getfield 233, 3, 9, 2, .null, []), (50, .iload_n 1, 1, 0, 0, .null, []), (51, .iaload, 1, 0, 0, .null, []), (52, .iload_n 2, 1, 0, 0, .null, []), (53, .invokestatic 223, 3, 143, 0, .null, []), (56, .istore 4, 2, 0, 0, .null, []), (58, .aload_n 0, 1, 0, 0, .null, []), (59, .getfield 21, 3, 10, 2, .null, []), (62, .getfield 233, 3, 9, 2, .null, []), (65, .iload_n 1, 1, 0, 0, .null, []), (66, .aload_n 0, 1, 0, 0, .null, []), (67, .getfield 21, 3, 10, 2, .null, []), (70, .getfield 233, 3, 9, 2, .null, []), (73, .iload_n 1, 1, 0, 0, .null, []), (74, .iaload, 1, 0, 0, .null, []), (75, .iload_n 2, 1, 0, 0, .null, []), (76, .iload_n 3, 1, 0, 0, .null, []), (77, .invokestatic 226, 3, 144, 0, .null, []), (80, .iastore, 1, 0, 0, .null, []), (81, .iload 4, 2, 0, 0, .null, []), (83, .ireturn, 1, 0, 0, .null, [])]
set_option maxRecDepth 100000 in
theorem ck109 : ∀ ce ∈ cd109, okB (yO 109) (yC 109) ce = true := List.all_eq_true.mp (by decide +kernel)
/-- ShapeDuel.can(I)I -/
def cd110 : List CE := [(0, .aload_n 0, 1, 0, 0, .null, []), (1, .iload_n 1, 1, 0, 0, .null, []), (2, .invokevirtual 207, 3, 145, 0, .null, []), (5, .ifCond .eq 14, 3, 19, 0, .null, []), (8, .aload_n 0, 1, 0, 0, .null, []), (9, .getfield 30, 3, 10, 3, .null, []), (12, .iload_n 1, 1, 0, 0, .null, []), (13, .invokevirtual 236, 3, 7, 0, .null, []), (16, .goto 4, 3, 20, 0, .null, []), (19, .iconst (-1), 1, 0, 0, .int (-1), []), (20, .ireturn, 1, 0, 0, .null, [])]
set_option maxRecDepth 100000 in
theorem ck110 : ∀ ce ∈ cd110, okB (yO 110) (yC 110) ce = true := List.all_eq_true.mp (by decide +kernel)
/-- ShapeDuel.turn()I -/
def cd111 : List CE := [(0, .aload_n 0, 1, 0, 0, .null, []), (1, .getfield 30, 3, 10, 3, .null, []), (4, .getfield 167, 3, 0, 1, .null, []), (7, .ifCond .ne 6, 3, 13, 0, .null, []), (10, .bipush (-4), 2, 0, 0, .int (-4), []), (12, .ireturn, 1, 0, 0, .null, []), (13, .aload_n 0, 1, 0, 0, .null, []), (14, .getfield 30, 3, 10, 3, .null, []), (17, .invokevirtual 239, 3, 3, 0, .null, []), (20, .istore_n 1, 1, 0, 0, .null, []), (21, .aload_n 0, 1, 0, 0, .null, []), (22, .aload_n 0, 1, 0, 0, .null, []), (23, .getfield 30, 3, 10, 3, .null, []), (26, .iload_n 1, 1, 0, 0, .null, []), (27, .invokevirtual 236, 3, 7, 0, .null, []), (30, .ifCond .ne 7, 3, 37, 0, .null, []), (33, .iconst 1, 1, 0, 0, .int 1, []), (34, .goto 4, 3, 38, 0, .null, []), (37, .iconst 0, 1, 0, 0, .int 0, []), (38, .putfield 92, 3, 10, 13, .null, []), (41, .iload_n 1, 1, 0, 0, .null, []), (42, .ireturn, 1, 0, 0, .null, [])]
set_option maxRecDepth 100000 in
theorem ck111 : ∀ ce ∈ cd111, okB (yO 111) (yC 111) ce = true := List.all_eq_true.mp (by decide +kernel)
/-- ShapeDuel.go(I)I -/
def cd112 : List CE := [(0, .iload_n 1, 1, 0, 0, .null, []), (1, .aload_n 0, 1, 0, 0, .null, []), (2, .getfield 21, 3, 10, 2, .null, []), (5, .getfield 178, 3, 9, 3, .null, []), (8, .invokestatic 127, 3, 142, 0, .null, []), (11, .ifCond .ne 5, 3, 16, 0, .null, []), (14, .iconst (-1), 1, 0, 0, .int (-1), []), (15, .ireturn, 1, 0, 0, .null, []), (16, .aload_n 0, 1, 0, 0, .null, []), (17, .getfield 30, 3, 10, 3, .null, []), (20, .aload_n 0, 1, 0, 0, .null, []), (21, .getfield 30, 3, 10, 3, .null, []), (24, .invokevirtual 239, 3, 3, 0, .null, []), (27, .iload_n 1, 1, 0, 0, .null, []), (28, .invokevirtual 243, 3, 6, 0, .null, []), (31, .istore_n 2, 1, 0, 0, .null, []), (32, .iload_n 2, 1, 0, 0, .null, []), (33, .ifCond .ne 6, 3, 39, 0, .null, []), (36, .bipush (-4), 2, 0, 0, .int (-4), []), (38, .ireturn, 1, 0, 0, .null, []), (39, .aload_n 0, 1, 0, 0, .null, []), (40, .getfield 30, 3, 10, 3, .null, []), (43, .iload_n 1, 1, 0, 0, .null, []), (44, .iload_n 2, 1, 0, 0, .null, []), (45, .invokevirtual 246, 3, 9, 0, .null, []), (48, .ifCond .eq 7, 3, 55, 0, .null, []), (51, .iload_n 2, 1, 0, 0, .null, []), (52, .goto 5, 3, 57, 0, .null, []), (55, .bipush (-2), 2, 0, 0, .int (-2), []), (57, .ireturn, 1, 0, 0, .null, [])]
set_option maxRecDepth 100000 in
theorem ck112 : ∀ ce ∈ cd112, okB (yO 112) (yC 112) ce = true := List.all_eq_true.mp (by decide +kernel)
/-- ShapeDuel.undo(I)I -/
def cd113 : List CE := [(0, .iload_n 1, 1, 0, 0, .null, []), (1, .ifCond .lt 14, 3, 15, 0, .null, []), (4, .iload_n 1, 1, 0, 0, .null, []), (5, .aload_n 0, 1, 0, 0, .null, []), (6, .getfield 30, 3, 10, 3, .null, []), (9, .getfield 249, 3, 0, 5, .null, []), (12, .if_icmp .le 7, 3, 19, 0, .null, []), (15, .iconst (-1), 1, 0, 0, .int (-1), []), (16, .goto 11, 3, 27, 0, .null, []), (19, .aload_n 0, 1, 0, 0, .null, []), (20, .getfield 30, 3, 10, 3, .null, []), (23, .iload_n 1, 1, 0, 0, .null, []), (24, .invokevirtual 250, 3, 10, 0, .null, []), (27, .ireturn, 1, 0, 0, .null, [])]
set_option maxRecDepth 100000 in
theorem ck113 : ∀ ce ∈ cd113, okB (yO 113) (yC 113) ce = true := List.all_eq_true.mp (by decide +kernel)
/-- ShapeDuel.told(I)I -/
def cd114 : List CE := [(0, .iload_n 1, 1, 0, 0, .null, []), (1, .bipush 6, 2, 0, 0, .int 6, []), (3, .invokestatic 127, 3, 142, 0, .null, []), (6, .ifCond .ne 5, 3, 11, 0, .null, []), (9, .iconst (-1), 1, 0, 0, .int (-1), []), (10, .ireturn, 1, 0, 0, .null, []), (11, .aload_n 0, 1, 0, 0, .null, []), (12, .getfield 11, 3, 10, 0, .null, []), (15, .iload_n 1, 1, 0, 0, .null, []), (16, .aaload, 1, 0, 0, .null, []), (17, .aload_n 0, 1, 0, 0, .null, []), (18, .getfield 30, 3, 10, 3, .null, []), (21, .getfield 253, 3, 0, 3, .null, []), (24, .aload_n 0, 1, 0, 0, .null, []), (25, .getfield 30, 3, 10, 3, .null, []), (28, .getfield 249, 3, 0, 5, .null, []), (31, .invokevirtual 256, 3, 73, 0, .null, []), (34, .aload_n 0, 1, 0, 0, .null, []), (35, .getfield 30, 3, 10, 3, .null, []), (38, .getfield 249, 3, 0, 5, .null, []), (41, .ireturn, 1, 0, 0, .null, [])]
set_option maxRecDepth 100000 in
theorem ck114 : ∀ ce ∈ cd114, okB (yO 114) (yC 114) ce = true := List.all_eq_true.mp (by decide +kernel)
/-- ShapeDuel.keep(I)I -/
def cd115 : List CE := [(0, .iload_n 1, 1, 0, 0, .null, []), (1, .iconst 3, 1, 0, 0, .int 3, []), (2, .invokestatic 127, 3, 142, 0, .null, []), (5, .ifCond .ne 5, 3, 10, 0, .null, []), (8, .iconst (-1), 1, 0, 0, .int (-1), []), (9, .ireturn, 1, 0, 0, .null, []), (10, .aload_n 0, 1, 0, 0, .null, []), (11, .getfield 30, 3, 10, 3, .null, []), (14, .getfield 167, 3, 0, 1, .null, []), (17, .ifCond .ne 6, 3, 23, 0, .null, []), (20, .bipush (-4), 2, 0, 0, .int (-4), []), (22, .ireturn, 1, 0, 0, .null, []), (23, .aload_n 0, 1, 0, 0, .null, []), (24, .getfield 34, 3, 10, 4, .null, []), (27, .iload_n 1, 1, 0, 0, .null, []), (28, .aaload, 1, 0, 0, .null, []), (29, .aload_n 0, 1, 0, 0, .null, []), (30, .getfield 30, 3, 10, 3, .null, []), (33, .invokevirtual 260, 3, 2, 0, .null, []), (36, .aload_n 0, 1, 0, 0, .null, []), (37, .getfield 30, 3, 10, 3, .null, []), (40, .getfield 249, 3, 0, 5, .null, []), (43, .ireturn, 1, 0, 0, .null, [])]
set_option maxRecDepth 100000 in
theorem ck115 : ∀ ce ∈ cd115, okB (yO 115) (yC 115) ce = true := List.all_eq_true.mp (by decide +kernel)
/-- ShapeDuel.on(I)I -/
def cd116 : List CE := [(0, .iload_n 1, 1, 0, 0, .null, []), (1, .iconst 3, 1, 0, 0, .int 3, []), (2, .invokestatic 127, 3, 142, 0, .null, []), (5, .ifCond .ne 5, 3, 10, 0, .null, []), (8, .iconst (-1), 1, 0, 0, .int (-1), []), (9, .ireturn, 1, 0, 0, .null, []), (10, .aload_n 0, 1, 0, 0, .null, []), (11, .getfield 34, 3, 10, 4, .null, []), (14, .iload_n 1, 1, 0, 0, .null, []), (15, .aaload, 1, 0, 0, .null, []), (16, .getfield 167, 3, 0, 1, .null, []), (19, .ifCond .ne 9, 3, 28, 0, .null, []), (22, .aload_n 0, 1, 0, 0, .null, []), (23, .iconst 1, 1, 0, 0, .int 1, []), (24, .invokevirtual 131, 3, 146, 0, .null, []), (27, .ireturn, 1, 0, 0, .null, []), (28, .aload_n 0, 1, 0, 0, .null, []), (29, .getfield 30, 3, 10, 3, .null, []), (32, .aload_n 0, 1, 0, 0, .null, []), (33, .getfield 34, 3, 10, 4, .null, []), (36, .iload_n 1, 1, 0, 0, .null, []), (37, .aaload, 1, 0, 0, .null, []), (38, .invokevirtual 260, 3, 2, 0, .null, []), (41, .aload_n 0, 1, 0, 0, .null, []), (42, .getfield 30, 3, 10, 3, .null, []), (45, .getfield 249, 3, 0, 5, .null, []), (48, .ireturn, 1, 0, 0, .null, [])]
set_option maxRecDepth 100000 in
theorem ck116 : ∀ ce ∈ cd116, okB (yO 116) (yC 116) ce = true := List.all_eq_true.mp (by decide +kernel)
/-- ShapeDuel.wins()I -/
def cd117 : List CE := [(0, .aload_n 0, 1, 0, 0, .null, []), (1, .getfield 30, 3, 10, 3, .null, []), (4, .getfield 167, 3, 0, 1, .null, []), (7, .ifCond .ne 6, 3, 13, 0, .null, []), (10, .bipush (-4), 2, 0, 0, .int (-4), []), (12, .ireturn, 1, 0, 0, .null, []), (13, .aload_n 0, 1, 0, 0, .null, []), (14, .aload_n 0, 1, 0, 0, .null, []), (15, .getfield 57, 3, 10, 7, .null, []), (18, .invokevirtual 262, 3, 48, 0, .null, []), (21, .putfield 92, 3, 10, 13, .null, []), (24, .aload_n 0, 1, 0, 0, .null, []), (25, .getfield 92, 3, 10, 13, .null, []), (28, .bipush (-9), 2, 0, 0, .int (-9), []), (30, .if_icmp .ne 7, 3, 37, 0, .null, []), (33, .iconst 0, 1, 0, 0, .int 0, []), (34, .goto 4, 3, 38, 0, .null, []), (37, .iconst 1, 1, 0, 0, .int 1, []), (38, .ireturn, 1, 0, 0, .null, [])]
set_option maxRecDepth 100000 in
theorem ck117 : ∀ ce ∈ cd117, okB (yO 117) (yC 117) ce = true := List.all_eq_true.mp (by decide +kernel)
/-- ShapeDuel.ends()I -/
def cd118 : List CE := [(0, .aload_n 0, 1, 0, 0, .null, []), (1, .getfield 30, 3, 10, 3, .null, []), (4, .getfield 167, 3, 0, 1, .null, []), (7, .ifCond .ne 6, 3, 13, 0, .null, []), (10, .bipush (-4), 2, 0, 0, .int (-4), []), (12, .ireturn, 1, 0, 0, .null, []), (13, .aload_n 0, 1, 0, 0, .null, []), (14, .getfield 57, 3, 10, 7, .null, []), (17, .invokevirtual 265, 3, 44, 0, .null, []), (20, .istore_n 1, 1, 0, 0, .null, []), (21, .aload_n 0, 1, 0, 0, .null, []), (22, .aload_n 0, 1, 0, 0, .null, []), (23, .getfield 30, 3, 10, 3, .null, []), (26, .invokevirtual 239, 3, 3, 0, .null, []), (29, .iload_n 1, 1, 0, 0, .null, []), (30, .iadd, 1, 0, 0, .null, []), (31, .iconst 1, 1, 0, 0, .int 1, []), (32, .iand, 1, 0, 0, .null, []), (33, .putfield 92, 3, 10, 13, .null, []), (36, .iload_n 1, 1, 0, 0, .null, []), (37, .ireturn, 1, 0, 0, .null, [])]
set_option maxRecDepth 100000 in
theorem ck118 : ∀ ce ∈ cd118, okB (yO 118) (yC 118) ce = true := List.all_eq_true.mp (by decide +kernel)
/-- ShapeDuel.line(I)I -/
def cd119 : List CE := [(0, .iload_n 1, 1, 0, 0, .null, []), (1, .bipush 6, 2, 0, 0, .int 6, []), (3, .invokestatic 127, 3, 142, 0, .null, []), (6, .ifCond .ne 5, 3, 11, 0, .null, []), (9, .iconst (-1), 1, 0, 0, .int (-1), []), (10, .ireturn, 1, 0, 0, .null, []), (11, .aload_n 0, 1, 0, 0, .null, []), (12, .getfield 30, 3, 10, 3, .null, []), (15, .getfield 167, 3, 0, 1, .null, []), (18, .ifCond .ne 6, 3, 24, 0, .null, []), (21, .bipush (-4), 2, 0, 0, .int (-4), []), (23, .ireturn, 1, 0, 0, .null, []), (24, .aload_n 0, 1, 0, 0, .null, []), (25, .getfield 57, 3, 10, 7, .null, []), (28, .aload_n 0, 1, 0, 0, .null, []), (29, .getfield 11, 3, 10, 0, .null, []), (32, .iload_n 1, 1, 0, 0, .null, []), (33, .aaload, 1, 0, 0, .null, []), (34, .invokevirtual 268, 3, 49, 0, .null, []), (37, .aload_n 0, 1, 0, 0, .null, []), (38, .getfield 11, 3, 10, 0, .null, []), (41, .iload_n 1, 1, 0, 0, .null, []), (42, .aaload, 1, 0, 0, .null, []), (43, .getfield 124, 3, 8, 1, .null, []), (46, .ireturn, 1, 0, 0, .null, [])]
set_option maxRecDepth 100000 in
theorem ck119 : ∀ ce ∈ cd119, okB (yO 119) (yC 119) ce = true := List.all_eq_true.mp (by decide +kernel)
/-- ShapeDuel.least(I)I -/
def cd120 : List CE := [(0, .aload_n 0, 1, 0, 0, .null, []), (1, .iload_n 1, 1, 0, 0, .null, []), (2, .invokevirtual 207, 3, 145, 0, .null, []), (5, .ifCond .eq 14, 3, 19, 0, .null, []), (8, .aload_n 0, 1, 0, 0, .null, []), (9, .getfield 57, 3, 10, 7, .null, []), (12, .iload_n 1, 1, 0, 0, .null, []), (13, .invokevirtual 272, 3, 52, 0, .null, []), (16, .goto 4, 3, 20, 0, .null, []), (19, .iconst (-1), 1, 0, 0, .int (-1), []), (20, .ireturn, 1, 0, 0, .null, [])]
set_option maxRecDepth 100000 in
theorem ck120 : ∀ ce ∈ cd120, okB (yO 120) (yC 120) ce = true := List.all_eq_true.mp (by decide +kernel)
/-- ShapeDuel.learn(I)I -/
def cd121 : List CE := [(0, .aload_n 0, 1, 0, 0, .null, []), (1, .iload_n 1, 1, 0, 0, .null, []), (2, .invokevirtual 207, 3, 145, 0, .null, []), (5, .ifCond .eq 14, 3, 19, 0, .null, []), (8, .aload_n 0, 1, 0, 0, .null, []), (9, .getfield 57, 3, 10, 7, .null, []), (12, .iload_n 1, 1, 0, 0, .null, []), (13, .invokevirtual 275, 3, 53, 0, .null, []), (16, .goto 4, 3, 20, 0, .null, []), (19, .iconst (-1), 1, 0, 0, .int (-1), []), (20, .ireturn, 1, 0, 0, .null, [])]
set_option maxRecDepth 100000 in
theorem ck121 : ∀ ce ∈ cd121, okB (yO 121) (yC 121) ce = true := List.all_eq_true.mp (by decide +kernel)
/-- ShapeDuel.needs(I)I -/
def cd122 : List CE := [(0, .aload_n 0, 1, 0, 0, .null, []), (1, .iload_n 1, 1, 0, 0, .null, []), (2, .invokevirtual 207, 3, 145, 0, .null, []), (5, .ifCond .eq 14, 3, 19, 0, .null, []), (8, .aload_n 0, 1, 0, 0, .null, []), (9, .getfield 57, 3, 10, 7, .null, []), (12, .iload_n 1, 1, 0, 0, .null, []), (13, .invokevirtual 278, 3, 54, 0, .null, []), (16, .goto 4, 3, 20, 0, .null, []), (19, .iconst (-1), 1, 0, 0, .int (-1), []), (20, .ireturn, 1, 0, 0, .null, [])]
set_option maxRecDepth 100000 in
theorem ck122 : ∀ ce ∈ cd122, okB (yO 122) (yC 122) ce = true := List.all_eq_true.mp (by decide +kernel)
/-- ShapeDuel.lines(I)I -/
def cd123 : List CE := [(0, .iload_n 1, 1, 0, 0, .null, []), (1, .ifCond .lt 9, 3, 10, 0, .null, []), (4, .iload_n 1, 1, 0, 0, .null, []), (5, .bipush 6, 2, 0, 0, .int 6, []), (7, .if_icmp .le 5, 3, 12, 0, .null, []), (10, .iconst (-1), 1, 0, 0, .int (-1), []), (11, .ireturn, 1, 0, 0, .null, []), (12, .aload_n 0, 1, 0, 0, .null, []), (13, .getfield 30, 3, 10, 3, .null, []), (16, .getfield 167, 3, 0, 1, .null, []), (19, .ifCond .ne 6, 3, 25, 0, .null, []), (22, .bipush (-4), 2, 0, 0, .int (-4), []), (24, .ireturn, 1, 0, 0, .null, []), (25, .aload_n 0, 1, 0, 0, .null, []), (26, .getfield 57, 3, 10, 7, .null, []), (29, .iload_n 1, 1, 0, 0, .null, []), (30, .invokevirtual 281, 3, 55, 0, .null, []), (33, .istore_n 2, 1, 0, 0, .null, []), (34, .aload_n 0, 1, 0, 0, .null, []), (35, .aload_n 0, 1, 0, 0, .null, []), (36, .getfield 57, 3, 10, 7, .null, []), (39, .getfield 284, 3, 5, 3, .null, []), (42, .putfield 92, 3, 10, 13, .null, []), (45, .iload_n 2, 1, 0, 0, .null, []), (46, .ireturn, 1, 0, 0, .null, [])]
set_option maxRecDepth 100000 in
theorem ck123 : ∀ ce ∈ cd123, okB (yO 123) (yC 123) ce = true := List.all_eq_true.mp (by decide +kernel)
/-- ShapeDuel.judge(I)I -/
def cd124 : List CE := [(0, .iload_n 1, 1, 0, 0, .null, []), (1, .bipush 6, 2, 0, 0, .int 6, []), (3, .invokestatic 127, 3, 142, 0, .null, []), (6, .ifCond .ne 5, 3, 11, 0, .null, []), (9, .iconst (-1), 1, 0, 0, .int (-1), []), (10, .ireturn, 1, 0, 0, .null, []), (11, .aload_n 0, 1, 0, 0, .null, []), (12, .iload_n 1, 1, 0, 0, .null, []), (13, .bipush 12, 2, 0, 0, .int 12, []), (15, .aload_n 0, 1, 0, 0, .null, []), (16, .getfield 21, 3, 10, 2, .null, []), (19, .getfield 178, 3, 9, 3, .null, []), (22, .invokevirtual 287, 3, 153, 0, .null, []), (25, .istore_n 2, 1, 0, 0, .null, []), (26, .iload_n 2, 1, 0, 0, .null, []), (27, .ifCond .eq 5, 3, 32, 0, .null, []), (30, .iload_n 2, 1, 0, 0, .null, []), (31, .ireturn, 1, 0, 0, .null, []), (32, .aload_n 0, 1, 0, 0, .null, []), (33, .getfield 30, 3, 10, 3, .null, []), (36, .invokevirtual 290, 3, 4, 0, .null, []), (39, .istore_n 3, 1, 0, 0, .null, []), (40, .aload_n 0, 1, 0, 0, .null, []), (41, .getfield 30, 3, 10, 3, .null, []), (44, .aload_n 0, 1, 0, 0, .null, []), (45, .getfield 11, 3, 10, 0, .null, []), (48, .iload_n 1, 1, 0, 0, .null, []), (49, .aaload, 1, 0, 0, .null, []), (50, .invokevirtual 293, 3, 11, 0, .null, []), (53, .istore 4, 2, 0, 0, .null, []), (55, .aload_n 0, 1, 0, 0, .null, []), (56, .getfield 30, 3, 10, 3, .null, []), (59, .invokevirtual 239, 3, 3, 0, .null, []), (62, .iload 4, 2, 0, 0, .null, []), (64, .iadd, 1, 0, 0, .null, []), (65, .iconst 1, 1, 0, 0, .int 1, []), (66, .iand, 1, 0, 0, .null, []), (67, .istore 5, 2, 0, 0, .null, []), (69, .aload_n 0, 1, 0, 0, .null, []), (70, .aload_n 0, 1, 0, 0, .null, []), (71, .getfield 30, 3, 10, 3, .null, []), (74, .iload 5, 2, 0, 0, .null, []), (76, .invokevirtual 236, 3, 7, 0, .null, []), (79, .ifCond .ne 8, 3, 87, 0, .null, []), (82, .iload 5, 2, 0, 0, .null, []), (84, .goto 5, 3, 89, 0, .null, []), (87, .bipush (-9), 2, 0, 0, .int (-9), []), (89, .putfield 92, 3, 10, 13, .null, []), (92, .aload_n 0, 1, 0, 0, .null, []), (93, .getfield 30, 3, 10, 3, .null, []), (96, .iload_n 3, 1, 0, 0, .null, []), (97, .invokevirtual 296, 3, 5, 0, .null, []), (100, .iload 4, 2, 0, 0, .null, []), (102, .ireturn, 1, 0, 0, .null, [])]
set_option maxRecDepth 100000 in
theorem ck124 : ∀ ce ∈ cd124, okB (yO 124) (yC 124) ce = true := List.all_eq_true.mp (by decide +kernel)
/-- ShapeDuel.shown(II)I -/
def cd125 : List CE := [(0, .iload_n 1, 1, 0, 0, .null, []), (1, .bipush 6, 2, 0, 0, .int 6, []), (3, .invokestatic 127, 3, 142, 0, .null, []), (6, .ifCond .eq 12, 3, 18, 0, .null, []), (9, .iload_n 2, 1, 0, 0, .null, []), (10, .bipush 6, 2, 0, 0, .int 6, []), (12, .invokestatic 127, 3, 142, 0, .null, []), (15, .ifCond .ne 5, 3, 20, 0, .null, []), (18, .iconst (-1), 1, 0, 0, .int (-1), []), (19, .ireturn, 1, 0, 0, .null, []), (20, .aload_n 0, 1, 0, 0, .null, []), (21, .iload_n 1, 1, 0, 0, .null, []), (22, .bipush 8, 2, 0, 0, .int 8, []), (24, .aload_n 0, 1, 0, 0, .null, []), (25, .getfield 21, 3, 10, 2, .null, []), (28, .getfield 171, 3, 9, 0, .null, []), (31, .invokevirtual 287, 3, 153, 0, .null, []), (34, .istore_n 3, 1, 0, 0, .null, []), (35, .iload_n 3, 1, 0, 0, .null, []), (36, .ifCond .eq 5, 3, 41, 0, .null, []), (39, .iload_n 3, 1, 0, 0, .null, []), (40, .ireturn, 1, 0, 0, .null, []), (41, .aload_n 0, 1, 0, 0, .null, []), (42, .getfield 73, 3, 10, 9, .null, []), (45, .aload_n 0, 1, 0, 0, .null, []), (46, .getfield 11, 3, 10, 0, .null, []), (49, .iload_n 1, 1, 0, 0, .null, []), (50, .aaload, 1, 0, 0, .null, []), (51, .invokevirtual 299, 3, 58, 0, .null, []), (54, .aload_n 0, 1, 0, 0, .null, []), (55, .getfield 73, 3, 10, 9, .null, []), (58, .invokevirtual 302, 3, 59, 0, .null, []), (61, .istore 4, 2, 0, 0, .null, []), (63, .iload 4, 2, 0, 0, .null, []), (65, .ifCond .le 16, 3, 81, 0, .null, []), (68, .aload_n 0, 1, 0, 0, .null, []), (69, .getfield 73, 3, 10, 9, .null, []), (72, .aload_n 0, 1, 0, 0, .null, []), (73, .getfield 11, 3, 10, 0, .null, []), (76, .iload_n 2, 1, 0, 0, .null, []), (77, .aaload, 1, 0, 0, .null, []), (78, .invokevirtual 305, 3, 63, 0, .null, []), (81, .iload 4, 2, 0, 0, .null, []), (83, .ireturn, 1, 0, 0, .null, [])]
set_option maxRecDepth 100000 in
theorem ck125 : ∀ ce ∈ cd125, okB (yO 125) (yC 125) ce = true := List.all_eq_true.mp (by decide +kernel)
/-- ShapeDuel.must(II)I -/
def cd126 : List CE := [(0, .iload_n 1, 1, 0, 0, .null, []), (1, .iconst 2, 1, 0, 0, .int 2, []), (2, .invokestatic 127, 3, 142, 0, .null, []), (5, .ifCond .eq 12, 3, 17, 0, .null, []), (8, .iload_n 2, 1, 0, 0, .null, []), (9, .bipush 6, 2, 0, 0, .int 6, []), (11, .invokestatic 127, 3, 142, 0, .null, []), (14, .ifCond .ne 5, 3, 19, 0, .null, []), (17, .iconst (-1), 1, 0, 0, .int (-1), []), (18, .ireturn, 1, 0, 0, .null, []), (19, .aload_n 0, 1, 0, 0, .null, []), (20, .iload_n 2, 1, 0, 0, .null, []), (21, .bipush 8, 2, 0, 0, .int 8, []), (23, .aload_n 0, 1, 0, 0, .null, []), (24, .getfield 21, 3, 10, 2, .null, []), (27, .getfield 171, 3, 9, 0, .null, []), (30, .invokevirtual 287, 3, 153, 0, .null, []), (33, .istore_n 3, 1, 0, 0, .null, []), (34, .iload_n 3, 1, 0, 0, .null, []), (35, .ifCond .eq 5, 3, 40, 0, .null, []), (38, .iload_n 3, 1, 0, 0, .null, []), (39, .ireturn, 1, 0, 0, .null, []), (40, .aload_n 0, 1, 0, 0, .null, []), (41, .getfield 73, 3, 10, 9, .null, []), (44, .aload_n 0, 1, 0, 0, .null, []), (45, .getfield 11, 3, 10, 0, .null, []), (48, .iload_n 2, 1, 0, 0, .null, []), (49, .aaload, 1, 0, 0, .null, []), (50, .invokevirtual 299, 3, 58, 0, .null, []), (53, .aload_n 0, 1, 0, 0, .null, []), (54, .getfield 73, 3, 10, 9, .null, []), (57, .iload_n 1, 1, 0, 0, .null, []), (58, .invokevirtual 308, 3, 65, 0, .null, []), (61, .ireturn, 1, 0, 0, .null, [])]
set_option maxRecDepth 100000 in
theorem ck126 : ∀ ce ∈ cd126, okB (yO 126) (yC 126) ce = true := List.all_eq_true.mp (by decide +kernel)
/-- ShapeDuel.odds()I -/
def cd127 : List CE := [(0, .aload_n 0, 1, 0, 0, .null, []), (1, .getfield 30, 3, 10, 3, .null, []), (4, .getfield 167, 3, 0, 1, .null, []), (7, .ifCond .ne 6, 3, 13, 0, .null, []), (10, .bipush (-4), 2, 0, 0, .int (-4), []), (12, .ireturn, 1, 0, 0, .null, []), (13, .aload_n 0, 1, 0, 0, .null, []), (14, .aload_n 0, 1, 0, 0, .null, []), (15, .getfield 64, 3, 10, 8, .null, []), (18, .invokevirtual 311, 3, 15, 0, .null, []), (21, .invokevirtual 314, 3, 148, 0, .null, []), (24, .iconst 1, 1, 0, 0, .int 1, []), (25, .ireturn, 1, 0, 0, .null, [])]
set_option maxRecDepth 100000 in
theorem ck127 : ∀ ce ∈ cd127, okB (yO 127) (yC 127) ce = true := List.all_eq_true.mp (by decide +kernel)
/-- ShapeDuel.hopes()I -/
def cd128 : List CE := [(0, .aload_n 0, 1, 0, 0, .null, []), (1, .getfield 30, 3, 10, 3, .null, []), (4, .getfield 167, 3, 0, 1, .null, []), (7, .ifCond .ne 6, 3, 13, 0, .null, []), (10, .bipush (-4), 2, 0, 0, .int (-4), []), (12, .ireturn, 1, 0, 0, .null, []), (13, .aload_n 0, 1, 0, 0, .null, []), (14, .aload_n 0, 1, 0, 0, .null, []), (15, .getfield 64, 3, 10, 8, .null, []), (18, .invokevirtual 318, 3, 16, 0, .null, []), (21, .invokevirtual 314, 3, 148, 0, .null, []), (24, .aload_n 0, 1, 0, 0, .null, []), (25, .aload_n 0, 1, 0, 0, .null, []), (26, .getfield 64, 3, 10, 8, .null, []), (29, .getfield 321, 3, 1, 4, .null, []), (32, .putfield 92, 3, 10, 13, .null, []), (35, .iconst 1, 1, 0, 0, .int 1, []), (36, .ireturn, 1, 0, 0, .null, [])]
set_option maxRecDepth 100000 in
theorem ck128 : ∀ ce ∈ cd128, okB (yO 128) (yC 128) ce = true := List.all_eq_true.mp (by decide +kernel)
/-- ShapeDuel.lots(II)I -/
def cd129 : List CE := [(0, .iload_n 1, 1, 0, 0, .null, []), (1, .iconst 1, 1, 0, 0, .int 1, []), (2, .if_icmp .lt 23, 3, 25, 0, .null, []), (5, .iload_n 1, 1, 0, 0, .null, []), (6, .bipush 20, 2, 0, 0, .int 20, []), (8, .if_icmp .gt 17, 3, 25, 0, .null, []), (11, .iload_n 2, 1, 0, 0, .null, []), (12, .iconst 1, 1, 0, 0, .int 1, []), (13, .if_icmp .lt 12, 3, 25, 0, .null, []), (16, .iload_n 2, 1, 0, 0, .null, []), (17, .i2l, 1, 0, 0, .null, []), (18, .ldc2_w 324, 3, 0, 0, .long (2147483647), []), (21, .lcmp, 1, 0, 0, .null, []), (22, .ifCond .lt 5, 3, 27, 0, .null, []), (25, .iconst (-1), 1, 0, 0, .int (-1), []), (26, .ireturn, 1, 0, 0, .null, []), (27, .aload_n 0, 1, 0, 0, .null, []), (28, .getfield 30, 3, 10, 3, .null, []), (31, .getfield 167, 3, 0, 1, .null, []), (34, .ifCond .ne 6, 3, 40, 0, .null, []), (37, .bipush (-4), 2, 0, 0, .int (-4), []), (39, .ireturn, 1, 0, 0, .null, []), (40, .aload_n 0, 1, 0, 0, .null, []), (41, .getfield 30, 3, 10, 3, .null, []), (44, .getfield 249, 3, 0, 5, .null, []), (47, .iload_n 1, 1, 0, 0, .null, []), (48, .iadd, 1, 0, 0, .null, []), (49, .bipush 40, 2, 0, 0, .int 40, []), (51, .if_icmp .le 8, 3, 59, 0, .null, []), (54, .bipush (-2), 2, 0, 0, .int (-2), []), (56, .goto 12, 3, 68, 0, .null, []), (59, .aload_n 0, 1, 0, 0, .null, []), (60, .getfield 64, 3, 10, 8, .null, []), (63, .iload_n 1, 1, 0, 0, .null, []), (64, .iload_n 2, 1, 0, 0, .null, []), (65, .invokevirtual 326, 3, 19, 0, .null, []), (68, .ireturn, 1, 0, 0, .null, [])]
set_option maxRecDepth 100000 in
theorem ck129 : ∀ ce ∈ cd129, okB (yO 129) (yC 129) ce = true := List.all_eq_true.mp (by decide +kernel)
/-- ShapeDuel.rings()I -/
def cd130 : List CE := [(0, .aload_n 0, 1, 0, 0, .null, []), (1, .getfield 80, 3, 10, 10, .null, []), (4, .invokevirtual 329, 3, 28, 0, .null, []), (7, .istore_n 1, 1, 0, 0, .null, []), (8, .aload_n 0, 1, 0, 0, .null, []), (9, .aload_n 0, 1, 0, 0, .null, []), (10, .getfield 80, 3, 10, 10, .null, []), (13, .getfield 332, 3, 3, 2, .null, []), (16, .putfield 92, 3, 10, 13, .null, []), (19, .iload_n 1, 1, 0, 0, .null, []), (20, .ireturn, 1, 0, 0, .null, [])]
set_option maxRecDepth 100000 in
theorem ck130 : ∀ ce ∈ cd130, okB (yO 130) (yC 130) ce = true := List.all_eq_true.mp (by decide +kernel)
/-- ShapeDuel.cover()I -/
def cd131 : List CE := [(0, .aload_n 0, 1, 0, 0, .null, []), (1, .getfield 80, 3, 10, 10, .null, []), (4, .invokevirtual 335, 3, 29, 0, .null, []), (7, .istore_n 1, 1, 0, 0, .null, []), (8, .aload_n 0, 1, 0, 0, .null, []), (9, .aload_n 0, 1, 0, 0, .null, []), (10, .getfield 80, 3, 10, 10, .null, []), (13, .getfield 332, 3, 3, 2, .null, []), (16, .putfield 92, 3, 10, 13, .null, []), (19, .iload_n 1, 1, 0, 0, .null, []), (20, .ireturn, 1, 0, 0, .null, [])]
set_option maxRecDepth 100000 in
theorem ck131 : ∀ ce ∈ cd131, okB (yO 131) (yC 131) ce = true := List.all_eq_true.mp (by decide +kernel)
/-- ShapeDuel.alike()I -/
def cd132 : List CE := [(0, .aload_n 0, 1, 0, 0, .null, []), (1, .getfield 80, 3, 10, 10, .null, []), (4, .invokevirtual 338, 3, 31, 0, .null, []), (7, .istore_n 1, 1, 0, 0, .null, []), (8, .aload_n 0, 1, 0, 0, .null, []), (9, .aload_n 0, 1, 0, 0, .null, []), (10, .getfield 80, 3, 10, 10, .null, []), (13, .getfield 332, 3, 3, 2, .null, []), (16, .putfield 92, 3, 10, 13, .null, []), (19, .iload_n 1, 1, 0, 0, .null, []), (20, .ireturn, 1, 0, 0, .null, [])]
set_option maxRecDepth 100000 in
theorem ck132 : ∀ ce ∈ cd132, okB (yO 132) (yC 132) ce = true := List.all_eq_true.mp (by decide +kernel)
/-- ShapeDuel.best()I -/
def cd133 : List CE := [(0, .aload_n 0, 1, 0, 0, .null, []), (1, .getfield 21, 3, 10, 2, .null, []), (4, .getfield 171, 3, 9, 0, .null, []), (7, .ifCond .ne 6, 3, 13, 0, .null, []), (10, .bipush (-9), 2, 0, 0, .int (-9), []), (12, .ireturn, 1, 0, 0, .null, []), (13, .aload_n 0, 1, 0, 0, .null, []), (14, .getfield 80, 3, 10, 10, .null, []), (17, .invokevirtual 341, 3, 35, 0, .null, []), (20, .istore_n 1, 1, 0, 0, .null, []), (21, .aload_n 0, 1, 0, 0, .null, []), (22, .aload_n 0, 1, 0, 0, .null, []), (23, .getfield 21, 3, 10, 2, .null, []), (26, .iload_n 1, 1, 0, 0, .null, []), (27, .invokevirtual 344, 3, 84, 0, .null, []), (30, .putfield 92, 3, 10, 13, .null, []), (33, .iload_n 1, 1, 0, 0, .null, []), (34, .ireturn, 1, 0, 0, .null, [])]
set_option maxRecDepth 100000 in
theorem ck133 : ∀ ce ∈ cd133, okB (yO 133) (yC 133) ce = true := List.all_eq_true.mp (by decide +kernel)
/-- ShapeDuel.asked()I -/
def cd134 : List CE := [(0, .aload_n 0, 1, 0, 0, .null, []), (1, .getfield 92, 3, 10, 13, .null, []), (4, .ireturn, 1, 0, 0, .null, [])]
set_option maxRecDepth 100000 in
theorem ck134 : ∀ ce ∈ cd134, okB (yO 134) (yC 134) ce = true := List.all_eq_true.mp (by decide +kernel)
/-- ShapeDuel.upper()J -/
def cd135 : List CE := [(0, .aload_n 0, 1, 0, 0, .null, []), (1, .getfield 95, 3, 10, 14, .null, []), (4, .lreturn, 1, 0, 0, .null, [])]
set_option maxRecDepth 100000 in
theorem ck135 : ∀ ce ∈ cd135, okB (yO 135) (yC 135) ce = true := List.all_eq_true.mp (by decide +kernel)
/-- ShapeDuel.lower()J -/
def cd136 : List CE := [(0, .aload_n 0, 1, 0, 0, .null, []), (1, .getfield 99, 3, 10, 15, .null, []), (4, .lreturn, 1, 0, 0, .null, [])]
set_option maxRecDepth 100000 in
theorem ck136 : ∀ ce ∈ cd136, okB (yO 136) (yC 136) ce = true := List.all_eq_true.mp (by decide +kernel)
/-- ShapeDuel.count(I)I -/
def cd137 : List CE := [(0, .iload_n 1, 1, 0, 0, .null, []), (1, .tableswitch 140 0 8 #[51, 59, 67, 75, 84, 93, 119, 127, 135], 51, 141, 0, .null, [(0, 52), (1, 60), (2, 68), (3, 76), (4, 85), (5, 94), (6, 120), (7, 128), (8, 136)]), (52, .aload_n 0, 1, 0, 0, .null, []), (53, .getfield 21, 3, 10, 2, .null, []), (56, .getfield 171, 3, 9, 0, .null, []), (59, .ireturn, 1, 0, 0, .null, []), (60, .aload_n 0, 1, 0, 0, .null, []), (61, .getfield 21, 3, 10, 2, .null, []), (64, .getfield 178, 3, 9, 3, .null, []), (67, .ireturn, 1, 0, 0, .null, []), (68, .aload_n 0, 1, 0, 0, .null, []), (69, .getfield 30, 3, 10, 3, .null, []), (72, .getfield 249, 3, 0, 5, .null, []), (75, .ireturn, 1, 0, 0, .null, []), (76, .aload_n 0, 1, 0, 0, .null, []), (77, .getfield 21, 3, 10, 2, .null, []), (80, .iconst 1, 1, 0, 0, .int 1, []), (81, .invokevirtual 347, 3, 90, 0, .null, []), (84, .ireturn, 1, 0, 0, .null, []), (85, .aload_n 0, 1, 0, 0, .null, []), (86, .getfield 21, 3, 10, 2, .null, []), (89, .iconst 2, 1, 0, 0, .int 2, []), (90, .invokevirtual 347, 3, 90, 0, .null, []), (93, .ireturn, 1, 0, 0, .null, []), (94, .aload_n 0, 1, 0, 0, .null, []), (95, .getfield 30, 3, 10, 3, .null, []), (98, .getfield 211, 3, 0, 2, .null, []), (101, .iconst 0, 1, 0, 0, .int 0, []), (102, .aaload, 1, 0, 0, .null, []), (103, .getfield 230, 3, 7, 1, .null, []), (106, .aload_n 0, 1, 0, 0, .null, []), (107, .getfield 30, 3, 10, 3, .null, []), (110, .getfield 211, 3, 0, 2, .null, []), (113, .iconst 1, 1, 0, 0, .int 1, []), (114, .aaload, 1, 0, 0, .null, []), (115, .getfield 230, 3, 7, 1, .null, []), (118, .iadd, 1, 0, 0, .null, []), (119, .ireturn, 1, 0, 0, .null, []), (120, .aload_n 0, 1, 0, 0, .null, []), (121, .getfield 11, 3, 10, 0, .null, []), (124, .invokestatic 350, 3, 155, 0, .null, []), (127, .ireturn, 1, 0, 0, .null, []), (128, .aload_n 0, 1, 0, 0, .null, []), (129, .getfield 15, 3, 10, 1, .null, []), (132, .invokestatic 350, 3, 155, 0, .null, []), (135, .ireturn, 1, 0, 0, .null, []), (136, .aload_n 0, 1, 0, 0, .null, []), (137, .invokevirtual 354, 3, 156, 0, .null, []), (140, .ireturn, 1, 0, 0, .null, []), (141, .iconst (-1), 1, 0, 0, .int (-1), []), (142, .ireturn, 1, 0, 0, .null, [])]
set_option maxRecDepth 100000 in
theorem ck137 : ∀ ce ∈ cd137, okB (yO 137) (yC 137) ce = true := List.all_eq_true.mp (by decide +kernel)
/-- ShapeDuel.finding()I -/
def cd138 : List CE := [(0, .aload_n 0, 1, 0, 0, .null, []), (1, .getfield 88, 3, 10, 12, .null, []), (4, .ireturn, 1, 0, 0, .null, [])]
set_option maxRecDepth 100000 in
theorem ck138 : ∀ ce ∈ cd138, okB (yO 138) (yC 138) ce = true := List.all_eq_true.mp (by decide +kernel)
/-- ShapeDuel.findings(I)I -/
def cd139 : List CE := [(0, .iload_n 1, 1, 0, 0, .null, []), (1, .iconst 1, 1, 0, 0, .int 1, []), (2, .if_icmp .lt 8, 3, 10, 0, .null, []), (5, .iload_n 1, 1, 0, 0, .null, []), (6, .iconst 5, 1, 0, 0, .int 5, []), (7, .if_icmp .le 7, 3, 14, 0, .null, []), (10, .iconst (-1), 1, 0, 0, .int (-1), []), (11, .goto 9, 3, 20, 0, .null, []), (14, .aload_n 0, 1, 0, 0, .null, []), (15, .getfield 84, 3, 10, 11, .null, []), (18, .iload_n 1, 1, 0, 0, .null, []), (19, .iaload, 1, 0, 0, .null, []), (20, .ireturn, 1, 0, 0, .null, [])]
set_option maxRecDepth 100000 in
theorem ck139 : ∀ ce ∈ cd139, okB (yO 139) (yC 139) ce = true := List.all_eq_true.mp (by decide +kernel)
/-- ShapeDuel.digest()J -/
def cd140 : List CE := [(0, .ldc2_w 357, 3, 0, 0, .long (17), []), (3, .lstore_n 1, 1, 0, 0, .null, []), (4, .iconst 0, 1, 0, 0, .int 0, []), (5, .istore_n 3, 1, 0, 0, .null, []), (6, .iload_n 3, 1, 0, 0, .null, []), (7, .bipush 8, 2, 0, 0, .int 8, []), (9, .if_icmp .gt 22, 3, 31, 0, .null, []), (12, .ldc2_w 359, 3, 0, 0, .long (31), []), (15, .lload_n 1, 1, 0, 0, .null, []), (16, .lmul, 1, 0, 0, .null, []), (17, .aload_n 0, 1, 0, 0, .null, []), (18, .iload_n 3, 1, 0, 0, .null, []), (19, .invokevirtual 361, 3, 137, 0, .null, []), (22, .i2l, 1, 0, 0, .null, []), (23, .ladd, 1, 0, 0, .null, []), (24, .lstore_n 1, 1, 0, 0, .null, []), (25, .iinc 3 1, 3, 0, 0, .int 1, []), (28, .goto (-22), 3, 6, 0, .null, []), (31, .aload_n 0, 1, 0, 0, .null, []), (32, .lload_n 1, 1, 0, 0, .null, []), (33, .invokevirtual 364, 3, 141, 0, .null, []), (36, .lstore_n 1, 1, 0, 0, .null, []), (37, .iconst 0, 1, 0, 0, .int 0, []), (38, .istore_n 3, 1, 0, 0, .null, []), (39, .iload_n 3, 1, 0, 0, .null, []), (40, .iconst 3, 1, 0, 0, .int 3, []), (41, .if_icmp .ge 42, 3, 83, 0, .null, []), (44, .ldc2_w 359, 3, 0, 0, .long (31), []), (47, .lload_n 1, 1, 0, 0, .null, []), (48, .lmul, 1, 0, 0, .null, []), (49, .aload_n 0, 1, 0, 0, .null, []), (50, .getfield 34, 3, 10, 4, .null, []), (53, .iload_n 3, 1, 0, 0, .null, []), (54, .aaload, 1, 0, 0, .null, []), (55, .getfield 167, 3, 0, 1, .null, []), (58, .ifCond .eq 15, 3, 73, 0, .null, []), (61, .aload_n 0, 1, 0, 0, .null, []), (62, .getfield 34, 3, 10, 4, .null, []), (65, .iload_n 3, 1, 0, 0, .null, []), (66, .aaload, 1, 0, 0, .null, []), (67, .getfield 249, 3, 0, 5, .null, []), (70, .goto 4, 3, 74, 0, .null, []), (73, .iconst (-1), 1, 0, 0, .int (-1), []), (74, .i2l, 1, 0, 0, .null, []), (75, .ladd, 1, 0, 0, .null, []), (76, .lstore_n 1, 1, 0, 0, .null, []), (77, .iinc 3 1, 3, 0, 0, .int 1, []), (80, .goto (-41), 3, 39, 0, .null, []), (83, .iconst 0, 1, 0, 0, .int 0, []), (84, .istore_n 3, 1, 0, 0, .null, []), (85, .iload_n 3, 1, 0, 0, .null, []), (86, .bipush 6, 2, 0, 0, .int 6, []), (88, .if_icmp .ge 20, 3, 108, 0, .null, []), (91, .aload_n 0, 1, 0, 0, .null, []), (92, .getfield 11, 3, 10, 0, .null, []), (95, .iload_n 3, 1, 0, 0, .null, []), (96, .aaload, 1, 0, 0, .null, []), (97, .lload_n 1, 1, 0, 0, .null, []), (98, .invokevirtual 368, 3, 77, 0, .null, []), (101, .lstore_n 1, 1, 0, 0, .null, []), (102, .iinc 3 1, 3, 0, 0, .int 1, []), (105, .goto (-20), 3, 85, 0, .null, []), (108, .iconst 0, 1, 0, 0, .int 0, []), (109, .istore_n 3, 1, 0, 0, .null, []), (110, .iload_n 3, 1, 0, 0, .null, []), (111, .iconst 4, 1, 0, 0, .int 4, []), (112, .if_icmp .ge 20, 3, 132, 0, .null, []), (115, .aload_n 0, 1, 0, 0, .null, []), (116, .getfield 15, 3, 10, 1, .null, []), (119, .iload_n 3, 1, 0, 0, .null, []), (120, .aaload, 1, 0, 0, .null, []), (121, .lload_n 1, 1, 0, 0, .null, []), (122, .invokevirtual 368, 3, 77, 0, .null, []), (125, .lstore_n 1, 1, 0, 0, .null, []), (126, .iinc 3 1, 3, 0, 0, .int 1, []), (129, .goto (-19), 3, 110, 0, .null, []), (132, .lload_n 1, 1, 0, 0, .null, []), (133, .lreturn, 1, 0, 0, .null, [])]
set_option maxRecDepth 100000 in
theorem ck140 : ∀ ce ∈ cd140, okB (yO 140) (yC 140) ce = true := List.all_eq_true.mp (by decide +kernel)
/-- ShapeDuel.digestNight(J)J -/
def cd141 : List CE := [(0, .lload_n 1, 1, 0, 0, .null, []), (1, .lstore_n 3, 1, 0, 0, .null, []), (2, .iconst 0, 1, 0, 0, .int 0, []), (3, .istore 5, 2, 0, 0, .null, []), (5, .iload 5, 2, 0, 0, .null, []), (7, .aload_n 0, 1, 0, 0, .null, []), (8, .getfield 21, 3, 10, 2, .null, []), (11, .getfield 171, 3, 9, 0, .null, []), (14, .iconst 4, 1, 0, 0, .int 4, []), (15, .imul, 1, 0, 0, .null, []), (16, .if_icmp .ge 32, 3, 48, 0, .null, []), (19, .ldc2_w 359, 3, 0, 0, .long (31), []), (22, .lload_n 3, 1, 0, 0, .null, []), (23, .lmul, 1, 0, 0, .null, []), (24, .aload_n 0, 1, 0, 0, .null, []), (25, .getfield 21, 3, 10, 2, .null, []), (28, .iload 5, 2, 0, 0, .null, []), (30, .iconst 4, 1, 0, 0, .int 4, []), (31, .idiv, 1, 0, 0, .null, []), (32, .iload 5, 2, 0, 0, .null, []), (34, .iconst 4, 1, 0, 0, .int 4, []), (35, .irem, 1, 0, 0, .null, []), (36, .invokevirtual 174, 3, 85, 0, .null, []), (39, .i2l, 1, 0, 0, .null, []), (40, .ladd, 1, 0, 0, .null, []), (41, .lstore_n 3, 1, 0, 0, .null, []), (42, .iinc 5 1, 3, 0, 0, .int 1, []), (45, .goto (-40), 3, 5, 0, .null, []), (48, .iconst 0, 1, 0, 0, .int 0, []), (49, .istore 5, 2, 0, 0, .null, []), (51, .iload 5, 2, 0, 0, .null, []), (53, .aload_n 0, 1, 0, 0, .null, []), (54, .getfield 21, 3, 10, 2, .null, []), (57, .getfield 178, 3, 9, 3, .null, []), (60, .iconst 4, 1, 0, 0, .int 4, []), (61, .imul, 1, 0, 0, .null, []), (62, .if_icmp .ge 29, 3, 91, 0, .null, []), (65, .ldc2_w 359, 3, 0, 0, .long (31), []), (68, .lload_n 3, 1, 0, 0, .null, []), (69, .lmul, 1, 0, 0, .null, []), (70, .aload_n 0, 1, 0, 0, .null, []), (71, .iload 5, 2, 0, 0, .null, []), (73, .iconst 4, 1, 0, 0, .int 4, []), (74, .idiv, 1, 0, 0, .null, []), (75, .iload 5, 2, 0, 0, .null, []), (77, .iconst 4, 1, 0, 0, .int 4, []), (78, .irem, 1, 0, 0, .null, []), (79, .invokevirtual 181, 3, 154, 0, .null, []), (82, .i2l, 1, 0, 0, .null, []), (83, .ladd, 1, 0, 0, .null, []), (84, .lstore_n 3, 1, 0, 0, .null, []), (85, .iinc 5 1, 3, 0, 0, .int 1, []), (88, .goto (-37), 3, 51, 0, .null, []), (91, .aload_n 0, 1, 0, 0, .null, []), (92, .getfield 30, 3, 10, 3, .null, []), (95, .getfield 167, 3, 0, 1, .null, []), (98, .ifCond .eq 46, 3, 144, 0, .null, []), (101, .iconst 0, 1, 0, 0, .int 0, []), (102, .istore 5, 2, 0, 0, .null, []), (104, .iload 5, 2, 0, 0, .null, []), (106, .bipush 8, 2, 0, 0, .int 8, []), (108, .if_icmp .ge 36, 3, 144, 0, .null, []), (111, .ldc2_w 359, 3, 0, 0, .long (31), []), (114, .lload_n 3, 1, 0, 0, .null, []), (115, .lmul, 1, 0, 0, .null, []), (116, .aload_n 0, 1, 0, 0, .null, []), (117, .getfield 30, 3, 10, 3, .null, []), (120, .getfield 211, 3, 0, 2, .null, []), (123, .iload 5, 2, 0, 0, .null, []), (125, .iconst 4, 1, 0, 0, .int 4, []), (126, .idiv, 1, 0, 0, .null, []), (127, .aaload, 1, 0, 0, .null, []), (128, .iload 5, 2, 0, 0, .null, []), (130, .iconst 4, 1, 0, 0, .int 4, []), (131, .irem, 1, 0, 0, .null, []), (132, .invokevirtual 215, 3, 68, 0, .null, []), (135, .i2l, 1, 0, 0, .null, []), (136, .ladd, 1, 0, 0, .null, []), (137, .lstore_n 3, 1, 0, 0, .null, []), (138, .iinc 5 1, 3, 0, 0, .int 1, []), (141, .goto (-37), 3, 104, 0, .null, []), (144, .iconst 0, 1, 0, 0, .int 0, []), (145, .istore 5, 2, 0, 0, .null, []), (147, .iload 5, 2, 0, 0, .null, []), (149, .aload_n 0, 1, 0, 0, .null, []), (150, .getfield 30, 3, 10, 3, .null, []), (153, .getfield 249, 3, 0, 5, .null, []), (156, .if_icmp .ge 27, 3, 183, 0, .null, []), (159, .ldc2_w 359, 3, 0, 0, .long (31), []), (162, .lload_n 3, 1, 0, 0, .null, []), (163, .lmul, 1, 0, 0, .null, []), (164, .aload_n 0, 1, 0, 0, .null, []), (165, .getfield 30, 3, 10, 3, .null, []), (168, .getfield 253, 3, 0, 3, .null, []), (171, .iload 5, 2, 0, 0, .null, []), (173, .iaload, 1, 0, 0, .null, []), (174, .i2l, 1, 0, 0, .null, []), (175, .ladd, 1, 0, 0, .null, []), (176, .lstore_n 3, 1, 0, 0, .null, []), (177, .iinc 5 1, 3, 0, 0, .int 1, []), (180, .goto (-33), 3, 147, 0, .null, []), (183, .lload_n 3, 1, 0, 0, .null, []), (184, .lreturn, 1, 0, 0, .null, [])]
set_option maxRecDepth 100000 in
theorem ck141 : ∀ ce ∈ cd141, okB (yO 141) (yC 141) ce = true := List.all_eq_true.mp (by decide +kernel)
/-- ShapeDuel.within(II)Z -/
def cd142 : List CE := [(0, .iload_n 0, 1, 0, 0, .null, []), (1, .ifCond .lt 12, 3, 13, 0, .null, []), (4, .iload_n 0, 1, 0, 0, .null, []), (5, .iload_n 1, 1, 0, 0, .null, []), (6, .if_icmp .ge 7, 3, 13, 0, .null, []), (9, .iconst 1, 1, 0, 0, .int 1, []), (10, .goto 4, 3, 14, 0, .null, []), (13, .iconst 0, 1, 0, 0, .int 0, []), (14, .ireturn, 1, 0, 0, .null, [])]
set_option maxRecDepth 100000 in
theorem ck142 : ∀ ce ∈ cd142, okB (yO 142) (yC 142) ce = true := List.all_eq_true.mp (by decide +kernel)
/-- ShapeDuel.bit(II)I -/
def cd143 : List CE := [(0, .iload_n 0, 1, 0, 0, .null, []), (1, .iload_n 1, 1, 0, 0, .null, []), (2, .ishr, 1, 0, 0, .null, []), (3, .iconst 1, 1, 0, 0, .int 1, []), (4, .iand, 1, 0, 0, .null, []), (5, .ireturn, 1, 0, 0, .null, [])]
set_option maxRecDepth 100000 in
theorem ck143 : ∀ ce ∈ cd143, okB (yO 143) (yC 143) ce = true := List.all_eq_true.mp (by decide +kernel)
/-- ShapeDuel.withBit(III)I -/
def cd144 : List CE := [(0, .iload_n 2, 1, 0, 0, .null, []), (1, .iconst 1, 1, 0, 0, .int 1, []), (2, .if_icmp .ne 11, 3, 13, 0, .null, []), (5, .iload_n 0, 1, 0, 0, .null, []), (6, .iconst 1, 1, 0, 0, .int 1, []), (7, .iload_n 1, 1, 0, 0, .null, []), (8, .ishl, 1, 0, 0, .null, []), (9, .ior, 1, 0, 0, .null, []), (10, .goto 10, 3, 20, 0, .null, []), (13, .iload_n 0, 1, 0, 0, .null, []), (14, .iconst 1, 1, 0, 0, .int 1, []), (15, .iload_n 1, 1, 0, 0, .null, []), (16, .ishl, 1, 0, 0, .null, []), (17, .iconst (-1), 1, 0, 0, .int (-1), []), (18, .ixor, 1, 0, 0, .null, []), (19, .iand, 1, 0, 0, .null, []), (20, .ireturn, 1, 0, 0, .null, [])]
set_option maxRecDepth 100000 in
theorem ck144 : ∀ ce ∈ cd144, okB (yO 144) (yC 144) ce = true := List.all_eq_true.mp (by decide +kernel)
/-- ShapeDuel.isFighter(I)Z -/
def cd145 : List CE := [(0, .aload_n 0, 1, 0, 0, .null, []), (1, .getfield 30, 3, 10, 3, .null, []), (4, .getfield 167, 3, 0, 1, .null, []), (7, .ifCond .eq 15, 3, 22, 0, .null, []), (10, .iload_n 1, 1, 0, 0, .null, []), (11, .iconst 2, 1, 0, 0, .int 2, []), (12, .invokestatic 127, 3, 142, 0, .null, []), (15, .ifCond .eq 7, 3, 22, 0, .null, []), (18, .iconst 1, 1, 0, 0, .int 1, []), (19, .goto 4, 3, 23, 0, .null, []), (22, .iconst 0, 1, 0, 0, .int 0, []), (23, .ireturn, 1, 0, 0, .null, [])]
set_option maxRecDepth 100000 in
theorem ck145 : ∀ ce ∈ cd145, okB (yO 145) (yC 145) ce = true := List.all_eq_true.mp (by decide +kernel)
/-- ShapeDuel.find(I)I -/
def cd146 : List CE := [(0, .aload_n 0, 1, 0, 0, .null, []), (1, .iload_n 1, 1, 0, 0, .null, []), (2, .putfield 88, 3, 10, 12, .null, []), (5, .aload_n 0, 1, 0, 0, .null, []), (6, .getfield 84, 3, 10, 11, .null, []), (9, .iload_n 1, 1, 0, 0, .null, []), (10, .dup2, 1, 0, 0, .null, []), (11, .iaload, 1, 0, 0, .null, []), (12, .iconst 1, 1, 0, 0, .int 1, []), (13, .iadd, 1, 0, 0, .null, []), (14, .iastore, 1, 0, 0, .null, []), (15, .bipush (-3), 2, 0, 0, .int (-3), []), (17, .ireturn, 1, 0, 0, .null, [])]
set_option maxRecDepth 100000 in
theorem ck146 : ∀ ce ∈ cd146, okB (yO 146) (yC 146) ce = true := List.all_eq_true.mp (by decide +kernel)
/-- ShapeDuel.tell(I)I -/
def cd147 : List CE := [(0, .aload_n 0, 1, 0, 0, .null, []), (1, .iload_n 1, 1, 0, 0, .null, []), (2, .putfield 92, 3, 10, 13, .null, []), (5, .iconst 1, 1, 0, 0, .int 1, []), (6, .ireturn, 1, 0, 0, .null, [])]
set_option maxRecDepth 100000 in
theorem ck147 : ∀ ce ∈ cd147, okB (yO 147) (yC 147) ce = true := List.all_eq_true.mp (by decide +kernel)
/-- ShapeDuel.tellChance(J)V -/
def cd148 : List CE := [(0, .lload_n 1, 1, 0, 0, .null, []), (1, .ldc2_w 371, 3, 0, 0, .long (61917364224), []), (4, .invokestatic 373, 3, 149, 0, .null, []), (7, .lstore_n 3, 1, 0, 0, .null, []), (8, .aload_n 0, 1, 0, 0, .null, []), (9, .lload_n 1, 1, 0, 0, .null, []), (10, .lload_n 3, 1, 0, 0, .null, []), (11, .ldiv, 1, 0, 0, .null, []), (12, .putfield 95, 3, 10, 14, .null, []), (15, .aload_n 0, 1, 0, 0, .null, []), (16, .ldc2_w 371, 3, 0, 0, .long (61917364224), []), (19, .lload_n 3, 1, 0, 0, .null, []), (20, .ldiv, 1, 0, 0, .null, []), (21, .putfield 99, 3, 10, 15, .null, []), (24, .return_, 1, 0, 0, .null, [])]
set_option maxRecDepth 100000 in
theorem ck148 : ∀ ce ∈ cd148, okB (yO 148) (yC 148) ce = true := List.all_eq_true.mp (by decide +kernel)
/-- ShapeDuel.greatestShared(JJ)J -/
def cd149 : List CE := [(0, .lload_n 2, 1, 0, 0, .null, []), (1, .lstore 4, 2, 0, 0, .null, []), (3, .lload_n 0, 1, 0, 0, .null, []), (4, .lstore 6, 2, 0, 0, .null, []), (6, .iconst 0, 1, 0, 0, .int 0, []), (7, .istore 8, 2, 0, 0, .null, []), (9, .iload 8, 2, 0, 0, .null, []), (11, .sipush 128, 3, 0, 0, .int 128, []), (14, .if_icmp .ge 31, 3, 45, 0, .null, []), (17, .lload 6, 2, 0, 0, .null, []), (19, .lconst 0, 1, 0, 0, .long 0, []), (20, .lcmp, 1, 0, 0, .null, []), (21, .ifCond .eq 24, 3, 45, 0, .null, []), (24, .lload 4, 2, 0, 0, .null, []), (26, .lload 6, 2, 0, 0, .null, []), (28, .lrem, 1, 0, 0, .null, []), (29, .lstore 9, 2, 0, 0, .null, []), (31, .lload 6, 2, 0, 0, .null, []), (33, .lstore 4, 2, 0, 0, .null, []), (35, .lload 9, 2, 0, 0, .null, []), (37, .lstore 6, 2, 0, 0, .null, []), (39, .iinc 8 1, 3, 0, 0, .int 1, []), (42, .goto (-33), 3, 9, 0, .null, []), (45, .lload 4, 2, 0, 0, .null, []), (47, .lreturn, 1, 0, 0, .null, [])]
set_option maxRecDepth 100000 in
theorem ck149 : ∀ ce ∈ cd149, okB (yO 149) (yC 149) ce = true := List.all_eq_true.mp (by decide +kernel)
/-- ShapeDuel.layAnew([LShapeDuel$Strip;III)I -/
def cd150 : List CE := [(0, .iload_n 2, 1, 0, 0, .null, []), (1, .aload_n 1, 1, 0, 0, .null, []), (2, .arraylength, 1, 0, 0, .null, []), (3, .invokestatic 127, 3, 142, 0, .null, []), (6, .ifCond .eq 14, 3, 20, 0, .null, []), (9, .iload_n 3, 1, 0, 0, .null, []), (10, .aload_n 1, 1, 0, 0, .null, []), (11, .iload_n 2, 1, 0, 0, .null, []), (12, .aaload, 1, 0, 0, .null, []), (13, .getfield 113, 3, 8, 0, .null, []), (16, .arraylength, 1, 0, 0, .null, []), (17, .if_icmp .le 5, 3, 22, 0, .null, []), (20, .iconst (-1), 1, 0, 0, .int (-1), []), (21, .ireturn, 1, 0, 0, .null, []), (22, .iload_n 3, 1, 0, 0, .null, []), (23, .ifCond .ge 9, 3, 32, 0, .null, []), (26, .aload_n 0, 1, 0, 0, .null, []), (27, .iconst 5, 1, 0, 0, .int 5, []), (28, .invokevirtual 131, 3, 146, 0, .null, []), (31, .ireturn, 1, 0, 0, .null, []), (32, .aload_n 1, 1, 0, 0, .null, []), (33, .iload_n 2, 1, 0, 0, .null, []), (34, .aaload, 1, 0, 0, .null, []), (35, .iload_n 3, 1, 0, 0, .null, []), (36, .iload 4, 2, 0, 0, .null, []), (38, .invokevirtual 377, 3, 72, 0, .null, []), (41, .iload_n 3, 1, 0, 0, .null, []), (42, .ireturn, 1, 0, 0, .null, [])]
set_option maxRecDepth 100000 in
theorem ck150 : ∀ ce ∈ cd150, okB (yO 150) (yC 150) ce = true := List.all_eq_true.mp (by decide +kernel)
/-- ShapeDuel.refuseStrip([LShapeDuel$Strip;I)I -/
def cd151 : List CE := [(0, .iload_n 2, 1, 0, 0, .null, []), (1, .aload_n 1, 1, 0, 0, .null, []), (2, .arraylength, 1, 0, 0, .null, []), (3, .invokestatic 127, 3, 142, 0, .null, []), (6, .ifCond .ne 5, 3, 11, 0, .null, []), (9, .iconst (-1), 1, 0, 0, .int (-1), []), (10, .ireturn, 1, 0, 0, .null, []), (11, .aload_n 1, 1, 0, 0, .null, []), (12, .iload_n 2, 1, 0, 0, .null, []), (13, .aaload, 1, 0, 0, .null, []), (14, .getfield 124, 3, 8, 1, .null, []), (17, .ifCond .ge 11, 3, 28, 0, .null, []), (20, .aload_n 0, 1, 0, 0, .null, []), (21, .iconst 1, 1, 0, 0, .int 1, []), (22, .invokevirtual 131, 3, 146, 0, .null, []), (25, .goto 4, 3, 29, 0, .null, []), (28, .iconst 0, 1, 0, 0, .int 0, []), (29, .ireturn, 1, 0, 0, .null, [])]
set_option maxRecDepth 100000 in
theorem ck151 : ∀ ce ∈ cd151, okB (yO 151) (yC 151) ce = true := List.all_eq_true.mp (by decide +kernel)
/-- ShapeDuel.refusePlace([LShapeDuel$Strip;II)I -/
def cd152 : List CE := [(0, .aload_n 0, 1, 0, 0, .null, []), (1, .aload_n 1, 1, 0, 0, .null, []), (2, .iload_n 2, 1, 0, 0, .null, []), (3, .invokevirtual 120, 3, 151, 0, .null, []), (6, .istore 4, 2, 0, 0, .null, []), (8, .iload 4, 2, 0, 0, .null, []), (10, .ifCond .eq 6, 3, 16, 0, .null, []), (13, .iload 4, 2, 0, 0, .null, []), (15, .ireturn, 1, 0, 0, .null, []), (16, .iload_n 3, 1, 0, 0, .null, []), (17, .aload_n 1, 1, 0, 0, .null, []), (18, .iload_n 2, 1, 0, 0, .null, []), (19, .aaload, 1, 0, 0, .null, []), (20, .getfield 124, 3, 8, 1, .null, []), (23, .invokestatic 127, 3, 142, 0, .null, []), (26, .ifCond .eq 7, 3, 33, 0, .null, []), (29, .iconst 0, 1, 0, 0, .int 0, []), (30, .goto 8, 3, 38, 0, .null, []), (33, .aload_n 0, 1, 0, 0, .null, []), (34, .iconst 2, 1, 0, 0, .int 2, []), (35, .invokevirtual 131, 3, 146, 0, .null, []), (38, .ireturn, 1, 0, 0, .null, [])]
set_option maxRecDepth 100000 in
theorem ck152 : ∀ ce ∈ cd152, okB (yO 152) (yC 152) ce = true := List.all_eq_true.mp (by decide +kernel)
/-- ShapeDuel.refuseTold(III)I -/
def cd153 : List CE := [(0, .aload_n 0, 1, 0, 0, .null, []), (1, .getfield 30, 3, 10, 3, .null, []), (4, .getfield 167, 3, 0, 1, .null, []), (7, .ifCond .ne 6, 3, 13, 0, .null, []), (10, .bipush (-4), 2, 0, 0, .int (-4), []), (12, .ireturn, 1, 0, 0, .null, []), (13, .aload_n 0, 1, 0, 0, .null, []), (14, .getfield 11, 3, 10, 0, .null, []), (17, .iload_n 1, 1, 0, 0, .null, []), (18, .aaload, 1, 0, 0, .null, []), (19, .getfield 124, 3, 8, 1, .null, []), (22, .ifCond .ge 9, 3, 31, 0, .null, []), (25, .aload_n 0, 1, 0, 0, .null, []), (26, .iconst 1, 1, 0, 0, .int 1, []), (27, .invokevirtual 131, 3, 146, 0, .null, []), (30, .ireturn, 1, 0, 0, .null, []), (31, .aload_n 0, 1, 0, 0, .null, []), (32, .getfield 11, 3, 10, 0, .null, []), (35, .iload_n 1, 1, 0, 0, .null, []), (36, .aaload, 1, 0, 0, .null, []), (37, .getfield 124, 3, 8, 1, .null, []), (40, .iload_n 2, 1, 0, 0, .null, []), (41, .if_icmp .le 9, 3, 50, 0, .null, []), (44, .aload_n 0, 1, 0, 0, .null, []), (45, .iconst 5, 1, 0, 0, .int 5, []), (46, .invokevirtual 131, 3, 146, 0, .null, []), (49, .ireturn, 1, 0, 0, .null, []), (50, .aload_n 0, 1, 0, 0, .null, []), (51, .getfield 11, 3, 10, 0, .null, []), (54, .iload_n 1, 1, 0, 0, .null, []), (55, .aaload, 1, 0, 0, .null, []), (56, .iload_n 3, 1, 0, 0, .null, []), (57, .invokevirtual 381, 3, 75, 0, .null, []), (60, .ifCond .eq 7, 3, 67, 0, .null, []), (63, .iconst 0, 1, 0, 0, .int 0, []), (64, .goto 8, 3, 72, 0, .null, []), (67, .aload_n 0, 1, 0, 0, .null, []), (68, .iconst 3, 1, 0, 0, .int 3, []), (69, .invokevirtual 131, 3, 146, 0, .null, []), (72, .ireturn, 1, 0, 0, .null, [])]
set_option maxRecDepth 100000 in
theorem ck153 : ∀ ce ∈ cd153, okB (yO 153) (yC 153) ce = true := List.all_eq_true.mp (by decide +kernel)
/-- ShapeDuel.aboutChange(II)I -/
def cd154 : List CE := [(0, .iload_n 2, 1, 0, 0, .null, []), (1, .tableswitch 57 0 2 #[27, 37, 47], 27, 58, 0, .null, [(0, 28), (1, 38), (2, 48)]), (28, .aload_n 0, 1, 0, 0, .null, []), (29, .getfield 21, 3, 10, 2, .null, []), (32, .getfield 384, 3, 9, 4, .null, []), (35, .iload_n 1, 1, 0, 0, .null, []), (36, .iaload, 1, 0, 0, .null, []), (37, .ireturn, 1, 0, 0, .null, []), (38, .aload_n 0, 1, 0, 0, .null, []), (39, .getfield 21, 3, 10, 2, .null, []), (42, .getfield 387, 3, 9, 5, .null, []), (45, .iload_n 1, 1, 0, 0, .null, []), (46, .iaload, 1, 0, 0, .null, []), (47, .ireturn, 1, 0, 0, .null, []), (48, .aload_n 0, 1, 0, 0, .null, []), (49, .getfield 21, 3, 10, 2, .null, []), (52, .getfield 390, 3, 9, 6, .null, []), (55, .iload_n 1, 1, 0, 0, .null, []), (56, .iaload, 1, 0, 0, .null, []), (57, .ireturn, 1, 0, 0, .null, []), (58, .aload_n 0, 1, 0, 0, .null, []), (59, .getfield 30, 3, 10, 3, .null, []), (62, .iload_n 1, 1, 0, 0, .null, []), (63, .invokevirtual 393, 3, 13, 0, .null, []), (66, .ireturn, 1, 0, 0, .null, [])]
set_option maxRecDepth 100000 in
theorem ck154 : ∀ ce ∈ cd154, okB (yO 154) (yC 154) ce = true := List.all_eq_true.mp (by decide +kernel)
/-- ShapeDuel.countThere([LShapeDuel$Strip;)I -/
def cd155 : List CE := [(0, .iconst 0, 1, 0, 0, .int 0, []), (1, .istore_n 1, 1, 0, 0, .null, []), (2, .iconst 0, 1, 0, 0, .int 0, []), (3, .istore_n 2, 1, 0, 0, .null, []), (4, .iload_n 2, 1, 0, 0, .null, []), (5, .aload_n 0, 1, 0, 0, .null, []), (6, .arraylength, 1, 0, 0, .null, []), (7, .if_icmp .ge 26, 3, 33, 0, .null, []), (10, .iload_n 1, 1, 0, 0, .null, []), (11, .aload_n 0, 1, 0, 0, .null, []), (12, .iload_n 2, 1, 0, 0, .null, []), (13, .aaload, 1, 0, 0, .null, []), (14, .getfield 124, 3, 8, 1, .null, []), (17, .ifCond .lt 7, 3, 24, 0, .null, []), (20, .iconst 1, 1, 0, 0, .int 1, []), (21, .goto 4, 3, 25, 0, .null, []), (24, .iconst 0, 1, 0, 0, .int 0, []), (25, .iadd, 1, 0, 0, .null, []), (26, .istore_n 1, 1, 0, 0, .null, []), (27, .iinc 2 1, 3, 0, 0, .int 1, []), (30, .goto (-26), 3, 4, 0, .null, []), (33, .iload_n 1, 1, 0, 0, .null, []), (34, .ireturn, 1, 0, 0, .null, [])]
set_option maxRecDepth 100000 in
theorem ck155 : ∀ ce ∈ cd155, okB (yO 155) (yC 155) ce = true := List.all_eq_true.mp (by decide +kernel)
/-- ShapeDuel.countKept()I -/
def cd156 : List CE := [(0, .iconst 0, 1, 0, 0, .int 0, []), (1, .istore_n 1, 1, 0, 0, .null, []), (2, .iconst 0, 1, 0, 0, .int 0, []), (3, .istore_n 2, 1, 0, 0, .null, []), (4, .iload_n 2, 1, 0, 0, .null, []), (5, .iconst 3, 1, 0, 0, .int 3, []), (6, .if_icmp .ge 29, 3, 35, 0, .null, []), (9, .iload_n 1, 1, 0, 0, .null, []), (10, .aload_n 0, 1, 0, 0, .null, []), (11, .getfield 34, 3, 10, 4, .null, []), (14, .iload_n 2, 1, 0, 0, .null, []), (15, .aaload, 1, 0, 0, .null, []), (16, .getfield 167, 3, 0, 1, .null, []), (19, .ifCond .eq 7, 3, 26, 0, .null, []), (22, .iconst 1, 1, 0, 0, .int 1, []), (23, .goto 4, 3, 27, 0, .null, []), (26, .iconst 0, 1, 0, 0, .int 0, []), (27, .iadd, 1, 0, 0, .null, []), (28, .istore_n 1, 1, 0, 0, .null, []), (29, .iinc 2 1, 3, 0, 0, .int 1, []), (32, .goto (-28), 3, 4, 0, .null, []), (35, .iload_n 1, 1, 0, 0, .null, []), (36, .ireturn, 1, 0, 0, .null, [])]
set_option maxRecDepth 100000 in
theorem ck156 : ∀ ce ∈ cd156, okB (yO 156) (yC 156) ce = true := List.all_eq_true.mp (by decide +kernel)
end
section
/-! the code, by program (wip/whole/gen2.py) -/
/-- ShapeDuelModel.<init>()V -/
def cd157_0 : List CE := [(0, .aload_n 0, 1, 0, 0, .null, []), (1, .invokespecial 1, 3, 1000, 0, .null, []), (4, .aload_n 0, 1, 0, 0, .null, []), (5, .sipush 1156, 3, 0, 0, .int 1156, []), (8, .newarray .int, 2, 12, 0, .null, []), (10, .putfield 7, 3, 11, 0, .null, []), (13, .aload_n 0, 1, 0, 0, .null, []), (14, .iconst 3, 1, 0, 0, .int 3, []), (15, .newarray .boolean, 2, 14, 0, .null, []), (17, .putfield 13, 3, 11, 1, .null, []), (20, .aload_n 0, 1, 0, 0, .null, []), (21, .iconst 5, 1, 0, 0, .int 5, []), (22, .newarray .int, 2, 12, 0, .null, []), (24, .putfield 17, 3, 11, 4, .null, []), (27, .aload_n 0, 1, 0, 0, .null, []), (28, .iconst 5, 1, 0, 0, .int 5, []), (29, .newarray .int, 2, 12, 0, .null, []), (31, .putfield 20, 3, 11, 5, .null, []), (34, .aload_n 0, 1, 0, 0, .null, []), (35, .bipush 12, 2, 0, 0, .int 12, []), (37, .newarray .int, 2, 12, 0, .null, []), (39, .putfield 23, 3, 11, 7, .null, []), (42, .aload_n 0, 1, 0, 0, .null, []), (43, .bipush 12, 2, 0, 0, .int 12, []), (45, .newarray .int, 2, 12, 0, .null, []), (47, .putfield 26, 3, 11, 8, .null, []), (50, .aload_n 0, 1, 0, 0, .null, []), (51, .bipush 12, 2, 0, 0, .int 12, []), (53, .newarray .int, 2, 12, 0, .null, []), (55, .putfield 29, 3, 11, 9, .null, []), (58, .aload_n 0, 1, 0, 0, .null, []), (59, .bipush 6, 2, 0, 0, .int 6, []), (61, .newarray .int, 2, 12, 0, .null, []), (63, .putfield 32, 3, 11, 11, .null, []), (66, .aload_n 0, 1, 0, 0, .null, []), (67, .lconst 1, 1, 0, 0, .long 1, []), (68, .putfield 35, 3, 11, 14, .null, []), (71, .aload_n 0, 1, 0, 0, .null, []), (72, .bipush 6, 2, 0, 0, .int 6, []), (74, .newarray .int, 2, 12, 0, .null, []), (76, .putfield 39, 3, 11, 15, .null, []), (79, .aload_n 0, 1, 0, 0, .null, []), (80, .sipush 240, 3, 0, 0, .int 240, []), (83, .newarray .int, 2, 12, 0, .null, []), (85, .putfield 42, 3, 11, 16, .null, []), (88, .aload_n 0, 1, 0, 0, .null, []), (89, .iconst 4, 1, 0, 0, .int 4, []), (90, .newarray .int, 2, 12, 0, .null, []), (92, .putfield 45, 3, 11, 17, .null, []), (95, .aload_n 0, 1, 0, 0, .null, []), (96, .sipush 320, 3, 0, 0, .int 320, []), (99, .newarray .int, 2, 12, 0, .null, []), (101, .putfield 48, 3, 11, 18, .null, []), (104, .aload_n 0, 1, 0, 0, .null, []), (105, .bipush 40, 2, 0, 0, .int 40, []), (107, .newarray .int, 2, 12, 0, .null, []), (109, .putfield 51, 3, 11, 19, .null, []), (112, .aload_n 0, 1, 0, 0, .null, []), (113, .iconst 5, 1, 0, 0, .int 5, []), (114, .newarray .int, 2, 12, 0, .null, []), (116, .putfield 54, 3, 11, 23, .null, []), (119, .aload_n 0, 1, 0, 0, .null, []), (120, .iconst 5, 1, 0, 0, .int 5, []), (121, .newarray .int, 2, 12, 0, .null, []), (123, .putfield 57, 3, 11, 24, .null, []), (126, .aload_n 0, 1, 0, 0, .null, []), (127, .bipush 12, 2, 0, 0, .int 12, []), (129, .newarray .int, 2, 12, 0, .null, []), (131, .putfield 60, 3, 11, 25, .null, []), (134, .aload_n 0, 1, 0, 0, .null, []), (135, .bipush 12, 2, 0, 0, .int 12, []), (137, .newarray .int, 2, 12, 0, .null, []), (139, .putfield 63, 3, 11, 26, .null, []), (142, .aload_n 0, 1, 0, 0, .null, []), (143, .bipush 12, 2, 0, 0, .int 12, []), (145, .newarray .int, 2, 12, 0, .null, []), (147, .putfield 66, 3, 11, 27, .null, []), (150, .aload_n 0, 1, 0, 0, .null, []), (151, .iconst 4, 1, 0, 0, .int 4, []), (152, .newarray .int, 2, 12, 0, .null, []), (154, .putfield 69, 3, 11, 28, .null, []), (157, .aload_n 0, 1, 0, 0, .null, []), (158, .bipush 78, 2, 0, 0, .int 78, []), (160, .newarray .int, 2, 12, 0, .null, []), (162, .putfield 72, 3, 11, 31, .null, []), (165, .aload_n 0, 1, 0, 0, .null, []), (166, .bipush 13, 2, 0, 0, .int 13, []), (168, .newarray .int, 2, 12, 0, .null, []), (170, .putfield 75, 3, 11, 32, .null, []), (173, .aload_n 0, 1, 0, 0, .null, []), (174, .iconst 2, 1, 0, 0, .int 2, []), (175, .newarray .int, 2, 12, 0, .null, []), (177, .putfield 78, 3, 11, 33, .null, []), (180, .aload_n 0, 1, 0, 0, .null, []), (181, .bipush 13, 2, 0, 0, .int 13, []), (183, .newarray .int, 2, 12, 0, .null, []), (185, .putfield 81, 3, 11, 35, .null, []), (188, .aload_n 0, 1, 0, 0, .null, []), (189, .bipush 13, 2, 0, 0, .int 13, []), (191, .newarray .int, 2, 12, 0, .null, [])]
set_option maxRecDepth 100000 in
theorem ck157_0 : ∀ ce ∈ cd157_0, okB (yO 157) (yC 157) ce = true := List.all_eq_true.mp (by decide +kernel)
def cd157_1 : List CE := [(193, .putfield 84, 3, 11, 36, .null, []), (196, .aload_n 0, 1, 0, 0, .null, []), (197, .bipush 13, 2, 0, 0, .int 13, []), (199, .newarray .int, 2, 12, 0, .null, []), (201, .putfield 87, 3, 11, 37, .null, []), (204, .aload_n 0, 1, 0, 0, .null, []), (205, .bipush 13, 2, 0, 0, .int 13, []), (207, .newarray .int, 2, 12, 0, .null, []), (209, .putfield 90, 3, 11, 38, .null, []), (212, .aload_n 0, 1, 0, 0, .null, []), (213, .bipush 8, 2, 0, 0, .int 8, []), (215, .newarray .int, 2, 12, 0, .null, []), (217, .putfield 93, 3, 11, 40, .null, []), (220, .aload_n 0, 1, 0, 0, .null, []), (221, .iconst 2, 1, 0, 0, .int 2, []), (222, .newarray .int, 2, 12, 0, .null, []), (224, .putfield 96, 3, 11, 41, .null, []), (227, .aload_n 0, 1, 0, 0, .null, []), (228, .bipush 8, 2, 0, 0, .int 8, []), (230, .newarray .int, 2, 12, 0, .null, []), (232, .putfield 99, 3, 11, 42, .null, []), (235, .aload_n 0, 1, 0, 0, .null, []), (236, .bipush 13, 2, 0, 0, .int 13, []), (238, .newarray .long, 2, 13, 0, .null, []), (240, .putfield 102, 3, 11, 43, .null, []), (243, .aload_n 0, 1, 0, 0, .null, []), (244, .bipush 13, 2, 0, 0, .int 13, []), (246, .newarray .long, 2, 13, 0, .null, []), (248, .putfield 106, 3, 11, 44, .null, []), (251, .aload_n 0, 1, 0, 0, .null, []), (252, .bipush 13, 2, 0, 0, .int 13, []), (254, .newarray .int, 2, 12, 0, .null, []), (256, .putfield 109, 3, 11, 45, .null, []), (259, .iconst 0, 1, 0, 0, .int 0, []), (260, .istore_n 1, 1, 0, 0, .null, []), (261, .iload_n 1, 1, 0, 0, .null, []), (262, .bipush 6, 2, 0, 0, .int 6, []), (264, .if_icmp .ge 16, 3, 280, 0, .null, []), (267, .aload_n 0, 1, 0, 0, .null, []), (268, .getfield 39, 3, 11, 15, .null, []), (271, .iload_n 1, 1, 0, 0, .null, []), (272, .iconst (-1), 1, 0, 0, .int (-1), []), (273, .iastore, 1, 0, 0, .null, []), (274, .iinc 1 1, 3, 0, 0, .int 1, []), (277, .goto (-16), 3, 261, 0, .null, []), (280, .iconst 0, 1, 0, 0, .int 0, []), (281, .istore_n 1, 1, 0, 0, .null, []), (282, .iload_n 1, 1, 0, 0, .null, []), (283, .iconst 4, 1, 0, 0, .int 4, []), (284, .if_icmp .ge 16, 3, 300, 0, .null, []), (287, .aload_n 0, 1, 0, 0, .null, []), (288, .getfield 45, 3, 11, 17, .null, []), (291, .iload_n 1, 1, 0, 0, .null, []), (292, .iconst (-1), 1, 0, 0, .int (-1), []), (293, .iastore, 1, 0, 0, .null, []), (294, .iinc 1 1, 3, 0, 0, .int 1, []), (297, .goto (-15), 3, 282, 0, .null, []), (300, .return_, 1, 0, 0, .null, [])]
set_option maxRecDepth 100000 in
theorem ck157_1 : ∀ ce ∈ cd157_1, okB (yO 157) (yC 157) ce = true := List.all_eq_true.mp (by decide +kernel)
def cd157 : List CE := cd157_0 ++ (cd157_1)
theorem ck157 : ∀ ce ∈ cd157, okB (yO 157) (yC 157) ce = true := List.forall_mem_append.mpr ⟨ck157_0, ck157_1⟩
/-- ShapeDuelModel.in(JJJ)Z -/
def cd158 : List CE := [(0, .lload_n 0, 1, 0, 0, .null, []), (1, .lload_n 2, 1, 0, 0, .null, []), (2, .lcmp, 1, 0, 0, .null, []), (3, .ifCond .lt 14, 3, 17, 0, .null, []), (6, .lload_n 0, 1, 0, 0, .null, []), (7, .lload 4, 2, 0, 0, .null, []), (9, .lcmp, 1, 0, 0, .null, []), (10, .ifCond .gt 7, 3, 17, 0, .null, []), (13, .iconst 1, 1, 0, 0, .int 1, []), (14, .goto 4, 3, 18, 0, .null, []), (17, .iconst 0, 1, 0, 0, .int 0, []), (18, .ireturn, 1, 0, 0, .null, [])]
set_option maxRecDepth 100000 in
theorem ck158 : ∀ ce ∈ cd158, okB (yO 158) (yC 158) ce = true := List.all_eq_true.mp (by decide +kernel)
/-- ShapeDuelModel.has(II)Z -/
def cd159 : List CE := [(0, .iload_n 0, 1, 0, 0, .null, []), (1, .iload_n 1, 1, 0, 0, .null, []), (2, .ishr, 1, 0, 0, .null, []), (3, .iconst 1, 1, 0, 0, .int 1, []), (4, .iand, 1, 0, 0, .null, []), (5, .iconst 1, 1, 0, 0, .int 1, []), (6, .if_icmp .ne 7, 3, 13, 0, .null, []), (9, .iconst 1, 1, 0, 0, .int 1, []), (10, .goto 4, 3, 14, 0, .null, []), (13, .iconst 0, 1, 0, 0, .int 0, []), (14, .ireturn, 1, 0, 0, .null, [])]
set_option maxRecDepth 100000 in
theorem ck159 : ∀ ce ∈ cd159, okB (yO 159) (yC 159) ce = true := List.all_eq_true.mp (by decide +kernel)
/-- ShapeDuelModel.ones(I)I -/
def cd160 : List CE := [(0, .iconst 0, 1, 0, 0, .int 0, []), (1, .istore_n 1, 1, 0, 0, .null, []), (2, .iconst 0, 1, 0, 0, .int 0, []), (3, .istore_n 2, 1, 0, 0, .null, []), (4, .iload_n 2, 1, 0, 0, .null, []), (5, .bipush 12, 2, 0, 0, .int 12, []), (7, .if_icmp .ge 17, 3, 24, 0, .null, []), (10, .iload_n 1, 1, 0, 0, .null, []), (11, .iload_n 0, 1, 0, 0, .null, []), (12, .iload_n 2, 1, 0, 0, .null, []), (13, .ishr, 1, 0, 0, .null, []), (14, .iconst 1, 1, 0, 0, .int 1, []), (15, .iand, 1, 0, 0, .null, []), (16, .iadd, 1, 0, 0, .null, []), (17, .istore_n 1, 1, 0, 0, .null, []), (18, .iinc 2 1, 3, 0, 0, .int 1, []), (21, .goto (-17), 3, 4, 0, .null, []), (24, .iload_n 1, 1, 0, 0, .null, []), (25, .ireturn, 1, 0, 0, .null, [])]
set_option maxRecDepth 100000 in
theorem ck160 : ∀ ce ∈ cd160, okB (yO 160) (yC 160) ce = true := List.all_eq_true.mp (by decide +kernel)
/-- ShapeDuelModel.found(I)I -/
def cd161 : List CE := [(0, .aload_n 0, 1, 0, 0, .null, []), (1, .iload_n 1, 1, 0, 0, .null, []), (2, .putfield 112, 3, 11, 10, .null, []), (5, .aload_n 0, 1, 0, 0, .null, []), (6, .getfield 32, 3, 11, 11, .null, []), (9, .iload_n 1, 1, 0, 0, .null, []), (10, .dup2, 1, 0, 0, .null, []), (11, .iaload, 1, 0, 0, .null, []), (12, .iconst 1, 1, 0, 0, .int 1, []), (13, .iadd, 1, 0, 0, .null, []), (14, .iastore, 1, 0, 0, .null, []), (15, .bipush (-3), 2, 0, 0, .int (-3), []), (17, .ireturn, 1, 0, 0, .null, [])]
set_option maxRecDepth 100000 in
theorem ck161 : ∀ ce ∈ cd161, okB (yO 161) (yC 161) ce = true := List.all_eq_true.mp (by decide +kernel)
/-- ShapeDuelModel.says(II)I -/
def cd162 : List CE := [(0, .aload_n 0, 1, 0, 0, .null, []), (1, .iload_n 2, 1, 0, 0, .null, []), (2, .putfield 116, 3, 11, 12, .null, []), (5, .iload_n 1, 1, 0, 0, .null, []), (6, .ireturn, 1, 0, 0, .null, [])]
set_option maxRecDepth 100000 in
theorem ck162 : ∀ ce ∈ cd162, okB (yO 162) (yC 162) ce = true := List.all_eq_true.mp (by decide +kernel)
/-- ShapeDuelModel.isRow(I)Z -/
def cd163 : List CE := [(0, .iload_n 0, 1, 0, 0, .null, []), (1, .i2l, 1, 0, 0, .null, []), (2, .lconst 0, 1, 0, 0, .long 0, []), (3, .ldc2_w 119, 3, 0, 0, .long (5), []), (6, .invokestatic 121, 3, 158, 0, .null, []), (9, .ireturn, 1, 0, 0, .null, [])]
set_option maxRecDepth 100000 in
theorem ck163 : ∀ ce ∈ cd163, okB (yO 163) (yC 163) ce = true := List.all_eq_true.mp (by decide +kernel)
/-- ShapeDuelModel.isText(I)Z -/
def cd164 : List CE := [(0, .iload_n 0, 1, 0, 0, .null, []), (1, .i2l, 1, 0, 0, .null, []), (2, .lconst 0, 1, 0, 0, .long 0, []), (3, .ldc2_w 125, 3, 0, 0, .long (3), []), (6, .invokestatic 121, 3, 158, 0, .null, []), (9, .ireturn, 1, 0, 0, .null, [])]
set_option maxRecDepth 100000 in
theorem ck164 : ∀ ce ∈ cd164, okB (yO 164) (yC 164) ce = true := List.all_eq_true.mp (by decide +kernel)
/-- ShapeDuelModel.anew(II)V -/
def cd165 : List CE := [(0, .aload_n 0, 1, 0, 0, .null, []), (1, .getfield 39, 3, 11, 15, .null, []), (4, .iload_n 1, 1, 0, 0, .null, []), (5, .iload_n 2, 1, 0, 0, .null, []), (6, .iastore, 1, 0, 0, .null, []), (7, .iconst 0, 1, 0, 0, .int 0, []), (8, .istore_n 3, 1, 0, 0, .null, []), (9, .iload_n 3, 1, 0, 0, .null, []), (10, .bipush 40, 2, 0, 0, .int 40, []), (12, .if_icmp .ge 21, 3, 33, 0, .null, []), (15, .aload_n 0, 1, 0, 0, .null, []), (16, .getfield 42, 3, 11, 16, .null, []), (19, .bipush 40, 2, 0, 0, .int 40, []), (21, .iload_n 1, 1, 0, 0, .null, []), (22, .imul, 1, 0, 0, .null, []), (23, .iload_n 3, 1, 0, 0, .null, []), (24, .iadd, 1, 0, 0, .null, []), (25, .iconst 0, 1, 0, 0, .int 0, []), (26, .iastore, 1, 0, 0, .null, []), (27, .iinc 3 1, 3, 0, 0, .int 1, []), (30, .goto (-21), 3, 9, 0, .null, []), (33, .return_, 1, 0, 0, .null, [])]
set_option maxRecDepth 100000 in
theorem ck165 : ∀ ce ∈ cd165, okB (yO 165) (yC 165) ce = true := List.all_eq_true.mp (by decide +kernel)
/-- ShapeDuelModel.row(II)I -/
def cd166 : List CE := [(0, .iload_n 1, 1, 0, 0, .null, []), (1, .invokestatic 127, 3, 163, 0, .null, []), (4, .ifCond .eq 9, 3, 13, 0, .null, []), (7, .iload_n 2, 1, 0, 0, .null, []), (8, .bipush 40, 2, 0, 0, .int 40, []), (10, .if_icmp .le 5, 3, 15, 0, .null, []), (13, .iconst (-1), 1, 0, 0, .int (-1), []), (14, .ireturn, 1, 0, 0, .null, []), (15, .iload_n 2, 1, 0, 0, .null, []), (16, .ifCond .ge 9, 3, 25, 0, .null, []), (19, .aload_n 0, 1, 0, 0, .null, []), (20, .iconst 5, 1, 0, 0, .int 5, []), (21, .invokevirtual 131, 3, 161, 0, .null, []), (24, .ireturn, 1, 0, 0, .null, []), (25, .aload_n 0, 1, 0, 0, .null, []), (26, .iload_n 1, 1, 0, 0, .null, []), (27, .iload_n 2, 1, 0, 0, .null, []), (28, .invokevirtual 135, 3, 165, 0, .null, []), (31, .iload_n 2, 1, 0, 0, .null, []), (32, .ireturn, 1, 0, 0, .null, [])]
set_option maxRecDepth 100000 in
theorem ck166 : ∀ ce ∈ cd166, okB (yO 166) (yC 166) ce = true := List.all_eq_true.mp (by decide +kernel)
/-- ShapeDuelModel.lay(III)I -/
def cd167 : List CE := [(0, .iload_n 1, 1, 0, 0, .null, []), (1, .invokestatic 127, 3, 163, 0, .null, []), (4, .ifCond .ne 5, 3, 9, 0, .null, []), (7, .iconst (-1), 1, 0, 0, .int (-1), []), (8, .ireturn, 1, 0, 0, .null, []), (9, .aload_n 0, 1, 0, 0, .null, []), (10, .getfield 39, 3, 11, 15, .null, []), (13, .iload_n 1, 1, 0, 0, .null, []), (14, .iaload, 1, 0, 0, .null, []), (15, .ifCond .lt 21, 3, 36, 0, .null, []), (18, .iload_n 2, 1, 0, 0, .null, []), (19, .i2l, 1, 0, 0, .null, []), (20, .lconst 0, 1, 0, 0, .long 0, []), (21, .aload_n 0, 1, 0, 0, .null, []), (22, .getfield 39, 3, 11, 15, .null, []), (25, .iload_n 1, 1, 0, 0, .null, []), (26, .iaload, 1, 0, 0, .null, []), (27, .iconst 1, 1, 0, 0, .int 1, []), (28, .isub, 1, 0, 0, .null, []), (29, .i2l, 1, 0, 0, .null, []), (30, .invokestatic 121, 3, 158, 0, .null, []), (33, .ifCond .ne 22, 3, 55, 0, .null, []), (36, .aload_n 0, 1, 0, 0, .null, []), (37, .aload_n 0, 1, 0, 0, .null, []), (38, .getfield 39, 3, 11, 15, .null, []), (41, .iload_n 1, 1, 0, 0, .null, []), (42, .iaload, 1, 0, 0, .null, []), (43, .ifCond .ge 7, 3, 50, 0, .null, []), (46, .iconst 1, 1, 0, 0, .int 1, []), (47, .goto 4, 3, 51, 0, .null, []), (50, .iconst 2, 1, 0, 0, .int 2, []), (51, .invokevirtual 131, 3, 161, 0, .null, []), (54, .ireturn, 1, 0, 0, .null, []), (55, .aload_n 0, 1, 0, 0, .null, []), (56, .getfield 42, 3, 11, 16, .null, []), (59, .bipush 40, 2, 0, 0, .int 40, []), (61, .iload_n 1, 1, 0, 0, .null, []), (62, .imul, 1, 0, 0, .null, []), (63, .iload_n 2, 1, 0, 0, .null, []), (64, .iadd, 1, 0, 0, .null, []), (65, .iaload, 1, 0, 0, .null, []), (66, .istore 4, 2, 0, 0, .null, []), (68, .aload_n 0, 1, 0, 0, .null, []), (69, .getfield 42, 3, 11, 16, .null, []), (72, .bipush 40, 2, 0, 0, .int 40, []), (74, .iload_n 1, 1, 0, 0, .null, []), (75, .imul, 1, 0, 0, .null, []), (76, .iload_n 2, 1, 0, 0, .null, []), (77, .iadd, 1, 0, 0, .null, []), (78, .iload_n 3, 1, 0, 0, .null, []), (79, .iastore, 1, 0, 0, .null, []), (80, .aload_n 0, 1, 0, 0, .null, []), (81, .iconst 1, 1, 0, 0, .int 1, []), (82, .iload 4, 2, 0, 0, .null, []), (84, .invokevirtual 139, 3, 162, 0, .null, []), (87, .ireturn, 1, 0, 0, .null, [])]
set_option maxRecDepth 100000 in
theorem ck167 : ∀ ce ∈ cd167, okB (yO 167) (yC 167) ce = true := List.all_eq_true.mp (by decide +kernel)
/-- ShapeDuelModel.at(II)I -/
def cd168 : List CE := [(0, .iload_n 1, 1, 0, 0, .null, []), (1, .invokestatic 127, 3, 163, 0, .null, []), (4, .ifCond .ne 5, 3, 9, 0, .null, []), (7, .iconst (-1), 1, 0, 0, .int (-1), []), (8, .ireturn, 1, 0, 0, .null, []), (9, .aload_n 0, 1, 0, 0, .null, []), (10, .getfield 39, 3, 11, 15, .null, []), (13, .iload_n 1, 1, 0, 0, .null, []), (14, .iaload, 1, 0, 0, .null, []), (15, .ifCond .lt 21, 3, 36, 0, .null, []), (18, .iload_n 2, 1, 0, 0, .null, []), (19, .i2l, 1, 0, 0, .null, []), (20, .lconst 0, 1, 0, 0, .long 0, []), (21, .aload_n 0, 1, 0, 0, .null, []), (22, .getfield 39, 3, 11, 15, .null, []), (25, .iload_n 1, 1, 0, 0, .null, []), (26, .iaload, 1, 0, 0, .null, []), (27, .iconst 1, 1, 0, 0, .int 1, []), (28, .isub, 1, 0, 0, .null, []), (29, .i2l, 1, 0, 0, .null, []), (30, .invokestatic 121, 3, 158, 0, .null, []), (33, .ifCond .ne 22, 3, 55, 0, .null, []), (36, .aload_n 0, 1, 0, 0, .null, []), (37, .aload_n 0, 1, 0, 0, .null, []), (38, .getfield 39, 3, 11, 15, .null, []), (41, .iload_n 1, 1, 0, 0, .null, []), (42, .iaload, 1, 0, 0, .null, []), (43, .ifCond .ge 7, 3, 50, 0, .null, []), (46, .iconst 1, 1, 0, 0, .int 1, []), (47, .goto 4, 3, 51, 0, .null, []), (50, .iconst 2, 1, 0, 0, .int 2, []), (51, .invokevirtual 131, 3, 161, 0, .null, []), (54, .ireturn, 1, 0, 0, .null, []), (55, .aload_n 0, 1, 0, 0, .null, []), (56, .iconst 1, 1, 0, 0, .int 1, []), (57, .aload_n 0, 1, 0, 0, .null, []), (58, .getfield 42, 3, 11, 16, .null, []), (61, .bipush 40, 2, 0, 0, .int 40, []), (63, .iload_n 1, 1, 0, 0, .null, []), (64, .imul, 1, 0, 0, .null, []), (65, .iload_n 2, 1, 0, 0, .null, []), (66, .iadd, 1, 0, 0, .null, []), (67, .iaload, 1, 0, 0, .null, []), (68, .invokevirtual 139, 3, 162, 0, .null, []), (71, .ireturn, 1, 0, 0, .null, [])]
set_option maxRecDepth 100000 in
theorem ck168 : ∀ ce ∈ cd168, okB (yO 168) (yC 168) ce = true := List.all_eq_true.mp (by decide +kernel)
/-- ShapeDuelModel.tear(I)I -/
def cd169 : List CE := [(0, .iload_n 1, 1, 0, 0, .null, []), (1, .invokestatic 127, 3, 163, 0, .null, []), (4, .ifCond .ne 5, 3, 9, 0, .null, []), (7, .iconst (-1), 1, 0, 0, .int (-1), []), (8, .ireturn, 1, 0, 0, .null, []), (9, .aload_n 0, 1, 0, 0, .null, []), (10, .getfield 39, 3, 11, 15, .null, []), (13, .iload_n 1, 1, 0, 0, .null, []), (14, .iaload, 1, 0, 0, .null, []), (15, .ifCond .ge 9, 3, 24, 0, .null, []), (18, .aload_n 0, 1, 0, 0, .null, []), (19, .iconst 1, 1, 0, 0, .int 1, []), (20, .invokevirtual 131, 3, 161, 0, .null, []), (23, .ireturn, 1, 0, 0, .null, []), (24, .aload_n 0, 1, 0, 0, .null, []), (25, .getfield 39, 3, 11, 15, .null, []), (28, .iload_n 1, 1, 0, 0, .null, []), (29, .iconst (-1), 1, 0, 0, .int (-1), []), (30, .iastore, 1, 0, 0, .null, []), (31, .iconst 1, 1, 0, 0, .int 1, []), (32, .ireturn, 1, 0, 0, .null, [])]
set_option maxRecDepth 100000 in
theorem ck169 : ∀ ce ∈ cd169, okB (yO 169) (yC 169) ce = true := List.all_eq_true.mp (by decide +kernel)
/-- ShapeDuelModel.isPart(III)Z -/
def cd170 : List CE := [(0, .iload_n 2, 1, 0, 0, .null, []), (1, .ifCond .lt 23, 3, 24, 0, .null, []), (4, .iload_n 2, 1, 0, 0, .null, []), (5, .i2l, 1, 0, 0, .null, []), (6, .iload_n 3, 1, 0, 0, .null, []), (7, .i2l, 1, 0, 0, .null, []), (8, .ladd, 1, 0, 0, .null, []), (9, .aload_n 0, 1, 0, 0, .null, []), (10, .getfield 39, 3, 11, 15, .null, []), (13, .iload_n 1, 1, 0, 0, .null, []), (14, .iaload, 1, 0, 0, .null, []), (15, .i2l, 1, 0, 0, .null, []), (16, .lcmp, 1, 0, 0, .null, []), (17, .ifCond .gt 7, 3, 24, 0, .null, []), (20, .iconst 1, 1, 0, 0, .int 1, []), (21, .goto 4, 3, 25, 0, .null, []), (24, .iconst 0, 1, 0, 0, .int 0, []), (25, .ireturn, 1, 0, 0, .null, [])]
set_option maxRecDepth 100000 in
theorem ck170 : ∀ ce ∈ cd170, okB (yO 170) (yC 170) ce = true := List.all_eq_true.mp (by decide +kernel)
/-- ShapeDuelModel.copy(IIIII)I -/
def cd171 : List CE := [(0, .iload_n 1, 1, 0, 0, .null, []), (1, .invokestatic 127, 3, 163, 0, .null, []), (4, .ifCond .eq 10, 3, 14, 0, .null, []), (7, .iload_n 3, 1, 0, 0, .null, []), (8, .invokestatic 127, 3, 163, 0, .null, []), (11, .ifCond .ne 5, 3, 16, 0, .null, []), (14, .iconst (-1), 1, 0, 0, .int (-1), []), (15, .ireturn, 1, 0, 0, .null, []), (16, .iload 5, 2, 0, 0, .null, []), (18, .ifCond .ge 9, 3, 27, 0, .null, []), (21, .aload_n 0, 1, 0, 0, .null, []), (22, .iconst 5, 1, 0, 0, .int 5, []), (23, .invokevirtual 131, 3, 161, 0, .null, []), (26, .ireturn, 1, 0, 0, .null, []), (27, .aload_n 0, 1, 0, 0, .null, []), (28, .getfield 39, 3, 11, 15, .null, []), (31, .iload_n 1, 1, 0, 0, .null, []), (32, .iaload, 1, 0, 0, .null, []), (33, .ifCond .lt 12, 3, 45, 0, .null, []), (36, .aload_n 0, 1, 0, 0, .null, []), (37, .getfield 39, 3, 11, 15, .null, []), (40, .iload_n 3, 1, 0, 0, .null, []), (41, .iaload, 1, 0, 0, .null, []), (42, .ifCond .ge 9, 3, 51, 0, .null, []), (45, .aload_n 0, 1, 0, 0, .null, []), (46, .iconst 1, 1, 0, 0, .int 1, []), (47, .invokevirtual 131, 3, 161, 0, .null, []), (50, .ireturn, 1, 0, 0, .null, []), (51, .aload_n 0, 1, 0, 0, .null, []), (52, .iload_n 1, 1, 0, 0, .null, []), (53, .iload_n 2, 1, 0, 0, .null, []), (54, .iload 5, 2, 0, 0, .null, []), (56, .invokevirtual 143, 3, 170, 0, .null, []), (59, .ifCond .eq 15, 3, 74, 0, .null, []), (62, .aload_n 0, 1, 0, 0, .null, []), (63, .iload_n 3, 1, 0, 0, .null, []), (64, .iload 4, 2, 0, 0, .null, []), (66, .iload 5, 2, 0, 0, .null, []), (68, .invokevirtual 143, 3, 170, 0, .null, []), (71, .ifCond .ne 9, 3, 80, 0, .null, []), (74, .aload_n 0, 1, 0, 0, .null, []), (75, .iconst 2, 1, 0, 0, .int 2, []), (76, .invokevirtual 131, 3, 161, 0, .null, []), (79, .ireturn, 1, 0, 0, .null, []), (80, .iconst 0, 1, 0, 0, .int 0, []), (81, .istore 6, 2, 0, 0, .null, []), (83, .iload 6, 2, 0, 0, .null, []), (85, .iload 5, 2, 0, 0, .null, []), (87, .if_icmp .ge 30, 3, 117, 0, .null, []), (90, .aload_n 0, 1, 0, 0, .null, []), (91, .getfield 51, 3, 11, 19, .null, []), (94, .iload 6, 2, 0, 0, .null, []), (96, .aload_n 0, 1, 0, 0, .null, []), (97, .getfield 42, 3, 11, 16, .null, []), (100, .bipush 40, 2, 0, 0, .int 40, []), (102, .iload_n 1, 1, 0, 0, .null, []), (103, .imul, 1, 0, 0, .null, []), (104, .iload_n 2, 1, 0, 0, .null, []), (105, .iadd, 1, 0, 0, .null, []), (106, .iload 6, 2, 0, 0, .null, []), (108, .iadd, 1, 0, 0, .null, []), (109, .iaload, 1, 0, 0, .null, []), (110, .iastore, 1, 0, 0, .null, []), (111, .iinc 6 1, 3, 0, 0, .int 1, []), (114, .goto (-31), 3, 83, 0, .null, []), (117, .iconst 0, 1, 0, 0, .int 0, []), (118, .istore 6, 2, 0, 0, .null, []), (120, .iload 6, 2, 0, 0, .null, []), (122, .iload 5, 2, 0, 0, .null, []), (124, .if_icmp .ge 31, 3, 155, 0, .null, []), (127, .aload_n 0, 1, 0, 0, .null, []), (128, .getfield 42, 3, 11, 16, .null, []), (131, .bipush 40, 2, 0, 0, .int 40, []), (133, .iload_n 3, 1, 0, 0, .null, []), (134, .imul, 1, 0, 0, .null, []), (135, .iload 4, 2, 0, 0, .null, []), (137, .iadd, 1, 0, 0, .null, []), (138, .iload 6, 2, 0, 0, .null, []), (140, .iadd, 1, 0, 0, .null, []), (141, .aload_n 0, 1, 0, 0, .null, []), (142, .getfield 51, 3, 11, 19, .null, []), (145, .iload 6, 2, 0, 0, .null, []), (147, .iaload, 1, 0, 0, .null, []), (148, .iastore, 1, 0, 0, .null, []), (149, .iinc 6 1, 3, 0, 0, .int 1, []), (152, .goto (-32), 3, 120, 0, .null, []), (155, .iconst 1, 1, 0, 0, .int 1, []), (156, .ireturn, 1, 0, 0, .null, [])]
set_option maxRecDepth 100000 in
theorem ck171 : ∀ ce ∈ cd171, okB (yO 171) (yC 171) ce = true := List.all_eq_true.mp (by decide +kernel)
/-- ShapeDuelModel.mean(I)I -/
def cd172 : List CE := [(0, .iload_n 1, 1, 0, 0, .null, []), (1, .invokestatic 127, 3, 163, 0, .null, []), (4, .ifCond .ne 5, 3, 9, 0, .null, []), (7, .iconst (-1), 1, 0, 0, .int (-1), []), (8, .ireturn, 1, 0, 0, .null, []), (9, .aload_n 0, 1, 0, 0, .null, []), (10, .getfield 39, 3, 11, 15, .null, []), (13, .iload_n 1, 1, 0, 0, .null, []), (14, .iaload, 1, 0, 0, .null, []), (15, .ifCond .gt 22, 3, 37, 0, .null, []), (18, .aload_n 0, 1, 0, 0, .null, []), (19, .aload_n 0, 1, 0, 0, .null, []), (20, .getfield 39, 3, 11, 15, .null, []), (23, .iload_n 1, 1, 0, 0, .null, []), (24, .iaload, 1, 0, 0, .null, []), (25, .ifCond .ge 7, 3, 32, 0, .null, []), (28, .iconst 1, 1, 0, 0, .int 1, []), (29, .goto 4, 3, 33, 0, .null, []), (32, .iconst 4, 1, 0, 0, .int 4, []), (33, .invokevirtual 131, 3, 161, 0, .null, []), (36, .ireturn, 1, 0, 0, .null, []), (37, .lconst 0, 1, 0, 0, .long 0, []), (38, .lstore_n 2, 1, 0, 0, .null, []), (39, .iconst 0, 1, 0, 0, .int 0, []), (40, .istore 4, 2, 0, 0, .null, []), (42, .iload 4, 2, 0, 0, .null, []), (44, .aload_n 0, 1, 0, 0, .null, []), (45, .getfield 39, 3, 11, 15, .null, []), (48, .iload_n 1, 1, 0, 0, .null, []), (49, .iaload, 1, 0, 0, .null, []), (50, .if_icmp .ge 25, 3, 75, 0, .null, []), (53, .lload_n 2, 1, 0, 0, .null, []), (54, .aload_n 0, 1, 0, 0, .null, []), (55, .getfield 42, 3, 11, 16, .null, []), (58, .bipush 40, 2, 0, 0, .int 40, []), (60, .iload_n 1, 1, 0, 0, .null, []), (61, .imul, 1, 0, 0, .null, []), (62, .iload 4, 2, 0, 0, .null, []), (64, .iadd, 1, 0, 0, .null, []), (65, .iaload, 1, 0, 0, .null, []), (66, .i2l, 1, 0, 0, .null, []), (67, .ladd, 1, 0, 0, .null, []), (68, .lstore_n 2, 1, 0, 0, .null, []), (69, .iinc 4 1, 3, 0, 0, .int 1, []), (72, .goto (-30), 3, 42, 0, .null, []), (75, .aload_n 0, 1, 0, 0, .null, []), (76, .iconst 1, 1, 0, 0, .int 1, []), (77, .lload_n 2, 1, 0, 0, .null, []), (78, .aload_n 0, 1, 0, 0, .null, []), (79, .getfield 39, 3, 11, 15, .null, []), (82, .iload_n 1, 1, 0, 0, .null, []), (83, .iaload, 1, 0, 0, .null, []), (84, .i2l, 1, 0, 0, .null, []), (85, .ldiv, 1, 0, 0, .null, []), (86, .l2i, 1, 0, 0, .null, []), (87, .invokevirtual 139, 3, 162, 0, .null, []), (90, .ireturn, 1, 0, 0, .null, [])]
set_option maxRecDepth 100000 in
theorem ck172 : ∀ ce ∈ cd172, okB (yO 172) (yC 172) ce = true := List.all_eq_true.mp (by decide +kernel)
/-- ShapeDuelModel.text(II)I -/
def cd173 : List CE := [(0, .iload_n 1, 1, 0, 0, .null, []), (1, .invokestatic 147, 3, 164, 0, .null, []), (4, .ifCond .eq 9, 3, 13, 0, .null, []), (7, .iload_n 2, 1, 0, 0, .null, []), (8, .bipush 80, 2, 0, 0, .int 80, []), (10, .if_icmp .le 5, 3, 15, 0, .null, []), (13, .iconst (-1), 1, 0, 0, .int (-1), []), (14, .ireturn, 1, 0, 0, .null, []), (15, .iload_n 2, 1, 0, 0, .null, []), (16, .ifCond .ge 9, 3, 25, 0, .null, []), (19, .aload_n 0, 1, 0, 0, .null, []), (20, .iconst 5, 1, 0, 0, .int 5, []), (21, .invokevirtual 131, 3, 161, 0, .null, []), (24, .ireturn, 1, 0, 0, .null, []), (25, .aload_n 0, 1, 0, 0, .null, []), (26, .getfield 45, 3, 11, 17, .null, []), (29, .iload_n 1, 1, 0, 0, .null, []), (30, .iload_n 2, 1, 0, 0, .null, []), (31, .iastore, 1, 0, 0, .null, []), (32, .iconst 0, 1, 0, 0, .int 0, []), (33, .istore_n 3, 1, 0, 0, .null, []), (34, .iload_n 3, 1, 0, 0, .null, []), (35, .bipush 80, 2, 0, 0, .int 80, []), (37, .if_icmp .ge 22, 3, 59, 0, .null, []), (40, .aload_n 0, 1, 0, 0, .null, []), (41, .getfield 48, 3, 11, 18, .null, []), (44, .bipush 80, 2, 0, 0, .int 80, []), (46, .iload_n 1, 1, 0, 0, .null, []), (47, .imul, 1, 0, 0, .null, []), (48, .iload_n 3, 1, 0, 0, .null, []), (49, .iadd, 1, 0, 0, .null, []), (50, .bipush 32, 2, 0, 0, .int 32, []), (52, .iastore, 1, 0, 0, .null, []), (53, .iinc 3 1, 3, 0, 0, .int 1, []), (56, .goto (-22), 3, 34, 0, .null, []), (59, .iload_n 2, 1, 0, 0, .null, []), (60, .ireturn, 1, 0, 0, .null, [])]
set_option maxRecDepth 100000 in
theorem ck173 : ∀ ce ∈ cd173, okB (yO 173) (yC 173) ce = true := List.all_eq_true.mp (by decide +kernel)
/-- ShapeDuelModel.put(III)I -/
def cd174 : List CE := [(0, .iload_n 1, 1, 0, 0, .null, []), (1, .invokestatic 147, 3, 164, 0, .null, []), (4, .ifCond .ne 5, 3, 9, 0, .null, []), (7, .iconst (-1), 1, 0, 0, .int (-1), []), (8, .ireturn, 1, 0, 0, .null, []), (9, .aload_n 0, 1, 0, 0, .null, []), (10, .getfield 45, 3, 11, 17, .null, []), (13, .iload_n 1, 1, 0, 0, .null, []), (14, .iaload, 1, 0, 0, .null, []), (15, .ifCond .lt 21, 3, 36, 0, .null, []), (18, .iload_n 2, 1, 0, 0, .null, []), (19, .i2l, 1, 0, 0, .null, []), (20, .lconst 0, 1, 0, 0, .long 0, []), (21, .aload_n 0, 1, 0, 0, .null, []), (22, .getfield 45, 3, 11, 17, .null, []), (25, .iload_n 1, 1, 0, 0, .null, []), (26, .iaload, 1, 0, 0, .null, []), (27, .iconst 1, 1, 0, 0, .int 1, []), (28, .isub, 1, 0, 0, .null, []), (29, .i2l, 1, 0, 0, .null, []), (30, .invokestatic 121, 3, 158, 0, .null, []), (33, .ifCond .ne 22, 3, 55, 0, .null, []), (36, .aload_n 0, 1, 0, 0, .null, []), (37, .aload_n 0, 1, 0, 0, .null, []), (38, .getfield 45, 3, 11, 17, .null, []), (41, .iload_n 1, 1, 0, 0, .null, []), (42, .iaload, 1, 0, 0, .null, []), (43, .ifCond .ge 7, 3, 50, 0, .null, []), (46, .iconst 1, 1, 0, 0, .int 1, []), (47, .goto 4, 3, 51, 0, .null, []), (50, .iconst 2, 1, 0, 0, .int 2, []), (51, .invokevirtual 131, 3, 161, 0, .null, []), (54, .ireturn, 1, 0, 0, .null, []), (55, .aload_n 0, 1, 0, 0, .null, []), (56, .getfield 48, 3, 11, 18, .null, []), (59, .bipush 80, 2, 0, 0, .int 80, []), (61, .iload_n 1, 1, 0, 0, .null, []), (62, .imul, 1, 0, 0, .null, []), (63, .iload_n 2, 1, 0, 0, .null, []), (64, .iadd, 1, 0, 0, .null, []), (65, .iaload, 1, 0, 0, .null, []), (66, .istore 4, 2, 0, 0, .null, []), (68, .aload_n 0, 1, 0, 0, .null, []), (69, .getfield 48, 3, 11, 18, .null, []), (72, .bipush 80, 2, 0, 0, .int 80, []), (74, .iload_n 1, 1, 0, 0, .null, []), (75, .imul, 1, 0, 0, .null, []), (76, .iload_n 2, 1, 0, 0, .null, []), (77, .iadd, 1, 0, 0, .null, []), (78, .iload_n 3, 1, 0, 0, .null, []), (79, .i2b, 1, 0, 0, .null, []), (80, .iastore, 1, 0, 0, .null, []), (81, .iload 4, 2, 0, 0, .null, []), (83, .sipush 1000, 3, 0, 0, .int 1000, []), (86, .iadd, 1, 0, 0, .null, []), (87, .ireturn, 1, 0, 0, .null, [])]
set_option maxRecDepth 100000 in
theorem ck174 : ∀ ce ∈ cd174, okB (yO 174) (yC 174) ce = true := List.all_eq_true.mp (by decide +kernel)
/-- ShapeDuelModel.byteAt()I -/
def cd175 : List CE := [(0, .aload_n 0, 1, 0, 0, .null, []), (1, .getfield 150, 3, 11, 29, .null, []), (4, .aload_n 0, 1, 0, 0, .null, []), (5, .getfield 45, 3, 11, 17, .null, []), (8, .aload_n 0, 1, 0, 0, .null, []), (9, .getfield 153, 3, 11, 30, .null, []), (12, .iaload, 1, 0, 0, .null, []), (13, .if_icmp .ge 23, 3, 36, 0, .null, []), (16, .aload_n 0, 1, 0, 0, .null, []), (17, .getfield 48, 3, 11, 18, .null, []), (20, .bipush 80, 2, 0, 0, .int 80, []), (22, .aload_n 0, 1, 0, 0, .null, []), (23, .getfield 153, 3, 11, 30, .null, []), (26, .imul, 1, 0, 0, .null, []), (27, .aload_n 0, 1, 0, 0, .null, []), (28, .getfield 150, 3, 11, 29, .null, []), (31, .iadd, 1, 0, 0, .null, []), (32, .iaload, 1, 0, 0, .null, []), (33, .goto 6, 3, 39, 0, .null, []), (36, .sipush (-1000), 3, 0, 0, .int (-1000), []), (39, .ireturn, 1, 0, 0, .null, [])]
set_option maxRecDepth 100000 in
theorem ck175 : ∀ ce ∈ cd175, okB (yO 175) (yC 175) ce = true := List.all_eq_true.mp (by decide +kernel)
/-- ShapeDuelModel.takesFigure(II)I -/
def cd176 : List CE := [(0, .aload_n 0, 1, 0, 0, .null, []), (1, .invokevirtual 156, 3, 175, 0, .null, []), (4, .bipush 48, 2, 0, 0, .int 48, []), (6, .isub, 1, 0, 0, .null, []), (7, .istore_n 3, 1, 0, 0, .null, []), (8, .iload_n 3, 1, 0, 0, .null, []), (9, .i2l, 1, 0, 0, .null, []), (10, .iload_n 1, 1, 0, 0, .null, []), (11, .i2l, 1, 0, 0, .null, []), (12, .iload_n 2, 1, 0, 0, .null, []), (13, .i2l, 1, 0, 0, .null, []), (14, .invokestatic 121, 3, 158, 0, .null, []), (17, .ifCond .ne 5, 3, 22, 0, .null, []), (20, .iconst (-1), 1, 0, 0, .int (-1), []), (21, .ireturn, 1, 0, 0, .null, []), (22, .aload_n 0, 1, 0, 0, .null, []), (23, .dup, 1, 0, 0, .null, []), (24, .getfield 150, 3, 11, 29, .null, []), (27, .iconst 1, 1, 0, 0, .int 1, []), (28, .iadd, 1, 0, 0, .null, []), (29, .putfield 150, 3, 11, 29, .null, []), (32, .iload_n 3, 1, 0, 0, .null, []), (33, .ireturn, 1, 0, 0, .null, [])]
set_option maxRecDepth 100000 in
theorem ck176 : ∀ ce ∈ cd176, okB (yO 176) (yC 176) ce = true := List.all_eq_true.mp (by decide +kernel)
/-- ShapeDuelModel.kindOf(I)I -/
def cd177 : List CE := [(0, .iload_n 0, 1, 0, 0, .null, []), (1, .lookupswitch 71 #[(97, 65), (98, 63), (103, 61), (109, 69), (115, 59), (119, 67)], 59, 72, 0, .null, [(97, 66), (98, 64), (103, 62), (109, 70), (115, 60), (119, 68)]), (60, .iconst 0, 1, 0, 0, .int 0, []), (61, .ireturn, 1, 0, 0, .null, []), (62, .iconst 1, 1, 0, 0, .int 1, []), (63, .ireturn, 1, 0, 0, .null, []), (64, .iconst 2, 1, 0, 0, .int 2, []), (65, .ireturn, 1, 0, 0, .null, []), (66, .iconst 3, 1, 0, 0, .int 3, []), (67, .ireturn, 1, 0, 0, .null, []), (68, .iconst 4, 1, 0, 0, .int 4, []), (69, .ireturn, 1, 0, 0, .null, []), (70, .iconst 5, 1, 0, 0, .int 5, []), (71, .ireturn, 1, 0, 0, .null, []), (72, .iconst (-1), 1, 0, 0, .int (-1), []), (73, .ireturn, 1, 0, 0, .null, [])]
set_option maxRecDepth 100000 in
theorem ck177 : ∀ ce ∈ cd177, okB (yO 177) (yC 177) ce = true := List.all_eq_true.mp (by decide +kernel)
/-- ShapeDuelModel.takesShape(I)Z -/
def cd178 : List CE := [(0, .aload_n 0, 1, 0, 0, .null, []), (1, .getfield 160, 3, 11, 20, .null, []), (4, .iconst 5, 1, 0, 0, .int 5, []), (5, .if_icmp .eq 17, 3, 22, 0, .null, []), (8, .aload_n 0, 1, 0, 0, .null, []), (9, .getfield 163, 3, 11, 21, .null, []), (12, .ifCond .gt 10, 3, 22, 0, .null, []), (15, .aload_n 0, 1, 0, 0, .null, []), (16, .getfield 166, 3, 11, 22, .null, []), (19, .ifCond .le 5, 3, 24, 0, .null, []), (22, .iconst 0, 1, 0, 0, .int 0, []), (23, .ireturn, 1, 0, 0, .null, []), (24, .aload_n 0, 1, 0, 0, .null, []), (25, .dup, 1, 0, 0, .null, []), (26, .getfield 150, 3, 11, 29, .null, []), (29, .iconst 1, 1, 0, 0, .int 1, []), (30, .iadd, 1, 0, 0, .null, []), (31, .putfield 150, 3, 11, 29, .null, []), (34, .aload_n 0, 1, 0, 0, .null, []), (35, .getfield 54, 3, 11, 23, .null, []), (38, .aload_n 0, 1, 0, 0, .null, []), (39, .getfield 160, 3, 11, 20, .null, []), (42, .iload_n 1, 1, 0, 0, .null, []), (43, .iastore, 1, 0, 0, .null, []), (44, .aload_n 0, 1, 0, 0, .null, []), (45, .getfield 57, 3, 11, 24, .null, []), (48, .aload_n 0, 1, 0, 0, .null, []), (49, .getfield 160, 3, 11, 20, .null, []), (52, .iconst 0, 1, 0, 0, .int 0, []), (53, .iastore, 1, 0, 0, .null, []), (54, .iconst 0, 1, 0, 0, .int 0, []), (55, .istore_n 2, 1, 0, 0, .null, []), (56, .aload_n 0, 1, 0, 0, .null, []), (57, .invokevirtual 156, 3, 175, 0, .null, []), (60, .i2l, 1, 0, 0, .null, []), (61, .ldc2_w 169, 3, 0, 0, .long (48), []), (64, .ldc2_w 171, 3, 0, 0, .long (57), []), (67, .invokestatic 121, 3, 158, 0, .null, []), (70, .ifCond .eq 38, 3, 108, 0, .null, []), (73, .aload_n 0, 1, 0, 0, .null, []), (74, .iload_n 2, 1, 0, 0, .null, []), (75, .iconst 4, 1, 0, 0, .int 4, []), (76, .invokevirtual 173, 3, 176, 0, .null, []), (79, .istore_n 3, 1, 0, 0, .null, []), (80, .iload_n 3, 1, 0, 0, .null, []), (81, .ifCond .ge 5, 3, 86, 0, .null, []), (84, .iconst 0, 1, 0, 0, .int 0, []), (85, .ireturn, 1, 0, 0, .null, []), (86, .aload_n 0, 1, 0, 0, .null, []), (87, .getfield 57, 3, 11, 24, .null, []), (90, .aload_n 0, 1, 0, 0, .null, []), (91, .getfield 160, 3, 11, 20, .null, []), (94, .dup2, 1, 0, 0, .null, []), (95, .iaload, 1, 0, 0, .null, []), (96, .iconst 1, 1, 0, 0, .int 1, []), (97, .iload_n 3, 1, 0, 0, .null, []), (98, .ishl, 1, 0, 0, .null, []), (99, .ior, 1, 0, 0, .null, []), (100, .iastore, 1, 0, 0, .null, []), (101, .iload_n 3, 1, 0, 0, .null, []), (102, .iconst 1, 1, 0, 0, .int 1, []), (103, .iadd, 1, 0, 0, .null, []), (104, .istore_n 2, 1, 0, 0, .null, []), (105, .goto (-49), 3, 56, 0, .null, []), (108, .aload_n 0, 1, 0, 0, .null, []), (109, .dup, 1, 0, 0, .null, []), (110, .getfield 160, 3, 11, 20, .null, []), (113, .iconst 1, 1, 0, 0, .int 1, []), (114, .iadd, 1, 0, 0, .null, []), (115, .putfield 160, 3, 11, 20, .null, []), (118, .iconst 1, 1, 0, 0, .int 1, []), (119, .ireturn, 1, 0, 0, .null, [])]
set_option maxRecDepth 100000 in
theorem ck178 : ∀ ce ∈ cd178, okB (yO 178) (yC 178) ce = true := List.all_eq_true.mp (by decide +kernel)
/-- ShapeDuelModel.fromMany(I)I -/
def cd179 : List CE := [(0, .iconst 0, 1, 0, 0, .int 0, []), (1, .istore_n 2, 1, 0, 0, .null, []), (2, .iconst 0, 1, 0, 0, .int 0, []), (3, .istore_n 3, 1, 0, 0, .null, []), (4, .iload_n 3, 1, 0, 0, .null, []), (5, .aload_n 0, 1, 0, 0, .null, []), (6, .getfield 163, 3, 11, 21, .null, []), (9, .if_icmp .ge 27, 3, 36, 0, .null, []), (12, .iload_n 2, 1, 0, 0, .null, []), (13, .aload_n 0, 1, 0, 0, .null, []), (14, .getfield 60, 3, 11, 25, .null, []), (17, .iload_n 3, 1, 0, 0, .null, []), (18, .iaload, 1, 0, 0, .null, []), (19, .iload_n 1, 1, 0, 0, .null, []), (20, .if_icmp .ne 7, 3, 27, 0, .null, []), (23, .iconst 1, 1, 0, 0, .int 1, []), (24, .goto 4, 3, 28, 0, .null, []), (27, .iconst 0, 1, 0, 0, .int 0, []), (28, .iadd, 1, 0, 0, .null, []), (29, .istore_n 2, 1, 0, 0, .null, []), (30, .iinc 3 1, 3, 0, 0, .int 1, []), (33, .goto (-29), 3, 4, 0, .null, []), (36, .iload_n 2, 1, 0, 0, .null, []), (37, .ireturn, 1, 0, 0, .null, [])]
set_option maxRecDepth 100000 in
theorem ck179 : ∀ ce ∈ cd179, okB (yO 179) (yC 179) ce = true := List.all_eq_true.mp (by decide +kernel)
/-- ShapeDuelModel.takesChange()Z -/
def cd180 : List CE := [(0, .aload_n 0, 1, 0, 0, .null, []), (1, .getfield 160, 3, 11, 20, .null, []), (4, .ifCond .eq 19, 3, 23, 0, .null, []), (7, .aload_n 0, 1, 0, 0, .null, []), (8, .getfield 166, 3, 11, 22, .null, []), (11, .ifCond .gt 12, 3, 23, 0, .null, []), (14, .aload_n 0, 1, 0, 0, .null, []), (15, .getfield 163, 3, 11, 21, .null, []), (18, .bipush 12, 2, 0, 0, .int 12, []), (20, .if_icmp .ne 5, 3, 25, 0, .null, []), (23, .iconst 0, 1, 0, 0, .int 0, []), (24, .ireturn, 1, 0, 0, .null, []), (25, .aload_n 0, 1, 0, 0, .null, []), (26, .dup, 1, 0, 0, .null, []), (27, .getfield 150, 3, 11, 29, .null, []), (30, .iconst 1, 1, 0, 0, .int 1, []), (31, .iadd, 1, 0, 0, .null, []), (32, .putfield 150, 3, 11, 29, .null, []), (35, .aload_n 0, 1, 0, 0, .null, []), (36, .invokevirtual 156, 3, 175, 0, .null, []), (39, .bipush 48, 2, 0, 0, .int 48, []), (41, .isub, 1, 0, 0, .null, []), (42, .istore_n 1, 1, 0, 0, .null, []), (43, .iload_n 1, 1, 0, 0, .null, []), (44, .i2l, 1, 0, 0, .null, []), (45, .lconst 0, 1, 0, 0, .long 0, []), (46, .aload_n 0, 1, 0, 0, .null, []), (47, .getfield 160, 3, 11, 20, .null, []), (50, .iconst 1, 1, 0, 0, .int 1, []), (51, .isub, 1, 0, 0, .null, []), (52, .i2l, 1, 0, 0, .null, []), (53, .invokestatic 121, 3, 158, 0, .null, []), (56, .ifCond .eq 12, 3, 68, 0, .null, []), (59, .aload_n 0, 1, 0, 0, .null, []), (60, .iload_n 1, 1, 0, 0, .null, []), (61, .invokevirtual 176, 3, 179, 0, .null, []), (64, .iconst 4, 1, 0, 0, .int 4, []), (65, .if_icmp .ne 5, 3, 70, 0, .null, []), (68, .iconst 0, 1, 0, 0, .int 0, []), (69, .ireturn, 1, 0, 0, .null, []), (70, .aload_n 0, 1, 0, 0, .null, []), (71, .dup, 1, 0, 0, .null, []), (72, .getfield 150, 3, 11, 29, .null, []), (75, .iconst 1, 1, 0, 0, .int 1, []), (76, .iadd, 1, 0, 0, .null, []), (77, .putfield 150, 3, 11, 29, .null, []), (80, .aload_n 0, 1, 0, 0, .null, []), (81, .invokevirtual 156, 3, 175, 0, .null, []), (84, .bipush 48, 2, 0, 0, .int 48, []), (86, .isub, 1, 0, 0, .null, []), (87, .istore_n 2, 1, 0, 0, .null, []), (88, .iload_n 2, 1, 0, 0, .null, []), (89, .i2l, 1, 0, 0, .null, []), (90, .lconst 0, 1, 0, 0, .long 0, []), (91, .aload_n 0, 1, 0, 0, .null, []), (92, .getfield 160, 3, 11, 20, .null, []), (95, .iconst 1, 1, 0, 0, .int 1, []), (96, .isub, 1, 0, 0, .null, []), (97, .i2l, 1, 0, 0, .null, []), (98, .invokestatic 121, 3, 158, 0, .null, []), (101, .ifCond .eq 8, 3, 109, 0, .null, []), (104, .iload_n 1, 1, 0, 0, .null, []), (105, .iload_n 2, 1, 0, 0, .null, []), (106, .if_icmp .ne 5, 3, 111, 0, .null, []), (109, .iconst 0, 1, 0, 0, .int 0, []), (110, .ireturn, 1, 0, 0, .null, []), (111, .aload_n 0, 1, 0, 0, .null, []), (112, .dup, 1, 0, 0, .null, []), (113, .getfield 150, 3, 11, 29, .null, []), (116, .iconst 1, 1, 0, 0, .int 1, []), (117, .iadd, 1, 0, 0, .null, []), (118, .putfield 150, 3, 11, 29, .null, []), (121, .aload_n 0, 1, 0, 0, .null, []), (122, .iconst 1, 1, 0, 0, .int 1, []), (123, .iconst 5, 1, 0, 0, .int 5, []), (124, .invokevirtual 173, 3, 176, 0, .null, []), (127, .istore_n 3, 1, 0, 0, .null, []), (128, .aload_n 0, 1, 0, 0, .null, []), (129, .getfield 60, 3, 11, 25, .null, []), (132, .aload_n 0, 1, 0, 0, .null, []), (133, .getfield 163, 3, 11, 21, .null, []), (136, .iload_n 1, 1, 0, 0, .null, []), (137, .iastore, 1, 0, 0, .null, []), (138, .aload_n 0, 1, 0, 0, .null, []), (139, .getfield 63, 3, 11, 26, .null, []), (142, .aload_n 0, 1, 0, 0, .null, []), (143, .getfield 163, 3, 11, 21, .null, []), (146, .iload_n 2, 1, 0, 0, .null, []), (147, .iastore, 1, 0, 0, .null, []), (148, .aload_n 0, 1, 0, 0, .null, []), (149, .getfield 66, 3, 11, 27, .null, []), (152, .aload_n 0, 1, 0, 0, .null, []), (153, .getfield 163, 3, 11, 21, .null, []), (156, .iload_n 3, 1, 0, 0, .null, []), (157, .iastore, 1, 0, 0, .null, []), (158, .aload_n 0, 1, 0, 0, .null, []), (159, .dup, 1, 0, 0, .null, []), (160, .getfield 163, 3, 11, 21, .null, []), (163, .iconst 1, 1, 0, 0, .int 1, []), (164, .iadd, 1, 0, 0, .null, []), (165, .putfield 163, 3, 11, 21, .null, []), (168, .iload_n 3, 1, 0, 0, .null, []), (169, .ifCond .le 7, 3, 176, 0, .null, []), (172, .iconst 1, 1, 0, 0, .int 1, []), (173, .goto 4, 3, 177, 0, .null, []), (176, .iconst 0, 1, 0, 0, .int 0, []), (177, .ireturn, 1, 0, 0, .null, [])]
set_option maxRecDepth 100000 in
theorem ck180 : ∀ ce ∈ cd180, okB (yO 180) (yC 180) ce = true := List.all_eq_true.mp (by decide +kernel)
/-- ShapeDuelModel.takesFighter()Z -/
def cd181 : List CE := [(0, .aload_n 0, 1, 0, 0, .null, []), (1, .getfield 160, 3, 11, 20, .null, []), (4, .ifCond .eq 11, 3, 15, 0, .null, []), (7, .aload_n 0, 1, 0, 0, .null, []), (8, .getfield 166, 3, 11, 22, .null, []), (11, .iconst 2, 1, 0, 0, .int 2, []), (12, .if_icmp .ne 5, 3, 17, 0, .null, []), (15, .iconst 0, 1, 0, 0, .int 0, []), (16, .ireturn, 1, 0, 0, .null, []), (17, .aload_n 0, 1, 0, 0, .null, []), (18, .dup, 1, 0, 0, .null, []), (19, .getfield 150, 3, 11, 29, .null, []), (22, .iconst 1, 1, 0, 0, .int 1, []), (23, .iadd, 1, 0, 0, .null, []), (24, .putfield 150, 3, 11, 29, .null, []), (27, .aload_n 0, 1, 0, 0, .null, []), (28, .iconst 0, 1, 0, 0, .int 0, []), (29, .aload_n 0, 1, 0, 0, .null, []), (30, .getfield 160, 3, 11, 20, .null, []), (33, .iconst 1, 1, 0, 0, .int 1, []), (34, .isub, 1, 0, 0, .null, []), (35, .invokevirtual 173, 3, 176, 0, .null, []), (38, .istore_n 1, 1, 0, 0, .null, []), (39, .iload_n 1, 1, 0, 0, .null, []), (40, .ifCond .ge 5, 3, 45, 0, .null, []), (43, .iconst 0, 1, 0, 0, .int 0, []), (44, .ireturn, 1, 0, 0, .null, []), (45, .aload_n 0, 1, 0, 0, .null, []), (46, .iconst 0, 1, 0, 0, .int 0, []), (47, .iconst 5, 1, 0, 0, .int 5, []), (48, .invokevirtual 173, 3, 176, 0, .null, []), (51, .istore_n 2, 1, 0, 0, .null, []), (52, .aload_n 0, 1, 0, 0, .null, []), (53, .getfield 69, 3, 11, 28, .null, []), (56, .iconst 2, 1, 0, 0, .int 2, []), (57, .aload_n 0, 1, 0, 0, .null, []), (58, .getfield 166, 3, 11, 22, .null, []), (61, .imul, 1, 0, 0, .null, []), (62, .iload_n 1, 1, 0, 0, .null, []), (63, .iastore, 1, 0, 0, .null, []), (64, .aload_n 0, 1, 0, 0, .null, []), (65, .getfield 69, 3, 11, 28, .null, []), (68, .iconst 2, 1, 0, 0, .int 2, []), (69, .aload_n 0, 1, 0, 0, .null, []), (70, .getfield 166, 3, 11, 22, .null, []), (73, .imul, 1, 0, 0, .null, []), (74, .iconst 1, 1, 0, 0, .int 1, []), (75, .iadd, 1, 0, 0, .null, []), (76, .iload_n 2, 1, 0, 0, .null, []), (77, .iastore, 1, 0, 0, .null, []), (78, .aload_n 0, 1, 0, 0, .null, []), (79, .dup, 1, 0, 0, .null, []), (80, .getfield 166, 3, 11, 22, .null, []), (83, .iconst 1, 1, 0, 0, .int 1, []), (84, .iadd, 1, 0, 0, .null, []), (85, .putfield 166, 3, 11, 22, .null, []), (88, .iload_n 2, 1, 0, 0, .null, []), (89, .ifCond .lt 7, 3, 96, 0, .null, []), (92, .iconst 1, 1, 0, 0, .int 1, []), (93, .goto 4, 3, 97, 0, .null, []), (96, .iconst 0, 1, 0, 0, .int 0, []), (97, .ireturn, 1, 0, 0, .null, [])]
set_option maxRecDepth 100000 in
theorem ck181 : ∀ ce ∈ cd181, okB (yO 181) (yC 181) ce = true := List.all_eq_true.mp (by decide +kernel)
/-- ShapeDuelModel.takesItem()Z -/
def cd182 : List CE := [(0, .aload_n 0, 1, 0, 0, .null, []), (1, .invokevirtual 156, 3, 175, 0, .null, []), (4, .istore_n 1, 1, 0, 0, .null, []), (5, .iload_n 1, 1, 0, 0, .null, []), (6, .bipush 120, 2, 0, 0, .int 120, []), (8, .if_icmp .ne 10, 3, 18, 0, .null, []), (11, .aload_n 0, 1, 0, 0, .null, []), (12, .invokevirtual 179, 3, 180, 0, .null, []), (15, .goto 39, 3, 54, 0, .null, []), (18, .iload_n 1, 1, 0, 0, .null, []), (19, .bipush 102, 2, 0, 0, .int 102, []), (21, .if_icmp .ne 10, 3, 31, 0, .null, []), (24, .aload_n 0, 1, 0, 0, .null, []), (25, .invokevirtual 183, 3, 181, 0, .null, []), (28, .goto 26, 3, 54, 0, .null, []), (31, .iload_n 1, 1, 0, 0, .null, []), (32, .invokestatic 186, 3, 177, 0, .null, []), (35, .ifCond .lt 18, 3, 53, 0, .null, []), (38, .aload_n 0, 1, 0, 0, .null, []), (39, .iload_n 1, 1, 0, 0, .null, []), (40, .invokestatic 186, 3, 177, 0, .null, []), (43, .invokevirtual 189, 3, 178, 0, .null, []), (46, .ifCond .eq 7, 3, 53, 0, .null, []), (49, .iconst 1, 1, 0, 0, .int 1, []), (50, .goto 4, 3, 54, 0, .null, []), (53, .iconst 0, 1, 0, 0, .int 0, []), (54, .ireturn, 1, 0, 0, .null, [])]
set_option maxRecDepth 100000 in
theorem ck182 : ∀ ce ∈ cd182, okB (yO 182) (yC 182) ce = true := List.all_eq_true.mp (by decide +kernel)
/-- ShapeDuelModel.faultOf(I)I -/
def cd183 : List CE := [(0, .aload_n 0, 1, 0, 0, .null, []), (1, .iload_n 1, 1, 0, 0, .null, []), (2, .putfield 153, 3, 11, 30, .null, []), (5, .aload_n 0, 1, 0, 0, .null, []), (6, .iconst 0, 1, 0, 0, .int 0, []), (7, .putfield 150, 3, 11, 29, .null, []), (10, .aload_n 0, 1, 0, 0, .null, []), (11, .iconst 0, 1, 0, 0, .int 0, []), (12, .putfield 160, 3, 11, 20, .null, []), (15, .aload_n 0, 1, 0, 0, .null, []), (16, .iconst 0, 1, 0, 0, .int 0, []), (17, .putfield 163, 3, 11, 21, .null, []), (20, .aload_n 0, 1, 0, 0, .null, []), (21, .iconst 0, 1, 0, 0, .int 0, []), (22, .putfield 166, 3, 11, 22, .null, []), (25, .aload_n 0, 1, 0, 0, .null, []), (26, .getfield 150, 3, 11, 29, .null, []), (29, .aload_n 0, 1, 0, 0, .null, []), (30, .getfield 45, 3, 11, 17, .null, []), (33, .iload_n 1, 1, 0, 0, .null, []), (34, .iaload, 1, 0, 0, .null, []), (35, .if_icmp .ge 37, 3, 72, 0, .null, []), (38, .aload_n 0, 1, 0, 0, .null, []), (39, .invokevirtual 156, 3, 175, 0, .null, []), (42, .bipush 32, 2, 0, 0, .int 32, []), (44, .if_icmp .ne 16, 3, 60, 0, .null, []), (47, .aload_n 0, 1, 0, 0, .null, []), (48, .dup, 1, 0, 0, .null, []), (49, .getfield 150, 3, 11, 29, .null, []), (52, .iconst 1, 1, 0, 0, .int 1, []), (53, .iadd, 1, 0, 0, .null, []), (54, .putfield 150, 3, 11, 29, .null, []), (57, .goto (-32), 3, 25, 0, .null, []), (60, .aload_n 0, 1, 0, 0, .null, []), (61, .invokevirtual 192, 3, 182, 0, .null, []), (64, .ifCond .ne (-39), 3, 25, 0, .null, []), (67, .aload_n 0, 1, 0, 0, .null, []), (68, .getfield 150, 3, 11, 29, .null, []), (71, .ireturn, 1, 0, 0, .null, []), (72, .aload_n 0, 1, 0, 0, .null, []), (73, .getfield 166, 3, 11, 22, .null, []), (76, .iconst 2, 1, 0, 0, .int 2, []), (77, .if_icmp .ne 8, 3, 85, 0, .null, []), (80, .bipush (-9), 2, 0, 0, .int (-9), []), (82, .goto 7, 3, 89, 0, .null, []), (85, .aload_n 0, 1, 0, 0, .null, []), (86, .getfield 150, 3, 11, 29, .null, []), (89, .ireturn, 1, 0, 0, .null, [])]
set_option maxRecDepth 100000 in
theorem ck183 : ∀ ce ∈ cd183, okB (yO 183) (yC 183) ce = true := List.all_eq_true.mp (by decide +kernel)
/-- ShapeDuelModel.fault(I)I -/
def cd184 : List CE := [(0, .iload_n 1, 1, 0, 0, .null, []), (1, .invokestatic 147, 3, 164, 0, .null, []), (4, .ifCond .ne 5, 3, 9, 0, .null, []), (7, .iconst (-1), 1, 0, 0, .int (-1), []), (8, .ireturn, 1, 0, 0, .null, []), (9, .aload_n 0, 1, 0, 0, .null, []), (10, .getfield 45, 3, 11, 17, .null, []), (13, .iload_n 1, 1, 0, 0, .null, []), (14, .iaload, 1, 0, 0, .null, []), (15, .ifCond .ge 11, 3, 26, 0, .null, []), (18, .aload_n 0, 1, 0, 0, .null, []), (19, .iconst 1, 1, 0, 0, .int 1, []), (20, .invokevirtual 131, 3, 161, 0, .null, []), (23, .goto 8, 3, 31, 0, .null, []), (26, .aload_n 0, 1, 0, 0, .null, []), (27, .iload_n 1, 1, 0, 0, .null, []), (28, .invokevirtual 195, 3, 183, 0, .null, []), (31, .ireturn, 1, 0, 0, .null, [])]
set_option maxRecDepth 100000 in
theorem ck184 : ∀ ce ∈ cd184, okB (yO 184) (yC 184) ce = true := List.all_eq_true.mp (by decide +kernel)
/-- ShapeDuelModel.night(I)I -/
def cd185_0 : List CE := [(0, .iload_n 1, 1, 0, 0, .null, []), (1, .invokestatic 147, 3, 164, 0, .null, []), (4, .ifCond .ne 5, 3, 9, 0, .null, []), (7, .iconst (-1), 1, 0, 0, .int (-1), []), (8, .ireturn, 1, 0, 0, .null, []), (9, .aload_n 0, 1, 0, 0, .null, []), (10, .getfield 45, 3, 11, 17, .null, []), (13, .iload_n 1, 1, 0, 0, .null, []), (14, .iaload, 1, 0, 0, .null, []), (15, .ifCond .ge 9, 3, 24, 0, .null, []), (18, .aload_n 0, 1, 0, 0, .null, []), (19, .iconst 1, 1, 0, 0, .int 1, []), (20, .invokevirtual 131, 3, 161, 0, .null, []), (23, .ireturn, 1, 0, 0, .null, []), (24, .aload_n 0, 1, 0, 0, .null, []), (25, .iload_n 1, 1, 0, 0, .null, []), (26, .invokevirtual 195, 3, 183, 0, .null, []), (29, .bipush (-9), 2, 0, 0, .int (-9), []), (31, .if_icmp .eq 6, 3, 37, 0, .null, []), (34, .bipush (-4), 2, 0, 0, .int (-4), []), (36, .ireturn, 1, 0, 0, .null, []), (37, .aload_n 0, 1, 0, 0, .null, []), (38, .aload_n 0, 1, 0, 0, .null, []), (39, .getfield 160, 3, 11, 20, .null, []), (42, .putfield 198, 3, 11, 3, .null, []), (45, .aload_n 0, 1, 0, 0, .null, []), (46, .aload_n 0, 1, 0, 0, .null, []), (47, .getfield 163, 3, 11, 21, .null, []), (50, .putfield 201, 3, 11, 6, .null, []), (53, .iconst 0, 1, 0, 0, .int 0, []), (54, .istore_n 2, 1, 0, 0, .null, []), (55, .iload_n 2, 1, 0, 0, .null, []), (56, .aload_n 0, 1, 0, 0, .null, []), (57, .getfield 198, 3, 11, 3, .null, []), (60, .if_icmp .ge 48, 3, 108, 0, .null, []), (63, .aload_n 0, 1, 0, 0, .null, []), (64, .getfield 17, 3, 11, 4, .null, []), (67, .iload_n 2, 1, 0, 0, .null, []), (68, .aload_n 0, 1, 0, 0, .null, []), (69, .getfield 54, 3, 11, 23, .null, []), (72, .iload_n 2, 1, 0, 0, .null, []), (73, .iaload, 1, 0, 0, .null, []), (74, .iastore, 1, 0, 0, .null, []), (75, .aload_n 0, 1, 0, 0, .null, []), (76, .getfield 20, 3, 11, 5, .null, []), (79, .iload_n 2, 1, 0, 0, .null, []), (80, .aload_n 0, 1, 0, 0, .null, []), (81, .getfield 57, 3, 11, 24, .null, []), (84, .iload_n 2, 1, 0, 0, .null, []), (85, .iaload, 1, 0, 0, .null, []), (86, .iconst 1, 1, 0, 0, .int 1, []), (87, .aload_n 0, 1, 0, 0, .null, []), (88, .getfield 198, 3, 11, 3, .null, []), (91, .ishl, 1, 0, 0, .null, []), (92, .iconst 1, 1, 0, 0, .int 1, []), (93, .isub, 1, 0, 0, .null, []), (94, .iand, 1, 0, 0, .null, []), (95, .iconst 1, 1, 0, 0, .int 1, []), (96, .iload_n 2, 1, 0, 0, .null, []), (97, .ishl, 1, 0, 0, .null, []), (98, .iconst (-1), 1, 0, 0, .int (-1), []), (99, .ixor, 1, 0, 0, .null, []), (100, .iand, 1, 0, 0, .null, []), (101, .iastore, 1, 0, 0, .null, []), (102, .iinc 2 1, 3, 0, 0, .int 1, []), (105, .goto (-50), 3, 55, 0, .null, []), (108, .iconst 0, 1, 0, 0, .int 0, []), (109, .istore_n 2, 1, 0, 0, .null, []), (110, .iload_n 2, 1, 0, 0, .null, []), (111, .aload_n 0, 1, 0, 0, .null, []), (112, .getfield 201, 3, 11, 6, .null, []), (115, .if_icmp .ge 45, 3, 160, 0, .null, []), (118, .aload_n 0, 1, 0, 0, .null, []), (119, .getfield 23, 3, 11, 7, .null, []), (122, .iload_n 2, 1, 0, 0, .null, []), (123, .aload_n 0, 1, 0, 0, .null, []), (124, .getfield 60, 3, 11, 25, .null, []), (127, .iload_n 2, 1, 0, 0, .null, []), (128, .iaload, 1, 0, 0, .null, []), (129, .iastore, 1, 0, 0, .null, []), (130, .aload_n 0, 1, 0, 0, .null, []), (131, .getfield 26, 3, 11, 8, .null, []), (134, .iload_n 2, 1, 0, 0, .null, []), (135, .aload_n 0, 1, 0, 0, .null, []), (136, .getfield 63, 3, 11, 26, .null, []), (139, .iload_n 2, 1, 0, 0, .null, []), (140, .iaload, 1, 0, 0, .null, []), (141, .iastore, 1, 0, 0, .null, []), (142, .aload_n 0, 1, 0, 0, .null, []), (143, .getfield 29, 3, 11, 9, .null, []), (146, .iload_n 2, 1, 0, 0, .null, []), (147, .aload_n 0, 1, 0, 0, .null, []), (148, .getfield 66, 3, 11, 27, .null, []), (151, .iload_n 2, 1, 0, 0, .null, []), (152, .iaload, 1, 0, 0, .null, []), (153, .iastore, 1, 0, 0, .null, []), (154, .iinc 2 1, 3, 0, 0, .int 1, []), (157, .goto (-47), 3, 110, 0, .null, []), (160, .iconst 0, 1, 0, 0, .int 0, []), (161, .istore_n 2, 1, 0, 0, .null, [])]
set_option maxRecDepth 100000 in
theorem ck185_0 : ∀ ce ∈ cd185_0, okB (yO 185) (yC 185) ce = true := List.all_eq_true.mp (by decide +kernel)
def cd185_1 : List CE := [(162, .iload_n 2, 1, 0, 0, .null, []), (163, .iconst 2, 1, 0, 0, .int 2, []), (164, .if_icmp .ge 78, 3, 242, 0, .null, []), (167, .aload_n 0, 1, 0, 0, .null, []), (168, .getfield 7, 3, 11, 0, .null, []), (171, .iconst 0, 1, 0, 0, .int 0, []), (172, .iload_n 2, 1, 0, 0, .null, []), (173, .iadd, 1, 0, 0, .null, []), (174, .aload_n 0, 1, 0, 0, .null, []), (175, .getfield 69, 3, 11, 28, .null, []), (178, .iconst 2, 1, 0, 0, .int 2, []), (179, .iload_n 2, 1, 0, 0, .null, []), (180, .imul, 1, 0, 0, .null, []), (181, .iaload, 1, 0, 0, .null, []), (182, .iastore, 1, 0, 0, .null, []), (183, .aload_n 0, 1, 0, 0, .null, []), (184, .getfield 7, 3, 11, 0, .null, []), (187, .iconst 2, 1, 0, 0, .int 2, []), (188, .iload_n 2, 1, 0, 0, .null, []), (189, .iadd, 1, 0, 0, .null, []), (190, .aload_n 0, 1, 0, 0, .null, []), (191, .getfield 69, 3, 11, 28, .null, []), (194, .iconst 2, 1, 0, 0, .int 2, []), (195, .iload_n 2, 1, 0, 0, .null, []), (196, .imul, 1, 0, 0, .null, []), (197, .iconst 1, 1, 0, 0, .int 1, []), (198, .iadd, 1, 0, 0, .null, []), (199, .iaload, 1, 0, 0, .null, []), (200, .iastore, 1, 0, 0, .null, []), (201, .aload_n 0, 1, 0, 0, .null, []), (202, .getfield 7, 3, 11, 0, .null, []), (205, .iconst 4, 1, 0, 0, .int 4, []), (206, .iload_n 2, 1, 0, 0, .null, []), (207, .iadd, 1, 0, 0, .null, []), (208, .iconst 1, 1, 0, 0, .int 1, []), (209, .aload_n 0, 1, 0, 0, .null, []), (210, .getfield 69, 3, 11, 28, .null, []), (213, .iconst 2, 1, 0, 0, .int 2, []), (214, .iload_n 2, 1, 0, 0, .null, []), (215, .imul, 1, 0, 0, .null, []), (216, .iaload, 1, 0, 0, .null, []), (217, .ishl, 1, 0, 0, .null, []), (218, .iastore, 1, 0, 0, .null, []), (219, .aload_n 0, 1, 0, 0, .null, []), (220, .getfield 7, 3, 11, 0, .null, []), (223, .bipush 6, 2, 0, 0, .int 6, []), (225, .iload_n 2, 1, 0, 0, .null, []), (226, .iadd, 1, 0, 0, .null, []), (227, .iconst 1, 1, 0, 0, .int 1, []), (228, .aload_n 0, 1, 0, 0, .null, []), (229, .getfield 201, 3, 11, 6, .null, []), (232, .ishl, 1, 0, 0, .null, []), (233, .iconst 1, 1, 0, 0, .int 1, []), (234, .isub, 1, 0, 0, .null, []), (235, .iastore, 1, 0, 0, .null, []), (236, .iinc 2 1, 3, 0, 0, .int 1, []), (239, .goto (-77), 3, 162, 0, .null, []), (242, .aload_n 0, 1, 0, 0, .null, []), (243, .getfield 7, 3, 11, 0, .null, []), (246, .bipush 8, 2, 0, 0, .int 8, []), (248, .iconst 0, 1, 0, 0, .int 0, []), (249, .iastore, 1, 0, 0, .null, []), (250, .aload_n 0, 1, 0, 0, .null, []), (251, .iconst 1, 1, 0, 0, .int 1, []), (252, .putfield 204, 3, 11, 2, .null, []), (255, .iconst 0, 1, 0, 0, .int 0, []), (256, .istore_n 2, 1, 0, 0, .null, []), (257, .iload_n 2, 1, 0, 0, .null, []), (258, .iconst 3, 1, 0, 0, .int 3, []), (259, .if_icmp .ge 16, 3, 275, 0, .null, []), (262, .aload_n 0, 1, 0, 0, .null, []), (263, .getfield 13, 3, 11, 1, .null, []), (266, .iload_n 2, 1, 0, 0, .null, []), (267, .iconst 0, 1, 0, 0, .int 0, []), (268, .bastore, 1, 0, 0, .null, []), (269, .iinc 2 1, 3, 0, 0, .int 1, []), (272, .goto (-15), 3, 257, 0, .null, []), (275, .aload_n 0, 1, 0, 0, .null, []), (276, .getfield 198, 3, 11, 3, .null, []), (279, .ireturn, 1, 0, 0, .null, [])]
set_option maxRecDepth 100000 in
theorem ck185_1 : ∀ ce ∈ cd185_1, okB (yO 185) (yC 185) ce = true := List.all_eq_true.mp (by decide +kernel)
def cd185 : List CE := cd185_0 ++ (cd185_1)
theorem ck185 : ∀ ce ∈ cd185, okB (yO 185) (yC 185) ce = true := List.forall_mem_append.mpr ⟨ck185_0, ck185_1⟩
/-- ShapeDuelModel.isShape(I)Z -/
def cd186 : List CE := [(0, .iload_n 1, 1, 0, 0, .null, []), (1, .i2l, 1, 0, 0, .null, []), (2, .lconst 0, 1, 0, 0, .long 0, []), (3, .aload_n 0, 1, 0, 0, .null, []), (4, .getfield 198, 3, 11, 3, .null, []), (7, .iconst 1, 1, 0, 0, .int 1, []), (8, .isub, 1, 0, 0, .null, []), (9, .i2l, 1, 0, 0, .null, []), (10, .invokestatic 121, 3, 158, 0, .null, []), (13, .ireturn, 1, 0, 0, .null, [])]
set_option maxRecDepth 100000 in
theorem ck186 : ∀ ce ∈ cd186, okB (yO 186) (yC 186) ce = true := List.all_eq_true.mp (by decide +kernel)
/-- ShapeDuelModel.isChange(I)Z -/
def cd187 : List CE := [(0, .iload_n 1, 1, 0, 0, .null, []), (1, .i2l, 1, 0, 0, .null, []), (2, .lconst 0, 1, 0, 0, .long 0, []), (3, .aload_n 0, 1, 0, 0, .null, []), (4, .getfield 201, 3, 11, 6, .null, []), (7, .iconst 1, 1, 0, 0, .int 1, []), (8, .isub, 1, 0, 0, .null, []), (9, .i2l, 1, 0, 0, .null, []), (10, .invokestatic 121, 3, 158, 0, .null, []), (13, .ireturn, 1, 0, 0, .null, [])]
set_option maxRecDepth 100000 in
theorem ck187 : ∀ ce ∈ cd187, okB (yO 187) (yC 187) ce = true := List.all_eq_true.mp (by decide +kernel)
/-- ShapeDuelModel.isFighter(I)Z -/
def cd188 : List CE := [(0, .aload_n 0, 1, 0, 0, .null, []), (1, .getfield 204, 3, 11, 2, .null, []), (4, .ifCond .eq 17, 3, 21, 0, .null, []), (7, .iload_n 1, 1, 0, 0, .null, []), (8, .i2l, 1, 0, 0, .null, []), (9, .lconst 0, 1, 0, 0, .long 0, []), (10, .lconst 1, 1, 0, 0, .long 1, []), (11, .invokestatic 121, 3, 158, 0, .null, []), (14, .ifCond .eq 7, 3, 21, 0, .null, []), (17, .iconst 1, 1, 0, 0, .int 1, []), (18, .goto 4, 3, 22, 0, .null, []), (21, .iconst 0, 1, 0, 0, .int 0, []), (22, .ireturn, 1, 0, 0, .null, [])]
set_option maxRecDepth 100000 in
theorem ck188 : ∀ ce ∈ cd188, okB (yO 188) (yC 188) ce = true := List.all_eq_true.mp (by decide +kernel)
/-- ShapeDuelModel.beats(II)Z -/
def cd189 : List CE := [(0, .aload_n 0, 1, 0, 0, .null, []), (1, .getfield 20, 3, 11, 5, .null, []), (4, .iload_n 1, 1, 0, 0, .null, []), (5, .iaload, 1, 0, 0, .null, []), (6, .iload_n 2, 1, 0, 0, .null, []), (7, .invokestatic 208, 3, 159, 0, .null, []), (10, .ifCond .eq 27, 3, 37, 0, .null, []), (13, .aload_n 0, 1, 0, 0, .null, []), (14, .getfield 17, 3, 11, 4, .null, []), (17, .iload_n 1, 1, 0, 0, .null, []), (18, .iaload, 1, 0, 0, .null, []), (19, .iconst 3, 1, 0, 0, .int 3, []), (20, .if_icmp .ne 13, 3, 33, 0, .null, []), (23, .aload_n 0, 1, 0, 0, .null, []), (24, .getfield 17, 3, 11, 4, .null, []), (27, .iload_n 2, 1, 0, 0, .null, []), (28, .iaload, 1, 0, 0, .null, []), (29, .iconst 5, 1, 0, 0, .int 5, []), (30, .if_icmp .eq 7, 3, 37, 0, .null, []), (33, .iconst 1, 1, 0, 0, .int 1, []), (34, .goto 4, 3, 38, 0, .null, []), (37, .iconst 0, 1, 0, 0, .int 0, []), (38, .ireturn, 1, 0, 0, .null, [])]
set_option maxRecDepth 100000 in
theorem ck189 : ∀ ce ∈ cd189, okB (yO 189) (yC 189) ce = true := List.all_eq_true.mp (by decide +kernel)
/-- ShapeDuelModel.beatsOf(I)I -/
def cd190 : List CE := [(0, .iconst 0, 1, 0, 0, .int 0, []), (1, .istore_n 2, 1, 0, 0, .null, []), (2, .iconst 0, 1, 0, 0, .int 0, []), (3, .istore_n 3, 1, 0, 0, .null, []), (4, .iload_n 3, 1, 0, 0, .null, []), (5, .aload_n 0, 1, 0, 0, .null, []), (6, .getfield 198, 3, 11, 3, .null, []), (9, .if_icmp .ge 28, 3, 37, 0, .null, []), (12, .iload_n 2, 1, 0, 0, .null, []), (13, .aload_n 0, 1, 0, 0, .null, []), (14, .iload_n 1, 1, 0, 0, .null, []), (15, .iload_n 3, 1, 0, 0, .null, []), (16, .invokevirtual 212, 3, 189, 0, .null, []), (19, .ifCond .eq 9, 3, 28, 0, .null, []), (22, .iconst 1, 1, 0, 0, .int 1, []), (23, .iload_n 3, 1, 0, 0, .null, []), (24, .ishl, 1, 0, 0, .null, []), (25, .goto 4, 3, 29, 0, .null, []), (28, .iconst 0, 1, 0, 0, .int 0, []), (29, .ior, 1, 0, 0, .null, []), (30, .istore_n 2, 1, 0, 0, .null, []), (31, .iinc 3 1, 3, 0, 0, .int 1, []), (34, .goto (-30), 3, 4, 0, .null, []), (37, .iload_n 2, 1, 0, 0, .null, []), (38, .ireturn, 1, 0, 0, .null, [])]
set_option maxRecDepth 100000 in
theorem ck190 : ∀ ce ∈ cd190, okB (yO 190) (yC 190) ce = true := List.all_eq_true.mp (by decide +kernel)
/-- ShapeDuelModel.beatenBy(I)I -/
def cd191 : List CE := [(0, .iconst 0, 1, 0, 0, .int 0, []), (1, .istore_n 2, 1, 0, 0, .null, []), (2, .iconst 0, 1, 0, 0, .int 0, []), (3, .istore_n 3, 1, 0, 0, .null, []), (4, .iload_n 3, 1, 0, 0, .null, []), (5, .aload_n 0, 1, 0, 0, .null, []), (6, .getfield 198, 3, 11, 3, .null, []), (9, .if_icmp .ge 28, 3, 37, 0, .null, []), (12, .iload_n 2, 1, 0, 0, .null, []), (13, .aload_n 0, 1, 0, 0, .null, []), (14, .iload_n 3, 1, 0, 0, .null, []), (15, .iload_n 1, 1, 0, 0, .null, []), (16, .invokevirtual 212, 3, 189, 0, .null, []), (19, .ifCond .eq 9, 3, 28, 0, .null, []), (22, .iconst 1, 1, 0, 0, .int 1, []), (23, .iload_n 3, 1, 0, 0, .null, []), (24, .ishl, 1, 0, 0, .null, []), (25, .goto 4, 3, 29, 0, .null, []), (28, .iconst 0, 1, 0, 0, .int 0, []), (29, .ior, 1, 0, 0, .null, []), (30, .istore_n 2, 1, 0, 0, .null, []), (31, .iinc 3 1, 3, 0, 0, .int 1, []), (34, .goto (-30), 3, 4, 0, .null, []), (37, .iload_n 2, 1, 0, 0, .null, []), (38, .ireturn, 1, 0, 0, .null, [])]
set_option maxRecDepth 100000 in
theorem ck191 : ∀ ce ∈ cd191, okB (yO 191) (yC 191) ce = true := List.all_eq_true.mp (by decide +kernel)
/-- ShapeDuelModel.leading(I)I -/
def cd192 : List CE := [(0, .iconst 0, 1, 0, 0, .int 0, []), (1, .istore_n 2, 1, 0, 0, .null, []), (2, .iconst 0, 1, 0, 0, .int 0, []), (3, .istore_n 3, 1, 0, 0, .null, []), (4, .iload_n 3, 1, 0, 0, .null, []), (5, .aload_n 0, 1, 0, 0, .null, []), (6, .getfield 201, 3, 11, 6, .null, []), (9, .if_icmp .ge 27, 3, 36, 0, .null, []), (12, .iload_n 2, 1, 0, 0, .null, []), (13, .aload_n 0, 1, 0, 0, .null, []), (14, .getfield 26, 3, 11, 8, .null, []), (17, .iload_n 3, 1, 0, 0, .null, []), (18, .iaload, 1, 0, 0, .null, []), (19, .iload_n 1, 1, 0, 0, .null, []), (20, .if_icmp .ne 7, 3, 27, 0, .null, []), (23, .iconst 1, 1, 0, 0, .int 1, []), (24, .goto 4, 3, 28, 0, .null, []), (27, .iconst 0, 1, 0, 0, .int 0, []), (28, .iadd, 1, 0, 0, .null, []), (29, .istore_n 2, 1, 0, 0, .null, []), (30, .iinc 3 1, 3, 0, 0, .int 1, []), (33, .goto (-29), 3, 4, 0, .null, []), (36, .iload_n 2, 1, 0, 0, .null, []), (37, .ireturn, 1, 0, 0, .null, [])]
set_option maxRecDepth 100000 in
theorem ck192 : ∀ ce ∈ cd192, okB (yO 192) (yC 192) ce = true := List.all_eq_true.mp (by decide +kernel)
/-- ShapeDuelModel.shapeOf(II)I -/
def cd193 : List CE := [(0, .iload_n 2, 1, 0, 0, .null, []), (1, .ifCond .ne 12, 3, 13, 0, .null, []), (4, .aload_n 0, 1, 0, 0, .null, []), (5, .getfield 17, 3, 11, 4, .null, []), (8, .iload_n 1, 1, 0, 0, .null, []), (9, .iaload, 1, 0, 0, .null, []), (10, .goto 34, 3, 44, 0, .null, []), (13, .iload_n 2, 1, 0, 0, .null, []), (14, .iconst 1, 1, 0, 0, .int 1, []), (15, .if_icmp .ne 11, 3, 26, 0, .null, []), (18, .aload_n 0, 1, 0, 0, .null, []), (19, .iload_n 1, 1, 0, 0, .null, []), (20, .invokevirtual 215, 3, 190, 0, .null, []), (23, .goto 21, 3, 44, 0, .null, []), (26, .iload_n 2, 1, 0, 0, .null, []), (27, .iconst 2, 1, 0, 0, .int 2, []), (28, .if_icmp .ne 11, 3, 39, 0, .null, []), (31, .aload_n 0, 1, 0, 0, .null, []), (32, .iload_n 1, 1, 0, 0, .null, []), (33, .invokevirtual 218, 3, 191, 0, .null, []), (36, .goto 8, 3, 44, 0, .null, []), (39, .aload_n 0, 1, 0, 0, .null, []), (40, .iload_n 1, 1, 0, 0, .null, []), (41, .invokevirtual 221, 3, 192, 0, .null, []), (44, .ireturn, 1, 0, 0, .null, [])]
set_option maxRecDepth 100000 in
theorem ck193 : ∀ ce ∈ cd193, okB (yO 193) (yC 193) ce = true := List.all_eq_true.mp (by decide +kernel)
/-- ShapeDuelModel.shape(II)I -/
def cd194 : List CE := [(0, .aload_n 0, 1, 0, 0, .null, []), (1, .iload_n 1, 1, 0, 0, .null, []), (2, .invokevirtual 224, 3, 186, 0, .null, []), (5, .ifCond .eq 29, 3, 34, 0, .null, []), (8, .iload_n 2, 1, 0, 0, .null, []), (9, .i2l, 1, 0, 0, .null, []), (10, .lconst 0, 1, 0, 0, .long 0, []), (11, .ldc2_w 125, 3, 0, 0, .long (3), []), (14, .invokestatic 121, 3, 158, 0, .null, []), (17, .ifCond .eq 17, 3, 34, 0, .null, []), (20, .aload_n 0, 1, 0, 0, .null, []), (21, .iconst 1, 1, 0, 0, .int 1, []), (22, .aload_n 0, 1, 0, 0, .null, []), (23, .iload_n 1, 1, 0, 0, .null, []), (24, .iload_n 2, 1, 0, 0, .null, []), (25, .invokevirtual 227, 3, 193, 0, .null, []), (28, .invokevirtual 139, 3, 162, 0, .null, []), (31, .goto 4, 3, 35, 0, .null, []), (34, .iconst (-1), 1, 0, 0, .int (-1), []), (35, .ireturn, 1, 0, 0, .null, [])]
set_option maxRecDepth 100000 in
theorem ck194 : ∀ ce ∈ cd194, okB (yO 194) (yC 194) ce = true := List.all_eq_true.mp (by decide +kernel)
/-- ShapeDuelModel.changeOf(II)I -/
def cd195 : List CE := [(0, .aload_n 0, 1, 0, 0, .null, []), (1, .getfield 7, 3, 11, 0, .null, []), (4, .bipush 6, 2, 0, 0, .int 6, []), (6, .iaload, 1, 0, 0, .null, []), (7, .iload_n 1, 1, 0, 0, .null, []), (8, .ishr, 1, 0, 0, .null, []), (9, .iconst 1, 1, 0, 0, .int 1, []), (10, .iand, 1, 0, 0, .null, []), (11, .iconst 2, 1, 0, 0, .int 2, []), (12, .aload_n 0, 1, 0, 0, .null, []), (13, .getfield 7, 3, 11, 0, .null, []), (16, .bipush 7, 2, 0, 0, .int 7, []), (18, .iaload, 1, 0, 0, .null, []), (19, .iload_n 1, 1, 0, 0, .null, []), (20, .ishr, 1, 0, 0, .null, []), (21, .iconst 1, 1, 0, 0, .int 1, []), (22, .iand, 1, 0, 0, .null, []), (23, .imul, 1, 0, 0, .null, []), (24, .iadd, 1, 0, 0, .null, []), (25, .istore_n 3, 1, 0, 0, .null, []), (26, .iload_n 2, 1, 0, 0, .null, []), (27, .ifCond .ne 12, 3, 39, 0, .null, []), (30, .aload_n 0, 1, 0, 0, .null, []), (31, .getfield 23, 3, 11, 7, .null, []), (34, .iload_n 1, 1, 0, 0, .null, []), (35, .iaload, 1, 0, 0, .null, []), (36, .goto 32, 3, 68, 0, .null, []), (39, .iload_n 2, 1, 0, 0, .null, []), (40, .iconst 1, 1, 0, 0, .int 1, []), (41, .if_icmp .ne 12, 3, 53, 0, .null, []), (44, .aload_n 0, 1, 0, 0, .null, []), (45, .getfield 26, 3, 11, 8, .null, []), (48, .iload_n 1, 1, 0, 0, .null, []), (49, .iaload, 1, 0, 0, .null, []), (50, .goto 18, 3, 68, 0, .null, []), (53, .iload_n 2, 1, 0, 0, .null, []), (54, .iconst 2, 1, 0, 0, .int 2, []), (55, .if_icmp .ne 12, 3, 67, 0, .null, []), (58, .aload_n 0, 1, 0, 0, .null, []), (59, .getfield 29, 3, 11, 9, .null, []), (62, .iload_n 1, 1, 0, 0, .null, []), (63, .iaload, 1, 0, 0, .null, []), (64, .goto 4, 3, 68, 0, .null, []), (67, .iload_n 3, 1, 0, 0, .null, []), (68, .ireturn, 1, 0, 0, .null, [])]
set_option maxRecDepth 100000 in
theorem ck195 : ∀ ce ∈ cd195, okB (yO 195) (yC 195) ce = true := List.all_eq_true.mp (by decide +kernel)
/-- ShapeDuelModel.change(II)I -/
def cd196 : List CE := [(0, .aload_n 0, 1, 0, 0, .null, []), (1, .iload_n 1, 1, 0, 0, .null, []), (2, .invokevirtual 230, 3, 187, 0, .null, []), (5, .ifCond .eq 29, 3, 34, 0, .null, []), (8, .iload_n 2, 1, 0, 0, .null, []), (9, .i2l, 1, 0, 0, .null, []), (10, .lconst 0, 1, 0, 0, .long 0, []), (11, .ldc2_w 125, 3, 0, 0, .long (3), []), (14, .invokestatic 121, 3, 158, 0, .null, []), (17, .ifCond .eq 17, 3, 34, 0, .null, []), (20, .aload_n 0, 1, 0, 0, .null, []), (21, .iconst 1, 1, 0, 0, .int 1, []), (22, .aload_n 0, 1, 0, 0, .null, []), (23, .iload_n 1, 1, 0, 0, .null, []), (24, .iload_n 2, 1, 0, 0, .null, []), (25, .invokevirtual 233, 3, 195, 0, .null, []), (28, .invokevirtual 139, 3, 162, 0, .null, []), (31, .goto 4, 3, 35, 0, .null, []), (34, .iconst (-1), 1, 0, 0, .int (-1), []), (35, .ireturn, 1, 0, 0, .null, [])]
set_option maxRecDepth 100000 in
theorem ck196 : ∀ ce ∈ cd196, okB (yO 196) (yC 196) ce = true := List.all_eq_true.mp (by decide +kernel)
/-- ShapeDuelModel.markOf(II)I -/
def cd197_0 : List CE := [(0, .bipush (-9), 2, 0, 0, .int (-9), []), (2, .istore_n 3, 1, 0, 0, .null, []), (3, .iconst 0, 1, 0, 0, .int 0, []), (4, .istore 4, 2, 0, 0, .null, []), (6, .iconst 0, 1, 0, 0, .int 0, []), (7, .istore 5, 2, 0, 0, .null, []), (9, .iconst 0, 1, 0, 0, .int 0, []), (10, .istore 6, 2, 0, 0, .null, []), (12, .iload 6, 2, 0, 0, .null, []), (14, .aload_n 0, 1, 0, 0, .null, []), (15, .getfield 201, 3, 11, 6, .null, []), (18, .if_icmp .ge 82, 3, 100, 0, .null, []), (21, .aload_n 0, 1, 0, 0, .null, []), (22, .getfield 26, 3, 11, 8, .null, []), (25, .iload 6, 2, 0, 0, .null, []), (27, .iaload, 1, 0, 0, .null, []), (28, .iload_n 1, 1, 0, 0, .null, []), (29, .if_icmp .ne 24, 3, 53, 0, .null, []), (32, .iload_n 3, 1, 0, 0, .null, []), (33, .bipush (-9), 2, 0, 0, .int (-9), []), (35, .if_icmp .eq 14, 3, 49, 0, .null, []), (38, .aload_n 0, 1, 0, 0, .null, []), (39, .getfield 29, 3, 11, 9, .null, []), (42, .iload 6, 2, 0, 0, .null, []), (44, .iaload, 1, 0, 0, .null, []), (45, .iload_n 3, 1, 0, 0, .null, []), (46, .if_icmp .ge 7, 3, 53, 0, .null, []), (49, .iconst 1, 1, 0, 0, .int 1, []), (50, .goto 4, 3, 54, 0, .null, []), (53, .iconst 0, 1, 0, 0, .int 0, []), (54, .istore 7, 2, 0, 0, .null, []), (56, .iload 7, 2, 0, 0, .null, []), (58, .ifCond .eq 13, 3, 71, 0, .null, []), (61, .aload_n 0, 1, 0, 0, .null, []), (62, .getfield 29, 3, 11, 9, .null, []), (65, .iload 6, 2, 0, 0, .null, []), (67, .iaload, 1, 0, 0, .null, []), (68, .goto 4, 3, 72, 0, .null, []), (71, .iload_n 3, 1, 0, 0, .null, []), (72, .istore_n 3, 1, 0, 0, .null, []), (73, .iload 4, 2, 0, 0, .null, []), (75, .aload_n 0, 1, 0, 0, .null, []), (76, .getfield 23, 3, 11, 7, .null, []), (79, .iload 6, 2, 0, 0, .null, []), (81, .iaload, 1, 0, 0, .null, []), (82, .iload_n 1, 1, 0, 0, .null, []), (83, .if_icmp .ne 7, 3, 90, 0, .null, []), (86, .iconst 1, 1, 0, 0, .int 1, []), (87, .goto 4, 3, 91, 0, .null, []), (90, .iconst 0, 1, 0, 0, .int 0, []), (91, .iadd, 1, 0, 0, .null, []), (92, .istore 4, 2, 0, 0, .null, []), (94, .iinc 6 1, 3, 0, 0, .int 1, []), (97, .goto (-85), 3, 12, 0, .null, []), (100, .iconst 0, 1, 0, 0, .int 0, []), (101, .istore 6, 2, 0, 0, .null, []), (103, .iload 6, 2, 0, 0, .null, []), (105, .aload_n 0, 1, 0, 0, .null, []), (106, .getfield 198, 3, 11, 3, .null, []), (109, .if_icmp .ge 44, 3, 153, 0, .null, []), (112, .iload 5, 2, 0, 0, .null, []), (114, .aload_n 0, 1, 0, 0, .null, []), (115, .getfield 17, 3, 11, 4, .null, []), (118, .iload 6, 2, 0, 0, .null, []), (120, .iaload, 1, 0, 0, .null, []), (121, .iconst 3, 1, 0, 0, .int 3, []), (122, .if_icmp .ne 21, 3, 143, 0, .null, []), (125, .aload_n 0, 1, 0, 0, .null, []), (126, .getfield 20, 3, 11, 5, .null, []), (129, .iload 6, 2, 0, 0, .null, []), (131, .iaload, 1, 0, 0, .null, []), (132, .iload_n 1, 1, 0, 0, .null, []), (133, .invokestatic 208, 3, 159, 0, .null, []), (136, .ifCond .eq 7, 3, 143, 0, .null, []), (139, .iconst 1, 1, 0, 0, .int 1, []), (140, .goto 4, 3, 144, 0, .null, []), (143, .iconst 0, 1, 0, 0, .int 0, []), (144, .iadd, 1, 0, 0, .null, []), (145, .istore 5, 2, 0, 0, .null, []), (147, .iinc 6 1, 3, 0, 0, .int 1, []), (150, .goto (-47), 3, 103, 0, .null, []), (153, .aload_n 0, 1, 0, 0, .null, []), (154, .getfield 7, 3, 11, 0, .null, []), (157, .iconst 4, 1, 0, 0, .int 4, []), (158, .iaload, 1, 0, 0, .null, []), (159, .iload_n 1, 1, 0, 0, .null, []), (160, .ishr, 1, 0, 0, .null, []), (161, .iconst 1, 1, 0, 0, .int 1, []), (162, .iand, 1, 0, 0, .null, []), (163, .iconst 2, 1, 0, 0, .int 2, []), (164, .aload_n 0, 1, 0, 0, .null, []), (165, .getfield 7, 3, 11, 0, .null, []), (168, .iconst 5, 1, 0, 0, .int 5, []), (169, .iaload, 1, 0, 0, .null, []), (170, .iload_n 1, 1, 0, 0, .null, []), (171, .ishr, 1, 0, 0, .null, []), (172, .iconst 1, 1, 0, 0, .int 1, []), (173, .iand, 1, 0, 0, .null, []), (174, .imul, 1, 0, 0, .null, []), (175, .iadd, 1, 0, 0, .null, [])]
set_option maxRecDepth 100000 in
theorem ck197_0 : ∀ ce ∈ cd197_0, okB (yO 197) (yC 197) ce = true := List.all_eq_true.mp (by decide +kernel)
def cd197_1 : List CE := [(176, .istore 6, 2, 0, 0, .null, []), (178, .iload_n 2, 1, 0, 0, .null, []), (179, .iconst 1, 1, 0, 0, .int 1, []), (180, .if_icmp .ne 7, 3, 187, 0, .null, []), (183, .iload_n 3, 1, 0, 0, .null, []), (184, .goto 41, 3, 225, 0, .null, []), (187, .iload_n 2, 1, 0, 0, .null, []), (188, .iconst 2, 1, 0, 0, .int 2, []), (189, .if_icmp .ne 8, 3, 197, 0, .null, []), (192, .iload 6, 2, 0, 0, .null, []), (194, .goto 31, 3, 225, 0, .null, []), (197, .iload_n 2, 1, 0, 0, .null, []), (198, .iconst 3, 1, 0, 0, .int 3, []), (199, .if_icmp .ne 8, 3, 207, 0, .null, []), (202, .iload 4, 2, 0, 0, .null, []), (204, .goto 21, 3, 225, 0, .null, []), (207, .iload_n 2, 1, 0, 0, .null, []), (208, .iconst 4, 1, 0, 0, .int 4, []), (209, .if_icmp .ne 14, 3, 223, 0, .null, []), (212, .aload_n 0, 1, 0, 0, .null, []), (213, .iload_n 1, 1, 0, 0, .null, []), (214, .invokevirtual 218, 3, 191, 0, .null, []), (217, .invokestatic 236, 3, 160, 0, .null, []), (220, .goto 5, 3, 225, 0, .null, []), (223, .iload 5, 2, 0, 0, .null, []), (225, .ireturn, 1, 0, 0, .null, [])]
set_option maxRecDepth 100000 in
theorem ck197_1 : ∀ ce ∈ cd197_1, okB (yO 197) (yC 197) ce = true := List.all_eq_true.mp (by decide +kernel)
def cd197 : List CE := cd197_0 ++ (cd197_1)
theorem ck197 : ∀ ce ∈ cd197, okB (yO 197) (yC 197) ce = true := List.forall_mem_append.mpr ⟨ck197_0, ck197_1⟩
/-- ShapeDuelModel.mark(II)I -/
def cd198 : List CE := [(0, .aload_n 0, 1, 0, 0, .null, []), (1, .iload_n 1, 1, 0, 0, .null, []), (2, .invokevirtual 224, 3, 186, 0, .null, []), (5, .ifCond .eq 15, 3, 20, 0, .null, []), (8, .iload_n 2, 1, 0, 0, .null, []), (9, .i2l, 1, 0, 0, .null, []), (10, .lconst 1, 1, 0, 0, .long 1, []), (11, .ldc2_w 119, 3, 0, 0, .long (5), []), (14, .invokestatic 121, 3, 158, 0, .null, []), (17, .ifCond .ne 5, 3, 22, 0, .null, []), (20, .iconst (-1), 1, 0, 0, .int (-1), []), (21, .ireturn, 1, 0, 0, .null, []), (22, .aload_n 0, 1, 0, 0, .null, []), (23, .getfield 17, 3, 11, 4, .null, []), (26, .iload_n 1, 1, 0, 0, .null, []), (27, .iaload, 1, 0, 0, .null, []), (28, .iload_n 2, 1, 0, 0, .null, []), (29, .if_icmp .eq 33, 3, 62, 0, .null, []), (32, .iload_n 2, 1, 0, 0, .null, []), (33, .iconst 1, 1, 0, 0, .int 1, []), (34, .if_icmp .ne 13, 3, 47, 0, .null, []), (37, .aload_n 0, 1, 0, 0, .null, []), (38, .getfield 17, 3, 11, 4, .null, []), (41, .iload_n 1, 1, 0, 0, .null, []), (42, .iaload, 1, 0, 0, .null, []), (43, .iconst 5, 1, 0, 0, .int 5, []), (44, .if_icmp .eq 18, 3, 62, 0, .null, []), (47, .iload_n 2, 1, 0, 0, .null, []), (48, .iconst 2, 1, 0, 0, .int 2, []), (49, .if_icmp .ne 17, 3, 66, 0, .null, []), (52, .aload_n 0, 1, 0, 0, .null, []), (53, .getfield 17, 3, 11, 4, .null, []), (56, .iload_n 1, 1, 0, 0, .null, []), (57, .iaload, 1, 0, 0, .null, []), (58, .iconst 4, 1, 0, 0, .int 4, []), (59, .if_icmp .ne 7, 3, 66, 0, .null, []), (62, .iconst 1, 1, 0, 0, .int 1, []), (63, .goto 4, 3, 67, 0, .null, []), (66, .iconst 0, 1, 0, 0, .int 0, []), (67, .istore_n 3, 1, 0, 0, .null, []), (68, .iload_n 3, 1, 0, 0, .null, []), (69, .ifCond .eq 12, 3, 81, 0, .null, []), (72, .aload_n 0, 1, 0, 0, .null, []), (73, .iload_n 1, 1, 0, 0, .null, []), (74, .iload_n 2, 1, 0, 0, .null, []), (75, .invokevirtual 239, 3, 197, 0, .null, []), (78, .goto 8, 3, 86, 0, .null, []), (81, .aload_n 0, 1, 0, 0, .null, []), (82, .iconst 3, 1, 0, 0, .int 3, []), (83, .invokevirtual 131, 3, 161, 0, .null, []), (86, .ireturn, 1, 0, 0, .null, [])]
set_option maxRecDepth 100000 in
theorem ck198 : ∀ ce ∈ cd198, okB (yO 198) (yC 198) ce = true := List.all_eq_true.mp (by decide +kernel)
/-- ShapeDuelModel.fighter(II)I -/
def cd199 : List CE := [(0, .aload_n 0, 1, 0, 0, .null, []), (1, .iload_n 1, 1, 0, 0, .null, []), (2, .invokevirtual 242, 3, 188, 0, .null, []), (5, .ifCond .eq 33, 3, 38, 0, .null, []), (8, .iload_n 2, 1, 0, 0, .null, []), (9, .i2l, 1, 0, 0, .null, []), (10, .lconst 0, 1, 0, 0, .long 0, []), (11, .ldc2_w 125, 3, 0, 0, .long (3), []), (14, .invokestatic 121, 3, 158, 0, .null, []), (17, .ifCond .eq 21, 3, 38, 0, .null, []), (20, .aload_n 0, 1, 0, 0, .null, []), (21, .iconst 1, 1, 0, 0, .int 1, []), (22, .aload_n 0, 1, 0, 0, .null, []), (23, .getfield 7, 3, 11, 0, .null, []), (26, .iconst 2, 1, 0, 0, .int 2, []), (27, .iload_n 2, 1, 0, 0, .null, []), (28, .imul, 1, 0, 0, .null, []), (29, .iload_n 1, 1, 0, 0, .null, []), (30, .iadd, 1, 0, 0, .null, []), (31, .iaload, 1, 0, 0, .null, []), (32, .invokevirtual 139, 3, 162, 0, .null, []), (35, .goto 4, 3, 39, 0, .null, []), (38, .iconst (-1), 1, 0, 0, .int (-1), []), (39, .ireturn, 1, 0, 0, .null, [])]
set_option maxRecDepth 100000 in
theorem ck199 : ∀ ce ∈ cd199, okB (yO 199) (yC 199) ce = true := List.all_eq_true.mp (by decide +kernel)
/-- ShapeDuelModel.teach(III)I -/
def cd200 : List CE := [(0, .aload_n 0, 1, 0, 0, .null, []), (1, .iload_n 1, 1, 0, 0, .null, []), (2, .invokevirtual 242, 3, 188, 0, .null, []), (5, .ifCond .eq 21, 3, 26, 0, .null, []), (8, .aload_n 0, 1, 0, 0, .null, []), (9, .iload_n 2, 1, 0, 0, .null, []), (10, .invokevirtual 230, 3, 187, 0, .null, []), (13, .ifCond .eq 13, 3, 26, 0, .null, []), (16, .iload_n 3, 1, 0, 0, .null, []), (17, .i2l, 1, 0, 0, .null, []), (18, .lconst 0, 1, 0, 0, .long 0, []), (19, .lconst 1, 1, 0, 0, .long 1, []), (20, .invokestatic 121, 3, 158, 0, .null, []), (23, .ifCond .ne 5, 3, 28, 0, .null, []), (26, .iconst (-1), 1, 0, 0, .int (-1), []), (27, .ireturn, 1, 0, 0, .null, []), (28, .aload_n 0, 1, 0, 0, .null, []), (29, .getfield 7, 3, 11, 0, .null, []), (32, .bipush 6, 2, 0, 0, .int 6, []), (34, .iload_n 1, 1, 0, 0, .null, []), (35, .iadd, 1, 0, 0, .null, []), (36, .iaload, 1, 0, 0, .null, []), (37, .iload_n 2, 1, 0, 0, .null, []), (38, .ishr, 1, 0, 0, .null, []), (39, .iconst 1, 1, 0, 0, .int 1, []), (40, .iand, 1, 0, 0, .null, []), (41, .istore 4, 2, 0, 0, .null, []), (43, .aload_n 0, 1, 0, 0, .null, []), (44, .getfield 7, 3, 11, 0, .null, []), (47, .bipush 6, 2, 0, 0, .int 6, []), (49, .iload_n 1, 1, 0, 0, .null, []), (50, .iadd, 1, 0, 0, .null, []), (51, .aload_n 0, 1, 0, 0, .null, []), (52, .getfield 7, 3, 11, 0, .null, []), (55, .bipush 6, 2, 0, 0, .int 6, []), (57, .iload_n 1, 1, 0, 0, .null, []), (58, .iadd, 1, 0, 0, .null, []), (59, .iaload, 1, 0, 0, .null, []), (60, .iconst 1, 1, 0, 0, .int 1, []), (61, .iload_n 2, 1, 0, 0, .null, []), (62, .ishl, 1, 0, 0, .null, []), (63, .iconst (-1), 1, 0, 0, .int (-1), []), (64, .ixor, 1, 0, 0, .null, []), (65, .iand, 1, 0, 0, .null, []), (66, .iload_n 3, 1, 0, 0, .null, []), (67, .iload_n 2, 1, 0, 0, .null, []), (68, .ishl, 1, 0, 0, .null, []), (69, .ior, 1, 0, 0, .null, []), (70, .iastore, 1, 0, 0, .null, []), (71, .iload 4, 2, 0, 0, .null, []), (73, .ireturn, 1, 0, 0, .null, [])]
set_option maxRecDepth 100000 in
theorem ck200 : ∀ ce ∈ cd200, okB (yO 200) (yC 200) ce = true := List.all_eq_true.mp (by decide +kernel)
/-- ShapeDuelModel.fire(II)I -/
def cd201 : List CE := [(0, .aload_n 0, 1, 0, 0, .null, []), (1, .iload_n 1, 1, 0, 0, .null, []), (2, .invokevirtual 242, 3, 188, 0, .null, []), (5, .ifCond .eq 15, 3, 20, 0, .null, []), (8, .iload_n 2, 1, 0, 0, .null, []), (9, .i2l, 1, 0, 0, .null, []), (10, .lconst 0, 1, 0, 0, .long 0, []), (11, .ldc2_w 119, 3, 0, 0, .long (5), []), (14, .invokestatic 121, 3, 158, 0, .null, []), (17, .ifCond .ne 5, 3, 22, 0, .null, []), (20, .iconst (-1), 1, 0, 0, .int (-1), []), (21, .ireturn, 1, 0, 0, .null, []), (22, .aload_n 0, 1, 0, 0, .null, []), (23, .getfield 7, 3, 11, 0, .null, []), (26, .iconst 2, 1, 0, 0, .int 2, []), (27, .iload_n 1, 1, 0, 0, .null, []), (28, .iadd, 1, 0, 0, .null, []), (29, .iaload, 1, 0, 0, .null, []), (30, .istore_n 3, 1, 0, 0, .null, []), (31, .aload_n 0, 1, 0, 0, .null, []), (32, .getfield 7, 3, 11, 0, .null, []), (35, .iconst 2, 1, 0, 0, .int 2, []), (36, .iload_n 1, 1, 0, 0, .null, []), (37, .iadd, 1, 0, 0, .null, []), (38, .iload_n 2, 1, 0, 0, .null, []), (39, .iastore, 1, 0, 0, .null, []), (40, .iload_n 3, 1, 0, 0, .null, []), (41, .ireturn, 1, 0, 0, .null, [])]
set_option maxRecDepth 100000 in
theorem ck201 : ∀ ce ∈ cd201, okB (yO 201) (yC 201) ce = true := List.all_eq_true.mp (by decide +kernel)
/-- ShapeDuelModel.beat(III)I -/
def cd202 : List CE := [(0, .aload_n 0, 1, 0, 0, .null, []), (1, .iload_n 1, 1, 0, 0, .null, []), (2, .invokevirtual 224, 3, 186, 0, .null, []), (5, .ifCond .eq 26, 3, 31, 0, .null, []), (8, .aload_n 0, 1, 0, 0, .null, []), (9, .iload_n 2, 1, 0, 0, .null, []), (10, .invokevirtual 224, 3, 186, 0, .null, []), (13, .ifCond .eq 18, 3, 31, 0, .null, []), (16, .iload_n 1, 1, 0, 0, .null, []), (17, .iload_n 2, 1, 0, 0, .null, []), (18, .if_icmp .eq 13, 3, 31, 0, .null, []), (21, .iload_n 3, 1, 0, 0, .null, []), (22, .i2l, 1, 0, 0, .null, []), (23, .lconst 0, 1, 0, 0, .long 0, []), (24, .lconst 1, 1, 0, 0, .long 1, []), (25, .invokestatic 121, 3, 158, 0, .null, []), (28, .ifCond .ne 5, 3, 33, 0, .null, []), (31, .iconst (-1), 1, 0, 0, .int (-1), []), (32, .ireturn, 1, 0, 0, .null, []), (33, .aload_n 0, 1, 0, 0, .null, []), (34, .getfield 20, 3, 11, 5, .null, []), (37, .iload_n 1, 1, 0, 0, .null, []), (38, .iaload, 1, 0, 0, .null, []), (39, .iload_n 2, 1, 0, 0, .null, []), (40, .ishr, 1, 0, 0, .null, []), (41, .iconst 1, 1, 0, 0, .int 1, []), (42, .iand, 1, 0, 0, .null, []), (43, .istore 4, 2, 0, 0, .null, []), (45, .aload_n 0, 1, 0, 0, .null, []), (46, .getfield 20, 3, 11, 5, .null, []), (49, .iload_n 1, 1, 0, 0, .null, []), (50, .aload_n 0, 1, 0, 0, .null, []), (51, .getfield 20, 3, 11, 5, .null, []), (54, .iload_n 1, 1, 0, 0, .null, []), (55, .iaload, 1, 0, 0, .null, []), (56, .iconst 1, 1, 0, 0, .int 1, []), (57, .iload_n 2, 1, 0, 0, .null, []), (58, .ishl, 1, 0, 0, .null, []), (59, .iconst (-1), 1, 0, 0, .int (-1), []), (60, .ixor, 1, 0, 0, .null, []), (61, .iand, 1, 0, 0, .null, []), (62, .iload_n 3, 1, 0, 0, .null, []), (63, .iload_n 2, 1, 0, 0, .null, []), (64, .ishl, 1, 0, 0, .null, []), (65, .ior, 1, 0, 0, .null, []), (66, .iastore, 1, 0, 0, .null, []), (67, .iload 4, 2, 0, 0, .null, []), (69, .ireturn, 1, 0, 0, .null, [])]
set_option maxRecDepth 100000 in
theorem ck202 : ∀ ce ∈ cd202, okB (yO 202) (yC 202) ce = true := List.all_eq_true.mp (by decide +kernel)
/-- ShapeDuelModel.layRoot()V -/
def cd203 : List CE := [(0, .iconst 0, 1, 0, 0, .int 0, []), (1, .istore_n 1, 1, 0, 0, .null, []), (2, .iload_n 1, 1, 0, 0, .null, []), (3, .bipush 6, 2, 0, 0, .int 6, []), (5, .if_icmp .ge 21, 3, 26, 0, .null, []), (8, .aload_n 0, 1, 0, 0, .null, []), (9, .getfield 72, 3, 11, 31, .null, []), (12, .iload_n 1, 1, 0, 0, .null, []), (13, .aload_n 0, 1, 0, 0, .null, []), (14, .getfield 7, 3, 11, 0, .null, []), (17, .iload_n 1, 1, 0, 0, .null, []), (18, .iaload, 1, 0, 0, .null, []), (19, .iastore, 1, 0, 0, .null, []), (20, .iinc 1 1, 3, 0, 0, .int 1, []), (23, .goto (-21), 3, 2, 0, .null, []), (26, .aload_n 0, 1, 0, 0, .null, []), (27, .getfield 75, 3, 11, 32, .null, []), (30, .iconst 0, 1, 0, 0, .int 0, []), (31, .iconst 0, 1, 0, 0, .int 0, []), (32, .iastore, 1, 0, 0, .null, []), (33, .aload_n 0, 1, 0, 0, .null, []), (34, .getfield 78, 3, 11, 33, .null, []), (37, .iconst 0, 1, 0, 0, .int 0, []), (38, .aload_n 0, 1, 0, 0, .null, []), (39, .getfield 7, 3, 11, 0, .null, []), (42, .bipush 6, 2, 0, 0, .int 6, []), (44, .iaload, 1, 0, 0, .null, []), (45, .iastore, 1, 0, 0, .null, []), (46, .aload_n 0, 1, 0, 0, .null, []), (47, .getfield 78, 3, 11, 33, .null, []), (50, .iconst 1, 1, 0, 0, .int 1, []), (51, .aload_n 0, 1, 0, 0, .null, []), (52, .getfield 7, 3, 11, 0, .null, []), (55, .bipush 7, 2, 0, 0, .int 7, []), (57, .iaload, 1, 0, 0, .null, []), (58, .iastore, 1, 0, 0, .null, []), (59, .aload_n 0, 1, 0, 0, .null, []), (60, .aload_n 0, 1, 0, 0, .null, []), (61, .getfield 7, 3, 11, 0, .null, []), (64, .bipush 8, 2, 0, 0, .int 8, []), (66, .iaload, 1, 0, 0, .null, []), (67, .iconst 2, 1, 0, 0, .int 2, []), (68, .irem, 1, 0, 0, .null, []), (69, .putfield 245, 3, 11, 34, .null, []), (72, .return_, 1, 0, 0, .null, [])]
set_option maxRecDepth 100000 in
theorem ck203 : ∀ ce ∈ cd203, okB (yO 203) (yC 203) ce = true := List.all_eq_true.mp (by decide +kernel)
/-- ShapeDuelModel.takes(III)I -/
def cd204 : List CE := [(0, .aload_n 0, 1, 0, 0, .null, []), (1, .getfield 17, 3, 11, 4, .null, []), (4, .aload_n 0, 1, 0, 0, .null, []), (5, .getfield 26, 3, 11, 8, .null, []), (8, .iload_n 3, 1, 0, 0, .null, []), (9, .iaload, 1, 0, 0, .null, []), (10, .iaload, 1, 0, 0, .null, []), (11, .iconst 1, 1, 0, 0, .int 1, []), (12, .if_icmp .eq 18, 3, 30, 0, .null, []), (15, .aload_n 0, 1, 0, 0, .null, []), (16, .getfield 17, 3, 11, 4, .null, []), (19, .aload_n 0, 1, 0, 0, .null, []), (20, .getfield 26, 3, 11, 8, .null, []), (23, .iload_n 3, 1, 0, 0, .null, []), (24, .iaload, 1, 0, 0, .null, []), (25, .iaload, 1, 0, 0, .null, []), (26, .iconst 5, 1, 0, 0, .int 5, []), (27, .if_icmp .ne 7, 3, 34, 0, .null, []), (30, .iconst 1, 1, 0, 0, .int 1, []), (31, .goto 4, 3, 35, 0, .null, []), (34, .iconst 0, 1, 0, 0, .int 0, []), (35, .istore 4, 2, 0, 0, .null, []), (37, .aload_n 0, 1, 0, 0, .null, []), (38, .getfield 17, 3, 11, 4, .null, []), (41, .aload_n 0, 1, 0, 0, .null, []), (42, .getfield 23, 3, 11, 7, .null, []), (45, .iload_n 3, 1, 0, 0, .null, []), (46, .iaload, 1, 0, 0, .null, []), (47, .iaload, 1, 0, 0, .null, []), (48, .iconst 3, 1, 0, 0, .int 3, []), (49, .if_icmp .ne 7, 3, 56, 0, .null, []), (52, .iconst 1, 1, 0, 0, .int 1, []), (53, .goto 4, 3, 57, 0, .null, []), (56, .iconst 0, 1, 0, 0, .int 0, []), (57, .istore 5, 2, 0, 0, .null, []), (59, .aload_n 0, 1, 0, 0, .null, []), (60, .getfield 17, 3, 11, 4, .null, []), (63, .aload_n 0, 1, 0, 0, .null, []), (64, .getfield 72, 3, 11, 31, .null, []), (67, .bipush 6, 2, 0, 0, .int 6, []), (69, .iload_n 1, 1, 0, 0, .null, []), (70, .imul, 1, 0, 0, .null, []), (71, .iconst 0, 1, 0, 0, .int 0, []), (72, .iadd, 1, 0, 0, .null, []), (73, .iconst 1, 1, 0, 0, .int 1, []), (74, .iadd, 1, 0, 0, .null, []), (75, .iload_n 2, 1, 0, 0, .null, []), (76, .isub, 1, 0, 0, .null, []), (77, .iaload, 1, 0, 0, .null, []), (78, .iaload, 1, 0, 0, .null, []), (79, .iconst 4, 1, 0, 0, .int 4, []), (80, .if_icmp .ne 7, 3, 87, 0, .null, []), (83, .iconst 1, 1, 0, 0, .int 1, []), (84, .goto 4, 3, 88, 0, .null, []), (87, .iconst 0, 1, 0, 0, .int 0, []), (88, .istore 6, 2, 0, 0, .null, []), (90, .aload_n 0, 1, 0, 0, .null, []), (91, .getfield 29, 3, 11, 9, .null, []), (94, .iload_n 3, 1, 0, 0, .null, []), (95, .iaload, 1, 0, 0, .null, []), (96, .iload 4, 2, 0, 0, .null, []), (98, .isub, 1, 0, 0, .null, []), (99, .iload 5, 2, 0, 0, .null, []), (101, .iadd, 1, 0, 0, .null, []), (102, .iload 6, 2, 0, 0, .null, []), (104, .iadd, 1, 0, 0, .null, []), (105, .istore 7, 2, 0, 0, .null, []), (107, .iload 7, 2, 0, 0, .null, []), (109, .iconst 1, 1, 0, 0, .int 1, []), (110, .if_icmp .ge 7, 3, 117, 0, .null, []), (113, .iconst 1, 1, 0, 0, .int 1, []), (114, .goto 5, 3, 119, 0, .null, []), (117, .iload 7, 2, 0, 0, .null, []), (119, .ireturn, 1, 0, 0, .null, [])]
set_option maxRecDepth 100000 in
theorem ck204 : ∀ ce ∈ cd204, okB (yO 204) (yC 204) ce = true := List.all_eq_true.mp (by decide +kernel)
/-- ShapeDuelModel.canBe(III)Z -/
def cd205 : List CE := [(0, .aload_n 0, 1, 0, 0, .null, []), (1, .getfield 17, 3, 11, 4, .null, []), (4, .aload_n 0, 1, 0, 0, .null, []), (5, .getfield 26, 3, 11, 8, .null, []), (8, .iload_n 3, 1, 0, 0, .null, []), (9, .iaload, 1, 0, 0, .null, []), (10, .iaload, 1, 0, 0, .null, []), (11, .iconst 2, 1, 0, 0, .int 2, []), (12, .if_icmp .eq 18, 3, 30, 0, .null, []), (15, .aload_n 0, 1, 0, 0, .null, []), (16, .getfield 17, 3, 11, 4, .null, []), (19, .aload_n 0, 1, 0, 0, .null, []), (20, .getfield 26, 3, 11, 8, .null, []), (23, .iload_n 3, 1, 0, 0, .null, []), (24, .iaload, 1, 0, 0, .null, []), (25, .iaload, 1, 0, 0, .null, []), (26, .iconst 4, 1, 0, 0, .int 4, []), (27, .if_icmp .ne 7, 3, 34, 0, .null, []), (30, .iconst 1, 1, 0, 0, .int 1, []), (31, .goto 4, 3, 35, 0, .null, []), (34, .iconst 0, 1, 0, 0, .int 0, []), (35, .istore 4, 2, 0, 0, .null, []), (37, .iload 4, 2, 0, 0, .null, []), (39, .ifCond .ne 28, 3, 67, 0, .null, []), (42, .aload_n 0, 1, 0, 0, .null, []), (43, .getfield 72, 3, 11, 31, .null, []), (46, .bipush 6, 2, 0, 0, .int 6, []), (48, .iload_n 1, 1, 0, 0, .null, []), (49, .imul, 1, 0, 0, .null, []), (50, .iconst 4, 1, 0, 0, .int 4, []), (51, .iadd, 1, 0, 0, .null, []), (52, .iload_n 2, 1, 0, 0, .null, []), (53, .iadd, 1, 0, 0, .null, []), (54, .iaload, 1, 0, 0, .null, []), (55, .aload_n 0, 1, 0, 0, .null, []), (56, .getfield 26, 3, 11, 8, .null, []), (59, .iload_n 3, 1, 0, 0, .null, []), (60, .iaload, 1, 0, 0, .null, []), (61, .invokestatic 208, 3, 159, 0, .null, []), (64, .ifCond .ne 7, 3, 71, 0, .null, []), (67, .iconst 1, 1, 0, 0, .int 1, []), (68, .goto 4, 3, 72, 0, .null, []), (71, .iconst 0, 1, 0, 0, .int 0, []), (72, .istore 5, 2, 0, 0, .null, []), (74, .aload_n 0, 1, 0, 0, .null, []), (75, .getfield 78, 3, 11, 33, .null, []), (78, .iload_n 2, 1, 0, 0, .null, []), (79, .iaload, 1, 0, 0, .null, []), (80, .iload_n 3, 1, 0, 0, .null, []), (81, .invokestatic 208, 3, 159, 0, .null, []), (84, .ifCond .eq 85, 3, 169, 0, .null, []), (87, .aload_n 0, 1, 0, 0, .null, []), (88, .getfield 23, 3, 11, 7, .null, []), (91, .iload_n 3, 1, 0, 0, .null, []), (92, .iaload, 1, 0, 0, .null, []), (93, .aload_n 0, 1, 0, 0, .null, []), (94, .getfield 72, 3, 11, 31, .null, []), (97, .bipush 6, 2, 0, 0, .int 6, []), (99, .iload_n 1, 1, 0, 0, .null, []), (100, .imul, 1, 0, 0, .null, []), (101, .iconst 0, 1, 0, 0, .int 0, []), (102, .iadd, 1, 0, 0, .null, []), (103, .iload_n 2, 1, 0, 0, .null, []), (104, .iadd, 1, 0, 0, .null, []), (105, .iaload, 1, 0, 0, .null, []), (106, .if_icmp .ne 63, 3, 169, 0, .null, []), (109, .iload 5, 2, 0, 0, .null, []), (111, .ifCond .eq 58, 3, 169, 0, .null, []), (114, .aload_n 0, 1, 0, 0, .null, []), (115, .aload_n 0, 1, 0, 0, .null, []), (116, .getfield 26, 3, 11, 8, .null, []), (119, .iload_n 3, 1, 0, 0, .null, []), (120, .iaload, 1, 0, 0, .null, []), (121, .aload_n 0, 1, 0, 0, .null, []), (122, .getfield 72, 3, 11, 31, .null, []), (125, .bipush 6, 2, 0, 0, .int 6, []), (127, .iload_n 1, 1, 0, 0, .null, []), (128, .imul, 1, 0, 0, .null, []), (129, .iconst 0, 1, 0, 0, .int 0, []), (130, .iadd, 1, 0, 0, .null, []), (131, .iconst 1, 1, 0, 0, .int 1, []), (132, .iadd, 1, 0, 0, .null, []), (133, .iload_n 2, 1, 0, 0, .null, []), (134, .isub, 1, 0, 0, .null, []), (135, .iaload, 1, 0, 0, .null, []), (136, .invokevirtual 212, 3, 189, 0, .null, []), (139, .ifCond .eq 30, 3, 169, 0, .null, []), (142, .aload_n 0, 1, 0, 0, .null, []), (143, .iload_n 1, 1, 0, 0, .null, []), (144, .iload_n 2, 1, 0, 0, .null, []), (145, .iload_n 3, 1, 0, 0, .null, []), (146, .invokevirtual 248, 3, 204, 0, .null, []), (149, .aload_n 0, 1, 0, 0, .null, []), (150, .getfield 72, 3, 11, 31, .null, []), (153, .bipush 6, 2, 0, 0, .int 6, []), (155, .iload_n 1, 1, 0, 0, .null, []), (156, .imul, 1, 0, 0, .null, []), (157, .iconst 2, 1, 0, 0, .int 2, []), (158, .iadd, 1, 0, 0, .null, []), (159, .iload_n 2, 1, 0, 0, .null, []), (160, .iadd, 1, 0, 0, .null, []), (161, .iaload, 1, 0, 0, .null, []), (162, .if_icmp .gt 7, 3, 169, 0, .null, []), (165, .iconst 1, 1, 0, 0, .int 1, []), (166, .goto 4, 3, 170, 0, .null, []), (169, .iconst 0, 1, 0, 0, .int 0, []), (170, .ireturn, 1, 0, 0, .null, [])]
set_option maxRecDepth 100000 in
theorem ck205 : ∀ ce ∈ cd205, okB (yO 205) (yC 205) ce = true := List.all_eq_true.mp (by decide +kernel)
/-- ShapeDuelModel.canOf(II)I -/
def cd206 : List CE := [(0, .iconst 0, 1, 0, 0, .int 0, []), (1, .istore_n 3, 1, 0, 0, .null, []), (2, .iconst 0, 1, 0, 0, .int 0, []), (3, .istore 4, 2, 0, 0, .null, []), (5, .iload 4, 2, 0, 0, .null, []), (7, .aload_n 0, 1, 0, 0, .null, []), (8, .getfield 201, 3, 11, 6, .null, []), (11, .if_icmp .ge 31, 3, 42, 0, .null, []), (14, .iload_n 3, 1, 0, 0, .null, []), (15, .aload_n 0, 1, 0, 0, .null, []), (16, .iload_n 1, 1, 0, 0, .null, []), (17, .iload_n 2, 1, 0, 0, .null, []), (18, .iload 4, 2, 0, 0, .null, []), (20, .invokevirtual 252, 3, 205, 0, .null, []), (23, .ifCond .eq 10, 3, 33, 0, .null, []), (26, .iconst 1, 1, 0, 0, .int 1, []), (27, .iload 4, 2, 0, 0, .null, []), (29, .ishl, 1, 0, 0, .null, []), (30, .goto 4, 3, 34, 0, .null, []), (33, .iconst 0, 1, 0, 0, .int 0, []), (34, .ior, 1, 0, 0, .null, []), (35, .istore_n 3, 1, 0, 0, .null, []), (36, .iinc 4 1, 3, 0, 0, .int 1, []), (39, .goto (-34), 3, 5, 0, .null, []), (42, .iload_n 3, 1, 0, 0, .null, []), (43, .ireturn, 1, 0, 0, .null, [])]
set_option maxRecDepth 100000 in
theorem ck206 : ∀ ce ∈ cd206, okB (yO 206) (yC 206) ce = true := List.all_eq_true.mp (by decide +kernel)
/-- ShapeDuelModel.moverAt(I)I -/
def cd207 : List CE := [(0, .aload_n 0, 1, 0, 0, .null, []), (1, .getfield 245, 3, 11, 34, .null, []), (4, .iload_n 1, 1, 0, 0, .null, []), (5, .iadd, 1, 0, 0, .null, []), (6, .iconst 2, 1, 0, 0, .int 2, []), (7, .irem, 1, 0, 0, .null, []), (8, .ireturn, 1, 0, 0, .null, [])]
set_option maxRecDepth 100000 in
theorem ck207 : ∀ ce ∈ cd207, okB (yO 207) (yC 207) ce = true := List.all_eq_true.mp (by decide +kernel)
end
section
/-! the code, by program (wip/whole/gen2.py) -/
/-- ShapeDuelModel.dives(II)V -/
def cd208 : List CE := [(0, .aload_n 0, 1, 0, 0, .null, []), (1, .iload_n 1, 1, 0, 0, .null, []), (2, .invokevirtual 255, 3, 207, 0, .null, []), (5, .istore_n 3, 1, 0, 0, .null, []), (6, .aload_n 0, 1, 0, 0, .null, []), (7, .iload_n 1, 1, 0, 0, .null, []), (8, .iload_n 3, 1, 0, 0, .null, []), (9, .iload_n 2, 1, 0, 0, .null, []), (10, .invokevirtual 248, 3, 204, 0, .null, []), (13, .istore 4, 2, 0, 0, .null, []), (15, .iconst 0, 1, 0, 0, .int 0, []), (16, .istore 5, 2, 0, 0, .null, []), (18, .iload 5, 2, 0, 0, .null, []), (20, .bipush 6, 2, 0, 0, .int 6, []), (22, .if_icmp .ge 36, 3, 58, 0, .null, []), (25, .aload_n 0, 1, 0, 0, .null, []), (26, .getfield 72, 3, 11, 31, .null, []), (29, .bipush 6, 2, 0, 0, .int 6, []), (31, .iload_n 1, 1, 0, 0, .null, []), (32, .imul, 1, 0, 0, .null, []), (33, .bipush 6, 2, 0, 0, .int 6, []), (35, .iadd, 1, 0, 0, .null, []), (36, .iload 5, 2, 0, 0, .null, []), (38, .iadd, 1, 0, 0, .null, []), (39, .aload_n 0, 1, 0, 0, .null, []), (40, .getfield 72, 3, 11, 31, .null, []), (43, .bipush 6, 2, 0, 0, .int 6, []), (45, .iload_n 1, 1, 0, 0, .null, []), (46, .imul, 1, 0, 0, .null, []), (47, .iload 5, 2, 0, 0, .null, []), (49, .iadd, 1, 0, 0, .null, []), (50, .iaload, 1, 0, 0, .null, []), (51, .iastore, 1, 0, 0, .null, []), (52, .iinc 5 1, 3, 0, 0, .int 1, []), (55, .goto (-37), 3, 18, 0, .null, []), (58, .aload_n 0, 1, 0, 0, .null, []), (59, .getfield 72, 3, 11, 31, .null, []), (62, .bipush 6, 2, 0, 0, .int 6, []), (64, .iload_n 1, 1, 0, 0, .null, []), (65, .imul, 1, 0, 0, .null, []), (66, .bipush 6, 2, 0, 0, .int 6, []), (68, .iadd, 1, 0, 0, .null, []), (69, .iconst 0, 1, 0, 0, .int 0, []), (70, .iadd, 1, 0, 0, .null, []), (71, .iload_n 3, 1, 0, 0, .null, []), (72, .iadd, 1, 0, 0, .null, []), (73, .aload_n 0, 1, 0, 0, .null, []), (74, .getfield 26, 3, 11, 8, .null, []), (77, .iload_n 2, 1, 0, 0, .null, []), (78, .iaload, 1, 0, 0, .null, []), (79, .iastore, 1, 0, 0, .null, []), (80, .aload_n 0, 1, 0, 0, .null, []), (81, .getfield 72, 3, 11, 31, .null, []), (84, .bipush 6, 2, 0, 0, .int 6, []), (86, .iload_n 1, 1, 0, 0, .null, []), (87, .imul, 1, 0, 0, .null, []), (88, .bipush 6, 2, 0, 0, .int 6, []), (90, .iadd, 1, 0, 0, .null, []), (91, .iconst 2, 1, 0, 0, .int 2, []), (92, .iadd, 1, 0, 0, .null, []), (93, .iload_n 3, 1, 0, 0, .null, []), (94, .iadd, 1, 0, 0, .null, []), (95, .dup2, 1, 0, 0, .null, []), (96, .iaload, 1, 0, 0, .null, []), (97, .iload 4, 2, 0, 0, .null, []), (99, .isub, 1, 0, 0, .null, []), (100, .iastore, 1, 0, 0, .null, []), (101, .aload_n 0, 1, 0, 0, .null, []), (102, .getfield 72, 3, 11, 31, .null, []), (105, .bipush 6, 2, 0, 0, .int 6, []), (107, .iload_n 1, 1, 0, 0, .null, []), (108, .imul, 1, 0, 0, .null, []), (109, .bipush 6, 2, 0, 0, .int 6, []), (111, .iadd, 1, 0, 0, .null, []), (112, .iconst 4, 1, 0, 0, .int 4, []), (113, .iadd, 1, 0, 0, .null, []), (114, .iload_n 3, 1, 0, 0, .null, []), (115, .iadd, 1, 0, 0, .null, []), (116, .dup2, 1, 0, 0, .null, []), (117, .iaload, 1, 0, 0, .null, []), (118, .iconst 1, 1, 0, 0, .int 1, []), (119, .aload_n 0, 1, 0, 0, .null, []), (120, .getfield 26, 3, 11, 8, .null, []), (123, .iload_n 2, 1, 0, 0, .null, []), (124, .iaload, 1, 0, 0, .null, []), (125, .ishl, 1, 0, 0, .null, []), (126, .ior, 1, 0, 0, .null, []), (127, .iastore, 1, 0, 0, .null, []), (128, .aload_n 0, 1, 0, 0, .null, []), (129, .getfield 75, 3, 11, 32, .null, []), (132, .iload_n 1, 1, 0, 0, .null, []), (133, .iconst 1, 1, 0, 0, .int 1, []), (134, .iadd, 1, 0, 0, .null, []), (135, .iconst 0, 1, 0, 0, .int 0, []), (136, .iastore, 1, 0, 0, .null, []), (137, .return_, 1, 0, 0, .null, [])]
set_option maxRecDepth 100000 in
theorem ck208 : ∀ ce ∈ cd208, okB (yO 208) (yC 208) ce = true := List.all_eq_true.mp (by decide +kernel)
/-- ShapeDuelModel.nextChange(I)I -/
def cd209 : List CE := [(0, .aload_n 0, 1, 0, 0, .null, []), (1, .iload_n 1, 1, 0, 0, .null, []), (2, .invokevirtual 255, 3, 207, 0, .null, []), (5, .istore_n 2, 1, 0, 0, .null, []), (6, .aload_n 0, 1, 0, 0, .null, []), (7, .getfield 75, 3, 11, 32, .null, []), (10, .iload_n 1, 1, 0, 0, .null, []), (11, .iaload, 1, 0, 0, .null, []), (12, .aload_n 0, 1, 0, 0, .null, []), (13, .getfield 201, 3, 11, 6, .null, []), (16, .if_icmp .ge 35, 3, 51, 0, .null, []), (19, .aload_n 0, 1, 0, 0, .null, []), (20, .getfield 75, 3, 11, 32, .null, []), (23, .iload_n 1, 1, 0, 0, .null, []), (24, .iaload, 1, 0, 0, .null, []), (25, .istore_n 3, 1, 0, 0, .null, []), (26, .aload_n 0, 1, 0, 0, .null, []), (27, .getfield 75, 3, 11, 32, .null, []), (30, .iload_n 1, 1, 0, 0, .null, []), (31, .dup2, 1, 0, 0, .null, []), (32, .iaload, 1, 0, 0, .null, []), (33, .iconst 1, 1, 0, 0, .int 1, []), (34, .iadd, 1, 0, 0, .null, []), (35, .iastore, 1, 0, 0, .null, []), (36, .aload_n 0, 1, 0, 0, .null, []), (37, .iload_n 1, 1, 0, 0, .null, []), (38, .iload_n 2, 1, 0, 0, .null, []), (39, .iload_n 3, 1, 0, 0, .null, []), (40, .invokevirtual 252, 3, 205, 0, .null, []), (43, .ifCond .eq 5, 3, 48, 0, .null, []), (46, .iload_n 3, 1, 0, 0, .null, []), (47, .ireturn, 1, 0, 0, .null, []), (48, .goto (-42), 3, 6, 0, .null, []), (51, .iconst (-1), 1, 0, 0, .int (-1), []), (52, .ireturn, 1, 0, 0, .null, [])]
set_option maxRecDepth 100000 in
theorem ck209 : ∀ ce ∈ cd209, okB (yO 209) (yC 209) ce = true := List.all_eq_true.mp (by decide +kernel)
/-- ShapeDuelModel.score()I -/
def cd210_0 : List CE := [(0, .iconst 0, 1, 0, 0, .int 0, []), (1, .istore_n 1, 1, 0, 0, .null, []), (2, .aload_n 0, 1, 0, 0, .null, []), (3, .getfield 81, 3, 11, 35, .null, []), (6, .iconst 0, 1, 0, 0, .int 0, []), (7, .bipush (-100), 2, 0, 0, .int (-100), []), (9, .iastore, 1, 0, 0, .null, []), (10, .aload_n 0, 1, 0, 0, .null, []), (11, .getfield 84, 3, 11, 36, .null, []), (14, .iconst 0, 1, 0, 0, .int 0, []), (15, .bipush (-9), 2, 0, 0, .int (-9), []), (17, .iastore, 1, 0, 0, .null, []), (18, .aload_n 0, 1, 0, 0, .null, []), (19, .getfield 87, 3, 11, 37, .null, []), (22, .iconst 0, 1, 0, 0, .int 0, []), (23, .bipush (-9), 2, 0, 0, .int (-9), []), (25, .iastore, 1, 0, 0, .null, []), (26, .iload_n 1, 1, 0, 0, .null, []), (27, .ifCond .lt 196, 3, 223, 0, .null, []), (30, .aload_n 0, 1, 0, 0, .null, []), (31, .iload_n 1, 1, 0, 0, .null, []), (32, .invokevirtual 258, 3, 209, 0, .null, []), (35, .istore_n 2, 1, 0, 0, .null, []), (36, .iload_n 2, 1, 0, 0, .null, []), (37, .ifCond .lt 46, 3, 83, 0, .null, []), (40, .aload_n 0, 1, 0, 0, .null, []), (41, .getfield 90, 3, 11, 38, .null, []), (44, .iload_n 1, 1, 0, 0, .null, []), (45, .iload_n 2, 1, 0, 0, .null, []), (46, .iastore, 1, 0, 0, .null, []), (47, .aload_n 0, 1, 0, 0, .null, []), (48, .iload_n 1, 1, 0, 0, .null, []), (49, .iload_n 2, 1, 0, 0, .null, []), (50, .invokevirtual 261, 3, 208, 0, .null, []), (53, .iinc 1 1, 3, 0, 0, .int 1, []), (56, .aload_n 0, 1, 0, 0, .null, []), (57, .getfield 81, 3, 11, 35, .null, []), (60, .iload_n 1, 1, 0, 0, .null, []), (61, .bipush (-100), 2, 0, 0, .int (-100), []), (63, .iastore, 1, 0, 0, .null, []), (64, .aload_n 0, 1, 0, 0, .null, []), (65, .getfield 84, 3, 11, 36, .null, []), (68, .iload_n 1, 1, 0, 0, .null, []), (69, .bipush (-9), 2, 0, 0, .int (-9), []), (71, .iastore, 1, 0, 0, .null, []), (72, .aload_n 0, 1, 0, 0, .null, []), (73, .getfield 87, 3, 11, 37, .null, []), (76, .iload_n 1, 1, 0, 0, .null, []), (77, .bipush (-9), 2, 0, 0, .int (-9), []), (79, .iastore, 1, 0, 0, .null, []), (80, .goto 140, 3, 220, 0, .null, []), (83, .iinc 1 (-1), 3, 0, 0, .int (-1), []), (86, .iload_n 1, 1, 0, 0, .null, []), (87, .ifCond .lt 133, 3, 220, 0, .null, []), (90, .aload_n 0, 1, 0, 0, .null, []), (91, .getfield 81, 3, 11, 35, .null, []), (94, .iload_n 1, 1, 0, 0, .null, []), (95, .iconst 1, 1, 0, 0, .int 1, []), (96, .iadd, 1, 0, 0, .null, []), (97, .iaload, 1, 0, 0, .null, []), (98, .ifCond .ge 17, 3, 115, 0, .null, []), (101, .aload_n 0, 1, 0, 0, .null, []), (102, .getfield 81, 3, 11, 35, .null, []), (105, .iload_n 1, 1, 0, 0, .null, []), (106, .iconst 1, 1, 0, 0, .int 1, []), (107, .iadd, 1, 0, 0, .null, []), (108, .iaload, 1, 0, 0, .null, []), (109, .ineg, 1, 0, 0, .null, []), (110, .iconst 1, 1, 0, 0, .int 1, []), (111, .isub, 1, 0, 0, .null, []), (112, .goto 14, 3, 126, 0, .null, []), (115, .aload_n 0, 1, 0, 0, .null, []), (116, .getfield 81, 3, 11, 35, .null, []), (119, .iload_n 1, 1, 0, 0, .null, []), (120, .iconst 1, 1, 0, 0, .int 1, []), (121, .iadd, 1, 0, 0, .null, []), (122, .iaload, 1, 0, 0, .null, []), (123, .ineg, 1, 0, 0, .null, []), (124, .iconst 1, 1, 0, 0, .int 1, []), (125, .iadd, 1, 0, 0, .null, []), (126, .istore_n 3, 1, 0, 0, .null, []), (127, .aload_n 0, 1, 0, 0, .null, []), (128, .getfield 84, 3, 11, 36, .null, []), (131, .iload_n 1, 1, 0, 0, .null, []), (132, .iload_n 3, 1, 0, 0, .null, []), (133, .ifCond .le 23, 3, 156, 0, .null, []), (136, .aload_n 0, 1, 0, 0, .null, []), (137, .getfield 84, 3, 11, 36, .null, []), (140, .iload_n 1, 1, 0, 0, .null, []), (141, .iaload, 1, 0, 0, .null, []), (142, .bipush (-9), 2, 0, 0, .int (-9), []), (144, .if_icmp .ne 12, 3, 156, 0, .null, []), (147, .aload_n 0, 1, 0, 0, .null, []), (148, .getfield 90, 3, 11, 38, .null, []), (151, .iload_n 1, 1, 0, 0, .null, []), (152, .iaload, 1, 0, 0, .null, []), (153, .goto 9, 3, 162, 0, .null, []), (156, .aload_n 0, 1, 0, 0, .null, []), (157, .getfield 84, 3, 11, 36, .null, []), (160, .iload_n 1, 1, 0, 0, .null, [])]
set_option maxRecDepth 100000 in
theorem ck210_0 : ∀ ce ∈ cd210_0, okB (yO 210) (yC 210) ce = true := List.all_eq_true.mp (by decide +kernel)
def cd210_1 : List CE := [(161, .iaload, 1, 0, 0, .null, []), (162, .iastore, 1, 0, 0, .null, []), (163, .aload_n 0, 1, 0, 0, .null, []), (164, .getfield 87, 3, 11, 37, .null, []), (167, .iload_n 1, 1, 0, 0, .null, []), (168, .iload_n 3, 1, 0, 0, .null, []), (169, .aload_n 0, 1, 0, 0, .null, []), (170, .getfield 81, 3, 11, 35, .null, []), (173, .iload_n 1, 1, 0, 0, .null, []), (174, .iaload, 1, 0, 0, .null, []), (175, .if_icmp .le 12, 3, 187, 0, .null, []), (178, .aload_n 0, 1, 0, 0, .null, []), (179, .getfield 90, 3, 11, 38, .null, []), (182, .iload_n 1, 1, 0, 0, .null, []), (183, .iaload, 1, 0, 0, .null, []), (184, .goto 9, 3, 193, 0, .null, []), (187, .aload_n 0, 1, 0, 0, .null, []), (188, .getfield 87, 3, 11, 37, .null, []), (191, .iload_n 1, 1, 0, 0, .null, []), (192, .iaload, 1, 0, 0, .null, []), (193, .iastore, 1, 0, 0, .null, []), (194, .aload_n 0, 1, 0, 0, .null, []), (195, .getfield 81, 3, 11, 35, .null, []), (198, .iload_n 1, 1, 0, 0, .null, []), (199, .iload_n 3, 1, 0, 0, .null, []), (200, .aload_n 0, 1, 0, 0, .null, []), (201, .getfield 81, 3, 11, 35, .null, []), (204, .iload_n 1, 1, 0, 0, .null, []), (205, .iaload, 1, 0, 0, .null, []), (206, .if_icmp .le 7, 3, 213, 0, .null, []), (209, .iload_n 3, 1, 0, 0, .null, []), (210, .goto 9, 3, 219, 0, .null, []), (213, .aload_n 0, 1, 0, 0, .null, []), (214, .getfield 81, 3, 11, 35, .null, []), (217, .iload_n 1, 1, 0, 0, .null, []), (218, .iaload, 1, 0, 0, .null, []), (219, .iastore, 1, 0, 0, .null, []), (220, .goto (-194), 3, 26, 0, .null, []), (223, .aload_n 0, 1, 0, 0, .null, []), (224, .getfield 81, 3, 11, 35, .null, []), (227, .iconst 0, 1, 0, 0, .int 0, []), (228, .iaload, 1, 0, 0, .null, []), (229, .ireturn, 1, 0, 0, .null, [])]
set_option maxRecDepth 100000 in
theorem ck210_1 : ∀ ce ∈ cd210_1, okB (yO 210) (yC 210) ce = true := List.all_eq_true.mp (by decide +kernel)
def cd210 : List CE := cd210_0 ++ (cd210_1)
theorem ck210 : ∀ ce ∈ cd210, okB (yO 210) (yC 210) ce = true := List.forall_mem_append.mpr ⟨ck210_0, ck210_1⟩
/-- ShapeDuelModel.can(I)I -/
def cd211 : List CE := [(0, .aload_n 0, 1, 0, 0, .null, []), (1, .iload_n 1, 1, 0, 0, .null, []), (2, .invokevirtual 242, 3, 188, 0, .null, []), (5, .ifCond .ne 5, 3, 10, 0, .null, []), (8, .iconst (-1), 1, 0, 0, .int (-1), []), (9, .ireturn, 1, 0, 0, .null, []), (10, .aload_n 0, 1, 0, 0, .null, []), (11, .invokevirtual 264, 3, 203, 0, .null, []), (14, .aload_n 0, 1, 0, 0, .null, []), (15, .iconst 0, 1, 0, 0, .int 0, []), (16, .iload_n 1, 1, 0, 0, .null, []), (17, .invokevirtual 267, 3, 206, 0, .null, []), (20, .ireturn, 1, 0, 0, .null, [])]
set_option maxRecDepth 100000 in
theorem ck211 : ∀ ce ∈ cd211, okB (yO 211) (yC 211) ce = true := List.all_eq_true.mp (by decide +kernel)
/-- ShapeDuelModel.turn()I -/
def cd212 : List CE := [(0, .aload_n 0, 1, 0, 0, .null, []), (1, .getfield 204, 3, 11, 2, .null, []), (4, .ifCond .ne 6, 3, 10, 0, .null, []), (7, .bipush (-4), 2, 0, 0, .int (-4), []), (9, .ireturn, 1, 0, 0, .null, []), (10, .aload_n 0, 1, 0, 0, .null, []), (11, .invokevirtual 264, 3, 203, 0, .null, []), (14, .aload_n 0, 1, 0, 0, .null, []), (15, .aload_n 0, 1, 0, 0, .null, []), (16, .getfield 245, 3, 11, 34, .null, []), (19, .aload_n 0, 1, 0, 0, .null, []), (20, .iconst 0, 1, 0, 0, .int 0, []), (21, .aload_n 0, 1, 0, 0, .null, []), (22, .getfield 245, 3, 11, 34, .null, []), (25, .invokevirtual 267, 3, 206, 0, .null, []), (28, .ifCond .ne 7, 3, 35, 0, .null, []), (31, .iconst 1, 1, 0, 0, .int 1, []), (32, .goto 4, 3, 36, 0, .null, []), (35, .iconst 0, 1, 0, 0, .int 0, []), (36, .invokevirtual 139, 3, 162, 0, .null, []), (39, .ireturn, 1, 0, 0, .null, [])]
set_option maxRecDepth 100000 in
theorem ck212 : ∀ ce ∈ cd212, okB (yO 212) (yC 212) ce = true := List.all_eq_true.mp (by decide +kernel)
/-- ShapeDuelModel.does(I)V -/
def cd213 : List CE := [(0, .aload_n 0, 1, 0, 0, .null, []), (1, .invokevirtual 264, 3, 203, 0, .null, []), (4, .aload_n 0, 1, 0, 0, .null, []), (5, .iconst 0, 1, 0, 0, .int 0, []), (6, .iload_n 1, 1, 0, 0, .null, []), (7, .invokevirtual 261, 3, 208, 0, .null, []), (10, .iconst 0, 1, 0, 0, .int 0, []), (11, .istore_n 2, 1, 0, 0, .null, []), (12, .iload_n 2, 1, 0, 0, .null, []), (13, .bipush 6, 2, 0, 0, .int 6, []), (15, .if_icmp .ge 50, 3, 65, 0, .null, []), (18, .aload_n 0, 1, 0, 0, .null, []), (19, .getfield 7, 3, 11, 0, .null, []), (22, .bipush 49, 2, 0, 0, .int 49, []), (24, .bipush 6, 2, 0, 0, .int 6, []), (26, .aload_n 0, 1, 0, 0, .null, []), (27, .getfield 7, 3, 11, 0, .null, []), (30, .bipush 8, 2, 0, 0, .int 8, []), (32, .iaload, 1, 0, 0, .null, []), (33, .imul, 1, 0, 0, .null, []), (34, .iadd, 1, 0, 0, .null, []), (35, .iload_n 2, 1, 0, 0, .null, []), (36, .iadd, 1, 0, 0, .null, []), (37, .aload_n 0, 1, 0, 0, .null, []), (38, .getfield 7, 3, 11, 0, .null, []), (41, .iload_n 2, 1, 0, 0, .null, []), (42, .iaload, 1, 0, 0, .null, []), (43, .iastore, 1, 0, 0, .null, []), (44, .aload_n 0, 1, 0, 0, .null, []), (45, .getfield 7, 3, 11, 0, .null, []), (48, .iload_n 2, 1, 0, 0, .null, []), (49, .aload_n 0, 1, 0, 0, .null, []), (50, .getfield 72, 3, 11, 31, .null, []), (53, .bipush 6, 2, 0, 0, .int 6, []), (55, .iload_n 2, 1, 0, 0, .null, []), (56, .iadd, 1, 0, 0, .null, []), (57, .iaload, 1, 0, 0, .null, []), (58, .iastore, 1, 0, 0, .null, []), (59, .iinc 2 1, 3, 0, 0, .int 1, []), (62, .goto (-50), 3, 12, 0, .null, []), (65, .aload_n 0, 1, 0, 0, .null, []), (66, .getfield 7, 3, 11, 0, .null, []), (69, .bipush 9, 2, 0, 0, .int 9, []), (71, .aload_n 0, 1, 0, 0, .null, []), (72, .getfield 7, 3, 11, 0, .null, []), (75, .bipush 8, 2, 0, 0, .int 8, []), (77, .iaload, 1, 0, 0, .null, []), (78, .iadd, 1, 0, 0, .null, []), (79, .iload_n 1, 1, 0, 0, .null, []), (80, .iastore, 1, 0, 0, .null, []), (81, .aload_n 0, 1, 0, 0, .null, []), (82, .getfield 7, 3, 11, 0, .null, []), (85, .bipush 8, 2, 0, 0, .int 8, []), (87, .dup2, 1, 0, 0, .null, []), (88, .iaload, 1, 0, 0, .null, []), (89, .iconst 1, 1, 0, 0, .int 1, []), (90, .iadd, 1, 0, 0, .null, []), (91, .iastore, 1, 0, 0, .null, []), (92, .return_, 1, 0, 0, .null, [])]
set_option maxRecDepth 100000 in
theorem ck213 : ∀ ce ∈ cd213, okB (yO 213) (yC 213) ce = true := List.all_eq_true.mp (by decide +kernel)
/-- ShapeDuelModel.go(I)I -/
def cd214 : List CE := [(0, .aload_n 0, 1, 0, 0, .null, []), (1, .iload_n 1, 1, 0, 0, .null, []), (2, .invokevirtual 230, 3, 187, 0, .null, []), (5, .ifCond .ne 5, 3, 10, 0, .null, []), (8, .iconst (-1), 1, 0, 0, .int (-1), []), (9, .ireturn, 1, 0, 0, .null, []), (10, .aload_n 0, 1, 0, 0, .null, []), (11, .invokevirtual 264, 3, 203, 0, .null, []), (14, .aload_n 0, 1, 0, 0, .null, []), (15, .iconst 0, 1, 0, 0, .int 0, []), (16, .aload_n 0, 1, 0, 0, .null, []), (17, .getfield 245, 3, 11, 34, .null, []), (20, .iload_n 1, 1, 0, 0, .null, []), (21, .invokevirtual 252, 3, 205, 0, .null, []), (24, .ifCond .ne 6, 3, 30, 0, .null, []), (27, .bipush (-4), 2, 0, 0, .int (-4), []), (29, .ireturn, 1, 0, 0, .null, []), (30, .aload_n 0, 1, 0, 0, .null, []), (31, .getfield 7, 3, 11, 0, .null, []), (34, .bipush 8, 2, 0, 0, .int 8, []), (36, .iaload, 1, 0, 0, .null, []), (37, .bipush 40, 2, 0, 0, .int 40, []), (39, .if_icmp .ne 6, 3, 45, 0, .null, []), (42, .bipush (-2), 2, 0, 0, .int (-2), []), (44, .ireturn, 1, 0, 0, .null, []), (45, .aload_n 0, 1, 0, 0, .null, []), (46, .iconst 0, 1, 0, 0, .int 0, []), (47, .aload_n 0, 1, 0, 0, .null, []), (48, .getfield 245, 3, 11, 34, .null, []), (51, .iload_n 1, 1, 0, 0, .null, []), (52, .invokevirtual 248, 3, 204, 0, .null, []), (55, .istore_n 2, 1, 0, 0, .null, []), (56, .aload_n 0, 1, 0, 0, .null, []), (57, .iload_n 1, 1, 0, 0, .null, []), (58, .invokevirtual 270, 3, 213, 0, .null, []), (61, .iload_n 2, 1, 0, 0, .null, []), (62, .ireturn, 1, 0, 0, .null, [])]
set_option maxRecDepth 100000 in
theorem ck214 : ∀ ce ∈ cd214, okB (yO 214) (yC 214) ce = true := List.all_eq_true.mp (by decide +kernel)
/-- ShapeDuelModel.undo(I)I -/
def cd215 : List CE := [(0, .iload_n 1, 1, 0, 0, .null, []), (1, .i2l, 1, 0, 0, .null, []), (2, .lconst 0, 1, 0, 0, .long 0, []), (3, .aload_n 0, 1, 0, 0, .null, []), (4, .getfield 7, 3, 11, 0, .null, []), (7, .bipush 8, 2, 0, 0, .int 8, []), (9, .iaload, 1, 0, 0, .null, []), (10, .i2l, 1, 0, 0, .null, []), (11, .invokestatic 121, 3, 158, 0, .null, []), (14, .ifCond .ne 5, 3, 19, 0, .null, []), (17, .iconst (-1), 1, 0, 0, .int (-1), []), (18, .ireturn, 1, 0, 0, .null, []), (19, .aload_n 0, 1, 0, 0, .null, []), (20, .getfield 7, 3, 11, 0, .null, []), (23, .bipush 8, 2, 0, 0, .int 8, []), (25, .iaload, 1, 0, 0, .null, []), (26, .iload_n 1, 1, 0, 0, .null, []), (27, .isub, 1, 0, 0, .null, []), (28, .istore_n 2, 1, 0, 0, .null, []), (29, .iconst 0, 1, 0, 0, .int 0, []), (30, .istore_n 3, 1, 0, 0, .null, []), (31, .iload_n 3, 1, 0, 0, .null, []), (32, .bipush 6, 2, 0, 0, .int 6, []), (34, .if_icmp .ge 33, 3, 67, 0, .null, []), (37, .iload_n 2, 1, 0, 0, .null, []), (38, .ifCond .le 29, 3, 67, 0, .null, []), (41, .aload_n 0, 1, 0, 0, .null, []), (42, .getfield 7, 3, 11, 0, .null, []), (45, .iload_n 3, 1, 0, 0, .null, []), (46, .aload_n 0, 1, 0, 0, .null, []), (47, .getfield 7, 3, 11, 0, .null, []), (50, .bipush 49, 2, 0, 0, .int 49, []), (52, .bipush 6, 2, 0, 0, .int 6, []), (54, .iload_n 1, 1, 0, 0, .null, []), (55, .imul, 1, 0, 0, .null, []), (56, .iadd, 1, 0, 0, .null, []), (57, .iload_n 3, 1, 0, 0, .null, []), (58, .iadd, 1, 0, 0, .null, []), (59, .iaload, 1, 0, 0, .null, []), (60, .iastore, 1, 0, 0, .null, []), (61, .iinc 3 1, 3, 0, 0, .int 1, []), (64, .goto (-33), 3, 31, 0, .null, []), (67, .aload_n 0, 1, 0, 0, .null, []), (68, .getfield 7, 3, 11, 0, .null, []), (71, .bipush 8, 2, 0, 0, .int 8, []), (73, .iload_n 1, 1, 0, 0, .null, []), (74, .iastore, 1, 0, 0, .null, []), (75, .iload_n 2, 1, 0, 0, .null, []), (76, .ireturn, 1, 0, 0, .null, [])]
set_option maxRecDepth 100000 in
theorem ck215 : ∀ ce ∈ cd215, okB (yO 215) (yC 215) ce = true := List.all_eq_true.mp (by decide +kernel)
/-- ShapeDuelModel.told(I)I -/
def cd216 : List CE := [(0, .iload_n 1, 1, 0, 0, .null, []), (1, .invokestatic 127, 3, 163, 0, .null, []), (4, .ifCond .ne 5, 3, 9, 0, .null, []), (7, .iconst (-1), 1, 0, 0, .int (-1), []), (8, .ireturn, 1, 0, 0, .null, []), (9, .aload_n 0, 1, 0, 0, .null, []), (10, .iload_n 1, 1, 0, 0, .null, []), (11, .aload_n 0, 1, 0, 0, .null, []), (12, .getfield 7, 3, 11, 0, .null, []), (15, .bipush 8, 2, 0, 0, .int 8, []), (17, .iaload, 1, 0, 0, .null, []), (18, .invokevirtual 135, 3, 165, 0, .null, []), (21, .iconst 0, 1, 0, 0, .int 0, []), (22, .istore_n 2, 1, 0, 0, .null, []), (23, .iload_n 2, 1, 0, 0, .null, []), (24, .aload_n 0, 1, 0, 0, .null, []), (25, .getfield 7, 3, 11, 0, .null, []), (28, .bipush 8, 2, 0, 0, .int 8, []), (30, .iaload, 1, 0, 0, .null, []), (31, .if_icmp .ge 29, 3, 60, 0, .null, []), (34, .aload_n 0, 1, 0, 0, .null, []), (35, .getfield 42, 3, 11, 16, .null, []), (38, .bipush 40, 2, 0, 0, .int 40, []), (40, .iload_n 1, 1, 0, 0, .null, []), (41, .imul, 1, 0, 0, .null, []), (42, .iload_n 2, 1, 0, 0, .null, []), (43, .iadd, 1, 0, 0, .null, []), (44, .aload_n 0, 1, 0, 0, .null, []), (45, .getfield 7, 3, 11, 0, .null, []), (48, .bipush 9, 2, 0, 0, .int 9, []), (50, .iload_n 2, 1, 0, 0, .null, []), (51, .iadd, 1, 0, 0, .null, []), (52, .iaload, 1, 0, 0, .null, []), (53, .iastore, 1, 0, 0, .null, []), (54, .iinc 2 1, 3, 0, 0, .int 1, []), (57, .goto (-34), 3, 23, 0, .null, []), (60, .aload_n 0, 1, 0, 0, .null, []), (61, .getfield 7, 3, 11, 0, .null, []), (64, .bipush 8, 2, 0, 0, .int 8, []), (66, .iaload, 1, 0, 0, .null, []), (67, .ireturn, 1, 0, 0, .null, [])]
set_option maxRecDepth 100000 in
theorem ck216 : ∀ ce ∈ cd216, okB (yO 216) (yC 216) ce = true := List.all_eq_true.mp (by decide +kernel)
/-- ShapeDuelModel.keep(I)I -/
def cd217 : List CE := [(0, .iload_n 1, 1, 0, 0, .null, []), (1, .i2l, 1, 0, 0, .null, []), (2, .lconst 0, 1, 0, 0, .long 0, []), (3, .ldc2_w 274, 3, 0, 0, .long (2), []), (6, .invokestatic 121, 3, 158, 0, .null, []), (9, .ifCond .ne 5, 3, 14, 0, .null, []), (12, .iconst (-1), 1, 0, 0, .int (-1), []), (13, .ireturn, 1, 0, 0, .null, []), (14, .aload_n 0, 1, 0, 0, .null, []), (15, .getfield 204, 3, 11, 2, .null, []), (18, .ifCond .ne 6, 3, 24, 0, .null, []), (21, .bipush (-4), 2, 0, 0, .int (-4), []), (23, .ireturn, 1, 0, 0, .null, []), (24, .iconst 0, 1, 0, 0, .int 0, []), (25, .istore_n 2, 1, 0, 0, .null, []), (26, .iload_n 2, 1, 0, 0, .null, []), (27, .sipush 289, 3, 0, 0, .int 289, []), (30, .if_icmp .ge 29, 3, 59, 0, .null, []), (33, .aload_n 0, 1, 0, 0, .null, []), (34, .getfield 7, 3, 11, 0, .null, []), (37, .sipush 289, 3, 0, 0, .int 289, []), (40, .iload_n 1, 1, 0, 0, .null, []), (41, .iconst 1, 1, 0, 0, .int 1, []), (42, .iadd, 1, 0, 0, .null, []), (43, .imul, 1, 0, 0, .null, []), (44, .iload_n 2, 1, 0, 0, .null, []), (45, .iadd, 1, 0, 0, .null, []), (46, .aload_n 0, 1, 0, 0, .null, []), (47, .getfield 7, 3, 11, 0, .null, []), (50, .iload_n 2, 1, 0, 0, .null, []), (51, .iaload, 1, 0, 0, .null, []), (52, .iastore, 1, 0, 0, .null, []), (53, .iinc 2 1, 3, 0, 0, .int 1, []), (56, .goto (-30), 3, 26, 0, .null, []), (59, .aload_n 0, 1, 0, 0, .null, []), (60, .getfield 13, 3, 11, 1, .null, []), (63, .iload_n 1, 1, 0, 0, .null, []), (64, .iconst 1, 1, 0, 0, .int 1, []), (65, .bastore, 1, 0, 0, .null, []), (66, .aload_n 0, 1, 0, 0, .null, []), (67, .getfield 7, 3, 11, 0, .null, []), (70, .bipush 8, 2, 0, 0, .int 8, []), (72, .iaload, 1, 0, 0, .null, []), (73, .ireturn, 1, 0, 0, .null, [])]
set_option maxRecDepth 100000 in
theorem ck217 : ∀ ce ∈ cd217, okB (yO 217) (yC 217) ce = true := List.all_eq_true.mp (by decide +kernel)
/-- ShapeDuelModel.on(I)I -/
def cd218 : List CE := [(0, .iload_n 1, 1, 0, 0, .null, []), (1, .i2l, 1, 0, 0, .null, []), (2, .lconst 0, 1, 0, 0, .long 0, []), (3, .ldc2_w 274, 3, 0, 0, .long (2), []), (6, .invokestatic 121, 3, 158, 0, .null, []), (9, .ifCond .ne 5, 3, 14, 0, .null, []), (12, .iconst (-1), 1, 0, 0, .int (-1), []), (13, .ireturn, 1, 0, 0, .null, []), (14, .aload_n 0, 1, 0, 0, .null, []), (15, .getfield 13, 3, 11, 1, .null, []), (18, .iload_n 1, 1, 0, 0, .null, []), (19, .baload, 1, 0, 0, .null, []), (20, .ifCond .ne 9, 3, 29, 0, .null, []), (23, .aload_n 0, 1, 0, 0, .null, []), (24, .iconst 1, 1, 0, 0, .int 1, []), (25, .invokevirtual 131, 3, 161, 0, .null, []), (28, .ireturn, 1, 0, 0, .null, []), (29, .iconst 0, 1, 0, 0, .int 0, []), (30, .istore_n 2, 1, 0, 0, .null, []), (31, .iload_n 2, 1, 0, 0, .null, []), (32, .sipush 289, 3, 0, 0, .int 289, []), (35, .if_icmp .ge 29, 3, 64, 0, .null, []), (38, .aload_n 0, 1, 0, 0, .null, []), (39, .getfield 7, 3, 11, 0, .null, []), (42, .iload_n 2, 1, 0, 0, .null, []), (43, .aload_n 0, 1, 0, 0, .null, []), (44, .getfield 7, 3, 11, 0, .null, []), (47, .sipush 289, 3, 0, 0, .int 289, []), (50, .iload_n 1, 1, 0, 0, .null, []), (51, .iconst 1, 1, 0, 0, .int 1, []), (52, .iadd, 1, 0, 0, .null, []), (53, .imul, 1, 0, 0, .null, []), (54, .iload_n 2, 1, 0, 0, .null, []), (55, .iadd, 1, 0, 0, .null, []), (56, .iaload, 1, 0, 0, .null, []), (57, .iastore, 1, 0, 0, .null, []), (58, .iinc 2 1, 3, 0, 0, .int 1, []), (61, .goto (-30), 3, 31, 0, .null, []), (64, .aload_n 0, 1, 0, 0, .null, []), (65, .getfield 7, 3, 11, 0, .null, []), (68, .bipush 8, 2, 0, 0, .int 8, []), (70, .iaload, 1, 0, 0, .null, []), (71, .ireturn, 1, 0, 0, .null, [])]
set_option maxRecDepth 100000 in
theorem ck218 : ∀ ce ∈ cd218, okB (yO 218) (yC 218) ce = true := List.all_eq_true.mp (by decide +kernel)
/-- ShapeDuelModel.wins()I -/
def cd219 : List CE := [(0, .aload_n 0, 1, 0, 0, .null, []), (1, .getfield 204, 3, 11, 2, .null, []), (4, .ifCond .ne 6, 3, 10, 0, .null, []), (7, .bipush (-4), 2, 0, 0, .int (-4), []), (9, .ireturn, 1, 0, 0, .null, []), (10, .aload_n 0, 1, 0, 0, .null, []), (11, .invokevirtual 264, 3, 203, 0, .null, []), (14, .aload_n 0, 1, 0, 0, .null, []), (15, .invokevirtual 276, 3, 210, 0, .null, []), (18, .ifCond .le 7, 3, 25, 0, .null, []), (21, .iconst 1, 1, 0, 0, .int 1, []), (22, .goto 4, 3, 26, 0, .null, []), (25, .iconst 0, 1, 0, 0, .int 0, []), (26, .istore_n 1, 1, 0, 0, .null, []), (27, .aload_n 0, 1, 0, 0, .null, []), (28, .iload_n 1, 1, 0, 0, .null, []), (29, .aload_n 0, 1, 0, 0, .null, []), (30, .getfield 84, 3, 11, 36, .null, []), (33, .iconst 0, 1, 0, 0, .int 0, []), (34, .iaload, 1, 0, 0, .null, []), (35, .invokevirtual 139, 3, 162, 0, .null, []), (38, .ireturn, 1, 0, 0, .null, [])]
set_option maxRecDepth 100000 in
theorem ck219 : ∀ ce ∈ cd219, okB (yO 219) (yC 219) ce = true := List.all_eq_true.mp (by decide +kernel)
/-- ShapeDuelModel.lengthOf(I)I -/
def cd220 : List CE := [(0, .iload_n 0, 1, 0, 0, .null, []), (1, .ifCond .le 10, 3, 11, 0, .null, []), (4, .bipush 100, 2, 0, 0, .int 100, []), (6, .iload_n 0, 1, 0, 0, .null, []), (7, .isub, 1, 0, 0, .null, []), (8, .goto 7, 3, 15, 0, .null, []), (11, .bipush 100, 2, 0, 0, .int 100, []), (13, .iload_n 0, 1, 0, 0, .null, []), (14, .iadd, 1, 0, 0, .null, []), (15, .ireturn, 1, 0, 0, .null, [])]
set_option maxRecDepth 100000 in
theorem ck220 : ∀ ce ∈ cd220, okB (yO 220) (yC 220) ce = true := List.all_eq_true.mp (by decide +kernel)
/-- ShapeDuelModel.ends()I -/
def cd221 : List CE := [(0, .aload_n 0, 1, 0, 0, .null, []), (1, .getfield 204, 3, 11, 2, .null, []), (4, .ifCond .ne 6, 3, 10, 0, .null, []), (7, .bipush (-4), 2, 0, 0, .int (-4), []), (9, .ireturn, 1, 0, 0, .null, []), (10, .aload_n 0, 1, 0, 0, .null, []), (11, .invokevirtual 264, 3, 203, 0, .null, []), (14, .aload_n 0, 1, 0, 0, .null, []), (15, .invokevirtual 276, 3, 210, 0, .null, []), (18, .istore_n 1, 1, 0, 0, .null, []), (19, .aload_n 0, 1, 0, 0, .null, []), (20, .iload_n 1, 1, 0, 0, .null, []), (21, .invokestatic 279, 3, 220, 0, .null, []), (24, .iload_n 1, 1, 0, 0, .null, []), (25, .ifCond .le 12, 3, 37, 0, .null, []), (28, .iconst 1, 1, 0, 0, .int 1, []), (29, .aload_n 0, 1, 0, 0, .null, []), (30, .getfield 245, 3, 11, 34, .null, []), (33, .isub, 1, 0, 0, .null, []), (34, .goto 7, 3, 41, 0, .null, []), (37, .aload_n 0, 1, 0, 0, .null, []), (38, .getfield 245, 3, 11, 34, .null, []), (41, .invokevirtual 139, 3, 162, 0, .null, []), (44, .ireturn, 1, 0, 0, .null, [])]
set_option maxRecDepth 100000 in
theorem ck221 : ∀ ce ∈ cd221, okB (yO 221) (yC 221) ce = true := List.all_eq_true.mp (by decide +kernel)
/-- ShapeDuelModel.line(I)I -/
def cd222 : List CE := [(0, .iload_n 1, 1, 0, 0, .null, []), (1, .invokestatic 127, 3, 163, 0, .null, []), (4, .ifCond .ne 5, 3, 9, 0, .null, []), (7, .iconst (-1), 1, 0, 0, .int (-1), []), (8, .ireturn, 1, 0, 0, .null, []), (9, .aload_n 0, 1, 0, 0, .null, []), (10, .getfield 204, 3, 11, 2, .null, []), (13, .ifCond .ne 6, 3, 19, 0, .null, []), (16, .bipush (-4), 2, 0, 0, .int (-4), []), (18, .ireturn, 1, 0, 0, .null, []), (19, .aload_n 0, 1, 0, 0, .null, []), (20, .invokevirtual 264, 3, 203, 0, .null, []), (23, .aload_n 0, 1, 0, 0, .null, []), (24, .invokevirtual 276, 3, 210, 0, .null, []), (27, .invokestatic 279, 3, 220, 0, .null, []), (30, .istore_n 2, 1, 0, 0, .null, []), (31, .aload_n 0, 1, 0, 0, .null, []), (32, .iload_n 1, 1, 0, 0, .null, []), (33, .iload_n 2, 1, 0, 0, .null, []), (34, .invokevirtual 135, 3, 165, 0, .null, []), (37, .iconst 0, 1, 0, 0, .int 0, []), (38, .istore_n 3, 1, 0, 0, .null, []), (39, .iload_n 3, 1, 0, 0, .null, []), (40, .iload_n 2, 1, 0, 0, .null, []), (41, .if_icmp .ge 117, 3, 158, 0, .null, []), (44, .aload_n 0, 1, 0, 0, .null, []), (45, .getfield 75, 3, 11, 32, .null, []), (48, .iconst 0, 1, 0, 0, .int 0, []), (49, .iconst 0, 1, 0, 0, .int 0, []), (50, .iastore, 1, 0, 0, .null, []), (51, .aload_n 0, 1, 0, 0, .null, []), (52, .invokevirtual 276, 3, 210, 0, .null, []), (55, .istore 4, 2, 0, 0, .null, []), (57, .iload 4, 2, 0, 0, .null, []), (59, .ifCond .ne 8, 3, 67, 0, .null, []), (62, .bipush (-9), 2, 0, 0, .int (-9), []), (64, .goto 9, 3, 73, 0, .null, []), (67, .aload_n 0, 1, 0, 0, .null, []), (68, .getfield 87, 3, 11, 37, .null, []), (71, .iconst 0, 1, 0, 0, .int 0, []), (72, .iaload, 1, 0, 0, .null, []), (73, .istore 5, 2, 0, 0, .null, []), (75, .aload_n 0, 1, 0, 0, .null, []), (76, .getfield 42, 3, 11, 16, .null, []), (79, .bipush 40, 2, 0, 0, .int 40, []), (81, .iload_n 1, 1, 0, 0, .null, []), (82, .imul, 1, 0, 0, .null, []), (83, .iload_n 3, 1, 0, 0, .null, []), (84, .iadd, 1, 0, 0, .null, []), (85, .iload 5, 2, 0, 0, .null, []), (87, .iastore, 1, 0, 0, .null, []), (88, .aload_n 0, 1, 0, 0, .null, []), (89, .getfield 75, 3, 11, 32, .null, []), (92, .iconst 0, 1, 0, 0, .int 0, []), (93, .iconst 0, 1, 0, 0, .int 0, []), (94, .iastore, 1, 0, 0, .null, []), (95, .aload_n 0, 1, 0, 0, .null, []), (96, .iconst 0, 1, 0, 0, .int 0, []), (97, .iload 5, 2, 0, 0, .null, []), (99, .invokevirtual 261, 3, 208, 0, .null, []), (102, .iconst 0, 1, 0, 0, .int 0, []), (103, .istore 6, 2, 0, 0, .null, []), (105, .iload 6, 2, 0, 0, .null, []), (107, .bipush 6, 2, 0, 0, .int 6, []), (109, .if_icmp .ge 26, 3, 135, 0, .null, []), (112, .aload_n 0, 1, 0, 0, .null, []), (113, .getfield 72, 3, 11, 31, .null, []), (116, .iload 6, 2, 0, 0, .null, []), (118, .aload_n 0, 1, 0, 0, .null, []), (119, .getfield 72, 3, 11, 31, .null, []), (122, .bipush 6, 2, 0, 0, .int 6, []), (124, .iload 6, 2, 0, 0, .null, []), (126, .iadd, 1, 0, 0, .null, []), (127, .iaload, 1, 0, 0, .null, []), (128, .iastore, 1, 0, 0, .null, []), (129, .iinc 6 1, 3, 0, 0, .int 1, []), (132, .goto (-27), 3, 105, 0, .null, []), (135, .aload_n 0, 1, 0, 0, .null, []), (136, .iconst 1, 1, 0, 0, .int 1, []), (137, .aload_n 0, 1, 0, 0, .null, []), (138, .getfield 245, 3, 11, 34, .null, []), (141, .isub, 1, 0, 0, .null, []), (142, .putfield 245, 3, 11, 34, .null, []), (145, .aload_n 0, 1, 0, 0, .null, []), (146, .getfield 75, 3, 11, 32, .null, []), (149, .iconst 0, 1, 0, 0, .int 0, []), (150, .iconst 0, 1, 0, 0, .int 0, []), (151, .iastore, 1, 0, 0, .null, []), (152, .iinc 3 1, 3, 0, 0, .int 1, []), (155, .goto (-116), 3, 39, 0, .null, []), (158, .iload_n 2, 1, 0, 0, .null, []), (159, .ireturn, 1, 0, 0, .null, [])]
set_option maxRecDepth 100000 in
theorem ck222 : ∀ ce ∈ cd222, okB (yO 222) (yC 222) ce = true := List.all_eq_true.mp (by decide +kernel)
/-- ShapeDuelModel.doesWin(I)Z -/
def cd223 : List CE := [(0, .aload_n 0, 1, 0, 0, .null, []), (1, .invokevirtual 276, 3, 210, 0, .null, []), (4, .istore_n 2, 1, 0, 0, .null, []), (5, .iload_n 1, 1, 0, 0, .null, []), (6, .aload_n 0, 1, 0, 0, .null, []), (7, .getfield 245, 3, 11, 34, .null, []), (10, .if_icmp .ne 7, 3, 17, 0, .null, []), (13, .iconst 1, 1, 0, 0, .int 1, []), (14, .goto 4, 3, 18, 0, .null, []), (17, .iconst 0, 1, 0, 0, .int 0, []), (18, .iload_n 2, 1, 0, 0, .null, []), (19, .ifCond .le 7, 3, 26, 0, .null, []), (22, .iconst 1, 1, 0, 0, .int 1, []), (23, .goto 4, 3, 27, 0, .null, []), (26, .iconst 0, 1, 0, 0, .int 0, []), (27, .if_icmp .ne 7, 3, 34, 0, .null, []), (30, .iconst 1, 1, 0, 0, .int 1, []), (31, .goto 4, 3, 35, 0, .null, []), (34, .iconst 0, 1, 0, 0, .int 0, []), (35, .ireturn, 1, 0, 0, .null, [])]
set_option maxRecDepth 100000 in
theorem ck223 : ∀ ce ∈ cd223, okB (yO 223) (yC 223) ce = true := List.all_eq_true.mp (by decide +kernel)
/-- ShapeDuelModel.least(I)I -/
def cd224 : List CE := [(0, .aload_n 0, 1, 0, 0, .null, []), (1, .iload_n 1, 1, 0, 0, .null, []), (2, .invokevirtual 242, 3, 188, 0, .null, []), (5, .ifCond .ne 5, 3, 10, 0, .null, []), (8, .iconst (-1), 1, 0, 0, .int (-1), []), (9, .ireturn, 1, 0, 0, .null, []), (10, .iconst 0, 1, 0, 0, .int 0, []), (11, .istore_n 2, 1, 0, 0, .null, []), (12, .iload_n 2, 1, 0, 0, .null, []), (13, .bipush 6, 2, 0, 0, .int 6, []), (15, .if_icmp .ge 32, 3, 47, 0, .null, []), (18, .aload_n 0, 1, 0, 0, .null, []), (19, .invokevirtual 264, 3, 203, 0, .null, []), (22, .aload_n 0, 1, 0, 0, .null, []), (23, .getfield 72, 3, 11, 31, .null, []), (26, .iconst 2, 1, 0, 0, .int 2, []), (27, .iload_n 1, 1, 0, 0, .null, []), (28, .iadd, 1, 0, 0, .null, []), (29, .iload_n 2, 1, 0, 0, .null, []), (30, .iastore, 1, 0, 0, .null, []), (31, .aload_n 0, 1, 0, 0, .null, []), (32, .iload_n 1, 1, 0, 0, .null, []), (33, .invokevirtual 282, 3, 223, 0, .null, []), (36, .ifCond .eq 5, 3, 41, 0, .null, []), (39, .iload_n 2, 1, 0, 0, .null, []), (40, .ireturn, 1, 0, 0, .null, []), (41, .iinc 2 1, 3, 0, 0, .int 1, []), (44, .goto (-32), 3, 12, 0, .null, []), (47, .bipush (-9), 2, 0, 0, .int (-9), []), (49, .ireturn, 1, 0, 0, .null, [])]
set_option maxRecDepth 100000 in
theorem ck224 : ∀ ce ∈ cd224, okB (yO 224) (yC 224) ce = true := List.all_eq_true.mp (by decide +kernel)
/-- ShapeDuelModel.learn(I)I -/
def cd225 : List CE := [(0, .aload_n 0, 1, 0, 0, .null, []), (1, .iload_n 1, 1, 0, 0, .null, []), (2, .invokevirtual 242, 3, 188, 0, .null, []), (5, .ifCond .ne 5, 3, 10, 0, .null, []), (8, .iconst (-1), 1, 0, 0, .int (-1), []), (9, .ireturn, 1, 0, 0, .null, []), (10, .aload_n 0, 1, 0, 0, .null, []), (11, .invokevirtual 264, 3, 203, 0, .null, []), (14, .aload_n 0, 1, 0, 0, .null, []), (15, .iload_n 1, 1, 0, 0, .null, []), (16, .invokevirtual 282, 3, 223, 0, .null, []), (19, .ifCond .eq 6, 3, 25, 0, .null, []), (22, .bipush (-9), 2, 0, 0, .int (-9), []), (24, .ireturn, 1, 0, 0, .null, []), (25, .iconst 0, 1, 0, 0, .int 0, []), (26, .istore_n 2, 1, 0, 0, .null, []), (27, .iload_n 2, 1, 0, 0, .null, []), (28, .aload_n 0, 1, 0, 0, .null, []), (29, .getfield 201, 3, 11, 6, .null, []), (32, .if_icmp .ge 48, 3, 80, 0, .null, []), (35, .aload_n 0, 1, 0, 0, .null, []), (36, .invokevirtual 264, 3, 203, 0, .null, []), (39, .aload_n 0, 1, 0, 0, .null, []), (40, .getfield 78, 3, 11, 33, .null, []), (43, .iload_n 1, 1, 0, 0, .null, []), (44, .iaload, 1, 0, 0, .null, []), (45, .iload_n 2, 1, 0, 0, .null, []), (46, .invokestatic 208, 3, 159, 0, .null, []), (49, .ifCond .ne 25, 3, 74, 0, .null, []), (52, .aload_n 0, 1, 0, 0, .null, []), (53, .getfield 78, 3, 11, 33, .null, []), (56, .iload_n 1, 1, 0, 0, .null, []), (57, .dup2, 1, 0, 0, .null, []), (58, .iaload, 1, 0, 0, .null, []), (59, .iconst 1, 1, 0, 0, .int 1, []), (60, .iload_n 2, 1, 0, 0, .null, []), (61, .ishl, 1, 0, 0, .null, []), (62, .ior, 1, 0, 0, .null, []), (63, .iastore, 1, 0, 0, .null, []), (64, .aload_n 0, 1, 0, 0, .null, []), (65, .iload_n 1, 1, 0, 0, .null, []), (66, .invokevirtual 282, 3, 223, 0, .null, []), (69, .ifCond .eq 5, 3, 74, 0, .null, []), (72, .iload_n 2, 1, 0, 0, .null, []), (73, .ireturn, 1, 0, 0, .null, []), (74, .iinc 2 1, 3, 0, 0, .int 1, []), (77, .goto (-50), 3, 27, 0, .null, []), (80, .bipush (-9), 2, 0, 0, .int (-9), []), (82, .ireturn, 1, 0, 0, .null, [])]
set_option maxRecDepth 100000 in
theorem ck225 : ∀ ce ∈ cd225, okB (yO 225) (yC 225) ce = true := List.all_eq_true.mp (by decide +kernel)
/-- ShapeDuelModel.needs(I)I -/
def cd226 : List CE := [(0, .aload_n 0, 1, 0, 0, .null, []), (1, .iload_n 1, 1, 0, 0, .null, []), (2, .invokevirtual 242, 3, 188, 0, .null, []), (5, .ifCond .ne 5, 3, 10, 0, .null, []), (8, .iconst (-1), 1, 0, 0, .int (-1), []), (9, .ireturn, 1, 0, 0, .null, []), (10, .aload_n 0, 1, 0, 0, .null, []), (11, .invokevirtual 264, 3, 203, 0, .null, []), (14, .iconst 0, 1, 0, 0, .int 0, []), (15, .istore_n 2, 1, 0, 0, .null, []), (16, .aload_n 0, 1, 0, 0, .null, []), (17, .iload_n 1, 1, 0, 0, .null, []), (18, .invokevirtual 282, 3, 223, 0, .null, []), (21, .ifCond .ne 5, 3, 26, 0, .null, []), (24, .iconst 0, 1, 0, 0, .int 0, []), (25, .ireturn, 1, 0, 0, .null, []), (26, .iconst 0, 1, 0, 0, .int 0, []), (27, .istore_n 3, 1, 0, 0, .null, []), (28, .iload_n 3, 1, 0, 0, .null, []), (29, .aload_n 0, 1, 0, 0, .null, []), (30, .getfield 201, 3, 11, 6, .null, []), (33, .if_icmp .ge 58, 3, 91, 0, .null, []), (36, .aload_n 0, 1, 0, 0, .null, []), (37, .invokevirtual 264, 3, 203, 0, .null, []), (40, .aload_n 0, 1, 0, 0, .null, []), (41, .getfield 78, 3, 11, 33, .null, []), (44, .iload_n 1, 1, 0, 0, .null, []), (45, .iaload, 1, 0, 0, .null, []), (46, .iload_n 3, 1, 0, 0, .null, []), (47, .invokestatic 208, 3, 159, 0, .null, []), (50, .ifCond .eq 35, 3, 85, 0, .null, []), (53, .aload_n 0, 1, 0, 0, .null, []), (54, .getfield 78, 3, 11, 33, .null, []), (57, .iload_n 1, 1, 0, 0, .null, []), (58, .dup2, 1, 0, 0, .null, []), (59, .iaload, 1, 0, 0, .null, []), (60, .iconst 1, 1, 0, 0, .int 1, []), (61, .iload_n 3, 1, 0, 0, .null, []), (62, .ishl, 1, 0, 0, .null, []), (63, .iconst (-1), 1, 0, 0, .int (-1), []), (64, .ixor, 1, 0, 0, .null, []), (65, .iand, 1, 0, 0, .null, []), (66, .iastore, 1, 0, 0, .null, []), (67, .iload_n 2, 1, 0, 0, .null, []), (68, .aload_n 0, 1, 0, 0, .null, []), (69, .iload_n 1, 1, 0, 0, .null, []), (70, .invokevirtual 282, 3, 223, 0, .null, []), (73, .ifCond .eq 7, 3, 80, 0, .null, []), (76, .iconst 0, 1, 0, 0, .int 0, []), (77, .goto 6, 3, 83, 0, .null, []), (80, .iconst 1, 1, 0, 0, .int 1, []), (81, .iload_n 3, 1, 0, 0, .null, []), (82, .ishl, 1, 0, 0, .null, []), (83, .ior, 1, 0, 0, .null, []), (84, .istore_n 2, 1, 0, 0, .null, []), (85, .iinc 3 1, 3, 0, 0, .int 1, []), (88, .goto (-60), 3, 28, 0, .null, []), (91, .iload_n 2, 1, 0, 0, .null, []), (92, .ireturn, 1, 0, 0, .null, [])]
set_option maxRecDepth 100000 in
theorem ck226 : ∀ ce ∈ cd226, okB (yO 226) (yC 226) ce = true := List.all_eq_true.mp (by decide +kernel)
/-- ShapeDuelModel.lines(I)I -/
def cd227 : List CE := [(0, .iload_n 1, 1, 0, 0, .null, []), (1, .i2l, 1, 0, 0, .null, []), (2, .lconst 0, 1, 0, 0, .long 0, []), (3, .ldc2_w 285, 3, 0, 0, .long (6), []), (6, .invokestatic 121, 3, 158, 0, .null, []), (9, .ifCond .ne 5, 3, 14, 0, .null, []), (12, .iconst (-1), 1, 0, 0, .int (-1), []), (13, .ireturn, 1, 0, 0, .null, []), (14, .aload_n 0, 1, 0, 0, .null, []), (15, .getfield 204, 3, 11, 2, .null, []), (18, .ifCond .ne 6, 3, 24, 0, .null, []), (21, .bipush (-4), 2, 0, 0, .int (-4), []), (23, .ireturn, 1, 0, 0, .null, []), (24, .aload_n 0, 1, 0, 0, .null, []), (25, .invokevirtual 264, 3, 203, 0, .null, []), (28, .iconst 0, 1, 0, 0, .int 0, []), (29, .istore_n 2, 1, 0, 0, .null, []), (30, .iconst 0, 1, 0, 0, .int 0, []), (31, .istore_n 3, 1, 0, 0, .null, []), (32, .iconst 0, 1, 0, 0, .int 0, []), (33, .istore 4, 2, 0, 0, .null, []), (35, .iload 4, 2, 0, 0, .null, []), (37, .ifCond .lt 78, 3, 115, 0, .null, []), (40, .iload 4, 2, 0, 0, .null, []), (42, .iload_n 1, 1, 0, 0, .null, []), (43, .if_icmp .ne 7, 3, 50, 0, .null, []), (46, .iconst (-1), 1, 0, 0, .int (-1), []), (47, .goto 9, 3, 56, 0, .null, []), (50, .aload_n 0, 1, 0, 0, .null, []), (51, .iload 4, 2, 0, 0, .null, []), (53, .invokevirtual 258, 3, 209, 0, .null, []), (56, .istore 5, 2, 0, 0, .null, []), (58, .iload 4, 2, 0, 0, .null, []), (60, .iload_n 1, 1, 0, 0, .null, []), (61, .if_icmp .ne 29, 3, 90, 0, .null, []), (64, .iinc 2 1, 3, 0, 0, .int 1, []), (67, .iload_n 3, 1, 0, 0, .null, []), (68, .aload_n 0, 1, 0, 0, .null, []), (69, .iload 4, 2, 0, 0, .null, []), (71, .aload_n 0, 1, 0, 0, .null, []), (72, .iload 4, 2, 0, 0, .null, []), (74, .invokevirtual 255, 3, 207, 0, .null, []), (77, .invokevirtual 267, 3, 206, 0, .null, []), (80, .ifCond .ne 7, 3, 87, 0, .null, []), (83, .iconst 1, 1, 0, 0, .int 1, []), (84, .goto 4, 3, 88, 0, .null, []), (87, .iconst 0, 1, 0, 0, .int 0, []), (88, .iadd, 1, 0, 0, .null, []), (89, .istore_n 3, 1, 0, 0, .null, []), (90, .iload 5, 2, 0, 0, .null, []), (92, .ifCond .lt 17, 3, 109, 0, .null, []), (95, .aload_n 0, 1, 0, 0, .null, []), (96, .iload 4, 2, 0, 0, .null, []), (98, .iload 5, 2, 0, 0, .null, []), (100, .invokevirtual 261, 3, 208, 0, .null, []), (103, .iinc 4 1, 3, 0, 0, .int 1, []), (106, .goto 6, 3, 112, 0, .null, []), (109, .iinc 4 (-1), 3, 0, 0, .int (-1), []), (112, .goto (-77), 3, 35, 0, .null, []), (115, .aload_n 0, 1, 0, 0, .null, []), (116, .iload_n 2, 1, 0, 0, .null, []), (117, .iload_n 3, 1, 0, 0, .null, []), (118, .invokevirtual 139, 3, 162, 0, .null, []), (121, .ireturn, 1, 0, 0, .null, [])]
set_option maxRecDepth 100000 in
theorem ck227 : ∀ ce ∈ cd227, okB (yO 227) (yC 227) ce = true := List.all_eq_true.mp (by decide +kernel)
/-- ShapeDuelModel.bars(III)I -/
def cd228 : List CE := [(0, .aload_n 0, 1, 0, 0, .null, []), (1, .getfield 39, 3, 11, 15, .null, []), (4, .iload_n 1, 1, 0, 0, .null, []), (5, .iaload, 1, 0, 0, .null, []), (6, .ifCond .ge 5, 3, 11, 0, .null, []), (9, .iconst 1, 1, 0, 0, .int 1, []), (10, .ireturn, 1, 0, 0, .null, []), (11, .iconst 1, 1, 0, 0, .int 1, []), (12, .istore 4, 2, 0, 0, .null, []), (14, .iconst 0, 1, 0, 0, .int 0, []), (15, .istore 5, 2, 0, 0, .null, []), (17, .iload 5, 2, 0, 0, .null, []), (19, .aload_n 0, 1, 0, 0, .null, []), (20, .getfield 39, 3, 11, 15, .null, []), (23, .iload_n 1, 1, 0, 0, .null, []), (24, .iaload, 1, 0, 0, .null, []), (25, .if_icmp .ge 45, 3, 70, 0, .null, []), (28, .iload 4, 2, 0, 0, .null, []), (30, .ifCond .eq 31, 3, 61, 0, .null, []), (33, .aload_n 0, 1, 0, 0, .null, []), (34, .getfield 42, 3, 11, 16, .null, []), (37, .bipush 40, 2, 0, 0, .int 40, []), (39, .iload_n 1, 1, 0, 0, .null, []), (40, .imul, 1, 0, 0, .null, []), (41, .iload 5, 2, 0, 0, .null, []), (43, .iadd, 1, 0, 0, .null, []), (44, .iaload, 1, 0, 0, .null, []), (45, .i2l, 1, 0, 0, .null, []), (46, .lconst 0, 1, 0, 0, .long 0, []), (47, .iload_n 3, 1, 0, 0, .null, []), (48, .iconst 1, 1, 0, 0, .int 1, []), (49, .isub, 1, 0, 0, .null, []), (50, .i2l, 1, 0, 0, .null, []), (51, .invokestatic 121, 3, 158, 0, .null, []), (54, .ifCond .eq 7, 3, 61, 0, .null, []), (57, .iconst 1, 1, 0, 0, .int 1, []), (58, .goto 4, 3, 62, 0, .null, []), (61, .iconst 0, 1, 0, 0, .int 0, []), (62, .istore 4, 2, 0, 0, .null, []), (64, .iinc 5 1, 3, 0, 0, .int 1, []), (67, .goto (-50), 3, 17, 0, .null, []), (70, .aload_n 0, 1, 0, 0, .null, []), (71, .getfield 39, 3, 11, 15, .null, []), (74, .iload_n 1, 1, 0, 0, .null, []), (75, .iaload, 1, 0, 0, .null, []), (76, .iload_n 2, 1, 0, 0, .null, []), (77, .if_icmp .le 7, 3, 84, 0, .null, []), (80, .iconst 5, 1, 0, 0, .int 5, []), (81, .goto 13, 3, 94, 0, .null, []), (84, .iload 4, 2, 0, 0, .null, []), (86, .ifCond .eq 7, 3, 93, 0, .null, []), (89, .iconst 0, 1, 0, 0, .int 0, []), (90, .goto 4, 3, 94, 0, .null, []), (93, .iconst 3, 1, 0, 0, .int 3, []), (94, .ireturn, 1, 0, 0, .null, [])]
set_option maxRecDepth 100000 in
theorem ck228 : ∀ ce ∈ cd228, okB (yO 228) (yC 228) ce = true := List.all_eq_true.mp (by decide +kernel)
/-- ShapeDuelModel.judge(I)I -/
def cd229 : List CE := [(0, .iload_n 1, 1, 0, 0, .null, []), (1, .invokestatic 127, 3, 163, 0, .null, []), (4, .ifCond .ne 5, 3, 9, 0, .null, []), (7, .iconst (-1), 1, 0, 0, .int (-1), []), (8, .ireturn, 1, 0, 0, .null, []), (9, .aload_n 0, 1, 0, 0, .null, []), (10, .getfield 204, 3, 11, 2, .null, []), (13, .ifCond .ne 6, 3, 19, 0, .null, []), (16, .bipush (-4), 2, 0, 0, .int (-4), []), (18, .ireturn, 1, 0, 0, .null, []), (19, .aload_n 0, 1, 0, 0, .null, []), (20, .iload_n 1, 1, 0, 0, .null, []), (21, .bipush 12, 2, 0, 0, .int 12, []), (23, .aload_n 0, 1, 0, 0, .null, []), (24, .getfield 201, 3, 11, 6, .null, []), (27, .invokevirtual 287, 3, 228, 0, .null, []), (30, .istore_n 2, 1, 0, 0, .null, []), (31, .iload_n 2, 1, 0, 0, .null, []), (32, .ifCond .le 9, 3, 41, 0, .null, []), (35, .aload_n 0, 1, 0, 0, .null, []), (36, .iload_n 2, 1, 0, 0, .null, []), (37, .invokevirtual 131, 3, 161, 0, .null, []), (40, .ireturn, 1, 0, 0, .null, []), (41, .aload_n 0, 1, 0, 0, .null, []), (42, .invokevirtual 264, 3, 203, 0, .null, []), (45, .iconst 0, 1, 0, 0, .int 0, []), (46, .istore_n 3, 1, 0, 0, .null, []), (47, .iload_n 3, 1, 0, 0, .null, []), (48, .aload_n 0, 1, 0, 0, .null, []), (49, .getfield 39, 3, 11, 15, .null, []), (52, .iload_n 1, 1, 0, 0, .null, []), (53, .iaload, 1, 0, 0, .null, []), (54, .if_icmp .ge 49, 3, 103, 0, .null, []), (57, .aload_n 0, 1, 0, 0, .null, []), (58, .iload_n 3, 1, 0, 0, .null, []), (59, .aload_n 0, 1, 0, 0, .null, []), (60, .iload_n 3, 1, 0, 0, .null, []), (61, .invokevirtual 255, 3, 207, 0, .null, []), (64, .aload_n 0, 1, 0, 0, .null, []), (65, .getfield 42, 3, 11, 16, .null, []), (68, .bipush 40, 2, 0, 0, .int 40, []), (70, .iload_n 1, 1, 0, 0, .null, []), (71, .imul, 1, 0, 0, .null, []), (72, .iload_n 3, 1, 0, 0, .null, []), (73, .iadd, 1, 0, 0, .null, []), (74, .iaload, 1, 0, 0, .null, []), (75, .invokevirtual 252, 3, 205, 0, .null, []), (78, .ifCond .eq 25, 3, 103, 0, .null, []), (81, .aload_n 0, 1, 0, 0, .null, []), (82, .iload_n 3, 1, 0, 0, .null, []), (83, .aload_n 0, 1, 0, 0, .null, []), (84, .getfield 42, 3, 11, 16, .null, []), (87, .bipush 40, 2, 0, 0, .int 40, []), (89, .iload_n 1, 1, 0, 0, .null, []), (90, .imul, 1, 0, 0, .null, []), (91, .iload_n 3, 1, 0, 0, .null, []), (92, .iadd, 1, 0, 0, .null, []), (93, .iaload, 1, 0, 0, .null, []), (94, .invokevirtual 261, 3, 208, 0, .null, []), (97, .iinc 3 1, 3, 0, 0, .int 1, []), (100, .goto (-53), 3, 47, 0, .null, []), (103, .aload_n 0, 1, 0, 0, .null, []), (104, .iload_n 3, 1, 0, 0, .null, []), (105, .aload_n 0, 1, 0, 0, .null, []), (106, .iload_n 3, 1, 0, 0, .null, []), (107, .aload_n 0, 1, 0, 0, .null, []), (108, .iload_n 3, 1, 0, 0, .null, []), (109, .invokevirtual 255, 3, 207, 0, .null, []), (112, .invokevirtual 267, 3, 206, 0, .null, []), (115, .ifCond .ne 11, 3, 126, 0, .null, []), (118, .aload_n 0, 1, 0, 0, .null, []), (119, .iload_n 3, 1, 0, 0, .null, []), (120, .invokevirtual 255, 3, 207, 0, .null, []), (123, .goto 5, 3, 128, 0, .null, []), (126, .bipush (-9), 2, 0, 0, .int (-9), []), (128, .invokevirtual 139, 3, 162, 0, .null, []), (131, .ireturn, 1, 0, 0, .null, [])]
set_option maxRecDepth 100000 in
theorem ck229 : ∀ ce ∈ cd229, okB (yO 229) (yC 229) ce = true := List.all_eq_true.mp (by decide +kernel)
/-- ShapeDuelModel.findShown(I)V -/
def cd230 : List CE := [(0, .aload_n 0, 1, 0, 0, .null, []), (1, .invokevirtual 264, 3, 203, 0, .null, []), (4, .aload_n 0, 1, 0, 0, .null, []), (5, .getfield 39, 3, 11, 15, .null, []), (8, .iload_n 1, 1, 0, 0, .null, []), (9, .iaload, 1, 0, 0, .null, []), (10, .istore_n 2, 1, 0, 0, .null, []), (11, .aload_n 0, 1, 0, 0, .null, []), (12, .iconst 0, 1, 0, 0, .int 0, []), (13, .putfield 290, 3, 11, 39, .null, []), (16, .aload_n 0, 1, 0, 0, .null, []), (17, .getfield 96, 3, 11, 41, .null, []), (20, .iconst 0, 1, 0, 0, .int 0, []), (21, .sipush 4095, 3, 0, 0, .int 4095, []), (24, .iastore, 1, 0, 0, .null, []), (25, .aload_n 0, 1, 0, 0, .null, []), (26, .getfield 96, 3, 11, 41, .null, []), (29, .iconst 1, 1, 0, 0, .int 1, []), (30, .sipush 4095, 3, 0, 0, .int 4095, []), (33, .iastore, 1, 0, 0, .null, []), (34, .iconst 0, 1, 0, 0, .int 0, []), (35, .istore_n 3, 1, 0, 0, .null, []), (36, .iload_n 3, 1, 0, 0, .null, []), (37, .ifCond .lt 82, 3, 119, 0, .null, []), (40, .iload_n 3, 1, 0, 0, .null, []), (41, .iload_n 2, 1, 0, 0, .null, []), (42, .if_icmp .ne 7, 3, 49, 0, .null, []), (45, .iconst (-1), 1, 0, 0, .int (-1), []), (46, .goto 8, 3, 54, 0, .null, []), (49, .aload_n 0, 1, 0, 0, .null, []), (50, .iload_n 3, 1, 0, 0, .null, []), (51, .invokevirtual 258, 3, 209, 0, .null, []), (54, .istore 4, 2, 0, 0, .null, []), (56, .iload_n 3, 1, 0, 0, .null, []), (57, .iload_n 2, 1, 0, 0, .null, []), (58, .if_icmp .ne 8, 3, 66, 0, .null, []), (61, .aload_n 0, 1, 0, 0, .null, []), (62, .iload_n 2, 1, 0, 0, .null, []), (63, .invokevirtual 293, 3, 231, 0, .null, []), (66, .iload 4, 2, 0, 0, .null, []), (68, .ifCond .lt 45, 3, 113, 0, .null, []), (71, .aload_n 0, 1, 0, 0, .null, []), (72, .getfield 26, 3, 11, 8, .null, []), (75, .iload 4, 2, 0, 0, .null, []), (77, .iaload, 1, 0, 0, .null, []), (78, .aload_n 0, 1, 0, 0, .null, []), (79, .getfield 42, 3, 11, 16, .null, []), (82, .bipush 40, 2, 0, 0, .int 40, []), (84, .iload_n 1, 1, 0, 0, .null, []), (85, .imul, 1, 0, 0, .null, []), (86, .iload_n 3, 1, 0, 0, .null, []), (87, .iadd, 1, 0, 0, .null, []), (88, .iaload, 1, 0, 0, .null, []), (89, .if_icmp .ne 27, 3, 116, 0, .null, []), (92, .aload_n 0, 1, 0, 0, .null, []), (93, .getfield 99, 3, 11, 42, .null, []), (96, .iload_n 3, 1, 0, 0, .null, []), (97, .iload 4, 2, 0, 0, .null, []), (99, .iastore, 1, 0, 0, .null, []), (100, .aload_n 0, 1, 0, 0, .null, []), (101, .iload_n 3, 1, 0, 0, .null, []), (102, .iload 4, 2, 0, 0, .null, []), (104, .invokevirtual 261, 3, 208, 0, .null, []), (107, .iinc 3 1, 3, 0, 0, .int 1, []), (110, .goto 6, 3, 116, 0, .null, []), (113, .iinc 3 (-1), 3, 0, 0, .int (-1), []), (116, .goto (-80), 3, 36, 0, .null, []), (119, .return_, 1, 0, 0, .null, [])]
set_option maxRecDepth 100000 in
theorem ck230 : ∀ ce ∈ cd230, okB (yO 230) (yC 230) ce = true := List.all_eq_true.mp (by decide +kernel)
/-- ShapeDuelModel.notesShown(I)V -/
def cd231 : List CE := [(0, .iconst 0, 1, 0, 0, .int 0, []), (1, .istore_n 2, 1, 0, 0, .null, []), (2, .iconst 0, 1, 0, 0, .int 0, []), (3, .istore_n 3, 1, 0, 0, .null, []), (4, .iconst 0, 1, 0, 0, .int 0, []), (5, .istore 4, 2, 0, 0, .null, []), (7, .iload 4, 2, 0, 0, .null, []), (9, .iload_n 1, 1, 0, 0, .null, []), (10, .if_icmp .ge 91, 3, 101, 0, .null, []), (13, .iload_n 2, 1, 0, 0, .null, []), (14, .aload_n 0, 1, 0, 0, .null, []), (15, .iload 4, 2, 0, 0, .null, []), (17, .invokevirtual 255, 3, 207, 0, .null, []), (20, .ifCond .ne 15, 3, 35, 0, .null, []), (23, .iconst 1, 1, 0, 0, .int 1, []), (24, .aload_n 0, 1, 0, 0, .null, []), (25, .getfield 99, 3, 11, 42, .null, []), (28, .iload 4, 2, 0, 0, .null, []), (30, .iaload, 1, 0, 0, .null, []), (31, .ishl, 1, 0, 0, .null, []), (32, .goto 4, 3, 36, 0, .null, []), (35, .iconst 0, 1, 0, 0, .int 0, []), (36, .ior, 1, 0, 0, .null, []), (37, .istore_n 2, 1, 0, 0, .null, []), (38, .iload_n 3, 1, 0, 0, .null, []), (39, .aload_n 0, 1, 0, 0, .null, []), (40, .iload 4, 2, 0, 0, .null, []), (42, .invokevirtual 255, 3, 207, 0, .null, []), (45, .iconst 1, 1, 0, 0, .int 1, []), (46, .if_icmp .ne 15, 3, 61, 0, .null, []), (49, .iconst 1, 1, 0, 0, .int 1, []), (50, .aload_n 0, 1, 0, 0, .null, []), (51, .getfield 99, 3, 11, 42, .null, []), (54, .iload 4, 2, 0, 0, .null, []), (56, .iaload, 1, 0, 0, .null, []), (57, .ishl, 1, 0, 0, .null, []), (58, .goto 4, 3, 62, 0, .null, []), (61, .iconst 0, 1, 0, 0, .int 0, []), (62, .ior, 1, 0, 0, .null, []), (63, .istore_n 3, 1, 0, 0, .null, []), (64, .aload_n 0, 1, 0, 0, .null, []), (65, .getfield 93, 3, 11, 40, .null, []), (68, .iload 4, 2, 0, 0, .null, []), (70, .aload_n 0, 1, 0, 0, .null, []), (71, .getfield 290, 3, 11, 39, .null, []), (74, .ifCond .ne 13, 3, 87, 0, .null, []), (77, .aload_n 0, 1, 0, 0, .null, []), (78, .getfield 99, 3, 11, 42, .null, []), (81, .iload 4, 2, 0, 0, .null, []), (83, .iaload, 1, 0, 0, .null, []), (84, .goto 10, 3, 94, 0, .null, []), (87, .aload_n 0, 1, 0, 0, .null, []), (88, .getfield 93, 3, 11, 40, .null, []), (91, .iload 4, 2, 0, 0, .null, []), (93, .iaload, 1, 0, 0, .null, []), (94, .iastore, 1, 0, 0, .null, []), (95, .iinc 4 1, 3, 0, 0, .int 1, []), (98, .goto (-91), 3, 7, 0, .null, []), (101, .aload_n 0, 1, 0, 0, .null, []), (102, .getfield 96, 3, 11, 41, .null, []), (105, .iconst 0, 1, 0, 0, .int 0, []), (106, .dup2, 1, 0, 0, .null, []), (107, .iaload, 1, 0, 0, .null, []), (108, .iload_n 2, 1, 0, 0, .null, []), (109, .iand, 1, 0, 0, .null, []), (110, .iastore, 1, 0, 0, .null, []), (111, .aload_n 0, 1, 0, 0, .null, []), (112, .getfield 96, 3, 11, 41, .null, []), (115, .iconst 1, 1, 0, 0, .int 1, []), (116, .dup2, 1, 0, 0, .null, []), (117, .iaload, 1, 0, 0, .null, []), (118, .iload_n 3, 1, 0, 0, .null, []), (119, .iand, 1, 0, 0, .null, []), (120, .iastore, 1, 0, 0, .null, []), (121, .aload_n 0, 1, 0, 0, .null, []), (122, .dup, 1, 0, 0, .null, []), (123, .getfield 290, 3, 11, 39, .null, []), (126, .iconst 1, 1, 0, 0, .int 1, []), (127, .iadd, 1, 0, 0, .null, []), (128, .putfield 290, 3, 11, 39, .null, []), (131, .return_, 1, 0, 0, .null, [])]
set_option maxRecDepth 100000 in
theorem ck231 : ∀ ce ∈ cd231, okB (yO 231) (yC 231) ce = true := List.all_eq_true.mp (by decide +kernel)
/-- ShapeDuelModel.shown(II)I -/
def cd232 : List CE := [(0, .iload_n 1, 1, 0, 0, .null, []), (1, .invokestatic 127, 3, 163, 0, .null, []), (4, .ifCond .eq 10, 3, 14, 0, .null, []), (7, .iload_n 2, 1, 0, 0, .null, []), (8, .invokestatic 127, 3, 163, 0, .null, []), (11, .ifCond .ne 5, 3, 16, 0, .null, []), (14, .iconst (-1), 1, 0, 0, .int (-1), []), (15, .ireturn, 1, 0, 0, .null, []), (16, .aload_n 0, 1, 0, 0, .null, []), (17, .getfield 204, 3, 11, 2, .null, []), (20, .ifCond .ne 6, 3, 26, 0, .null, []), (23, .bipush (-4), 2, 0, 0, .int (-4), []), (25, .ireturn, 1, 0, 0, .null, []), (26, .aload_n 0, 1, 0, 0, .null, []), (27, .iload_n 1, 1, 0, 0, .null, []), (28, .bipush 8, 2, 0, 0, .int 8, []), (30, .aload_n 0, 1, 0, 0, .null, []), (31, .getfield 198, 3, 11, 3, .null, []), (34, .invokevirtual 287, 3, 228, 0, .null, []), (37, .istore_n 3, 1, 0, 0, .null, []), (38, .iload_n 3, 1, 0, 0, .null, []), (39, .ifCond .le 9, 3, 48, 0, .null, []), (42, .aload_n 0, 1, 0, 0, .null, []), (43, .iload_n 3, 1, 0, 0, .null, []), (44, .invokevirtual 131, 3, 161, 0, .null, []), (47, .ireturn, 1, 0, 0, .null, []), (48, .aload_n 0, 1, 0, 0, .null, []), (49, .getfield 39, 3, 11, 15, .null, []), (52, .iload_n 1, 1, 0, 0, .null, []), (53, .iaload, 1, 0, 0, .null, []), (54, .istore 4, 2, 0, 0, .null, []), (56, .aload_n 0, 1, 0, 0, .null, []), (57, .iload_n 1, 1, 0, 0, .null, []), (58, .invokevirtual 296, 3, 230, 0, .null, []), (61, .aload_n 0, 1, 0, 0, .null, []), (62, .getfield 290, 3, 11, 39, .null, []), (65, .ifCond .le 10, 3, 75, 0, .null, []), (68, .aload_n 0, 1, 0, 0, .null, []), (69, .iload_n 2, 1, 0, 0, .null, []), (70, .iload 4, 2, 0, 0, .null, []), (72, .invokevirtual 135, 3, 165, 0, .null, []), (75, .iconst 0, 1, 0, 0, .int 0, []), (76, .istore 5, 2, 0, 0, .null, []), (78, .iload 5, 2, 0, 0, .null, []), (80, .iload 4, 2, 0, 0, .null, []), (82, .if_icmp .ge 35, 3, 117, 0, .null, []), (85, .aload_n 0, 1, 0, 0, .null, []), (86, .getfield 290, 3, 11, 39, .null, []), (89, .ifCond .le 28, 3, 117, 0, .null, []), (92, .aload_n 0, 1, 0, 0, .null, []), (93, .getfield 42, 3, 11, 16, .null, []), (96, .bipush 40, 2, 0, 0, .int 40, []), (98, .iload_n 2, 1, 0, 0, .null, []), (99, .imul, 1, 0, 0, .null, []), (100, .iload 5, 2, 0, 0, .null, []), (102, .iadd, 1, 0, 0, .null, []), (103, .aload_n 0, 1, 0, 0, .null, []), (104, .getfield 93, 3, 11, 40, .null, []), (107, .iload 5, 2, 0, 0, .null, []), (109, .iaload, 1, 0, 0, .null, []), (110, .iastore, 1, 0, 0, .null, []), (111, .iinc 5 1, 3, 0, 0, .int 1, []), (114, .goto (-36), 3, 78, 0, .null, []), (117, .aload_n 0, 1, 0, 0, .null, []), (118, .getfield 290, 3, 11, 39, .null, []), (121, .ireturn, 1, 0, 0, .null, [])]
set_option maxRecDepth 100000 in
theorem ck232 : ∀ ce ∈ cd232, okB (yO 232) (yC 232) ce = true := List.all_eq_true.mp (by decide +kernel)
/-- ShapeDuelModel.must(II)I -/
def cd233 : List CE := [(0, .iload_n 2, 1, 0, 0, .null, []), (1, .invokestatic 127, 3, 163, 0, .null, []), (4, .ifCond .eq 13, 3, 17, 0, .null, []), (7, .iload_n 1, 1, 0, 0, .null, []), (8, .i2l, 1, 0, 0, .null, []), (9, .lconst 0, 1, 0, 0, .long 0, []), (10, .lconst 1, 1, 0, 0, .long 1, []), (11, .invokestatic 121, 3, 158, 0, .null, []), (14, .ifCond .ne 5, 3, 19, 0, .null, []), (17, .iconst (-1), 1, 0, 0, .int (-1), []), (18, .ireturn, 1, 0, 0, .null, []), (19, .aload_n 0, 1, 0, 0, .null, []), (20, .getfield 204, 3, 11, 2, .null, []), (23, .ifCond .ne 6, 3, 29, 0, .null, []), (26, .bipush (-4), 2, 0, 0, .int (-4), []), (28, .ireturn, 1, 0, 0, .null, []), (29, .aload_n 0, 1, 0, 0, .null, []), (30, .iload_n 2, 1, 0, 0, .null, []), (31, .bipush 8, 2, 0, 0, .int 8, []), (33, .aload_n 0, 1, 0, 0, .null, []), (34, .getfield 198, 3, 11, 3, .null, []), (37, .invokevirtual 287, 3, 228, 0, .null, []), (40, .istore_n 3, 1, 0, 0, .null, []), (41, .iload_n 3, 1, 0, 0, .null, []), (42, .ifCond .le 9, 3, 51, 0, .null, []), (45, .aload_n 0, 1, 0, 0, .null, []), (46, .iload_n 3, 1, 0, 0, .null, []), (47, .invokevirtual 131, 3, 161, 0, .null, []), (50, .ireturn, 1, 0, 0, .null, []), (51, .aload_n 0, 1, 0, 0, .null, []), (52, .iload_n 2, 1, 0, 0, .null, []), (53, .invokevirtual 296, 3, 230, 0, .null, []), (56, .aload_n 0, 1, 0, 0, .null, []), (57, .getfield 290, 3, 11, 39, .null, []), (60, .ifCond .ne 7, 3, 67, 0, .null, []), (63, .iconst 0, 1, 0, 0, .int 0, []), (64, .goto 9, 3, 73, 0, .null, []), (67, .aload_n 0, 1, 0, 0, .null, []), (68, .getfield 96, 3, 11, 41, .null, []), (71, .iload_n 1, 1, 0, 0, .null, []), (72, .iaload, 1, 0, 0, .null, []), (73, .ireturn, 1, 0, 0, .null, [])]
set_option maxRecDepth 100000 in
theorem ck233 : ∀ ce ∈ cd233, okB (yO 233) (yC 233) ce = true := List.all_eq_true.mp (by decide +kernel)
/-- ShapeDuelModel.common(JJ)J -/
def cd234 : List CE := [(0, .lload_n 0, 1, 0, 0, .null, []), (1, .lstore 4, 2, 0, 0, .null, []), (3, .lload_n 2, 1, 0, 0, .null, []), (4, .lstore 6, 2, 0, 0, .null, []), (6, .lload 6, 2, 0, 0, .null, []), (8, .lconst 0, 1, 0, 0, .long 0, []), (9, .lcmp, 1, 0, 0, .null, []), (10, .ifCond .eq 21, 3, 31, 0, .null, []), (13, .lload 4, 2, 0, 0, .null, []), (15, .lload 6, 2, 0, 0, .null, []), (17, .lrem, 1, 0, 0, .null, []), (18, .lstore 8, 2, 0, 0, .null, []), (20, .lload 6, 2, 0, 0, .null, []), (22, .lstore 4, 2, 0, 0, .null, []), (24, .lload 8, 2, 0, 0, .null, []), (26, .lstore 6, 2, 0, 0, .null, []), (28, .goto (-22), 3, 6, 0, .null, []), (31, .lload 4, 2, 0, 0, .null, []), (33, .lreturn, 1, 0, 0, .null, [])]
set_option maxRecDepth 100000 in
theorem ck234 : ∀ ce ∈ cd234, okB (yO 234) (yC 234) ce = true := List.all_eq_true.mp (by decide +kernel)
/-- ShapeDuelModel.lowest(I)V -/
def cd235 : List CE := [(0, .aload_n 0, 1, 0, 0, .null, []), (1, .getfield 102, 3, 11, 43, .null, []), (4, .iload_n 1, 1, 0, 0, .null, []), (5, .laload, 1, 0, 0, .null, []), (6, .aload_n 0, 1, 0, 0, .null, []), (7, .getfield 106, 3, 11, 44, .null, []), (10, .iload_n 1, 1, 0, 0, .null, []), (11, .laload, 1, 0, 0, .null, []), (12, .invokestatic 299, 3, 234, 0, .null, []), (15, .lstore_n 2, 1, 0, 0, .null, []), (16, .aload_n 0, 1, 0, 0, .null, []), (17, .getfield 102, 3, 11, 43, .null, []), (20, .iload_n 1, 1, 0, 0, .null, []), (21, .dup2, 1, 0, 0, .null, []), (22, .laload, 1, 0, 0, .null, []), (23, .lload_n 2, 1, 0, 0, .null, []), (24, .ldiv, 1, 0, 0, .null, []), (25, .lastore, 1, 0, 0, .null, []), (26, .aload_n 0, 1, 0, 0, .null, []), (27, .getfield 106, 3, 11, 44, .null, []), (30, .iload_n 1, 1, 0, 0, .null, []), (31, .dup2, 1, 0, 0, .null, []), (32, .laload, 1, 0, 0, .null, []), (33, .lload_n 2, 1, 0, 0, .null, []), (34, .ldiv, 1, 0, 0, .null, []), (35, .lastore, 1, 0, 0, .null, []), (36, .return_, 1, 0, 0, .null, [])]
set_option maxRecDepth 100000 in
theorem ck235 : ∀ ce ∈ cd235, okB (yO 235) (yC 235) ce = true := List.all_eq_true.mp (by decide +kernel)
/-- ShapeDuelModel.isChance(IJ)V -/
def cd236 : List CE := [(0, .aload_n 0, 1, 0, 0, .null, []), (1, .getfield 102, 3, 11, 43, .null, []), (4, .iload_n 1, 1, 0, 0, .null, []), (5, .lload_n 2, 1, 0, 0, .null, []), (6, .lastore, 1, 0, 0, .null, []), (7, .aload_n 0, 1, 0, 0, .null, []), (8, .getfield 106, 3, 11, 44, .null, []), (11, .iload_n 1, 1, 0, 0, .null, []), (12, .lconst 1, 1, 0, 0, .long 1, []), (13, .lastore, 1, 0, 0, .null, []), (14, .aload_n 0, 1, 0, 0, .null, []), (15, .getfield 109, 3, 11, 45, .null, []), (18, .iload_n 1, 1, 0, 0, .null, []), (19, .iconst 0, 1, 0, 0, .int 0, []), (20, .iastore, 1, 0, 0, .null, []), (21, .return_, 1, 0, 0, .null, [])]
set_option maxRecDepth 100000 in
theorem ck236 : ∀ ce ∈ cd236, okB (yO 236) (yC 236) ce = true := List.all_eq_true.mp (by decide +kernel)
/-- ShapeDuelModel.adds(IJJ)V -/
def cd237 : List CE := [(0, .aload_n 0, 1, 0, 0, .null, []), (1, .getfield 106, 3, 11, 44, .null, []), (4, .iload_n 1, 1, 0, 0, .null, []), (5, .laload, 1, 0, 0, .null, []), (6, .aload_n 0, 1, 0, 0, .null, []), (7, .getfield 106, 3, 11, 44, .null, []), (10, .iload_n 1, 1, 0, 0, .null, []), (11, .laload, 1, 0, 0, .null, []), (12, .lload 4, 2, 0, 0, .null, []), (14, .invokestatic 299, 3, 234, 0, .null, []), (17, .ldiv, 1, 0, 0, .null, []), (18, .lload 4, 2, 0, 0, .null, []), (20, .lmul, 1, 0, 0, .null, []), (21, .lstore 6, 2, 0, 0, .null, []), (23, .aload_n 0, 1, 0, 0, .null, []), (24, .getfield 102, 3, 11, 43, .null, []), (27, .iload_n 1, 1, 0, 0, .null, []), (28, .aload_n 0, 1, 0, 0, .null, []), (29, .getfield 102, 3, 11, 43, .null, []), (32, .iload_n 1, 1, 0, 0, .null, []), (33, .laload, 1, 0, 0, .null, []), (34, .lload 6, 2, 0, 0, .null, []), (36, .aload_n 0, 1, 0, 0, .null, []), (37, .getfield 106, 3, 11, 44, .null, []), (40, .iload_n 1, 1, 0, 0, .null, []), (41, .laload, 1, 0, 0, .null, []), (42, .ldiv, 1, 0, 0, .null, []), (43, .lmul, 1, 0, 0, .null, []), (44, .lload_n 2, 1, 0, 0, .null, []), (45, .lload 6, 2, 0, 0, .null, []), (47, .lload 4, 2, 0, 0, .null, []), (49, .ldiv, 1, 0, 0, .null, []), (50, .lmul, 1, 0, 0, .null, []), (51, .ladd, 1, 0, 0, .null, []), (52, .lastore, 1, 0, 0, .null, []), (53, .aload_n 0, 1, 0, 0, .null, []), (54, .getfield 106, 3, 11, 44, .null, []), (57, .iload_n 1, 1, 0, 0, .null, []), (58, .lload 6, 2, 0, 0, .null, []), (60, .lastore, 1, 0, 0, .null, []), (61, .aload_n 0, 1, 0, 0, .null, []), (62, .iload_n 1, 1, 0, 0, .null, []), (63, .invokevirtual 303, 3, 235, 0, .null, []), (66, .return_, 1, 0, 0, .null, [])]
set_option maxRecDepth 100000 in
theorem ck237 : ∀ ce ∈ cd237, okB (yO 237) (yC 237) ce = true := List.all_eq_true.mp (by decide +kernel)
/-- ShapeDuelModel.isMore(JJI)Z -/
def cd238 : List CE := [(0, .aload_n 0, 1, 0, 0, .null, []), (1, .getfield 106, 3, 11, 44, .null, []), (4, .iload 5, 2, 0, 0, .null, []), (6, .laload, 1, 0, 0, .null, []), (7, .aload_n 0, 1, 0, 0, .null, []), (8, .getfield 106, 3, 11, 44, .null, []), (11, .iload 5, 2, 0, 0, .null, []), (13, .laload, 1, 0, 0, .null, []), (14, .lload_n 3, 1, 0, 0, .null, []), (15, .invokestatic 299, 3, 234, 0, .null, []), (18, .ldiv, 1, 0, 0, .null, []), (19, .lload_n 3, 1, 0, 0, .null, []), (20, .lmul, 1, 0, 0, .null, []), (21, .lstore 6, 2, 0, 0, .null, []), (23, .lload_n 1, 1, 0, 0, .null, []), (24, .lload 6, 2, 0, 0, .null, []), (26, .lload_n 3, 1, 0, 0, .null, []), (27, .ldiv, 1, 0, 0, .null, []), (28, .lmul, 1, 0, 0, .null, []), (29, .aload_n 0, 1, 0, 0, .null, []), (30, .getfield 102, 3, 11, 43, .null, []), (33, .iload 5, 2, 0, 0, .null, []), (35, .laload, 1, 0, 0, .null, []), (36, .lload 6, 2, 0, 0, .null, []), (38, .aload_n 0, 1, 0, 0, .null, []), (39, .getfield 106, 3, 11, 44, .null, []), (42, .iload 5, 2, 0, 0, .null, []), (44, .laload, 1, 0, 0, .null, []), (45, .ldiv, 1, 0, 0, .null, []), (46, .lmul, 1, 0, 0, .null, []), (47, .lcmp, 1, 0, 0, .null, []), (48, .ifCond .le 7, 3, 55, 0, .null, []), (51, .iconst 1, 1, 0, 0, .int 1, []), (52, .goto 4, 3, 56, 0, .null, []), (55, .iconst 0, 1, 0, 0, .int 0, []), (56, .ireturn, 1, 0, 0, .null, [])]
set_option maxRecDepth 100000 in
theorem ck238 : ∀ ce ∈ cd238, okB (yO 238) (yC 238) ce = true := List.all_eq_true.mp (by decide +kernel)
/-- ShapeDuelModel.chances(Z)I -/
def cd239_0 : List CE := [(0, .aload_n 0, 1, 0, 0, .null, []), (1, .invokevirtual 264, 3, 203, 0, .null, []), (4, .bipush (-9), 2, 0, 0, .int (-9), []), (6, .istore_n 2, 1, 0, 0, .null, []), (7, .iconst 0, 1, 0, 0, .int 0, []), (8, .istore_n 3, 1, 0, 0, .null, []), (9, .aload_n 0, 1, 0, 0, .null, []), (10, .iconst 0, 1, 0, 0, .int 0, []), (11, .lconst 0, 1, 0, 0, .long 0, []), (12, .invokevirtual 306, 3, 236, 0, .null, []), (15, .iload_n 3, 1, 0, 0, .null, []), (16, .ifCond .lt 235, 3, 251, 0, .null, []), (19, .aload_n 0, 1, 0, 0, .null, []), (20, .iload_n 3, 1, 0, 0, .null, []), (21, .invokevirtual 258, 3, 209, 0, .null, []), (24, .istore 4, 2, 0, 0, .null, []), (26, .iload 4, 2, 0, 0, .null, []), (28, .ifCond .lt 30, 3, 58, 0, .null, []), (31, .aload_n 0, 1, 0, 0, .null, []), (32, .getfield 90, 3, 11, 38, .null, []), (35, .iload_n 3, 1, 0, 0, .null, []), (36, .iload 4, 2, 0, 0, .null, []), (38, .iastore, 1, 0, 0, .null, []), (39, .aload_n 0, 1, 0, 0, .null, []), (40, .iload_n 3, 1, 0, 0, .null, []), (41, .iload 4, 2, 0, 0, .null, []), (43, .invokevirtual 261, 3, 208, 0, .null, []), (46, .iinc 3 1, 3, 0, 0, .int 1, []), (49, .aload_n 0, 1, 0, 0, .null, []), (50, .iload_n 3, 1, 0, 0, .null, []), (51, .lconst 0, 1, 0, 0, .long 0, []), (52, .invokevirtual 306, 3, 236, 0, .null, []), (55, .goto 193, 3, 248, 0, .null, []), (58, .aload_n 0, 1, 0, 0, .null, []), (59, .iload_n 3, 1, 0, 0, .null, []), (60, .iload_n 1, 1, 0, 0, .null, []), (61, .invokevirtual 310, 3, 240, 0, .null, []), (64, .iinc 3 (-1), 3, 0, 0, .int (-1), []), (67, .iload_n 3, 1, 0, 0, .null, []), (68, .ifCond .lt 180, 3, 248, 0, .null, []), (71, .iload_n 1, 1, 0, 0, .null, []), (72, .ifCond .ne 13, 3, 85, 0, .null, []), (75, .iload_n 3, 1, 0, 0, .null, []), (76, .iconst 2, 1, 0, 0, .int 2, []), (77, .irem, 1, 0, 0, .null, []), (78, .ifCond .ne 7, 3, 85, 0, .null, []), (81, .iconst 1, 1, 0, 0, .int 1, []), (82, .goto 4, 3, 86, 0, .null, []), (85, .iconst 0, 1, 0, 0, .int 0, []), (86, .istore 5, 2, 0, 0, .null, []), (88, .aload_n 0, 1, 0, 0, .null, []), (89, .getfield 109, 3, 11, 45, .null, []), (92, .iload_n 3, 1, 0, 0, .null, []), (93, .iaload, 1, 0, 0, .null, []), (94, .ifCond .eq 27, 3, 121, 0, .null, []), (97, .aload_n 0, 1, 0, 0, .null, []), (98, .aload_n 0, 1, 0, 0, .null, []), (99, .getfield 102, 3, 11, 43, .null, []), (102, .iload_n 3, 1, 0, 0, .null, []), (103, .iconst 1, 1, 0, 0, .int 1, []), (104, .iadd, 1, 0, 0, .null, []), (105, .laload, 1, 0, 0, .null, []), (106, .aload_n 0, 1, 0, 0, .null, []), (107, .getfield 106, 3, 11, 44, .null, []), (110, .iload_n 3, 1, 0, 0, .null, []), (111, .iconst 1, 1, 0, 0, .int 1, []), (112, .iadd, 1, 0, 0, .null, []), (113, .laload, 1, 0, 0, .null, []), (114, .iload_n 3, 1, 0, 0, .null, []), (115, .invokevirtual 314, 3, 238, 0, .null, []), (118, .ifCond .eq 7, 3, 125, 0, .null, []), (121, .iconst 1, 1, 0, 0, .int 1, []), (122, .goto 4, 3, 126, 0, .null, []), (125, .iconst 0, 1, 0, 0, .int 0, []), (126, .istore 6, 2, 0, 0, .null, []), (128, .iload_n 3, 1, 0, 0, .null, []), (129, .ifCond .ne 22, 3, 151, 0, .null, []), (132, .iload 5, 2, 0, 0, .null, []), (134, .ifCond .eq 17, 3, 151, 0, .null, []), (137, .iload 6, 2, 0, 0, .null, []), (139, .ifCond .eq 12, 3, 151, 0, .null, []), (142, .aload_n 0, 1, 0, 0, .null, []), (143, .getfield 90, 3, 11, 38, .null, []), (146, .iconst 0, 1, 0, 0, .int 0, []), (147, .iaload, 1, 0, 0, .null, []), (148, .goto 4, 3, 152, 0, .null, []), (151, .iload_n 2, 1, 0, 0, .null, []), (152, .istore_n 2, 1, 0, 0, .null, []), (153, .iload 5, 2, 0, 0, .null, []), (155, .ifCond .eq 62, 3, 217, 0, .null, []), (158, .aload_n 0, 1, 0, 0, .null, []), (159, .getfield 102, 3, 11, 43, .null, []), (162, .iload_n 3, 1, 0, 0, .null, []), (163, .iload 6, 2, 0, 0, .null, []), (165, .ifCond .eq 14, 3, 179, 0, .null, []), (168, .aload_n 0, 1, 0, 0, .null, []), (169, .getfield 102, 3, 11, 43, .null, []), (172, .iload_n 3, 1, 0, 0, .null, []), (173, .iconst 1, 1, 0, 0, .int 1, []), (174, .iadd, 1, 0, 0, .null, [])]
set_option maxRecDepth 100000 in
theorem ck239_0 : ∀ ce ∈ cd239_0, okB (yO 239) (yC 239) ce = true := List.all_eq_true.mp (by decide +kernel)
def cd239_1 : List CE := [(175, .laload, 1, 0, 0, .null, []), (176, .goto 9, 3, 185, 0, .null, []), (179, .aload_n 0, 1, 0, 0, .null, []), (180, .getfield 102, 3, 11, 43, .null, []), (183, .iload_n 3, 1, 0, 0, .null, []), (184, .laload, 1, 0, 0, .null, []), (185, .lastore, 1, 0, 0, .null, []), (186, .aload_n 0, 1, 0, 0, .null, []), (187, .getfield 106, 3, 11, 44, .null, []), (190, .iload_n 3, 1, 0, 0, .null, []), (191, .iload 6, 2, 0, 0, .null, []), (193, .ifCond .eq 14, 3, 207, 0, .null, []), (196, .aload_n 0, 1, 0, 0, .null, []), (197, .getfield 106, 3, 11, 44, .null, []), (200, .iload_n 3, 1, 0, 0, .null, []), (201, .iconst 1, 1, 0, 0, .int 1, []), (202, .iadd, 1, 0, 0, .null, []), (203, .laload, 1, 0, 0, .null, []), (204, .goto 9, 3, 213, 0, .null, []), (207, .aload_n 0, 1, 0, 0, .null, []), (208, .getfield 106, 3, 11, 44, .null, []), (211, .iload_n 3, 1, 0, 0, .null, []), (212, .laload, 1, 0, 0, .null, []), (213, .lastore, 1, 0, 0, .null, []), (214, .goto 24, 3, 238, 0, .null, []), (217, .aload_n 0, 1, 0, 0, .null, []), (218, .iload_n 3, 1, 0, 0, .null, []), (219, .aload_n 0, 1, 0, 0, .null, []), (220, .getfield 102, 3, 11, 43, .null, []), (223, .iload_n 3, 1, 0, 0, .null, []), (224, .iconst 1, 1, 0, 0, .int 1, []), (225, .iadd, 1, 0, 0, .null, []), (226, .laload, 1, 0, 0, .null, []), (227, .aload_n 0, 1, 0, 0, .null, []), (228, .getfield 106, 3, 11, 44, .null, []), (231, .iload_n 3, 1, 0, 0, .null, []), (232, .iconst 1, 1, 0, 0, .int 1, []), (233, .iadd, 1, 0, 0, .null, []), (234, .laload, 1, 0, 0, .null, []), (235, .invokevirtual 318, 3, 237, 0, .null, []), (238, .aload_n 0, 1, 0, 0, .null, []), (239, .getfield 109, 3, 11, 45, .null, []), (242, .iload_n 3, 1, 0, 0, .null, []), (243, .dup2, 1, 0, 0, .null, []), (244, .iaload, 1, 0, 0, .null, []), (245, .iconst 1, 1, 0, 0, .int 1, []), (246, .iadd, 1, 0, 0, .null, []), (247, .iastore, 1, 0, 0, .null, []), (248, .goto (-233), 3, 15, 0, .null, []), (251, .iload_n 2, 1, 0, 0, .null, []), (252, .ireturn, 1, 0, 0, .null, [])]
set_option maxRecDepth 100000 in
theorem ck239_1 : ∀ ce ∈ cd239_1, okB (yO 239) (yC 239) ce = true := List.all_eq_true.mp (by decide +kernel)
def cd239 : List CE := cd239_0 ++ (cd239_1)
theorem ck239 : ∀ ce ∈ cd239, okB (yO 239) (yC 239) ce = true := List.forall_mem_append.mpr ⟨ck239_0, ck239_1⟩
/-- ShapeDuelModel.closes(IZ)V -/
def cd240 : List CE := [(0, .aload_n 0, 1, 0, 0, .null, []), (1, .getfield 109, 3, 11, 45, .null, []), (4, .iload_n 1, 1, 0, 0, .null, []), (5, .iaload, 1, 0, 0, .null, []), (6, .ifCond .ne 30, 3, 36, 0, .null, []), (9, .aload_n 0, 1, 0, 0, .null, []), (10, .getfield 102, 3, 11, 43, .null, []), (13, .iload_n 1, 1, 0, 0, .null, []), (14, .iload_n 1, 1, 0, 0, .null, []), (15, .iconst 2, 1, 0, 0, .int 2, []), (16, .irem, 1, 0, 0, .null, []), (17, .ifCond .ne 7, 3, 24, 0, .null, []), (20, .lconst 0, 1, 0, 0, .long 0, []), (21, .goto 4, 3, 25, 0, .null, []), (24, .lconst 1, 1, 0, 0, .long 1, []), (25, .lastore, 1, 0, 0, .null, []), (26, .aload_n 0, 1, 0, 0, .null, []), (27, .getfield 106, 3, 11, 44, .null, []), (30, .iload_n 1, 1, 0, 0, .null, []), (31, .lconst 1, 1, 0, 0, .long 1, []), (32, .lastore, 1, 0, 0, .null, []), (33, .goto 35, 3, 68, 0, .null, []), (36, .iload_n 2, 1, 0, 0, .null, []), (37, .ifCond .ne 10, 3, 47, 0, .null, []), (40, .iload_n 1, 1, 0, 0, .null, []), (41, .iconst 2, 1, 0, 0, .int 2, []), (42, .irem, 1, 0, 0, .null, []), (43, .iconst 1, 1, 0, 0, .int 1, []), (44, .if_icmp .ne 24, 3, 68, 0, .null, []), (47, .aload_n 0, 1, 0, 0, .null, []), (48, .getfield 106, 3, 11, 44, .null, []), (51, .iload_n 1, 1, 0, 0, .null, []), (52, .dup2, 1, 0, 0, .null, []), (53, .laload, 1, 0, 0, .null, []), (54, .aload_n 0, 1, 0, 0, .null, []), (55, .getfield 109, 3, 11, 45, .null, []), (58, .iload_n 1, 1, 0, 0, .null, []), (59, .iaload, 1, 0, 0, .null, []), (60, .i2l, 1, 0, 0, .null, []), (61, .lmul, 1, 0, 0, .null, []), (62, .lastore, 1, 0, 0, .null, []), (63, .aload_n 0, 1, 0, 0, .null, []), (64, .iload_n 1, 1, 0, 0, .null, []), (65, .invokevirtual 303, 3, 235, 0, .null, []), (68, .return_, 1, 0, 0, .null, [])]
set_option maxRecDepth 100000 in
theorem ck240 : ∀ ce ∈ cd240, okB (yO 240) (yC 240) ce = true := List.all_eq_true.mp (by decide +kernel)
/-- ShapeDuelModel.chancesTold(Z)I -/
def cd241 : List CE := [(0, .aload_n 0, 1, 0, 0, .null, []), (1, .iload_n 1, 1, 0, 0, .null, []), (2, .invokevirtual 322, 3, 239, 0, .null, []), (5, .istore_n 2, 1, 0, 0, .null, []), (6, .aload_n 0, 1, 0, 0, .null, []), (7, .aload_n 0, 1, 0, 0, .null, []), (8, .getfield 102, 3, 11, 43, .null, []), (11, .iconst 0, 1, 0, 0, .int 0, []), (12, .laload, 1, 0, 0, .null, []), (13, .putfield 326, 3, 11, 13, .null, []), (16, .aload_n 0, 1, 0, 0, .null, []), (17, .aload_n 0, 1, 0, 0, .null, []), (18, .getfield 106, 3, 11, 44, .null, []), (21, .iconst 0, 1, 0, 0, .int 0, []), (22, .laload, 1, 0, 0, .null, []), (23, .putfield 35, 3, 11, 14, .null, []), (26, .iload_n 2, 1, 0, 0, .null, []), (27, .ireturn, 1, 0, 0, .null, [])]
set_option maxRecDepth 100000 in
theorem ck241 : ∀ ce ∈ cd241, okB (yO 241) (yC 241) ce = true := List.all_eq_true.mp (by decide +kernel)
/-- ShapeDuelModel.odds()I -/
def cd242 : List CE := [(0, .aload_n 0, 1, 0, 0, .null, []), (1, .getfield 204, 3, 11, 2, .null, []), (4, .ifCond .ne 6, 3, 10, 0, .null, []), (7, .bipush (-4), 2, 0, 0, .int (-4), []), (9, .ireturn, 1, 0, 0, .null, []), (10, .aload_n 0, 1, 0, 0, .null, []), (11, .iconst 1, 1, 0, 0, .int 1, []), (12, .invokevirtual 329, 3, 241, 0, .null, []), (15, .istore_n 1, 1, 0, 0, .null, []), (16, .iload_n 1, 1, 0, 0, .null, []), (17, .bipush (-9), 2, 0, 0, .int (-9), []), (19, .if_icmp .ne 7, 3, 26, 0, .null, []), (22, .iconst 1, 1, 0, 0, .int 1, []), (23, .goto 4, 3, 27, 0, .null, []), (26, .iconst 0, 1, 0, 0, .int 0, []), (27, .ireturn, 1, 0, 0, .null, [])]
set_option maxRecDepth 100000 in
theorem ck242 : ∀ ce ∈ cd242, okB (yO 242) (yC 242) ce = true := List.all_eq_true.mp (by decide +kernel)
/-- ShapeDuelModel.hopes()I -/
def cd243 : List CE := [(0, .aload_n 0, 1, 0, 0, .null, []), (1, .getfield 204, 3, 11, 2, .null, []), (4, .ifCond .eq 16, 3, 20, 0, .null, []), (7, .aload_n 0, 1, 0, 0, .null, []), (8, .iconst 1, 1, 0, 0, .int 1, []), (9, .aload_n 0, 1, 0, 0, .null, []), (10, .iconst 0, 1, 0, 0, .int 0, []), (11, .invokevirtual 329, 3, 241, 0, .null, []), (14, .invokevirtual 139, 3, 162, 0, .null, []), (17, .goto 5, 3, 22, 0, .null, []), (20, .bipush (-4), 2, 0, 0, .int (-4), []), (22, .ireturn, 1, 0, 0, .null, [])]
set_option maxRecDepth 100000 in
theorem ck243 : ∀ ce ∈ cd243, okB (yO 243) (yC 243) ce = true := List.all_eq_true.mp (by decide +kernel)
/-- ShapeDuelModel.lots(II)I -/
def cd244 : List CE := [(0, .iload_n 1, 1, 0, 0, .null, []), (1, .i2l, 1, 0, 0, .null, []), (2, .lconst 1, 1, 0, 0, .long 1, []), (3, .ldc2_w 332, 3, 0, 0, .long (20), []), (6, .invokestatic 121, 3, 158, 0, .null, []), (9, .ifCond .eq 15, 3, 24, 0, .null, []), (12, .iload_n 2, 1, 0, 0, .null, []), (13, .i2l, 1, 0, 0, .null, []), (14, .lconst 1, 1, 0, 0, .long 1, []), (15, .ldc2_w 334, 3, 0, 0, .long (2147483646), []), (18, .invokestatic 121, 3, 158, 0, .null, []), (21, .ifCond .ne 5, 3, 26, 0, .null, []), (24, .iconst (-1), 1, 0, 0, .int (-1), []), (25, .ireturn, 1, 0, 0, .null, []), (26, .aload_n 0, 1, 0, 0, .null, []), (27, .getfield 204, 3, 11, 2, .null, []), (30, .ifCond .ne 6, 3, 36, 0, .null, []), (33, .bipush (-4), 2, 0, 0, .int (-4), []), (35, .ireturn, 1, 0, 0, .null, []), (36, .aload_n 0, 1, 0, 0, .null, []), (37, .getfield 7, 3, 11, 0, .null, []), (40, .bipush 8, 2, 0, 0, .int 8, []), (42, .iaload, 1, 0, 0, .null, []), (43, .iload_n 1, 1, 0, 0, .null, []), (44, .iadd, 1, 0, 0, .null, []), (45, .bipush 40, 2, 0, 0, .int 40, []), (47, .if_icmp .le 6, 3, 53, 0, .null, []), (50, .bipush (-2), 2, 0, 0, .int (-2), []), (52, .ireturn, 1, 0, 0, .null, []), (53, .iload_n 2, 1, 0, 0, .null, []), (54, .i2l, 1, 0, 0, .null, []), (55, .lstore_n 3, 1, 0, 0, .null, []), (56, .iconst 0, 1, 0, 0, .int 0, []), (57, .istore 5, 2, 0, 0, .null, []), (59, .iload 5, 2, 0, 0, .null, []), (61, .iload_n 1, 1, 0, 0, .null, []), (62, .if_icmp .ge 103, 3, 165, 0, .null, []), (65, .aload_n 0, 1, 0, 0, .null, []), (66, .invokevirtual 264, 3, 203, 0, .null, []), (69, .aload_n 0, 1, 0, 0, .null, []), (70, .iconst 0, 1, 0, 0, .int 0, []), (71, .aload_n 0, 1, 0, 0, .null, []), (72, .getfield 245, 3, 11, 34, .null, []), (75, .invokevirtual 267, 3, 206, 0, .null, []), (78, .istore 6, 2, 0, 0, .null, []), (80, .iload 6, 2, 0, 0, .null, []), (82, .ifCond .ne 6, 3, 88, 0, .null, []), (85, .iload 5, 2, 0, 0, .null, []), (87, .ireturn, 1, 0, 0, .null, []), (88, .lload_n 3, 1, 0, 0, .null, []), (89, .ldc2_w 336, 3, 0, 0, .long (48271), []), (92, .lmul, 1, 0, 0, .null, []), (93, .ldc2_w 338, 3, 0, 0, .long (2147483647), []), (96, .lrem, 1, 0, 0, .null, []), (97, .lstore_n 3, 1, 0, 0, .null, []), (98, .lload_n 3, 1, 0, 0, .null, []), (99, .iload 6, 2, 0, 0, .null, []), (101, .invokestatic 236, 3, 160, 0, .null, []), (104, .i2l, 1, 0, 0, .null, []), (105, .lrem, 1, 0, 0, .null, []), (106, .l2i, 1, 0, 0, .null, []), (107, .istore 7, 2, 0, 0, .null, []), (109, .iconst 0, 1, 0, 0, .int 0, []), (110, .istore 8, 2, 0, 0, .null, []), (112, .iload 6, 2, 0, 0, .null, []), (114, .iload 8, 2, 0, 0, .null, []), (116, .invokestatic 208, 3, 159, 0, .null, []), (119, .ifCond .eq 8, 3, 127, 0, .null, []), (122, .iload 7, 2, 0, 0, .null, []), (124, .ifCond .le 29, 3, 153, 0, .null, []), (127, .iload 7, 2, 0, 0, .null, []), (129, .iload 6, 2, 0, 0, .null, []), (131, .iload 8, 2, 0, 0, .null, []), (133, .invokestatic 208, 3, 159, 0, .null, []), (136, .ifCond .eq 7, 3, 143, 0, .null, []), (139, .iconst 1, 1, 0, 0, .int 1, []), (140, .goto 4, 3, 144, 0, .null, []), (143, .iconst 0, 1, 0, 0, .int 0, []), (144, .isub, 1, 0, 0, .null, []), (145, .istore 7, 2, 0, 0, .null, []), (147, .iinc 8 1, 3, 0, 0, .int 1, []), (150, .goto (-38), 3, 112, 0, .null, []), (153, .aload_n 0, 1, 0, 0, .null, []), (154, .iload 8, 2, 0, 0, .null, []), (156, .invokevirtual 270, 3, 213, 0, .null, []), (159, .iinc 5 1, 3, 0, 0, .int 1, []), (162, .goto (-103), 3, 59, 0, .null, []), (165, .iload_n 1, 1, 0, 0, .null, []), (166, .ireturn, 1, 0, 0, .null, [])]
set_option maxRecDepth 100000 in
theorem ck244 : ∀ ce ∈ cd244, okB (yO 244) (yC 244) ce = true := List.all_eq_true.mp (by decide +kernel)
/-- ShapeDuelModel.rings()I -/
def cd245 : List CE := [(0, .iconst 0, 1, 0, 0, .int 0, []), (1, .istore_n 1, 1, 0, 0, .null, []), (2, .iconst 0, 1, 0, 0, .int 0, []), (3, .istore_n 2, 1, 0, 0, .null, []), (4, .iconst 0, 1, 0, 0, .int 0, []), (5, .istore_n 3, 1, 0, 0, .null, []), (6, .iload_n 3, 1, 0, 0, .null, []), (7, .bipush 125, 2, 0, 0, .int 125, []), (9, .if_icmp .ge 145, 3, 154, 0, .null, []), (12, .iload_n 3, 1, 0, 0, .null, []), (13, .bipush 25, 2, 0, 0, .int 25, []), (15, .idiv, 1, 0, 0, .null, []), (16, .istore 4, 2, 0, 0, .null, []), (18, .iload_n 3, 1, 0, 0, .null, []), (19, .iconst 5, 1, 0, 0, .int 5, []), (20, .idiv, 1, 0, 0, .null, []), (21, .iconst 5, 1, 0, 0, .int 5, []), (22, .irem, 1, 0, 0, .null, []), (23, .istore 5, 2, 0, 0, .null, []), (25, .iload_n 3, 1, 0, 0, .null, []), (26, .iconst 5, 1, 0, 0, .int 5, []), (27, .irem, 1, 0, 0, .null, []), (28, .istore 6, 2, 0, 0, .null, []), (30, .iload 4, 2, 0, 0, .null, []), (32, .iload 5, 2, 0, 0, .null, []), (34, .if_icmp .ge 72, 3, 106, 0, .null, []), (37, .iload 4, 2, 0, 0, .null, []), (39, .iload 6, 2, 0, 0, .null, []), (41, .if_icmp .ge 65, 3, 106, 0, .null, []), (44, .iload 5, 2, 0, 0, .null, []), (46, .aload_n 0, 1, 0, 0, .null, []), (47, .getfield 198, 3, 11, 3, .null, []), (50, .if_icmp .ge 56, 3, 106, 0, .null, []), (53, .iload 6, 2, 0, 0, .null, []), (55, .aload_n 0, 1, 0, 0, .null, []), (56, .getfield 198, 3, 11, 3, .null, []), (59, .if_icmp .ge 47, 3, 106, 0, .null, []), (62, .iload 5, 2, 0, 0, .null, []), (64, .iload 6, 2, 0, 0, .null, []), (66, .if_icmp .eq 40, 3, 106, 0, .null, []), (69, .aload_n 0, 1, 0, 0, .null, []), (70, .iload 4, 2, 0, 0, .null, []), (72, .iload 5, 2, 0, 0, .null, []), (74, .invokevirtual 212, 3, 189, 0, .null, []), (77, .ifCond .eq 29, 3, 106, 0, .null, []), (80, .aload_n 0, 1, 0, 0, .null, []), (81, .iload 5, 2, 0, 0, .null, []), (83, .iload 6, 2, 0, 0, .null, []), (85, .invokevirtual 212, 3, 189, 0, .null, []), (88, .ifCond .eq 18, 3, 106, 0, .null, []), (91, .aload_n 0, 1, 0, 0, .null, []), (92, .iload 6, 2, 0, 0, .null, []), (94, .iload 4, 2, 0, 0, .null, []), (96, .invokevirtual 212, 3, 189, 0, .null, []), (99, .ifCond .eq 7, 3, 106, 0, .null, []), (102, .iconst 1, 1, 0, 0, .int 1, []), (103, .goto 4, 3, 107, 0, .null, []), (106, .iconst 0, 1, 0, 0, .int 0, []), (107, .istore 7, 2, 0, 0, .null, []), (109, .iload_n 1, 1, 0, 0, .null, []), (110, .iload 7, 2, 0, 0, .null, []), (112, .ifCond .eq 7, 3, 119, 0, .null, []), (115, .iconst 1, 1, 0, 0, .int 1, []), (116, .goto 4, 3, 120, 0, .null, []), (119, .iconst 0, 1, 0, 0, .int 0, []), (120, .iadd, 1, 0, 0, .null, []), (121, .istore_n 1, 1, 0, 0, .null, []), (122, .iload_n 2, 1, 0, 0, .null, []), (123, .iload 7, 2, 0, 0, .null, []), (125, .ifCond .eq 20, 3, 145, 0, .null, []), (128, .iconst 1, 1, 0, 0, .int 1, []), (129, .iload 4, 2, 0, 0, .null, []), (131, .ishl, 1, 0, 0, .null, []), (132, .iconst 1, 1, 0, 0, .int 1, []), (133, .iload 5, 2, 0, 0, .null, []), (135, .ishl, 1, 0, 0, .null, []), (136, .ior, 1, 0, 0, .null, []), (137, .iconst 1, 1, 0, 0, .int 1, []), (138, .iload 6, 2, 0, 0, .null, []), (140, .ishl, 1, 0, 0, .null, []), (141, .ior, 1, 0, 0, .null, []), (142, .goto 4, 3, 146, 0, .null, []), (145, .iconst 0, 1, 0, 0, .int 0, []), (146, .ior, 1, 0, 0, .null, []), (147, .istore_n 2, 1, 0, 0, .null, []), (148, .iinc 3 1, 3, 0, 0, .int 1, []), (151, .goto (-145), 3, 6, 0, .null, []), (154, .aload_n 0, 1, 0, 0, .null, []), (155, .iload_n 1, 1, 0, 0, .null, []), (156, .iconst 1, 1, 0, 0, .int 1, []), (157, .aload_n 0, 1, 0, 0, .null, []), (158, .getfield 198, 3, 11, 3, .null, []), (161, .ishl, 1, 0, 0, .null, []), (162, .iconst 1, 1, 0, 0, .int 1, []), (163, .isub, 1, 0, 0, .null, []), (164, .iload_n 2, 1, 0, 0, .null, []), (165, .iconst (-1), 1, 0, 0, .int (-1), []), (166, .ixor, 1, 0, 0, .null, []), (167, .iand, 1, 0, 0, .null, []), (168, .invokevirtual 139, 3, 162, 0, .null, []), (171, .ireturn, 1, 0, 0, .null, [])]
set_option maxRecDepth 100000 in
theorem ck245 : ∀ ce ∈ cd245, okB (yO 245) (yC 245) ce = true := List.all_eq_true.mp (by decide +kernel)
/-- ShapeDuelModel.cover()I -/
def cd246 : List CE := [(0, .iconst 0, 1, 0, 0, .int 0, []), (1, .istore_n 1, 1, 0, 0, .null, []), (2, .iconst 0, 1, 0, 0, .int 0, []), (3, .istore_n 2, 1, 0, 0, .null, []), (4, .iload_n 2, 1, 0, 0, .null, []), (5, .aload_n 0, 1, 0, 0, .null, []), (6, .getfield 198, 3, 11, 3, .null, []), (9, .if_icmp .ge 17, 3, 26, 0, .null, []), (12, .iload_n 1, 1, 0, 0, .null, []), (13, .aload_n 0, 1, 0, 0, .null, []), (14, .iload_n 2, 1, 0, 0, .null, []), (15, .invokevirtual 215, 3, 190, 0, .null, []), (18, .ior, 1, 0, 0, .null, []), (19, .istore_n 1, 1, 0, 0, .null, []), (20, .iinc 2 1, 3, 0, 0, .int 1, []), (23, .goto (-19), 3, 4, 0, .null, []), (26, .iconst 1, 1, 0, 0, .int 1, []), (27, .aload_n 0, 1, 0, 0, .null, []), (28, .getfield 198, 3, 11, 3, .null, []), (31, .ishl, 1, 0, 0, .null, []), (32, .iconst 1, 1, 0, 0, .int 1, []), (33, .isub, 1, 0, 0, .null, []), (34, .istore_n 2, 1, 0, 0, .null, []), (35, .iload_n 2, 1, 0, 0, .null, []), (36, .istore_n 3, 1, 0, 0, .null, []), (37, .iload_n 3, 1, 0, 0, .null, []), (38, .ifCond .lt 77, 3, 115, 0, .null, []), (41, .iconst 0, 1, 0, 0, .int 0, []), (42, .istore 4, 2, 0, 0, .null, []), (44, .iconst 0, 1, 0, 0, .int 0, []), (45, .istore 5, 2, 0, 0, .null, []), (47, .iload 5, 2, 0, 0, .null, []), (49, .aload_n 0, 1, 0, 0, .null, []), (50, .getfield 198, 3, 11, 3, .null, []), (53, .if_icmp .ge 33, 3, 86, 0, .null, []), (56, .iload 4, 2, 0, 0, .null, []), (58, .iload_n 3, 1, 0, 0, .null, []), (59, .iload 5, 2, 0, 0, .null, []), (61, .invokestatic 208, 3, 159, 0, .null, []), (64, .ifCond .eq 12, 3, 76, 0, .null, []), (67, .aload_n 0, 1, 0, 0, .null, []), (68, .iload 5, 2, 0, 0, .null, []), (70, .invokevirtual 215, 3, 190, 0, .null, []), (73, .goto 4, 3, 77, 0, .null, []), (76, .iconst 0, 1, 0, 0, .int 0, []), (77, .ior, 1, 0, 0, .null, []), (78, .istore 4, 2, 0, 0, .null, []), (80, .iinc 5 1, 3, 0, 0, .int 1, []), (83, .goto (-36), 3, 47, 0, .null, []), (86, .iload 4, 2, 0, 0, .null, []), (88, .iload_n 1, 1, 0, 0, .null, []), (89, .if_icmp .ne 18, 3, 107, 0, .null, []), (92, .iload_n 3, 1, 0, 0, .null, []), (93, .invokestatic 236, 3, 160, 0, .null, []), (96, .iload_n 2, 1, 0, 0, .null, []), (97, .invokestatic 236, 3, 160, 0, .null, []), (100, .if_icmp .gt 7, 3, 107, 0, .null, []), (103, .iload_n 3, 1, 0, 0, .null, []), (104, .goto 4, 3, 108, 0, .null, []), (107, .iload_n 2, 1, 0, 0, .null, []), (108, .istore_n 2, 1, 0, 0, .null, []), (109, .iinc 3 (-1), 3, 0, 0, .int (-1), []), (112, .goto (-75), 3, 37, 0, .null, []), (115, .aload_n 0, 1, 0, 0, .null, []), (116, .iload_n 2, 1, 0, 0, .null, []), (117, .invokestatic 236, 3, 160, 0, .null, []), (120, .iload_n 2, 1, 0, 0, .null, []), (121, .invokevirtual 139, 3, 162, 0, .null, []), (124, .ireturn, 1, 0, 0, .null, [])]
set_option maxRecDepth 100000 in
theorem ck246 : ∀ ce ∈ cd246, okB (yO 246) (yC 246) ce = true := List.all_eq_true.mp (by decide +kernel)
/-- ShapeDuelModel.alike()I -/
def cd247_0 : List CE := [(0, .iconst 1, 1, 0, 0, .int 1, []), (1, .istore_n 1, 1, 0, 0, .null, []), (2, .iconst 0, 1, 0, 0, .int 0, []), (3, .istore_n 2, 1, 0, 0, .null, []), (4, .iload_n 2, 1, 0, 0, .null, []), (5, .aload_n 0, 1, 0, 0, .null, []), (6, .getfield 198, 3, 11, 3, .null, []), (9, .if_icmp .ge 16, 3, 25, 0, .null, []), (12, .iload_n 1, 1, 0, 0, .null, []), (13, .aload_n 0, 1, 0, 0, .null, []), (14, .getfield 198, 3, 11, 3, .null, []), (17, .imul, 1, 0, 0, .null, []), (18, .istore_n 1, 1, 0, 0, .null, []), (19, .iinc 2 1, 3, 0, 0, .int 1, []), (22, .goto (-18), 3, 4, 0, .null, []), (25, .iconst 0, 1, 0, 0, .int 0, []), (26, .istore_n 2, 1, 0, 0, .null, []), (27, .iconst 0, 1, 0, 0, .int 0, []), (28, .istore_n 3, 1, 0, 0, .null, []), (29, .iconst 0, 1, 0, 0, .int 0, []), (30, .istore 4, 2, 0, 0, .null, []), (32, .iload 4, 2, 0, 0, .null, []), (34, .iload_n 1, 1, 0, 0, .null, []), (35, .if_icmp .ge 239, 3, 274, 0, .null, []), (38, .iconst 0, 1, 0, 0, .int 0, []), (39, .istore 5, 2, 0, 0, .null, []), (41, .iload 4, 2, 0, 0, .null, []), (43, .istore 6, 2, 0, 0, .null, []), (45, .iconst 0, 1, 0, 0, .int 0, []), (46, .istore 7, 2, 0, 0, .null, []), (48, .iload 7, 2, 0, 0, .null, []), (50, .aload_n 0, 1, 0, 0, .null, []), (51, .getfield 198, 3, 11, 3, .null, []), (54, .if_icmp .ge 46, 3, 100, 0, .null, []), (57, .aload_n 0, 1, 0, 0, .null, []), (58, .getfield 51, 3, 11, 19, .null, []), (61, .iload 7, 2, 0, 0, .null, []), (63, .iload 6, 2, 0, 0, .null, []), (65, .aload_n 0, 1, 0, 0, .null, []), (66, .getfield 198, 3, 11, 3, .null, []), (69, .irem, 1, 0, 0, .null, []), (70, .iastore, 1, 0, 0, .null, []), (71, .iload 5, 2, 0, 0, .null, []), (73, .iconst 1, 1, 0, 0, .int 1, []), (74, .aload_n 0, 1, 0, 0, .null, []), (75, .getfield 51, 3, 11, 19, .null, []), (78, .iload 7, 2, 0, 0, .null, []), (80, .iaload, 1, 0, 0, .null, []), (81, .ishl, 1, 0, 0, .null, []), (82, .ior, 1, 0, 0, .null, []), (83, .istore 5, 2, 0, 0, .null, []), (85, .iload 6, 2, 0, 0, .null, []), (87, .aload_n 0, 1, 0, 0, .null, []), (88, .getfield 198, 3, 11, 3, .null, []), (91, .idiv, 1, 0, 0, .null, []), (92, .istore 6, 2, 0, 0, .null, []), (94, .iinc 7 1, 3, 0, 0, .int 1, []), (97, .goto (-49), 3, 48, 0, .null, []), (100, .iload 5, 2, 0, 0, .null, []), (102, .iconst 1, 1, 0, 0, .int 1, []), (103, .aload_n 0, 1, 0, 0, .null, []), (104, .getfield 198, 3, 11, 3, .null, []), (107, .ishl, 1, 0, 0, .null, []), (108, .iconst 1, 1, 0, 0, .int 1, []), (109, .isub, 1, 0, 0, .null, []), (110, .if_icmp .ne 7, 3, 117, 0, .null, []), (113, .iconst 1, 1, 0, 0, .int 1, []), (114, .goto 4, 3, 118, 0, .null, []), (117, .iconst 0, 1, 0, 0, .int 0, []), (118, .istore 7, 2, 0, 0, .null, []), (120, .iconst 0, 1, 0, 0, .int 0, []), (121, .istore 8, 2, 0, 0, .null, []), (123, .iload 8, 2, 0, 0, .null, []), (125, .aload_n 0, 1, 0, 0, .null, []), (126, .getfield 198, 3, 11, 3, .null, []), (129, .aload_n 0, 1, 0, 0, .null, []), (130, .getfield 198, 3, 11, 3, .null, []), (133, .imul, 1, 0, 0, .null, []), (134, .if_icmp .ge 70, 3, 204, 0, .null, []), (137, .iload 7, 2, 0, 0, .null, []), (139, .ifCond .eq 65, 3, 204, 0, .null, []), (142, .aload_n 0, 1, 0, 0, .null, []), (143, .iload 8, 2, 0, 0, .null, []), (145, .aload_n 0, 1, 0, 0, .null, []), (146, .getfield 198, 3, 11, 3, .null, []), (149, .idiv, 1, 0, 0, .null, []), (150, .iload 8, 2, 0, 0, .null, []), (152, .aload_n 0, 1, 0, 0, .null, []), (153, .getfield 198, 3, 11, 3, .null, []), (156, .irem, 1, 0, 0, .null, []), (157, .invokevirtual 212, 3, 189, 0, .null, []), (160, .aload_n 0, 1, 0, 0, .null, []), (161, .aload_n 0, 1, 0, 0, .null, []), (162, .getfield 51, 3, 11, 19, .null, []), (165, .iload 8, 2, 0, 0, .null, []), (167, .aload_n 0, 1, 0, 0, .null, []), (168, .getfield 198, 3, 11, 3, .null, []), (171, .idiv, 1, 0, 0, .null, []), (172, .iaload, 1, 0, 0, .null, []), (173, .aload_n 0, 1, 0, 0, .null, [])]
set_option maxRecDepth 100000 in
theorem ck247_0 : ∀ ce ∈ cd247_0, okB (yO 247) (yC 247) ce = true := List.all_eq_true.mp (by decide +kernel)
def cd247_1 : List CE := [(174, .getfield 51, 3, 11, 19, .null, []), (177, .iload 8, 2, 0, 0, .null, []), (179, .aload_n 0, 1, 0, 0, .null, []), (180, .getfield 198, 3, 11, 3, .null, []), (183, .irem, 1, 0, 0, .null, []), (184, .iaload, 1, 0, 0, .null, []), (185, .invokevirtual 212, 3, 189, 0, .null, []), (188, .if_icmp .ne 7, 3, 195, 0, .null, []), (191, .iconst 1, 1, 0, 0, .int 1, []), (192, .goto 4, 3, 196, 0, .null, []), (195, .iconst 0, 1, 0, 0, .int 0, []), (196, .istore 7, 2, 0, 0, .null, []), (198, .iinc 8 1, 3, 0, 0, .int 1, []), (201, .goto (-78), 3, 123, 0, .null, []), (204, .iconst 0, 1, 0, 0, .int 0, []), (205, .istore 8, 2, 0, 0, .null, []), (207, .iload 8, 2, 0, 0, .null, []), (209, .aload_n 0, 1, 0, 0, .null, []), (210, .getfield 198, 3, 11, 3, .null, []), (213, .if_icmp .ge 42, 3, 255, 0, .null, []), (216, .iload 7, 2, 0, 0, .null, []), (218, .ifCond .eq 37, 3, 255, 0, .null, []), (221, .iload_n 3, 1, 0, 0, .null, []), (222, .aload_n 0, 1, 0, 0, .null, []), (223, .getfield 51, 3, 11, 19, .null, []), (226, .iload 8, 2, 0, 0, .null, []), (228, .iaload, 1, 0, 0, .null, []), (229, .iload 8, 2, 0, 0, .null, []), (231, .if_icmp .eq 15, 3, 246, 0, .null, []), (234, .iconst 1, 1, 0, 0, .int 1, []), (235, .aload_n 0, 1, 0, 0, .null, []), (236, .getfield 51, 3, 11, 19, .null, []), (239, .iload 8, 2, 0, 0, .null, []), (241, .iaload, 1, 0, 0, .null, []), (242, .ishl, 1, 0, 0, .null, []), (243, .goto 4, 3, 247, 0, .null, []), (246, .iconst 0, 1, 0, 0, .int 0, []), (247, .ior, 1, 0, 0, .null, []), (248, .istore_n 3, 1, 0, 0, .null, []), (249, .iinc 8 1, 3, 0, 0, .int 1, []), (252, .goto (-45), 3, 207, 0, .null, []), (255, .iload_n 2, 1, 0, 0, .null, []), (256, .iload 7, 2, 0, 0, .null, []), (258, .ifCond .eq 7, 3, 265, 0, .null, []), (261, .iconst 1, 1, 0, 0, .int 1, []), (262, .goto 4, 3, 266, 0, .null, []), (265, .iconst 0, 1, 0, 0, .int 0, []), (266, .iadd, 1, 0, 0, .null, []), (267, .istore_n 2, 1, 0, 0, .null, []), (268, .iinc 4 1, 3, 0, 0, .int 1, []), (271, .goto (-239), 3, 32, 0, .null, []), (274, .aload_n 0, 1, 0, 0, .null, []), (275, .iload_n 2, 1, 0, 0, .null, []), (276, .iload_n 3, 1, 0, 0, .null, []), (277, .invokevirtual 139, 3, 162, 0, .null, []), (280, .ireturn, 1, 0, 0, .null, [])]
set_option maxRecDepth 100000 in
theorem ck247_1 : ∀ ce ∈ cd247_1, okB (yO 247) (yC 247) ce = true := List.all_eq_true.mp (by decide +kernel)
def cd247 : List CE := cd247_0 ++ (cd247_1)
theorem ck247 : ∀ ce ∈ cd247, okB (yO 247) (yC 247) ce = true := List.forall_mem_append.mpr ⟨ck247_0, ck247_1⟩
/-- ShapeDuelModel.best()I -/
def cd248 : List CE := [(0, .aload_n 0, 1, 0, 0, .null, []), (1, .getfield 198, 3, 11, 3, .null, []), (4, .ifCond .ne 6, 3, 10, 0, .null, []), (7, .bipush (-9), 2, 0, 0, .int (-9), []), (9, .ireturn, 1, 0, 0, .null, []), (10, .iconst 0, 1, 0, 0, .int 0, []), (11, .istore_n 1, 1, 0, 0, .null, []), (12, .bipush (-99), 2, 0, 0, .int (-99), []), (14, .istore_n 2, 1, 0, 0, .null, []), (15, .iconst 0, 1, 0, 0, .int 0, []), (16, .istore_n 3, 1, 0, 0, .null, []), (17, .iload_n 3, 1, 0, 0, .null, []), (18, .aload_n 0, 1, 0, 0, .null, []), (19, .getfield 198, 3, 11, 3, .null, []), (22, .if_icmp .ge 53, 3, 75, 0, .null, []), (25, .aload_n 0, 1, 0, 0, .null, []), (26, .iload_n 3, 1, 0, 0, .null, []), (27, .invokevirtual 215, 3, 190, 0, .null, []), (30, .invokestatic 236, 3, 160, 0, .null, []), (33, .aload_n 0, 1, 0, 0, .null, []), (34, .iload_n 3, 1, 0, 0, .null, []), (35, .invokevirtual 218, 3, 191, 0, .null, []), (38, .invokestatic 236, 3, 160, 0, .null, []), (41, .isub, 1, 0, 0, .null, []), (42, .istore 4, 2, 0, 0, .null, []), (44, .iload 4, 2, 0, 0, .null, []), (46, .iload_n 2, 1, 0, 0, .null, []), (47, .if_icmp .le 7, 3, 54, 0, .null, []), (50, .iload_n 3, 1, 0, 0, .null, []), (51, .goto 4, 3, 55, 0, .null, []), (54, .iload_n 1, 1, 0, 0, .null, []), (55, .istore_n 1, 1, 0, 0, .null, []), (56, .iload 4, 2, 0, 0, .null, []), (58, .iload_n 2, 1, 0, 0, .null, []), (59, .if_icmp .le 8, 3, 67, 0, .null, []), (62, .iload 4, 2, 0, 0, .null, []), (64, .goto 4, 3, 68, 0, .null, []), (67, .iload_n 2, 1, 0, 0, .null, []), (68, .istore_n 2, 1, 0, 0, .null, []), (69, .iinc 3 1, 3, 0, 0, .int 1, []), (72, .goto (-55), 3, 17, 0, .null, []), (75, .aload_n 0, 1, 0, 0, .null, []), (76, .iload_n 1, 1, 0, 0, .null, []), (77, .iload_n 2, 1, 0, 0, .null, []), (78, .invokevirtual 139, 3, 162, 0, .null, []), (81, .ireturn, 1, 0, 0, .null, [])]
set_option maxRecDepth 100000 in
theorem ck248 : ∀ ce ∈ cd248, okB (yO 248) (yC 248) ce = true := List.all_eq_true.mp (by decide +kernel)
/-- ShapeDuelModel.asked()I -/
def cd249 : List CE := [(0, .aload_n 0, 1, 0, 0, .null, []), (1, .getfield 116, 3, 11, 12, .null, []), (4, .ireturn, 1, 0, 0, .null, [])]
set_option maxRecDepth 100000 in
theorem ck249 : ∀ ce ∈ cd249, okB (yO 249) (yC 249) ce = true := List.all_eq_true.mp (by decide +kernel)
/-- ShapeDuelModel.upper()J -/
def cd250 : List CE := [(0, .aload_n 0, 1, 0, 0, .null, []), (1, .getfield 326, 3, 11, 13, .null, []), (4, .lreturn, 1, 0, 0, .null, [])]
set_option maxRecDepth 100000 in
theorem ck250 : ∀ ce ∈ cd250, okB (yO 250) (yC 250) ce = true := List.all_eq_true.mp (by decide +kernel)
/-- ShapeDuelModel.lower()J -/
def cd251 : List CE := [(0, .aload_n 0, 1, 0, 0, .null, []), (1, .getfield 35, 3, 11, 14, .null, []), (4, .lreturn, 1, 0, 0, .null, [])]
set_option maxRecDepth 100000 in
theorem ck251 : ∀ ce ∈ cd251, okB (yO 251) (yC 251) ce = true := List.all_eq_true.mp (by decide +kernel)
/-- ShapeDuelModel.kindsMany(II)I -/
def cd252 : List CE := [(0, .iconst 0, 1, 0, 0, .int 0, []), (1, .istore_n 3, 1, 0, 0, .null, []), (2, .iconst 0, 1, 0, 0, .int 0, []), (3, .istore 4, 2, 0, 0, .null, []), (5, .iload 4, 2, 0, 0, .null, []), (7, .aload_n 0, 1, 0, 0, .null, []), (8, .getfield 198, 3, 11, 3, .null, []), (11, .if_icmp .ge 39, 3, 50, 0, .null, []), (14, .iload_n 3, 1, 0, 0, .null, []), (15, .aload_n 0, 1, 0, 0, .null, []), (16, .getfield 17, 3, 11, 4, .null, []), (19, .iload 4, 2, 0, 0, .null, []), (21, .iaload, 1, 0, 0, .null, []), (22, .iload_n 1, 1, 0, 0, .null, []), (23, .if_icmp .eq 14, 3, 37, 0, .null, []), (26, .aload_n 0, 1, 0, 0, .null, []), (27, .getfield 17, 3, 11, 4, .null, []), (30, .iload 4, 2, 0, 0, .null, []), (32, .iaload, 1, 0, 0, .null, []), (33, .iload_n 2, 1, 0, 0, .null, []), (34, .if_icmp .ne 7, 3, 41, 0, .null, []), (37, .iconst 1, 1, 0, 0, .int 1, []), (38, .goto 4, 3, 42, 0, .null, []), (41, .iconst 0, 1, 0, 0, .int 0, []), (42, .iadd, 1, 0, 0, .null, []), (43, .istore_n 3, 1, 0, 0, .null, []), (44, .iinc 4 1, 3, 0, 0, .int 1, []), (47, .goto (-42), 3, 5, 0, .null, []), (50, .iload_n 3, 1, 0, 0, .null, []), (51, .ireturn, 1, 0, 0, .null, [])]
set_option maxRecDepth 100000 in
theorem ck252 : ∀ ce ∈ cd252, okB (yO 252) (yC 252) ce = true := List.all_eq_true.mp (by decide +kernel)
/-- ShapeDuelModel.thereMany(I)I -/
def cd253 : List CE := [(0, .iconst 0, 1, 0, 0, .int 0, []), (1, .istore_n 2, 1, 0, 0, .null, []), (2, .iconst 0, 1, 0, 0, .int 0, []), (3, .istore_n 3, 1, 0, 0, .null, []), (4, .iload_n 3, 1, 0, 0, .null, []), (5, .bipush 6, 2, 0, 0, .int 6, []), (7, .if_icmp .ge 90, 3, 97, 0, .null, []), (10, .iload_n 2, 1, 0, 0, .null, []), (11, .iload_n 1, 1, 0, 0, .null, []), (12, .bipush 6, 2, 0, 0, .int 6, []), (14, .if_icmp .ne 12, 3, 26, 0, .null, []), (17, .aload_n 0, 1, 0, 0, .null, []), (18, .getfield 39, 3, 11, 15, .null, []), (21, .iload_n 3, 1, 0, 0, .null, []), (22, .iaload, 1, 0, 0, .null, []), (23, .ifCond .ge 61, 3, 84, 0, .null, []), (26, .iload_n 1, 1, 0, 0, .null, []), (27, .bipush 7, 2, 0, 0, .int 7, []), (29, .if_icmp .ne 26, 3, 55, 0, .null, []), (32, .iload_n 3, 1, 0, 0, .null, []), (33, .iconst 4, 1, 0, 0, .int 4, []), (34, .if_icmp .ge 21, 3, 55, 0, .null, []), (37, .aload_n 0, 1, 0, 0, .null, []), (38, .getfield 45, 3, 11, 17, .null, []), (41, .iload_n 3, 1, 0, 0, .null, []), (42, .iconst 4, 1, 0, 0, .int 4, []), (43, .if_icmp .ge 7, 3, 50, 0, .null, []), (46, .iload_n 3, 1, 0, 0, .null, []), (47, .goto 4, 3, 51, 0, .null, []), (50, .iconst 0, 1, 0, 0, .int 0, []), (51, .iaload, 1, 0, 0, .null, []), (52, .ifCond .ge 32, 3, 84, 0, .null, []), (55, .iload_n 1, 1, 0, 0, .null, []), (56, .bipush 8, 2, 0, 0, .int 8, []), (58, .if_icmp .ne 30, 3, 88, 0, .null, []), (61, .iload_n 3, 1, 0, 0, .null, []), (62, .iconst 3, 1, 0, 0, .int 3, []), (63, .if_icmp .ge 25, 3, 88, 0, .null, []), (66, .aload_n 0, 1, 0, 0, .null, []), (67, .getfield 13, 3, 11, 1, .null, []), (70, .iload_n 3, 1, 0, 0, .null, []), (71, .iconst 3, 1, 0, 0, .int 3, []), (72, .if_icmp .ge 7, 3, 79, 0, .null, []), (75, .iload_n 3, 1, 0, 0, .null, []), (76, .goto 4, 3, 80, 0, .null, []), (79, .iconst 0, 1, 0, 0, .int 0, []), (80, .baload, 1, 0, 0, .null, []), (81, .ifCond .eq 7, 3, 88, 0, .null, []), (84, .iconst 1, 1, 0, 0, .int 1, []), (85, .goto 4, 3, 89, 0, .null, []), (88, .iconst 0, 1, 0, 0, .int 0, []), (89, .iadd, 1, 0, 0, .null, []), (90, .istore_n 2, 1, 0, 0, .null, []), (91, .iinc 3 1, 3, 0, 0, .int 1, []), (94, .goto (-90), 3, 4, 0, .null, []), (97, .iload_n 2, 1, 0, 0, .null, []), (98, .ireturn, 1, 0, 0, .null, [])]
set_option maxRecDepth 100000 in
theorem ck253 : ∀ ce ∈ cd253, okB (yO 253) (yC 253) ce = true := List.all_eq_true.mp (by decide +kernel)
/-- ShapeDuelModel.countOf(I)I -/
def cd254 : List CE := [(0, .iload_n 1, 1, 0, 0, .null, []), (1, .tableswitch 85 0 5 #[39, 44, 49, 57, 64, 71], 39, 86, 0, .null, [(0, 40), (1, 45), (2, 50), (3, 58), (4, 65), (5, 72)]), (40, .aload_n 0, 1, 0, 0, .null, []), (41, .getfield 198, 3, 11, 3, .null, []), (44, .ireturn, 1, 0, 0, .null, []), (45, .aload_n 0, 1, 0, 0, .null, []), (46, .getfield 201, 3, 11, 6, .null, []), (49, .ireturn, 1, 0, 0, .null, []), (50, .aload_n 0, 1, 0, 0, .null, []), (51, .getfield 7, 3, 11, 0, .null, []), (54, .bipush 8, 2, 0, 0, .int 8, []), (56, .iaload, 1, 0, 0, .null, []), (57, .ireturn, 1, 0, 0, .null, []), (58, .aload_n 0, 1, 0, 0, .null, []), (59, .iconst 1, 1, 0, 0, .int 1, []), (60, .iconst 5, 1, 0, 0, .int 5, []), (61, .invokevirtual 340, 3, 252, 0, .null, []), (64, .ireturn, 1, 0, 0, .null, []), (65, .aload_n 0, 1, 0, 0, .null, []), (66, .iconst 2, 1, 0, 0, .int 2, []), (67, .iconst 4, 1, 0, 0, .int 4, []), (68, .invokevirtual 340, 3, 252, 0, .null, []), (71, .ireturn, 1, 0, 0, .null, []), (72, .aload_n 0, 1, 0, 0, .null, []), (73, .getfield 7, 3, 11, 0, .null, []), (76, .iconst 2, 1, 0, 0, .int 2, []), (77, .iaload, 1, 0, 0, .null, []), (78, .aload_n 0, 1, 0, 0, .null, []), (79, .getfield 7, 3, 11, 0, .null, []), (82, .iconst 3, 1, 0, 0, .int 3, []), (83, .iaload, 1, 0, 0, .null, []), (84, .iadd, 1, 0, 0, .null, []), (85, .ireturn, 1, 0, 0, .null, []), (86, .aload_n 0, 1, 0, 0, .null, []), (87, .iload_n 1, 1, 0, 0, .null, []), (88, .invokevirtual 343, 3, 253, 0, .null, []), (91, .ireturn, 1, 0, 0, .null, [])]
set_option maxRecDepth 100000 in
theorem ck254 : ∀ ce ∈ cd254, okB (yO 254) (yC 254) ce = true := List.all_eq_true.mp (by decide +kernel)
/-- ShapeDuelModel.count(I)I -/
def cd255 : List CE := [(0, .iload_n 1, 1, 0, 0, .null, []), (1, .i2l, 1, 0, 0, .null, []), (2, .lconst 0, 1, 0, 0, .long 0, []), (3, .ldc2_w 346, 3, 0, 0, .long (8), []), (6, .invokestatic 121, 3, 158, 0, .null, []), (9, .ifCond .eq 11, 3, 20, 0, .null, []), (12, .aload_n 0, 1, 0, 0, .null, []), (13, .iload_n 1, 1, 0, 0, .null, []), (14, .invokevirtual 348, 3, 254, 0, .null, []), (17, .goto 4, 3, 21, 0, .null, []), (20, .iconst (-1), 1, 0, 0, .int (-1), []), (21, .ireturn, 1, 0, 0, .null, [])]
set_option maxRecDepth 100000 in
theorem ck255 : ∀ ce ∈ cd255, okB (yO 255) (yC 255) ce = true := List.all_eq_true.mp (by decide +kernel)
/-- ShapeDuelModel.finding()I -/
def cd256 : List CE := [(0, .aload_n 0, 1, 0, 0, .null, []), (1, .getfield 112, 3, 11, 10, .null, []), (4, .ireturn, 1, 0, 0, .null, [])]
set_option maxRecDepth 100000 in
theorem ck256 : ∀ ce ∈ cd256, okB (yO 256) (yC 256) ce = true := List.all_eq_true.mp (by decide +kernel)
/-- ShapeDuelModel.findings(I)I -/
def cd257 : List CE := [(0, .iload_n 1, 1, 0, 0, .null, []), (1, .i2l, 1, 0, 0, .null, []), (2, .lconst 1, 1, 0, 0, .long 1, []), (3, .ldc2_w 119, 3, 0, 0, .long (5), []), (6, .invokestatic 121, 3, 158, 0, .null, []), (9, .ifCond .eq 12, 3, 21, 0, .null, []), (12, .aload_n 0, 1, 0, 0, .null, []), (13, .getfield 32, 3, 11, 11, .null, []), (16, .iload_n 1, 1, 0, 0, .null, []), (17, .iaload, 1, 0, 0, .null, []), (18, .goto 4, 3, 22, 0, .null, []), (21, .iconst (-1), 1, 0, 0, .int (-1), []), (22, .ireturn, 1, 0, 0, .null, [])]
set_option maxRecDepth 100000 in
theorem ck257 : ∀ ce ∈ cd257, okB (yO 257) (yC 257) ce = true := List.all_eq_true.mp (by decide +kernel)
/-- ShapeDuelModel.mix(J)V -/
def cd258 : List CE := [(0, .aload_n 0, 1, 0, 0, .null, []), (1, .ldc2_w 351, 3, 0, 0, .long (31), []), (4, .aload_n 0, 1, 0, 0, .null, []), (5, .getfield 353, 3, 11, 46, .null, []), (8, .lmul, 1, 0, 0, .null, []), (9, .lload_n 1, 1, 0, 0, .null, []), (10, .ladd, 1, 0, 0, .null, []), (11, .putfield 353, 3, 11, 46, .null, []), (14, .return_, 1, 0, 0, .null, [])]
set_option maxRecDepth 100000 in
theorem ck258 : ∀ ce ∈ cd258, okB (yO 258) (yC 258) ce = true := List.all_eq_true.mp (by decide +kernel)
/-- ShapeDuelModel.digest()J -/
def cd259_0 : List CE := [(0, .aload_n 0, 1, 0, 0, .null, []), (1, .ldc2_w 356, 3, 0, 0, .long (17), []), (4, .putfield 353, 3, 11, 46, .null, []), (7, .iconst 0, 1, 0, 0, .int 0, []), (8, .istore_n 1, 1, 0, 0, .null, []), (9, .iload_n 1, 1, 0, 0, .null, []), (10, .bipush 9, 2, 0, 0, .int 9, []), (12, .if_icmp .ge 19, 3, 31, 0, .null, []), (15, .aload_n 0, 1, 0, 0, .null, []), (16, .aload_n 0, 1, 0, 0, .null, []), (17, .iload_n 1, 1, 0, 0, .null, []), (18, .invokevirtual 348, 3, 254, 0, .null, []), (21, .i2l, 1, 0, 0, .null, []), (22, .invokevirtual 358, 3, 258, 0, .null, []), (25, .iinc 1 1, 3, 0, 0, .int 1, []), (28, .goto (-19), 3, 9, 0, .null, []), (31, .iconst 0, 1, 0, 0, .int 0, []), (32, .istore_n 1, 1, 0, 0, .null, []), (33, .iload_n 1, 1, 0, 0, .null, []), (34, .iconst 4, 1, 0, 0, .int 4, []), (35, .aload_n 0, 1, 0, 0, .null, []), (36, .getfield 198, 3, 11, 3, .null, []), (39, .imul, 1, 0, 0, .null, []), (40, .if_icmp .ge 24, 3, 64, 0, .null, []), (43, .aload_n 0, 1, 0, 0, .null, []), (44, .aload_n 0, 1, 0, 0, .null, []), (45, .iload_n 1, 1, 0, 0, .null, []), (46, .iconst 4, 1, 0, 0, .int 4, []), (47, .idiv, 1, 0, 0, .null, []), (48, .iload_n 1, 1, 0, 0, .null, []), (49, .iconst 4, 1, 0, 0, .int 4, []), (50, .irem, 1, 0, 0, .null, []), (51, .invokevirtual 227, 3, 193, 0, .null, []), (54, .i2l, 1, 0, 0, .null, []), (55, .invokevirtual 358, 3, 258, 0, .null, []), (58, .iinc 1 1, 3, 0, 0, .int 1, []), (61, .goto (-28), 3, 33, 0, .null, []), (64, .iconst 0, 1, 0, 0, .int 0, []), (65, .istore_n 1, 1, 0, 0, .null, []), (66, .iload_n 1, 1, 0, 0, .null, []), (67, .iconst 4, 1, 0, 0, .int 4, []), (68, .aload_n 0, 1, 0, 0, .null, []), (69, .getfield 201, 3, 11, 6, .null, []), (72, .imul, 1, 0, 0, .null, []), (73, .if_icmp .ge 24, 3, 97, 0, .null, []), (76, .aload_n 0, 1, 0, 0, .null, []), (77, .aload_n 0, 1, 0, 0, .null, []), (78, .iload_n 1, 1, 0, 0, .null, []), (79, .iconst 4, 1, 0, 0, .int 4, []), (80, .idiv, 1, 0, 0, .null, []), (81, .iload_n 1, 1, 0, 0, .null, []), (82, .iconst 4, 1, 0, 0, .int 4, []), (83, .irem, 1, 0, 0, .null, []), (84, .invokevirtual 233, 3, 195, 0, .null, []), (87, .i2l, 1, 0, 0, .null, []), (88, .invokevirtual 358, 3, 258, 0, .null, []), (91, .iinc 1 1, 3, 0, 0, .int 1, []), (94, .goto (-28), 3, 66, 0, .null, []), (97, .iconst 0, 1, 0, 0, .int 0, []), (98, .istore_n 1, 1, 0, 0, .null, []), (99, .iload_n 1, 1, 0, 0, .null, []), (100, .bipush 8, 2, 0, 0, .int 8, []), (102, .if_icmp .ge 35, 3, 137, 0, .null, []), (105, .aload_n 0, 1, 0, 0, .null, []), (106, .getfield 204, 3, 11, 2, .null, []), (109, .ifCond .eq 28, 3, 137, 0, .null, []), (112, .aload_n 0, 1, 0, 0, .null, []), (113, .aload_n 0, 1, 0, 0, .null, []), (114, .getfield 7, 3, 11, 0, .null, []), (117, .iconst 2, 1, 0, 0, .int 2, []), (118, .iload_n 1, 1, 0, 0, .null, []), (119, .iconst 4, 1, 0, 0, .int 4, []), (120, .irem, 1, 0, 0, .null, []), (121, .imul, 1, 0, 0, .null, []), (122, .iload_n 1, 1, 0, 0, .null, []), (123, .iconst 4, 1, 0, 0, .int 4, []), (124, .idiv, 1, 0, 0, .null, []), (125, .iadd, 1, 0, 0, .null, []), (126, .iaload, 1, 0, 0, .null, []), (127, .i2l, 1, 0, 0, .null, []), (128, .invokevirtual 358, 3, 258, 0, .null, []), (131, .iinc 1 1, 3, 0, 0, .int 1, []), (134, .goto (-35), 3, 99, 0, .null, []), (137, .iconst 0, 1, 0, 0, .int 0, []), (138, .istore_n 1, 1, 0, 0, .null, []), (139, .iload_n 1, 1, 0, 0, .null, []), (140, .aload_n 0, 1, 0, 0, .null, []), (141, .getfield 7, 3, 11, 0, .null, []), (144, .bipush 8, 2, 0, 0, .int 8, []), (146, .iaload, 1, 0, 0, .null, []), (147, .if_icmp .ge 23, 3, 170, 0, .null, []), (150, .aload_n 0, 1, 0, 0, .null, []), (151, .aload_n 0, 1, 0, 0, .null, []), (152, .getfield 7, 3, 11, 0, .null, []), (155, .bipush 9, 2, 0, 0, .int 9, []), (157, .iload_n 1, 1, 0, 0, .null, []), (158, .iadd, 1, 0, 0, .null, []), (159, .iaload, 1, 0, 0, .null, []), (160, .i2l, 1, 0, 0, .null, []), (161, .invokevirtual 358, 3, 258, 0, .null, [])]
set_option maxRecDepth 100000 in
theorem ck259_0 : ∀ ce ∈ cd259_0, okB (yO 259) (yC 259) ce = true := List.all_eq_true.mp (by decide +kernel)
def cd259_1 : List CE := [(164, .iinc 1 1, 3, 0, 0, .int 1, []), (167, .goto (-28), 3, 139, 0, .null, []), (170, .iconst 0, 1, 0, 0, .int 0, []), (171, .istore_n 1, 1, 0, 0, .null, []), (172, .iload_n 1, 1, 0, 0, .null, []), (173, .iconst 3, 1, 0, 0, .int 3, []), (174, .if_icmp .ge 44, 3, 218, 0, .null, []), (177, .aload_n 0, 1, 0, 0, .null, []), (178, .aload_n 0, 1, 0, 0, .null, []), (179, .getfield 13, 3, 11, 1, .null, []), (182, .iload_n 1, 1, 0, 0, .null, []), (183, .baload, 1, 0, 0, .null, []), (184, .ifCond .eq 22, 3, 206, 0, .null, []), (187, .aload_n 0, 1, 0, 0, .null, []), (188, .getfield 7, 3, 11, 0, .null, []), (191, .sipush 289, 3, 0, 0, .int 289, []), (194, .iload_n 1, 1, 0, 0, .null, []), (195, .iconst 1, 1, 0, 0, .int 1, []), (196, .iadd, 1, 0, 0, .null, []), (197, .imul, 1, 0, 0, .null, []), (198, .bipush 8, 2, 0, 0, .int 8, []), (200, .iadd, 1, 0, 0, .null, []), (201, .iaload, 1, 0, 0, .null, []), (202, .i2l, 1, 0, 0, .null, []), (203, .goto 6, 3, 209, 0, .null, []), (206, .ldc2_w 362, 3, 0, 0, .long (-1), []), (209, .invokevirtual 358, 3, 258, 0, .null, []), (212, .iinc 1 1, 3, 0, 0, .int 1, []), (215, .goto (-43), 3, 172, 0, .null, []), (218, .iconst 0, 1, 0, 0, .int 0, []), (219, .istore_n 1, 1, 0, 0, .null, []), (220, .iload_n 1, 1, 0, 0, .null, []), (221, .bipush 6, 2, 0, 0, .int 6, []), (223, .if_icmp .ge 54, 3, 277, 0, .null, []), (226, .aload_n 0, 1, 0, 0, .null, []), (227, .aload_n 0, 1, 0, 0, .null, []), (228, .getfield 39, 3, 11, 15, .null, []), (231, .iload_n 1, 1, 0, 0, .null, []), (232, .iaload, 1, 0, 0, .null, []), (233, .i2l, 1, 0, 0, .null, []), (234, .invokevirtual 358, 3, 258, 0, .null, []), (237, .iconst 0, 1, 0, 0, .int 0, []), (238, .istore_n 2, 1, 0, 0, .null, []), (239, .iload_n 2, 1, 0, 0, .null, []), (240, .aload_n 0, 1, 0, 0, .null, []), (241, .getfield 39, 3, 11, 15, .null, []), (244, .iload_n 1, 1, 0, 0, .null, []), (245, .iaload, 1, 0, 0, .null, []), (246, .if_icmp .ge 25, 3, 271, 0, .null, []), (249, .aload_n 0, 1, 0, 0, .null, []), (250, .aload_n 0, 1, 0, 0, .null, []), (251, .getfield 42, 3, 11, 16, .null, []), (254, .bipush 40, 2, 0, 0, .int 40, []), (256, .iload_n 1, 1, 0, 0, .null, []), (257, .imul, 1, 0, 0, .null, []), (258, .iload_n 2, 1, 0, 0, .null, []), (259, .iadd, 1, 0, 0, .null, []), (260, .iaload, 1, 0, 0, .null, []), (261, .i2l, 1, 0, 0, .null, []), (262, .invokevirtual 358, 3, 258, 0, .null, []), (265, .iinc 2 1, 3, 0, 0, .int 1, []), (268, .goto (-29), 3, 239, 0, .null, []), (271, .iinc 1 1, 3, 0, 0, .int 1, []), (274, .goto (-54), 3, 220, 0, .null, []), (277, .iconst 0, 1, 0, 0, .int 0, []), (278, .istore_n 1, 1, 0, 0, .null, []), (279, .iload_n 1, 1, 0, 0, .null, []), (280, .iconst 4, 1, 0, 0, .int 4, []), (281, .if_icmp .ge 54, 3, 335, 0, .null, []), (284, .aload_n 0, 1, 0, 0, .null, []), (285, .aload_n 0, 1, 0, 0, .null, []), (286, .getfield 45, 3, 11, 17, .null, []), (289, .iload_n 1, 1, 0, 0, .null, []), (290, .iaload, 1, 0, 0, .null, []), (291, .i2l, 1, 0, 0, .null, []), (292, .invokevirtual 358, 3, 258, 0, .null, []), (295, .iconst 0, 1, 0, 0, .int 0, []), (296, .istore_n 2, 1, 0, 0, .null, []), (297, .iload_n 2, 1, 0, 0, .null, []), (298, .aload_n 0, 1, 0, 0, .null, []), (299, .getfield 45, 3, 11, 17, .null, []), (302, .iload_n 1, 1, 0, 0, .null, []), (303, .iaload, 1, 0, 0, .null, []), (304, .if_icmp .ge 25, 3, 329, 0, .null, []), (307, .aload_n 0, 1, 0, 0, .null, []), (308, .aload_n 0, 1, 0, 0, .null, []), (309, .getfield 48, 3, 11, 18, .null, []), (312, .bipush 80, 2, 0, 0, .int 80, []), (314, .iload_n 1, 1, 0, 0, .null, []), (315, .imul, 1, 0, 0, .null, []), (316, .iload_n 2, 1, 0, 0, .null, []), (317, .iadd, 1, 0, 0, .null, []), (318, .iaload, 1, 0, 0, .null, []), (319, .i2l, 1, 0, 0, .null, []), (320, .invokevirtual 358, 3, 258, 0, .null, []), (323, .iinc 2 1, 3, 0, 0, .int 1, []), (326, .goto (-29), 3, 297, 0, .null, []), (329, .iinc 1 1, 3, 0, 0, .int 1, []), (332, .goto (-53), 3, 279, 0, .null, []), (335, .aload_n 0, 1, 0, 0, .null, [])]
set_option maxRecDepth 100000 in
theorem ck259_1 : ∀ ce ∈ cd259_1, okB (yO 259) (yC 259) ce = true := List.all_eq_true.mp (by decide +kernel)
def cd259_2 : List CE := [(336, .getfield 353, 3, 11, 46, .null, []), (339, .lreturn, 1, 0, 0, .null, [])]
set_option maxRecDepth 100000 in
theorem ck259_2 : ∀ ce ∈ cd259_2, okB (yO 259) (yC 259) ce = true := List.all_eq_true.mp (by decide +kernel)
def cd259 : List CE := cd259_0 ++ (cd259_1 ++ (cd259_2))
theorem ck259 : ∀ ce ∈ cd259, okB (yO 259) (yC 259) ce = true := List.forall_mem_append.mpr ⟨ck259_0, List.forall_mem_append.mpr ⟨ck259_1, ck259_2⟩⟩
end
section
/-! the code, by program (wip/whole/gen2.py) -/
/-- ShapeDuelLaw.law([I)Z -/
def cd265_0 : List CE := [(0, .new 7, 3, 10, 0, .null, []), (3, .dup, 1, 0, 0, .null, []), (4, .invokespecial 9, 3, 92, 0, .null, []), (7, .astore_n 1, 1, 0, 0, .null, []), (8, .new 10, 3, 11, 0, .null, []), (11, .dup, 1, 0, 0, .null, []), (12, .invokespecial 12, 3, 157, 0, .null, []), (15, .astore_n 2, 1, 0, 0, .null, []), (16, .iconst 0, 1, 0, 0, .int 0, []), (17, .istore_n 3, 1, 0, 0, .null, []), (18, .iload_n 3, 1, 0, 0, .null, []), (19, .aload_n 0, 1, 0, 0, .null, []), (20, .arraylength, 1, 0, 0, .null, []), (21, .bipush 6, 2, 0, 0, .int 6, []), (23, .isub, 1, 0, 0, .null, []), (24, .if_icmp .gt 1419, 3, 1443, 0, .null, []), (27, .aload_n 0, 1, 0, 0, .null, []), (28, .iload_n 3, 1, 0, 0, .null, []), (29, .iaload, 1, 0, 0, .null, []), (30, .bipush 63, 2, 0, 0, .int 63, []), (32, .iand, 1, 0, 0, .null, []), (33, .tableswitch 1404 0 47 #[207, 240, 283, 316, 339, 402, 425, 458, 501, 524, 547, 580, 613, 646, 679, 722, 755, 798, 821, 834, 857, 880, 903, 926, 949, 962, 975, 998, 1021, 1044, 1067, 1090, 1113, 1146, 1179, 1192, 1205, 1238, 1251, 1264, 1277, 1290, 1303, 1317, 1331, 1354, 1367, 1390], 207, 1437, 0, .null, [(0, 240), (1, 273), (2, 316), (3, 349), (4, 372), (5, 435), (6, 458), (7, 491), (8, 534), (9, 557), (10, 580), (11, 613), (12, 646), (13, 679), (14, 712), (15, 755), (16, 788), (17, 831), (18, 854), (19, 867), (20, 890), (21, 913), (22, 936), (23, 959), (24, 982), (25, 995), (26, 1008), (27, 1031), (28, 1054), (29, 1077), (30, 1100), (31, 1123), (32, 1146), (33, 1179), (34, 1212), (35, 1225), (36, 1238), (37, 1271), (38, 1284), (39, 1297), (40, 1310), (41, 1323), (42, 1336), (43, 1350), (44, 1364), (45, 1387), (46, 1400), (47, 1423)]), (240, .aload_n 1, 1, 0, 0, .null, []), (241, .aload_n 0, 1, 0, 0, .null, []), (242, .iload_n 3, 1, 0, 0, .null, []), (243, .iconst 1, 1, 0, 0, .int 1, []), (244, .iadd, 1, 0, 0, .null, []), (245, .iaload, 1, 0, 0, .null, []), (246, .aload_n 0, 1, 0, 0, .null, []), (247, .iload_n 3, 1, 0, 0, .null, []), (248, .iconst 2, 1, 0, 0, .int 2, []), (249, .iadd, 1, 0, 0, .null, []), (250, .iaload, 1, 0, 0, .null, []), (251, .invokevirtual 13, 3, 93, 0, .null, []), (254, .aload_n 2, 1, 0, 0, .null, []), (255, .aload_n 0, 1, 0, 0, .null, []), (256, .iload_n 3, 1, 0, 0, .null, []), (257, .iconst 1, 1, 0, 0, .int 1, []), (258, .iadd, 1, 0, 0, .null, []), (259, .iaload, 1, 0, 0, .null, []), (260, .aload_n 0, 1, 0, 0, .null, []), (261, .iload_n 3, 1, 0, 0, .null, []), (262, .iconst 2, 1, 0, 0, .int 2, []), (263, .iadd, 1, 0, 0, .null, []), (264, .iaload, 1, 0, 0, .null, []), (265, .invokevirtual 17, 3, 166, 0, .null, []), (268, .if_icmp .eq 1169, 3, 1437, 0, .null, []), (271, .iconst 0, 1, 0, 0, .int 0, []), (272, .ireturn, 1, 0, 0, .null, []), (273, .aload_n 1, 1, 0, 0, .null, []), (274, .aload_n 0, 1, 0, 0, .null, []), (275, .iload_n 3, 1, 0, 0, .null, []), (276, .iconst 1, 1, 0, 0, .int 1, []), (277, .iadd, 1, 0, 0, .null, []), (278, .iaload, 1, 0, 0, .null, []), (279, .aload_n 0, 1, 0, 0, .null, []), (280, .iload_n 3, 1, 0, 0, .null, []), (281, .iconst 2, 1, 0, 0, .int 2, []), (282, .iadd, 1, 0, 0, .null, []), (283, .iaload, 1, 0, 0, .null, []), (284, .aload_n 0, 1, 0, 0, .null, []), (285, .iload_n 3, 1, 0, 0, .null, []), (286, .iconst 3, 1, 0, 0, .int 3, []), (287, .iadd, 1, 0, 0, .null, []), (288, .iaload, 1, 0, 0, .null, []), (289, .invokevirtual 18, 3, 94, 0, .null, []), (292, .aload_n 2, 1, 0, 0, .null, []), (293, .aload_n 0, 1, 0, 0, .null, []), (294, .iload_n 3, 1, 0, 0, .null, []), (295, .iconst 1, 1, 0, 0, .int 1, []), (296, .iadd, 1, 0, 0, .null, []), (297, .iaload, 1, 0, 0, .null, []), (298, .aload_n 0, 1, 0, 0, .null, []), (299, .iload_n 3, 1, 0, 0, .null, []), (300, .iconst 2, 1, 0, 0, .int 2, []), (301, .iadd, 1, 0, 0, .null, []), (302, .iaload, 1, 0, 0, .null, []), (303, .aload_n 0, 1, 0, 0, .null, []), (304, .iload_n 3, 1, 0, 0, .null, []), (305, .iconst 3, 1, 0, 0, .int 3, []), (306, .iadd, 1, 0, 0, .null, []), (307, .iaload, 1, 0, 0, .null, []), (308, .invokevirtual 22, 3, 167, 0, .null, []), (311, .if_icmp .eq 1126, 3, 1437, 0, .null, []), (314, .iconst 0, 1, 0, 0, .int 0, []), (315, .ireturn, 1, 0, 0, .null, []), (316, .aload_n 1, 1, 0, 0, .null, []), (317, .aload_n 0, 1, 0, 0, .null, []), (318, .iload_n 3, 1, 0, 0, .null, []), (319, .iconst 1, 1, 0, 0, .int 1, []), (320, .iadd, 1, 0, 0, .null, []), (321, .iaload, 1, 0, 0, .null, []), (322, .aload_n 0, 1, 0, 0, .null, []), (323, .iload_n 3, 1, 0, 0, .null, []), (324, .iconst 2, 1, 0, 0, .int 2, []), (325, .iadd, 1, 0, 0, .null, []), (326, .iaload, 1, 0, 0, .null, []), (327, .invokevirtual 23, 3, 95, 0, .null, []), (330, .aload_n 2, 1, 0, 0, .null, []), (331, .aload_n 0, 1, 0, 0, .null, [])]
set_option maxRecDepth 100000 in
theorem ck265_0 : ∀ ce ∈ cd265_0, okB (yO 265) (yC 265) ce = true := List.all_eq_true.mp (by decide +kernel)
def cd265_1 : List CE := [(332, .iload_n 3, 1, 0, 0, .null, []), (333, .iconst 1, 1, 0, 0, .int 1, []), (334, .iadd, 1, 0, 0, .null, []), (335, .iaload, 1, 0, 0, .null, []), (336, .aload_n 0, 1, 0, 0, .null, []), (337, .iload_n 3, 1, 0, 0, .null, []), (338, .iconst 2, 1, 0, 0, .int 2, []), (339, .iadd, 1, 0, 0, .null, []), (340, .iaload, 1, 0, 0, .null, []), (341, .invokevirtual 26, 3, 168, 0, .null, []), (344, .if_icmp .eq 1093, 3, 1437, 0, .null, []), (347, .iconst 0, 1, 0, 0, .int 0, []), (348, .ireturn, 1, 0, 0, .null, []), (349, .aload_n 1, 1, 0, 0, .null, []), (350, .aload_n 0, 1, 0, 0, .null, []), (351, .iload_n 3, 1, 0, 0, .null, []), (352, .iconst 1, 1, 0, 0, .int 1, []), (353, .iadd, 1, 0, 0, .null, []), (354, .iaload, 1, 0, 0, .null, []), (355, .invokevirtual 27, 3, 96, 0, .null, []), (358, .aload_n 2, 1, 0, 0, .null, []), (359, .aload_n 0, 1, 0, 0, .null, []), (360, .iload_n 3, 1, 0, 0, .null, []), (361, .iconst 1, 1, 0, 0, .int 1, []), (362, .iadd, 1, 0, 0, .null, []), (363, .iaload, 1, 0, 0, .null, []), (364, .invokevirtual 31, 3, 169, 0, .null, []), (367, .if_icmp .eq 1070, 3, 1437, 0, .null, []), (370, .iconst 0, 1, 0, 0, .int 0, []), (371, .ireturn, 1, 0, 0, .null, []), (372, .aload_n 1, 1, 0, 0, .null, []), (373, .aload_n 0, 1, 0, 0, .null, []), (374, .iload_n 3, 1, 0, 0, .null, []), (375, .iconst 1, 1, 0, 0, .int 1, []), (376, .iadd, 1, 0, 0, .null, []), (377, .iaload, 1, 0, 0, .null, []), (378, .aload_n 0, 1, 0, 0, .null, []), (379, .iload_n 3, 1, 0, 0, .null, []), (380, .iconst 2, 1, 0, 0, .int 2, []), (381, .iadd, 1, 0, 0, .null, []), (382, .iaload, 1, 0, 0, .null, []), (383, .aload_n 0, 1, 0, 0, .null, []), (384, .iload_n 3, 1, 0, 0, .null, []), (385, .iconst 3, 1, 0, 0, .int 3, []), (386, .iadd, 1, 0, 0, .null, []), (387, .iaload, 1, 0, 0, .null, []), (388, .aload_n 0, 1, 0, 0, .null, []), (389, .iload_n 3, 1, 0, 0, .null, []), (390, .iconst 4, 1, 0, 0, .int 4, []), (391, .iadd, 1, 0, 0, .null, []), (392, .iaload, 1, 0, 0, .null, []), (393, .aload_n 0, 1, 0, 0, .null, []), (394, .iload_n 3, 1, 0, 0, .null, []), (395, .iconst 5, 1, 0, 0, .int 5, []), (396, .iadd, 1, 0, 0, .null, []), (397, .iaload, 1, 0, 0, .null, []), (398, .invokevirtual 32, 3, 97, 0, .null, []), (401, .aload_n 2, 1, 0, 0, .null, []), (402, .aload_n 0, 1, 0, 0, .null, []), (403, .iload_n 3, 1, 0, 0, .null, []), (404, .iconst 1, 1, 0, 0, .int 1, []), (405, .iadd, 1, 0, 0, .null, []), (406, .iaload, 1, 0, 0, .null, []), (407, .aload_n 0, 1, 0, 0, .null, []), (408, .iload_n 3, 1, 0, 0, .null, []), (409, .iconst 2, 1, 0, 0, .int 2, []), (410, .iadd, 1, 0, 0, .null, []), (411, .iaload, 1, 0, 0, .null, []), (412, .aload_n 0, 1, 0, 0, .null, []), (413, .iload_n 3, 1, 0, 0, .null, []), (414, .iconst 3, 1, 0, 0, .int 3, []), (415, .iadd, 1, 0, 0, .null, []), (416, .iaload, 1, 0, 0, .null, []), (417, .aload_n 0, 1, 0, 0, .null, []), (418, .iload_n 3, 1, 0, 0, .null, []), (419, .iconst 4, 1, 0, 0, .int 4, []), (420, .iadd, 1, 0, 0, .null, []), (421, .iaload, 1, 0, 0, .null, []), (422, .aload_n 0, 1, 0, 0, .null, []), (423, .iload_n 3, 1, 0, 0, .null, []), (424, .iconst 5, 1, 0, 0, .int 5, []), (425, .iadd, 1, 0, 0, .null, []), (426, .iaload, 1, 0, 0, .null, []), (427, .invokevirtual 36, 3, 171, 0, .null, []), (430, .if_icmp .eq 1007, 3, 1437, 0, .null, []), (433, .iconst 0, 1, 0, 0, .int 0, []), (434, .ireturn, 1, 0, 0, .null, []), (435, .aload_n 1, 1, 0, 0, .null, []), (436, .aload_n 0, 1, 0, 0, .null, []), (437, .iload_n 3, 1, 0, 0, .null, []), (438, .iconst 1, 1, 0, 0, .int 1, []), (439, .iadd, 1, 0, 0, .null, []), (440, .iaload, 1, 0, 0, .null, []), (441, .invokevirtual 37, 3, 98, 0, .null, []), (444, .aload_n 2, 1, 0, 0, .null, []), (445, .aload_n 0, 1, 0, 0, .null, []), (446, .iload_n 3, 1, 0, 0, .null, []), (447, .iconst 1, 1, 0, 0, .int 1, []), (448, .iadd, 1, 0, 0, .null, []), (449, .iaload, 1, 0, 0, .null, [])]
set_option maxRecDepth 100000 in
theorem ck265_1 : ∀ ce ∈ cd265_1, okB (yO 265) (yC 265) ce = true := List.all_eq_true.mp (by decide +kernel)
def cd265_2 : List CE := [(450, .invokevirtual 40, 3, 172, 0, .null, []), (453, .if_icmp .eq 984, 3, 1437, 0, .null, []), (456, .iconst 0, 1, 0, 0, .int 0, []), (457, .ireturn, 1, 0, 0, .null, []), (458, .aload_n 1, 1, 0, 0, .null, []), (459, .aload_n 0, 1, 0, 0, .null, []), (460, .iload_n 3, 1, 0, 0, .null, []), (461, .iconst 1, 1, 0, 0, .int 1, []), (462, .iadd, 1, 0, 0, .null, []), (463, .iaload, 1, 0, 0, .null, []), (464, .aload_n 0, 1, 0, 0, .null, []), (465, .iload_n 3, 1, 0, 0, .null, []), (466, .iconst 2, 1, 0, 0, .int 2, []), (467, .iadd, 1, 0, 0, .null, []), (468, .iaload, 1, 0, 0, .null, []), (469, .invokevirtual 41, 3, 99, 0, .null, []), (472, .aload_n 2, 1, 0, 0, .null, []), (473, .aload_n 0, 1, 0, 0, .null, []), (474, .iload_n 3, 1, 0, 0, .null, []), (475, .iconst 1, 1, 0, 0, .int 1, []), (476, .iadd, 1, 0, 0, .null, []), (477, .iaload, 1, 0, 0, .null, []), (478, .aload_n 0, 1, 0, 0, .null, []), (479, .iload_n 3, 1, 0, 0, .null, []), (480, .iconst 2, 1, 0, 0, .int 2, []), (481, .iadd, 1, 0, 0, .null, []), (482, .iaload, 1, 0, 0, .null, []), (483, .invokevirtual 44, 3, 173, 0, .null, []), (486, .if_icmp .eq 951, 3, 1437, 0, .null, []), (489, .iconst 0, 1, 0, 0, .int 0, []), (490, .ireturn, 1, 0, 0, .null, []), (491, .aload_n 1, 1, 0, 0, .null, []), (492, .aload_n 0, 1, 0, 0, .null, []), (493, .iload_n 3, 1, 0, 0, .null, []), (494, .iconst 1, 1, 0, 0, .int 1, []), (495, .iadd, 1, 0, 0, .null, []), (496, .iaload, 1, 0, 0, .null, []), (497, .aload_n 0, 1, 0, 0, .null, []), (498, .iload_n 3, 1, 0, 0, .null, []), (499, .iconst 2, 1, 0, 0, .int 2, []), (500, .iadd, 1, 0, 0, .null, []), (501, .iaload, 1, 0, 0, .null, []), (502, .aload_n 0, 1, 0, 0, .null, []), (503, .iload_n 3, 1, 0, 0, .null, []), (504, .iconst 3, 1, 0, 0, .int 3, []), (505, .iadd, 1, 0, 0, .null, []), (506, .iaload, 1, 0, 0, .null, []), (507, .invokevirtual 45, 3, 100, 0, .null, []), (510, .aload_n 2, 1, 0, 0, .null, []), (511, .aload_n 0, 1, 0, 0, .null, []), (512, .iload_n 3, 1, 0, 0, .null, []), (513, .iconst 1, 1, 0, 0, .int 1, []), (514, .iadd, 1, 0, 0, .null, []), (515, .iaload, 1, 0, 0, .null, []), (516, .aload_n 0, 1, 0, 0, .null, []), (517, .iload_n 3, 1, 0, 0, .null, []), (518, .iconst 2, 1, 0, 0, .int 2, []), (519, .iadd, 1, 0, 0, .null, []), (520, .iaload, 1, 0, 0, .null, []), (521, .aload_n 0, 1, 0, 0, .null, []), (522, .iload_n 3, 1, 0, 0, .null, []), (523, .iconst 3, 1, 0, 0, .int 3, []), (524, .iadd, 1, 0, 0, .null, []), (525, .iaload, 1, 0, 0, .null, []), (526, .invokevirtual 48, 3, 174, 0, .null, []), (529, .if_icmp .eq 908, 3, 1437, 0, .null, []), (532, .iconst 0, 1, 0, 0, .int 0, []), (533, .ireturn, 1, 0, 0, .null, []), (534, .aload_n 1, 1, 0, 0, .null, []), (535, .aload_n 0, 1, 0, 0, .null, []), (536, .iload_n 3, 1, 0, 0, .null, []), (537, .iconst 1, 1, 0, 0, .int 1, []), (538, .iadd, 1, 0, 0, .null, []), (539, .iaload, 1, 0, 0, .null, []), (540, .invokevirtual 49, 3, 101, 0, .null, []), (543, .aload_n 2, 1, 0, 0, .null, []), (544, .aload_n 0, 1, 0, 0, .null, []), (545, .iload_n 3, 1, 0, 0, .null, []), (546, .iconst 1, 1, 0, 0, .int 1, []), (547, .iadd, 1, 0, 0, .null, []), (548, .iaload, 1, 0, 0, .null, []), (549, .invokevirtual 52, 3, 184, 0, .null, []), (552, .if_icmp .eq 885, 3, 1437, 0, .null, []), (555, .iconst 0, 1, 0, 0, .int 0, []), (556, .ireturn, 1, 0, 0, .null, []), (557, .aload_n 1, 1, 0, 0, .null, []), (558, .aload_n 0, 1, 0, 0, .null, []), (559, .iload_n 3, 1, 0, 0, .null, []), (560, .iconst 1, 1, 0, 0, .int 1, []), (561, .iadd, 1, 0, 0, .null, []), (562, .iaload, 1, 0, 0, .null, []), (563, .invokevirtual 53, 3, 102, 0, .null, []), (566, .aload_n 2, 1, 0, 0, .null, []), (567, .aload_n 0, 1, 0, 0, .null, []), (568, .iload_n 3, 1, 0, 0, .null, []), (569, .iconst 1, 1, 0, 0, .int 1, []), (570, .iadd, 1, 0, 0, .null, []), (571, .iaload, 1, 0, 0, .null, []), (572, .invokevirtual 56, 3, 185, 0, .null, []), (575, .if_icmp .eq 862, 3, 1437, 0, .null, [])]
set_option maxRecDepth 100000 in
theorem ck265_2 : ∀ ce ∈ cd265_2, okB (yO 265) (yC 265) ce = true := List.all_eq_true.mp (by decide +kernel)
def cd265_3 : List CE := [(578, .iconst 0, 1, 0, 0, .int 0, []), (579, .ireturn, 1, 0, 0, .null, []), (580, .aload_n 1, 1, 0, 0, .null, []), (581, .aload_n 0, 1, 0, 0, .null, []), (582, .iload_n 3, 1, 0, 0, .null, []), (583, .iconst 1, 1, 0, 0, .int 1, []), (584, .iadd, 1, 0, 0, .null, []), (585, .iaload, 1, 0, 0, .null, []), (586, .aload_n 0, 1, 0, 0, .null, []), (587, .iload_n 3, 1, 0, 0, .null, []), (588, .iconst 2, 1, 0, 0, .int 2, []), (589, .iadd, 1, 0, 0, .null, []), (590, .iaload, 1, 0, 0, .null, []), (591, .invokevirtual 57, 3, 103, 0, .null, []), (594, .aload_n 2, 1, 0, 0, .null, []), (595, .aload_n 0, 1, 0, 0, .null, []), (596, .iload_n 3, 1, 0, 0, .null, []), (597, .iconst 1, 1, 0, 0, .int 1, []), (598, .iadd, 1, 0, 0, .null, []), (599, .iaload, 1, 0, 0, .null, []), (600, .aload_n 0, 1, 0, 0, .null, []), (601, .iload_n 3, 1, 0, 0, .null, []), (602, .iconst 2, 1, 0, 0, .int 2, []), (603, .iadd, 1, 0, 0, .null, []), (604, .iaload, 1, 0, 0, .null, []), (605, .invokevirtual 60, 3, 194, 0, .null, []), (608, .if_icmp .eq 829, 3, 1437, 0, .null, []), (611, .iconst 0, 1, 0, 0, .int 0, []), (612, .ireturn, 1, 0, 0, .null, []), (613, .aload_n 1, 1, 0, 0, .null, []), (614, .aload_n 0, 1, 0, 0, .null, []), (615, .iload_n 3, 1, 0, 0, .null, []), (616, .iconst 1, 1, 0, 0, .int 1, []), (617, .iadd, 1, 0, 0, .null, []), (618, .iaload, 1, 0, 0, .null, []), (619, .aload_n 0, 1, 0, 0, .null, []), (620, .iload_n 3, 1, 0, 0, .null, []), (621, .iconst 2, 1, 0, 0, .int 2, []), (622, .iadd, 1, 0, 0, .null, []), (623, .iaload, 1, 0, 0, .null, []), (624, .invokevirtual 61, 3, 104, 0, .null, []), (627, .aload_n 2, 1, 0, 0, .null, []), (628, .aload_n 0, 1, 0, 0, .null, []), (629, .iload_n 3, 1, 0, 0, .null, []), (630, .iconst 1, 1, 0, 0, .int 1, []), (631, .iadd, 1, 0, 0, .null, []), (632, .iaload, 1, 0, 0, .null, []), (633, .aload_n 0, 1, 0, 0, .null, []), (634, .iload_n 3, 1, 0, 0, .null, []), (635, .iconst 2, 1, 0, 0, .int 2, []), (636, .iadd, 1, 0, 0, .null, []), (637, .iaload, 1, 0, 0, .null, []), (638, .invokevirtual 64, 3, 196, 0, .null, []), (641, .if_icmp .eq 796, 3, 1437, 0, .null, []), (644, .iconst 0, 1, 0, 0, .int 0, []), (645, .ireturn, 1, 0, 0, .null, []), (646, .aload_n 1, 1, 0, 0, .null, []), (647, .aload_n 0, 1, 0, 0, .null, []), (648, .iload_n 3, 1, 0, 0, .null, []), (649, .iconst 1, 1, 0, 0, .int 1, []), (650, .iadd, 1, 0, 0, .null, []), (651, .iaload, 1, 0, 0, .null, []), (652, .aload_n 0, 1, 0, 0, .null, []), (653, .iload_n 3, 1, 0, 0, .null, []), (654, .iconst 2, 1, 0, 0, .int 2, []), (655, .iadd, 1, 0, 0, .null, []), (656, .iaload, 1, 0, 0, .null, []), (657, .invokevirtual 65, 3, 105, 0, .null, []), (660, .aload_n 2, 1, 0, 0, .null, []), (661, .aload_n 0, 1, 0, 0, .null, []), (662, .iload_n 3, 1, 0, 0, .null, []), (663, .iconst 1, 1, 0, 0, .int 1, []), (664, .iadd, 1, 0, 0, .null, []), (665, .iaload, 1, 0, 0, .null, []), (666, .aload_n 0, 1, 0, 0, .null, []), (667, .iload_n 3, 1, 0, 0, .null, []), (668, .iconst 2, 1, 0, 0, .int 2, []), (669, .iadd, 1, 0, 0, .null, []), (670, .iaload, 1, 0, 0, .null, []), (671, .invokevirtual 68, 3, 198, 0, .null, []), (674, .if_icmp .eq 763, 3, 1437, 0, .null, []), (677, .iconst 0, 1, 0, 0, .int 0, []), (678, .ireturn, 1, 0, 0, .null, []), (679, .aload_n 1, 1, 0, 0, .null, []), (680, .aload_n 0, 1, 0, 0, .null, []), (681, .iload_n 3, 1, 0, 0, .null, []), (682, .iconst 1, 1, 0, 0, .int 1, []), (683, .iadd, 1, 0, 0, .null, []), (684, .iaload, 1, 0, 0, .null, []), (685, .aload_n 0, 1, 0, 0, .null, []), (686, .iload_n 3, 1, 0, 0, .null, []), (687, .iconst 2, 1, 0, 0, .int 2, []), (688, .iadd, 1, 0, 0, .null, []), (689, .iaload, 1, 0, 0, .null, []), (690, .invokevirtual 69, 3, 106, 0, .null, []), (693, .aload_n 2, 1, 0, 0, .null, []), (694, .aload_n 0, 1, 0, 0, .null, []), (695, .iload_n 3, 1, 0, 0, .null, []), (696, .iconst 1, 1, 0, 0, .int 1, []), (697, .iadd, 1, 0, 0, .null, [])]
set_option maxRecDepth 100000 in
theorem ck265_3 : ∀ ce ∈ cd265_3, okB (yO 265) (yC 265) ce = true := List.all_eq_true.mp (by decide +kernel)
def cd265_4 : List CE := [(698, .iaload, 1, 0, 0, .null, []), (699, .aload_n 0, 1, 0, 0, .null, []), (700, .iload_n 3, 1, 0, 0, .null, []), (701, .iconst 2, 1, 0, 0, .int 2, []), (702, .iadd, 1, 0, 0, .null, []), (703, .iaload, 1, 0, 0, .null, []), (704, .invokevirtual 72, 3, 199, 0, .null, []), (707, .if_icmp .eq 730, 3, 1437, 0, .null, []), (710, .iconst 0, 1, 0, 0, .int 0, []), (711, .ireturn, 1, 0, 0, .null, []), (712, .aload_n 1, 1, 0, 0, .null, []), (713, .aload_n 0, 1, 0, 0, .null, []), (714, .iload_n 3, 1, 0, 0, .null, []), (715, .iconst 1, 1, 0, 0, .int 1, []), (716, .iadd, 1, 0, 0, .null, []), (717, .iaload, 1, 0, 0, .null, []), (718, .aload_n 0, 1, 0, 0, .null, []), (719, .iload_n 3, 1, 0, 0, .null, []), (720, .iconst 2, 1, 0, 0, .int 2, []), (721, .iadd, 1, 0, 0, .null, []), (722, .iaload, 1, 0, 0, .null, []), (723, .aload_n 0, 1, 0, 0, .null, []), (724, .iload_n 3, 1, 0, 0, .null, []), (725, .iconst 3, 1, 0, 0, .int 3, []), (726, .iadd, 1, 0, 0, .null, []), (727, .iaload, 1, 0, 0, .null, []), (728, .invokevirtual 73, 3, 107, 0, .null, []), (731, .aload_n 2, 1, 0, 0, .null, []), (732, .aload_n 0, 1, 0, 0, .null, []), (733, .iload_n 3, 1, 0, 0, .null, []), (734, .iconst 1, 1, 0, 0, .int 1, []), (735, .iadd, 1, 0, 0, .null, []), (736, .iaload, 1, 0, 0, .null, []), (737, .aload_n 0, 1, 0, 0, .null, []), (738, .iload_n 3, 1, 0, 0, .null, []), (739, .iconst 2, 1, 0, 0, .int 2, []), (740, .iadd, 1, 0, 0, .null, []), (741, .iaload, 1, 0, 0, .null, []), (742, .aload_n 0, 1, 0, 0, .null, []), (743, .iload_n 3, 1, 0, 0, .null, []), (744, .iconst 3, 1, 0, 0, .int 3, []), (745, .iadd, 1, 0, 0, .null, []), (746, .iaload, 1, 0, 0, .null, []), (747, .invokevirtual 76, 3, 200, 0, .null, []), (750, .if_icmp .eq 687, 3, 1437, 0, .null, []), (753, .iconst 0, 1, 0, 0, .int 0, []), (754, .ireturn, 1, 0, 0, .null, []), (755, .aload_n 1, 1, 0, 0, .null, []), (756, .aload_n 0, 1, 0, 0, .null, []), (757, .iload_n 3, 1, 0, 0, .null, []), (758, .iconst 1, 1, 0, 0, .int 1, []), (759, .iadd, 1, 0, 0, .null, []), (760, .iaload, 1, 0, 0, .null, []), (761, .aload_n 0, 1, 0, 0, .null, []), (762, .iload_n 3, 1, 0, 0, .null, []), (763, .iconst 2, 1, 0, 0, .int 2, []), (764, .iadd, 1, 0, 0, .null, []), (765, .iaload, 1, 0, 0, .null, []), (766, .invokevirtual 77, 3, 108, 0, .null, []), (769, .aload_n 2, 1, 0, 0, .null, []), (770, .aload_n 0, 1, 0, 0, .null, []), (771, .iload_n 3, 1, 0, 0, .null, []), (772, .iconst 1, 1, 0, 0, .int 1, []), (773, .iadd, 1, 0, 0, .null, []), (774, .iaload, 1, 0, 0, .null, []), (775, .aload_n 0, 1, 0, 0, .null, []), (776, .iload_n 3, 1, 0, 0, .null, []), (777, .iconst 2, 1, 0, 0, .int 2, []), (778, .iadd, 1, 0, 0, .null, []), (779, .iaload, 1, 0, 0, .null, []), (780, .invokevirtual 80, 3, 201, 0, .null, []), (783, .if_icmp .eq 654, 3, 1437, 0, .null, []), (786, .iconst 0, 1, 0, 0, .int 0, []), (787, .ireturn, 1, 0, 0, .null, []), (788, .aload_n 1, 1, 0, 0, .null, []), (789, .aload_n 0, 1, 0, 0, .null, []), (790, .iload_n 3, 1, 0, 0, .null, []), (791, .iconst 1, 1, 0, 0, .int 1, []), (792, .iadd, 1, 0, 0, .null, []), (793, .iaload, 1, 0, 0, .null, []), (794, .aload_n 0, 1, 0, 0, .null, []), (795, .iload_n 3, 1, 0, 0, .null, []), (796, .iconst 2, 1, 0, 0, .int 2, []), (797, .iadd, 1, 0, 0, .null, []), (798, .iaload, 1, 0, 0, .null, []), (799, .aload_n 0, 1, 0, 0, .null, []), (800, .iload_n 3, 1, 0, 0, .null, []), (801, .iconst 3, 1, 0, 0, .int 3, []), (802, .iadd, 1, 0, 0, .null, []), (803, .iaload, 1, 0, 0, .null, []), (804, .invokevirtual 81, 3, 109, 0, .null, []), (807, .aload_n 2, 1, 0, 0, .null, []), (808, .aload_n 0, 1, 0, 0, .null, []), (809, .iload_n 3, 1, 0, 0, .null, []), (810, .iconst 1, 1, 0, 0, .int 1, []), (811, .iadd, 1, 0, 0, .null, []), (812, .iaload, 1, 0, 0, .null, []), (813, .aload_n 0, 1, 0, 0, .null, []), (814, .iload_n 3, 1, 0, 0, .null, []), (815, .iconst 2, 1, 0, 0, .int 2, [])]
set_option maxRecDepth 100000 in
theorem ck265_4 : ∀ ce ∈ cd265_4, okB (yO 265) (yC 265) ce = true := List.all_eq_true.mp (by decide +kernel)
def cd265_5 : List CE := [(816, .iadd, 1, 0, 0, .null, []), (817, .iaload, 1, 0, 0, .null, []), (818, .aload_n 0, 1, 0, 0, .null, []), (819, .iload_n 3, 1, 0, 0, .null, []), (820, .iconst 3, 1, 0, 0, .int 3, []), (821, .iadd, 1, 0, 0, .null, []), (822, .iaload, 1, 0, 0, .null, []), (823, .invokevirtual 84, 3, 202, 0, .null, []), (826, .if_icmp .eq 611, 3, 1437, 0, .null, []), (829, .iconst 0, 1, 0, 0, .int 0, []), (830, .ireturn, 1, 0, 0, .null, []), (831, .aload_n 1, 1, 0, 0, .null, []), (832, .aload_n 0, 1, 0, 0, .null, []), (833, .iload_n 3, 1, 0, 0, .null, []), (834, .iconst 1, 1, 0, 0, .int 1, []), (835, .iadd, 1, 0, 0, .null, []), (836, .iaload, 1, 0, 0, .null, []), (837, .invokevirtual 85, 3, 110, 0, .null, []), (840, .aload_n 2, 1, 0, 0, .null, []), (841, .aload_n 0, 1, 0, 0, .null, []), (842, .iload_n 3, 1, 0, 0, .null, []), (843, .iconst 1, 1, 0, 0, .int 1, []), (844, .iadd, 1, 0, 0, .null, []), (845, .iaload, 1, 0, 0, .null, []), (846, .invokevirtual 88, 3, 211, 0, .null, []), (849, .if_icmp .eq 588, 3, 1437, 0, .null, []), (852, .iconst 0, 1, 0, 0, .int 0, []), (853, .ireturn, 1, 0, 0, .null, []), (854, .aload_n 1, 1, 0, 0, .null, []), (855, .invokevirtual 89, 3, 111, 0, .null, []), (858, .aload_n 2, 1, 0, 0, .null, []), (859, .invokevirtual 93, 3, 212, 0, .null, []), (862, .if_icmp .eq 575, 3, 1437, 0, .null, []), (865, .iconst 0, 1, 0, 0, .int 0, []), (866, .ireturn, 1, 0, 0, .null, []), (867, .aload_n 1, 1, 0, 0, .null, []), (868, .aload_n 0, 1, 0, 0, .null, []), (869, .iload_n 3, 1, 0, 0, .null, []), (870, .iconst 1, 1, 0, 0, .int 1, []), (871, .iadd, 1, 0, 0, .null, []), (872, .iaload, 1, 0, 0, .null, []), (873, .invokevirtual 94, 3, 112, 0, .null, []), (876, .aload_n 2, 1, 0, 0, .null, []), (877, .aload_n 0, 1, 0, 0, .null, []), (878, .iload_n 3, 1, 0, 0, .null, []), (879, .iconst 1, 1, 0, 0, .int 1, []), (880, .iadd, 1, 0, 0, .null, []), (881, .iaload, 1, 0, 0, .null, []), (882, .invokevirtual 97, 3, 214, 0, .null, []), (885, .if_icmp .eq 552, 3, 1437, 0, .null, []), (888, .iconst 0, 1, 0, 0, .int 0, []), (889, .ireturn, 1, 0, 0, .null, []), (890, .aload_n 1, 1, 0, 0, .null, []), (891, .aload_n 0, 1, 0, 0, .null, []), (892, .iload_n 3, 1, 0, 0, .null, []), (893, .iconst 1, 1, 0, 0, .int 1, []), (894, .iadd, 1, 0, 0, .null, []), (895, .iaload, 1, 0, 0, .null, []), (896, .invokevirtual 98, 3, 113, 0, .null, []), (899, .aload_n 2, 1, 0, 0, .null, []), (900, .aload_n 0, 1, 0, 0, .null, []), (901, .iload_n 3, 1, 0, 0, .null, []), (902, .iconst 1, 1, 0, 0, .int 1, []), (903, .iadd, 1, 0, 0, .null, []), (904, .iaload, 1, 0, 0, .null, []), (905, .invokevirtual 101, 3, 215, 0, .null, []), (908, .if_icmp .eq 529, 3, 1437, 0, .null, []), (911, .iconst 0, 1, 0, 0, .int 0, []), (912, .ireturn, 1, 0, 0, .null, []), (913, .aload_n 1, 1, 0, 0, .null, []), (914, .aload_n 0, 1, 0, 0, .null, []), (915, .iload_n 3, 1, 0, 0, .null, []), (916, .iconst 1, 1, 0, 0, .int 1, []), (917, .iadd, 1, 0, 0, .null, []), (918, .iaload, 1, 0, 0, .null, []), (919, .invokevirtual 102, 3, 114, 0, .null, []), (922, .aload_n 2, 1, 0, 0, .null, []), (923, .aload_n 0, 1, 0, 0, .null, []), (924, .iload_n 3, 1, 0, 0, .null, []), (925, .iconst 1, 1, 0, 0, .int 1, []), (926, .iadd, 1, 0, 0, .null, []), (927, .iaload, 1, 0, 0, .null, []), (928, .invokevirtual 105, 3, 216, 0, .null, []), (931, .if_icmp .eq 506, 3, 1437, 0, .null, []), (934, .iconst 0, 1, 0, 0, .int 0, []), (935, .ireturn, 1, 0, 0, .null, []), (936, .aload_n 1, 1, 0, 0, .null, []), (937, .aload_n 0, 1, 0, 0, .null, []), (938, .iload_n 3, 1, 0, 0, .null, []), (939, .iconst 1, 1, 0, 0, .int 1, []), (940, .iadd, 1, 0, 0, .null, []), (941, .iaload, 1, 0, 0, .null, []), (942, .invokevirtual 106, 3, 115, 0, .null, []), (945, .aload_n 2, 1, 0, 0, .null, []), (946, .aload_n 0, 1, 0, 0, .null, []), (947, .iload_n 3, 1, 0, 0, .null, []), (948, .iconst 1, 1, 0, 0, .int 1, []), (949, .iadd, 1, 0, 0, .null, []), (950, .iaload, 1, 0, 0, .null, []), (951, .invokevirtual 109, 3, 217, 0, .null, [])]
set_option maxRecDepth 100000 in
theorem ck265_5 : ∀ ce ∈ cd265_5, okB (yO 265) (yC 265) ce = true := List.all_eq_true.mp (by decide +kernel)
def cd265_6 : List CE := [(954, .if_icmp .eq 483, 3, 1437, 0, .null, []), (957, .iconst 0, 1, 0, 0, .int 0, []), (958, .ireturn, 1, 0, 0, .null, []), (959, .aload_n 1, 1, 0, 0, .null, []), (960, .aload_n 0, 1, 0, 0, .null, []), (961, .iload_n 3, 1, 0, 0, .null, []), (962, .iconst 1, 1, 0, 0, .int 1, []), (963, .iadd, 1, 0, 0, .null, []), (964, .iaload, 1, 0, 0, .null, []), (965, .invokevirtual 110, 3, 116, 0, .null, []), (968, .aload_n 2, 1, 0, 0, .null, []), (969, .aload_n 0, 1, 0, 0, .null, []), (970, .iload_n 3, 1, 0, 0, .null, []), (971, .iconst 1, 1, 0, 0, .int 1, []), (972, .iadd, 1, 0, 0, .null, []), (973, .iaload, 1, 0, 0, .null, []), (974, .invokevirtual 113, 3, 218, 0, .null, []), (977, .if_icmp .eq 460, 3, 1437, 0, .null, []), (980, .iconst 0, 1, 0, 0, .int 0, []), (981, .ireturn, 1, 0, 0, .null, []), (982, .aload_n 1, 1, 0, 0, .null, []), (983, .invokevirtual 114, 3, 117, 0, .null, []), (986, .aload_n 2, 1, 0, 0, .null, []), (987, .invokevirtual 117, 3, 219, 0, .null, []), (990, .if_icmp .eq 447, 3, 1437, 0, .null, []), (993, .iconst 0, 1, 0, 0, .int 0, []), (994, .ireturn, 1, 0, 0, .null, []), (995, .aload_n 1, 1, 0, 0, .null, []), (996, .invokevirtual 118, 3, 118, 0, .null, []), (999, .aload_n 2, 1, 0, 0, .null, []), (1000, .invokevirtual 121, 3, 221, 0, .null, []), (1003, .if_icmp .eq 434, 3, 1437, 0, .null, []), (1006, .iconst 0, 1, 0, 0, .int 0, []), (1007, .ireturn, 1, 0, 0, .null, []), (1008, .aload_n 1, 1, 0, 0, .null, []), (1009, .aload_n 0, 1, 0, 0, .null, []), (1010, .iload_n 3, 1, 0, 0, .null, []), (1011, .iconst 1, 1, 0, 0, .int 1, []), (1012, .iadd, 1, 0, 0, .null, []), (1013, .iaload, 1, 0, 0, .null, []), (1014, .invokevirtual 122, 3, 119, 0, .null, []), (1017, .aload_n 2, 1, 0, 0, .null, []), (1018, .aload_n 0, 1, 0, 0, .null, []), (1019, .iload_n 3, 1, 0, 0, .null, []), (1020, .iconst 1, 1, 0, 0, .int 1, []), (1021, .iadd, 1, 0, 0, .null, []), (1022, .iaload, 1, 0, 0, .null, []), (1023, .invokevirtual 125, 3, 222, 0, .null, []), (1026, .if_icmp .eq 411, 3, 1437, 0, .null, []), (1029, .iconst 0, 1, 0, 0, .int 0, []), (1030, .ireturn, 1, 0, 0, .null, []), (1031, .aload_n 1, 1, 0, 0, .null, []), (1032, .aload_n 0, 1, 0, 0, .null, []), (1033, .iload_n 3, 1, 0, 0, .null, []), (1034, .iconst 1, 1, 0, 0, .int 1, []), (1035, .iadd, 1, 0, 0, .null, []), (1036, .iaload, 1, 0, 0, .null, []), (1037, .invokevirtual 126, 3, 120, 0, .null, []), (1040, .aload_n 2, 1, 0, 0, .null, []), (1041, .aload_n 0, 1, 0, 0, .null, []), (1042, .iload_n 3, 1, 0, 0, .null, []), (1043, .iconst 1, 1, 0, 0, .int 1, []), (1044, .iadd, 1, 0, 0, .null, []), (1045, .iaload, 1, 0, 0, .null, []), (1046, .invokevirtual 129, 3, 224, 0, .null, []), (1049, .if_icmp .eq 388, 3, 1437, 0, .null, []), (1052, .iconst 0, 1, 0, 0, .int 0, []), (1053, .ireturn, 1, 0, 0, .null, []), (1054, .aload_n 1, 1, 0, 0, .null, []), (1055, .aload_n 0, 1, 0, 0, .null, []), (1056, .iload_n 3, 1, 0, 0, .null, []), (1057, .iconst 1, 1, 0, 0, .int 1, []), (1058, .iadd, 1, 0, 0, .null, []), (1059, .iaload, 1, 0, 0, .null, []), (1060, .invokevirtual 130, 3, 121, 0, .null, []), (1063, .aload_n 2, 1, 0, 0, .null, []), (1064, .aload_n 0, 1, 0, 0, .null, []), (1065, .iload_n 3, 1, 0, 0, .null, []), (1066, .iconst 1, 1, 0, 0, .int 1, []), (1067, .iadd, 1, 0, 0, .null, []), (1068, .iaload, 1, 0, 0, .null, []), (1069, .invokevirtual 133, 3, 225, 0, .null, []), (1072, .if_icmp .eq 365, 3, 1437, 0, .null, []), (1075, .iconst 0, 1, 0, 0, .int 0, []), (1076, .ireturn, 1, 0, 0, .null, []), (1077, .aload_n 1, 1, 0, 0, .null, []), (1078, .aload_n 0, 1, 0, 0, .null, []), (1079, .iload_n 3, 1, 0, 0, .null, []), (1080, .iconst 1, 1, 0, 0, .int 1, []), (1081, .iadd, 1, 0, 0, .null, []), (1082, .iaload, 1, 0, 0, .null, []), (1083, .invokevirtual 134, 3, 122, 0, .null, []), (1086, .aload_n 2, 1, 0, 0, .null, []), (1087, .aload_n 0, 1, 0, 0, .null, []), (1088, .iload_n 3, 1, 0, 0, .null, []), (1089, .iconst 1, 1, 0, 0, .int 1, []), (1090, .iadd, 1, 0, 0, .null, []), (1091, .iaload, 1, 0, 0, .null, []), (1092, .invokevirtual 137, 3, 226, 0, .null, []), (1095, .if_icmp .eq 342, 3, 1437, 0, .null, [])]
set_option maxRecDepth 100000 in
theorem ck265_6 : ∀ ce ∈ cd265_6, okB (yO 265) (yC 265) ce = true := List.all_eq_true.mp (by decide +kernel)
def cd265_7 : List CE := [(1098, .iconst 0, 1, 0, 0, .int 0, []), (1099, .ireturn, 1, 0, 0, .null, []), (1100, .aload_n 1, 1, 0, 0, .null, []), (1101, .aload_n 0, 1, 0, 0, .null, []), (1102, .iload_n 3, 1, 0, 0, .null, []), (1103, .iconst 1, 1, 0, 0, .int 1, []), (1104, .iadd, 1, 0, 0, .null, []), (1105, .iaload, 1, 0, 0, .null, []), (1106, .invokevirtual 138, 3, 123, 0, .null, []), (1109, .aload_n 2, 1, 0, 0, .null, []), (1110, .aload_n 0, 1, 0, 0, .null, []), (1111, .iload_n 3, 1, 0, 0, .null, []), (1112, .iconst 1, 1, 0, 0, .int 1, []), (1113, .iadd, 1, 0, 0, .null, []), (1114, .iaload, 1, 0, 0, .null, []), (1115, .invokevirtual 141, 3, 227, 0, .null, []), (1118, .if_icmp .eq 319, 3, 1437, 0, .null, []), (1121, .iconst 0, 1, 0, 0, .int 0, []), (1122, .ireturn, 1, 0, 0, .null, []), (1123, .aload_n 1, 1, 0, 0, .null, []), (1124, .aload_n 0, 1, 0, 0, .null, []), (1125, .iload_n 3, 1, 0, 0, .null, []), (1126, .iconst 1, 1, 0, 0, .int 1, []), (1127, .iadd, 1, 0, 0, .null, []), (1128, .iaload, 1, 0, 0, .null, []), (1129, .invokevirtual 142, 3, 124, 0, .null, []), (1132, .aload_n 2, 1, 0, 0, .null, []), (1133, .aload_n 0, 1, 0, 0, .null, []), (1134, .iload_n 3, 1, 0, 0, .null, []), (1135, .iconst 1, 1, 0, 0, .int 1, []), (1136, .iadd, 1, 0, 0, .null, []), (1137, .iaload, 1, 0, 0, .null, []), (1138, .invokevirtual 145, 3, 229, 0, .null, []), (1141, .if_icmp .eq 296, 3, 1437, 0, .null, []), (1144, .iconst 0, 1, 0, 0, .int 0, []), (1145, .ireturn, 1, 0, 0, .null, []), (1146, .aload_n 1, 1, 0, 0, .null, []), (1147, .aload_n 0, 1, 0, 0, .null, []), (1148, .iload_n 3, 1, 0, 0, .null, []), (1149, .iconst 1, 1, 0, 0, .int 1, []), (1150, .iadd, 1, 0, 0, .null, []), (1151, .iaload, 1, 0, 0, .null, []), (1152, .aload_n 0, 1, 0, 0, .null, []), (1153, .iload_n 3, 1, 0, 0, .null, []), (1154, .iconst 2, 1, 0, 0, .int 2, []), (1155, .iadd, 1, 0, 0, .null, []), (1156, .iaload, 1, 0, 0, .null, []), (1157, .invokevirtual 146, 3, 125, 0, .null, []), (1160, .aload_n 2, 1, 0, 0, .null, []), (1161, .aload_n 0, 1, 0, 0, .null, []), (1162, .iload_n 3, 1, 0, 0, .null, []), (1163, .iconst 1, 1, 0, 0, .int 1, []), (1164, .iadd, 1, 0, 0, .null, []), (1165, .iaload, 1, 0, 0, .null, []), (1166, .aload_n 0, 1, 0, 0, .null, []), (1167, .iload_n 3, 1, 0, 0, .null, []), (1168, .iconst 2, 1, 0, 0, .int 2, []), (1169, .iadd, 1, 0, 0, .null, []), (1170, .iaload, 1, 0, 0, .null, []), (1171, .invokevirtual 149, 3, 232, 0, .null, []), (1174, .if_icmp .eq 263, 3, 1437, 0, .null, []), (1177, .iconst 0, 1, 0, 0, .int 0, []), (1178, .ireturn, 1, 0, 0, .null, []), (1179, .aload_n 1, 1, 0, 0, .null, []), (1180, .aload_n 0, 1, 0, 0, .null, []), (1181, .iload_n 3, 1, 0, 0, .null, []), (1182, .iconst 1, 1, 0, 0, .int 1, []), (1183, .iadd, 1, 0, 0, .null, []), (1184, .iaload, 1, 0, 0, .null, []), (1185, .aload_n 0, 1, 0, 0, .null, []), (1186, .iload_n 3, 1, 0, 0, .null, []), (1187, .iconst 2, 1, 0, 0, .int 2, []), (1188, .iadd, 1, 0, 0, .null, []), (1189, .iaload, 1, 0, 0, .null, []), (1190, .invokevirtual 150, 3, 126, 0, .null, []), (1193, .aload_n 2, 1, 0, 0, .null, []), (1194, .aload_n 0, 1, 0, 0, .null, []), (1195, .iload_n 3, 1, 0, 0, .null, []), (1196, .iconst 1, 1, 0, 0, .int 1, []), (1197, .iadd, 1, 0, 0, .null, []), (1198, .iaload, 1, 0, 0, .null, []), (1199, .aload_n 0, 1, 0, 0, .null, []), (1200, .iload_n 3, 1, 0, 0, .null, []), (1201, .iconst 2, 1, 0, 0, .int 2, []), (1202, .iadd, 1, 0, 0, .null, []), (1203, .iaload, 1, 0, 0, .null, []), (1204, .invokevirtual 153, 3, 233, 0, .null, []), (1207, .if_icmp .eq 230, 3, 1437, 0, .null, []), (1210, .iconst 0, 1, 0, 0, .int 0, []), (1211, .ireturn, 1, 0, 0, .null, []), (1212, .aload_n 1, 1, 0, 0, .null, []), (1213, .invokevirtual 154, 3, 127, 0, .null, []), (1216, .aload_n 2, 1, 0, 0, .null, []), (1217, .invokevirtual 157, 3, 242, 0, .null, []), (1220, .if_icmp .eq 217, 3, 1437, 0, .null, []), (1223, .iconst 0, 1, 0, 0, .int 0, []), (1224, .ireturn, 1, 0, 0, .null, []), (1225, .aload_n 1, 1, 0, 0, .null, []), (1226, .invokevirtual 158, 3, 128, 0, .null, []), (1229, .aload_n 2, 1, 0, 0, .null, [])]
set_option maxRecDepth 100000 in
theorem ck265_7 : ∀ ce ∈ cd265_7, okB (yO 265) (yC 265) ce = true := List.all_eq_true.mp (by decide +kernel)
def cd265_8 : List CE := [(1230, .invokevirtual 161, 3, 243, 0, .null, []), (1233, .if_icmp .eq 204, 3, 1437, 0, .null, []), (1236, .iconst 0, 1, 0, 0, .int 0, []), (1237, .ireturn, 1, 0, 0, .null, []), (1238, .aload_n 1, 1, 0, 0, .null, []), (1239, .aload_n 0, 1, 0, 0, .null, []), (1240, .iload_n 3, 1, 0, 0, .null, []), (1241, .iconst 1, 1, 0, 0, .int 1, []), (1242, .iadd, 1, 0, 0, .null, []), (1243, .iaload, 1, 0, 0, .null, []), (1244, .aload_n 0, 1, 0, 0, .null, []), (1245, .iload_n 3, 1, 0, 0, .null, []), (1246, .iconst 2, 1, 0, 0, .int 2, []), (1247, .iadd, 1, 0, 0, .null, []), (1248, .iaload, 1, 0, 0, .null, []), (1249, .invokevirtual 162, 3, 129, 0, .null, []), (1252, .aload_n 2, 1, 0, 0, .null, []), (1253, .aload_n 0, 1, 0, 0, .null, []), (1254, .iload_n 3, 1, 0, 0, .null, []), (1255, .iconst 1, 1, 0, 0, .int 1, []), (1256, .iadd, 1, 0, 0, .null, []), (1257, .iaload, 1, 0, 0, .null, []), (1258, .aload_n 0, 1, 0, 0, .null, []), (1259, .iload_n 3, 1, 0, 0, .null, []), (1260, .iconst 2, 1, 0, 0, .int 2, []), (1261, .iadd, 1, 0, 0, .null, []), (1262, .iaload, 1, 0, 0, .null, []), (1263, .invokevirtual 165, 3, 244, 0, .null, []), (1266, .if_icmp .eq 171, 3, 1437, 0, .null, []), (1269, .iconst 0, 1, 0, 0, .int 0, []), (1270, .ireturn, 1, 0, 0, .null, []), (1271, .aload_n 1, 1, 0, 0, .null, []), (1272, .invokevirtual 166, 3, 130, 0, .null, []), (1275, .aload_n 2, 1, 0, 0, .null, []), (1276, .invokevirtual 169, 3, 245, 0, .null, []), (1279, .if_icmp .eq 158, 3, 1437, 0, .null, []), (1282, .iconst 0, 1, 0, 0, .int 0, []), (1283, .ireturn, 1, 0, 0, .null, []), (1284, .aload_n 1, 1, 0, 0, .null, []), (1285, .invokevirtual 170, 3, 131, 0, .null, []), (1288, .aload_n 2, 1, 0, 0, .null, []), (1289, .invokevirtual 173, 3, 246, 0, .null, []), (1292, .if_icmp .eq 145, 3, 1437, 0, .null, []), (1295, .iconst 0, 1, 0, 0, .int 0, []), (1296, .ireturn, 1, 0, 0, .null, []), (1297, .aload_n 1, 1, 0, 0, .null, []), (1298, .invokevirtual 174, 3, 132, 0, .null, []), (1301, .aload_n 2, 1, 0, 0, .null, []), (1302, .invokevirtual 177, 3, 247, 0, .null, []), (1305, .if_icmp .eq 132, 3, 1437, 0, .null, []), (1308, .iconst 0, 1, 0, 0, .int 0, []), (1309, .ireturn, 1, 0, 0, .null, []), (1310, .aload_n 1, 1, 0, 0, .null, []), (1311, .invokevirtual 178, 3, 133, 0, .null, []), (1314, .aload_n 2, 1, 0, 0, .null, []), (1315, .invokevirtual 181, 3, 248, 0, .null, []), (1318, .if_icmp .eq 119, 3, 1437, 0, .null, []), (1321, .iconst 0, 1, 0, 0, .int 0, []), (1322, .ireturn, 1, 0, 0, .null, []), (1323, .aload_n 1, 1, 0, 0, .null, []), (1324, .invokevirtual 182, 3, 134, 0, .null, []), (1327, .aload_n 2, 1, 0, 0, .null, []), (1328, .invokevirtual 185, 3, 249, 0, .null, []), (1331, .if_icmp .eq 106, 3, 1437, 0, .null, []), (1334, .iconst 0, 1, 0, 0, .int 0, []), (1335, .ireturn, 1, 0, 0, .null, []), (1336, .aload_n 1, 1, 0, 0, .null, []), (1337, .invokevirtual 186, 3, 135, 0, .null, []), (1340, .aload_n 2, 1, 0, 0, .null, []), (1341, .invokevirtual 190, 3, 250, 0, .null, []), (1344, .lcmp, 1, 0, 0, .null, []), (1345, .ifCond .eq 92, 3, 1437, 0, .null, []), (1348, .iconst 0, 1, 0, 0, .int 0, []), (1349, .ireturn, 1, 0, 0, .null, []), (1350, .aload_n 1, 1, 0, 0, .null, []), (1351, .invokevirtual 191, 3, 136, 0, .null, []), (1354, .aload_n 2, 1, 0, 0, .null, []), (1355, .invokevirtual 194, 3, 251, 0, .null, []), (1358, .lcmp, 1, 0, 0, .null, []), (1359, .ifCond .eq 78, 3, 1437, 0, .null, []), (1362, .iconst 0, 1, 0, 0, .int 0, []), (1363, .ireturn, 1, 0, 0, .null, []), (1364, .aload_n 1, 1, 0, 0, .null, []), (1365, .aload_n 0, 1, 0, 0, .null, []), (1366, .iload_n 3, 1, 0, 0, .null, []), (1367, .iconst 1, 1, 0, 0, .int 1, []), (1368, .iadd, 1, 0, 0, .null, []), (1369, .iaload, 1, 0, 0, .null, []), (1370, .invokevirtual 195, 3, 137, 0, .null, []), (1373, .aload_n 2, 1, 0, 0, .null, []), (1374, .aload_n 0, 1, 0, 0, .null, []), (1375, .iload_n 3, 1, 0, 0, .null, []), (1376, .iconst 1, 1, 0, 0, .int 1, []), (1377, .iadd, 1, 0, 0, .null, []), (1378, .iaload, 1, 0, 0, .null, []), (1379, .invokevirtual 198, 3, 255, 0, .null, []), (1382, .if_icmp .eq 55, 3, 1437, 0, .null, []), (1385, .iconst 0, 1, 0, 0, .int 0, []), (1386, .ireturn, 1, 0, 0, .null, []), (1387, .aload_n 1, 1, 0, 0, .null, [])]
set_option maxRecDepth 100000 in
theorem ck265_8 : ∀ ce ∈ cd265_8, okB (yO 265) (yC 265) ce = true := List.all_eq_true.mp (by decide +kernel)
def cd265_9 : List CE := [(1388, .invokevirtual 199, 3, 138, 0, .null, []), (1391, .aload_n 2, 1, 0, 0, .null, []), (1392, .invokevirtual 202, 3, 256, 0, .null, []), (1395, .if_icmp .eq 42, 3, 1437, 0, .null, []), (1398, .iconst 0, 1, 0, 0, .int 0, []), (1399, .ireturn, 1, 0, 0, .null, []), (1400, .aload_n 1, 1, 0, 0, .null, []), (1401, .aload_n 0, 1, 0, 0, .null, []), (1402, .iload_n 3, 1, 0, 0, .null, []), (1403, .iconst 1, 1, 0, 0, .int 1, []), (1404, .iadd, 1, 0, 0, .null, []), (1405, .iaload, 1, 0, 0, .null, []), (1406, .invokevirtual 203, 3, 139, 0, .null, []), (1409, .aload_n 2, 1, 0, 0, .null, []), (1410, .aload_n 0, 1, 0, 0, .null, []), (1411, .iload_n 3, 1, 0, 0, .null, []), (1412, .iconst 1, 1, 0, 0, .int 1, []), (1413, .iadd, 1, 0, 0, .null, []), (1414, .iaload, 1, 0, 0, .null, []), (1415, .invokevirtual 206, 3, 257, 0, .null, []), (1418, .if_icmp .eq 19, 3, 1437, 0, .null, []), (1421, .iconst 0, 1, 0, 0, .int 0, []), (1422, .ireturn, 1, 0, 0, .null, []), (1423, .aload_n 1, 1, 0, 0, .null, []), (1424, .invokevirtual 207, 3, 140, 0, .null, []), (1427, .aload_n 2, 1, 0, 0, .null, []), (1428, .invokevirtual 210, 3, 259, 0, .null, []), (1431, .lcmp, 1, 0, 0, .null, []), (1432, .ifCond .eq 5, 3, 1437, 0, .null, []), (1435, .iconst 0, 1, 0, 0, .int 0, []), (1436, .ireturn, 1, 0, 0, .null, []), (1437, .iinc 3 6, 3, 0, 0, .int 6, []), (1440, .goto (-1422), 3, 18, 0, .null, []), (1443, .iconst 1, 1, 0, 0, .int 1, []), (1444, .ireturn, 1, 0, 0, .null, [])]
set_option maxRecDepth 100000 in
theorem ck265_9 : ∀ ce ∈ cd265_9, okB (yO 265) (yC 265) ce = true := List.all_eq_true.mp (by decide +kernel)
def cd265 : List CE := cd265_0 ++ (cd265_1 ++ (cd265_2 ++ (cd265_3 ++ (cd265_4 ++ (cd265_5 ++ (cd265_6 ++ (cd265_7 ++ (cd265_8 ++ (cd265_9)))))))))
theorem ck265 : ∀ ce ∈ cd265, okB (yO 265) (yC 265) ce = true := List.forall_mem_append.mpr ⟨ck265_0, List.forall_mem_append.mpr ⟨ck265_1, List.forall_mem_append.mpr ⟨ck265_2, List.forall_mem_append.mpr ⟨ck265_3, List.forall_mem_append.mpr ⟨ck265_4, List.forall_mem_append.mpr ⟨ck265_5, List.forall_mem_append.mpr ⟨ck265_6, List.forall_mem_append.mpr ⟨ck265_7, List.forall_mem_append.mpr ⟨ck265_8, ck265_9⟩⟩⟩⟩⟩⟩⟩⟩⟩
end
section
/-! the shapes of all cells behind both constructors (by program, wip/whole/sim.py): 0 the script, 1 LETTERS, 2 ABOVE, 3 to 76 the class's, 77 to 109 the reference's -/
def SH (n : Nat) : SHL := [(20, n, []), (20, 6, []), (20, 6, []), (10, 16, [some 4, some 5, some 6, some 12, some 18, some 19, some 28, some 31, some 32, some 33, some 36, some 38, none, none, none, none]), (17, 6, [some 39, some 41, some 43, some 45, some 47, some 49]), (17, 4, [some 51, some 53, some 55, some 57]), (9, 7, [none, some 7, some 8, none, some 9, some 10, some 11]), (12, 5, []), (12, 5, []), (12, 12, []), (12, 12, []), (12, 12, []), (0, 6, [some 6, none, some 13, some 16, some 17, none]), (16, 2, [some 14, some 15]), (7, 4, [none, none, none, none]), (7, 4, [none, none, none, none]), (12, 40, []), (12, 40, []), (15, 3, [some 59, some 65, some 71]), (4, 5, [some 20, some 26, some 27, none, none]), (9, 7, [none, some 21, some 22, none, some 23, some 24, some 25]), (12, 5, []), (12, 5, []), (12, 12, []), (12, 12, []), (12, 12, []), (12, 2, []), (12, 2, []), (2, 3, [some 29, some 30, none]), (13, 2048, []), (13, 2048, []), (5, 4, [some 12, some 6, some 28, none]), (1, 5, [some 12, some 6, some 28, none, none]), (6, 5, [some 12, some 6, some 34, none, some 35]), (12, 8, []), (12, 324, []), (3, 3, [some 6, some 37, none]), (12, 5, []), (12, 6, []), (8, 2, [some 40, none]), (12, 40, []), (8, 2, [some 42, none]), (12, 40, []), (8, 2, [some 44, none]), (12, 40, []), (8, 2, [some 46, none]), (12, 40, []), (8, 2, [some 48, none]), (12, 40, []), (8, 2, [some 50, none]), (12, 40, []), (8, 2, [some 52, none]), (12, 80, []), (8, 2, [some 54, none]), (12, 80, []), (8, 2, [some 56, none]), (12, 80, []), (8, 2, [some 58, none]), (12, 80, []), (0, 6, [some 6, none, some 60, some 63, some 64, none]), (16, 2, [some 61, some 62]), (7, 4, [none, none, none, none]), (7, 4, [none, none, none, none]), (12, 40, []), (12, 40, []), (0, 6, [some 6, none, some 66, some 69, some 70, none]), (16, 2, [some 67, some 68]), (7, 4, [none, none, none, none]), (7, 4, [none, none, none, none]), (12, 40, []), (12, 40, []), (0, 6, [some 6, none, some 72, some 75, some 76, none]), (16, 2, [some 73, some 74]), (7, 4, [none, none, none, none]), (7, 4, [none, none, none, none]), (12, 40, []), (12, 40, []), (11, 47, [some 78, some 79, none, none, some 80, some 81, none, some 82, some 83, some 84, none, some 85, none, none, none, some 86, some 87, some 88, some 89, some 90, none, none, none, some 91, some 92, some 93, some 94, some 95, some 96, none, none, some 97, some 98, some 99, none, some 100, some 101, some 102, some 103, none, some 104, some 105, some 106, some 107, some 108, some 109, none]), (12, 1156, []), (14, 3, []), (12, 5, []), (12, 5, []), (12, 12, []), (12, 12, []), (12, 12, []), (12, 6, []), (12, 6, []), (12, 240, []), (12, 4, []), (12, 320, []), (12, 40, []), (12, 5, []), (12, 5, []), (12, 12, []), (12, 12, []), (12, 12, []), (12, 4, []), (12, 78, []), (12, 13, []), (12, 2, []), (12, 13, []), (12, 13, []), (12, 13, []), (12, 13, []), (12, 8, []), (12, 2, []), (12, 8, []), (13, 13, []), (13, 13, []), (12, 13, [])]
theorem MT.by {G : GG} {y d : Nat} {A L : List Value} {σ : MH} {Q : Option Value → MH → Prop} {C : List CE} (hC : ∀ ce ∈ C, okB (yO y) (yC y) ce = true) (hy : y < NMT) (hL : lvI (yL y) A = L) (hn : (lv0 A).length ≤ yL y) (hpc : pcH C = 0) (f : Nat) (cuts : List Nat) (h : wp G y d Q cuts C f C 0 0 L [] σ) : MT G (d + 1) y A σ Q := by
  have hY := Y_ok hy
  have h1 := EV.of_wp hC hY.2.2.2.2.2.2.2.1 hY.2.2.2.2.2.2.1 (fun h => (hY.2.2.2.2.2.2.2.2.2.2 h).2.1) f C 0 0 L [] σ (fun _ h => h) h
  rw [hpc] at h1
  exact MT.of hL hn hY.2.1 h1
theorem EV.at {G : GG} {y d k n pc : Nat} {L st : List Value} {σ : MH} {Q : Option Value → MH → Prop} {C : List CE} (hC : ∀ ce ∈ C, okB (yO y) (yC y) ce = true) (hy : y < NMT) (f : Nat) (cuts : List Nat) (h : findC C pc (fun r => wp G y d Q cuts C f r k n L st σ)) : EV G y d k n pc L st σ Q := by
  have hY := Y_ok hy
  obtain ⟨pre, r, h1, h2, h3, h4⟩ := findC_s h
  have h5 := EV.of_wp hC hY.2.2.2.2.2.2.2.1 hY.2.2.2.2.2.2.1 (fun h => (hY.2.2.2.2.2.2.2.2.2.2 h).2.1) f r k n L st σ (fun c hc => by rw [h1]; exact List.mem_append_right _ hc) h4
  rw [h2] at h5
  exact h5
def b2i (b : Bool) : Int32 := match b with
  | true => 1
  | false => 0
end
section
/-! contracts: the smallest methods (each as: if Q holds of the answer and the memory behind it, the call is well) -/
theorem in_nI {i N : Nat} (h : i < N) (hN : N ≤ 65536) : vp_in (nI i) N := vp_in_nI h (by omega)
theorem cl_nI {i N : Nat} (h : i < N) (hN : N ≤ 65536) : (nI i).toNatClampNeg = i := nI_clamp (by omega)
def btB (told kinds : Nat → Int32) (i j : Nat) : Bool := decide (jshr (told i) (nI j) &&& 1 = 1 ∧ ¬ (kinds i = 3 ∧ kinds j = 5))
/-- the set of those below n of which f holds, as bits -/
def bset (f : Nat → Bool) : Nat → Int32
  | 0 => 0
  | j + 1 => bset f j ||| (match f j with
    | true => jshl 1 (nI j)
    | false => 0)
/-- how many below n f holds of -/
def cntI (f : Nat → Bool) : Nat → Int32
  | 0 => 0
  | j + 1 => cntI f j + b2i (f j)
/-- KINDS: of which one each is besides itself -/
def abv (q : Nat) : Int32 := match q with
  | 4 => 2
  | 5 => 1
  | _ => 0
def ltr (q : Nat) : Int32 := match q with
  | 0 => 115
  | 1 => 103
  | 2 => 98
  | 3 => 97
  | 4 => 119
  | _ => 109
def EX (I : Nat → Nat → Int32) : Prop := ∀ q, q < 6 → I 1 q = ltr q ∧ I 2 q = abv q
def isK (q : Nat) (kd : Int32) : Bool := decide (nI q = kd ∨ abv q = kd)
section
variable {G : GG} {d n : Nat} {σ : MH} {I : Nat → Nat → Int32} {J : Nat → Nat → Int64} {Q : Option Value → MH → Prop}
theorem c_within {x e : Int32} (h : Q (some (.int (b2i (decide (0 ≤ x ∧ x < e))))) σ) : MT G (d + 1) 142 [.int x, .int e] σ Q := by
  refine MT.by ck142 (by decide) rfl (Nat.le_of_ble_eq_true rfl) rfl 300 [] ?_
  conv => whnf
  try dsimp only
  refine ⟨fun h1 => ?_, fun h1 => ?_⟩
  · conv => whnf
    try dsimp only
    refine ⟨Or.inl rfl, ?_⟩
    rw [decide_eq_false (fun h => Int32.not_le.mpr h1 h.1)] at h
    exact h
  · conv => whnf
    try dsimp only
    refine ⟨fun h2 => ?_, fun h2 => ?_⟩
    · conv => whnf
      try dsimp only
      refine ⟨Or.inl rfl, ?_⟩
      rw [decide_eq_false (fun h => Int32.not_le.mpr h.2 h2)] at h
      exact h
    · conv => whnf
      try dsimp only
      refine ⟨Or.inr rfl, ?_⟩
      rw [decide_eq_true ⟨Int32.not_lt.mp h1, Int32.not_le.mp h2⟩] at h
      exact h
theorem c_bit {x e : Int32} (h : Q (some (.int (jshr x e &&& 1))) σ) : MT G (d + 1) 143 [.int x, .int e] σ Q := by
  refine MT.by ck143 (by decide) rfl (Nat.le_of_ble_eq_true rfl) rfl 300 [] ?_
  conv => whnf
  try dsimp only
  exact ⟨trivial, h⟩
theorem c_withBit {x e b : Int32} (h : Q (some (.int (if b = 1 then x ||| jshl 1 e else x &&& (jshl 1 e ^^^ (-1))))) σ) : MT G (d + 1) 144 [.int x, .int e, .int b] σ Q := by
  refine MT.by ck144 (by decide) rfl (Nat.le_of_ble_eq_true rfl) rfl 300 [] ?_
  conv => whnf
  try dsimp only
  refine ⟨fun h1 => ?_, fun h1 => ?_⟩
  · conv => whnf
    try dsimp only
    rw [if_neg h1] at h
    exact ⟨trivial, h⟩
  · conv => whnf
    try dsimp only
    rw [if_pos h1] at h
    exact ⟨trivial, h⟩
theorem c_isOf {i q : Nat} {kd : Int32} (hi : i < 5) (hq : q < 6) (hk : I 7 i = nI q) (hE : EX I) (h : Q (some (.int (b2i (isK q kd)))) (SH n, I, J)) : MT G (d + 1) 80 [.ref 6, .int (nI i), .int kd] (SH n, I, J) Q := by
  have ci : (nI i).toNatClampNeg = i := cl_nI hi (by decide)
  have cq : (nI q).toNatClampNeg = q := cl_nI hq (by decide)
  refine MT.by ck80 (by decide) rfl (Nat.le_of_ble_eq_true rfl) rfl 300 [] ?_
  conv => whnf
  try dsimp only
  refine ⟨in_nI hi (by decide), ?_⟩
  conv => whnf
  try dsimp only
  rw [ci, hk]
  refine ⟨fun h1 => ?_, fun h1 => ?_⟩
  · conv => whnf
    try dsimp only
    refine ⟨Or.inr rfl, ?_⟩
    rw [show isK q kd = true from decide_eq_true (Or.inl h1)] at h
    exact h
  · conv => whnf
    try dsimp only
    refine ⟨in_nI hi (by decide), ?_⟩
    conv => whnf
    try dsimp only
    rw [ci, hk]
    refine ⟨in_nI hq (by decide), ?_⟩
    conv => whnf
    try dsimp only
    rw [cq, (hE q hq).2]
    refine ⟨fun h2 => ?_, fun h2 => ?_⟩
    · conv => whnf
      try dsimp only
      refine ⟨Or.inl rfl, ?_⟩
      rw [show isK q kd = false from decide_eq_false (fun z => z.elim h1 h2)] at h
      exact h
    · conv => whnf
      try dsimp only
      refine ⟨Or.inr rfl, ?_⟩
      rw [show isK q kd = true from decide_eq_true (Or.inr h2)] at h
      exact h
theorem c_beats {i j : Nat} (hi : i < 5) (hj : j < 5) (h : Q (some (.int (b2i (btB (I 8) (I 7) i j)))) (SH n, I, J)) : MT G (d + 2) 81 [.ref 6, .int (nI i), .int (nI j)] (SH n, I, J) Q := by
  have ci : (nI i).toNatClampNeg = i := cl_nI hi (by decide)
  have cj : (nI j).toNatClampNeg = j := cl_nI hj (by decide)
  refine MT.by ck81 (by decide) rfl (Nat.le_of_ble_eq_true rfl) rfl 300 [] ?_
  conv => whnf
  try dsimp only
  refine ⟨in_nI hi (by decide), ?_⟩
  conv => whnf
  try dsimp only
  refine ⟨trivial, c_bit ?_⟩
  refine EV.at ck81 (by decide) 300 [] ?_
  conv => whnf
  try dsimp only
  rw [ci]
  refine ⟨fun h1 => ?_, fun h1 => ?_⟩
  · conv => whnf
    try dsimp only
    refine ⟨Or.inl rfl, ?_⟩
    rw [show btB (I 8) (I 7) i j = false from decide_eq_false (fun q => h1 q.1)] at h
    exact h
  · conv => whnf
    try dsimp only
    refine ⟨in_nI hi (by decide), ?_⟩
    conv => whnf
    try dsimp only
    rw [ci]
    refine ⟨fun h2 => ?_, fun h2 => ?_⟩
    · conv => whnf
      try dsimp only
      refine ⟨Or.inr rfl, ?_⟩
      rw [show btB (I 8) (I 7) i j = true from decide_eq_true ⟨h1, fun q => h2 q.1⟩] at h
      exact h
    · conv => whnf
      try dsimp only
      refine ⟨in_nI hj (by decide), ?_⟩
      conv => whnf
      try dsimp only
      rw [cj]
      refine ⟨fun h3 => ?_, fun h3 => ?_⟩
      · conv => whnf
        try dsimp only
        refine ⟨Or.inl rfl, ?_⟩
        rw [show btB (I 8) (I 7) i j = false from decide_eq_false (fun q => q.2 ⟨h2, h3⟩)] at h
        exact h
      · conv => whnf
        try dsimp only
        refine ⟨Or.inr rfl, ?_⟩
        rw [show btB (I 8) (I 7) i j = true from decide_eq_true ⟨h1, fun q => h3 q.2⟩] at h
        exact h
theorem c_beatenBy {i s : Nat} (hi : i < 5) (hs : s ≤ 5) (hI : I 6 0 = nI s) (h : Q (some (.int (bset (fun j => btB (I 8) (I 7) i j) s))) (SH n, I, J)) : MT G (d + 3) 82 [.ref 6, .int (nI i)] (SH n, I, J) Q := by
  have loop : ∀ m j, j + m = s → EV G 82 (d + 2) 0 0 4 [.ref 6, .int (nI i), .int (bset (fun j => btB (I 8) (I 7) i j) j), .int (nI j)] [] (SH n, I, J) Q := by
    intro m
    induction m with
    | zero =>
      intro j hj
      have hj : j = s := hj
      subst hj
      refine EV.at ck82 (by decide) 300 [] ?_
      conv => whnf
      try dsimp only
      rw [hI]
      refine ⟨fun _ => ?_, fun h1 => absurd (nI_le (Nat.le_refl j) (by omega)) h1⟩
      conv => whnf
      try dsimp only
      exact ⟨trivial, h⟩
    | succ m ih =>
      intro j hj
      have ihj := ih (j + 1) (by omega)
      refine EV.at ck82 (by decide) 300 [] ?_
      conv => whnf
      try dsimp only
      rw [hI]
      refine ⟨fun h1 => absurd h1 (nI_ge (show j < s by omega) (by omega)), fun _ => ?_⟩
      conv => whnf
      try dsimp only
      refine ⟨trivial, c_beats hi (show j < 5 by omega) ?_⟩
      cases hb : btB (I 8) (I 7) i j
      · have e : bset (fun j => btB (I 8) (I 7) i j) (j + 1) = bset (fun j => btB (I 8) (I 7) i j) j ||| 0 := by simp only [bset, hb]
        rw [e, nI_succ] at ihj
        refine EV.at ck82 (by decide) 300 [] ?_
        conv => whnf
        try dsimp only
        refine ⟨fun _ => ?_, fun h1 => absurd rfl h1⟩
        conv => whnf
        try dsimp only
        exact ⟨trivial, ihj⟩
      · have e : bset (fun j => btB (I 8) (I 7) i j) (j + 1) = bset (fun j => btB (I 8) (I 7) i j) j ||| jshl 1 (nI j) := by simp only [bset, hb]
        rw [e, nI_succ] at ihj
        refine EV.at ck82 (by decide) 300 [] ?_
        conv => whnf
        try dsimp only
        refine ⟨fun h1 => absurd h1 (by decide), fun _ => ?_⟩
        conv => whnf
        try dsimp only
        exact ⟨trivial, ihj⟩
  refine MT.by ck82 (by decide) rfl (Nat.le_of_ble_eq_true rfl) rfl 300 [4] ?_
  conv => whnf
  try dsimp only
  exact ⟨trivial, loop s 0 (by omega)⟩
theorem c_beatersOf {i s : Nat} (hi : i < 5) (hs : s ≤ 5) (hI : I 6 0 = nI s) (h : Q (some (.int (bset (fun j => btB (I 8) (I 7) j i) s))) (SH n, I, J)) : MT G (d + 3) 83 [.ref 6, .int (nI i)] (SH n, I, J) Q := by
  have loop : ∀ m j, j + m = s → EV G 83 (d + 2) 0 0 4 [.ref 6, .int (nI i), .int (bset (fun j => btB (I 8) (I 7) j i) j), .int (nI j)] [] (SH n, I, J) Q := by
    intro m
    induction m with
    | zero =>
      intro j hj
      have hj : j = s := hj
      subst hj
      refine EV.at ck83 (by decide) 300 [] ?_
      conv => whnf
      try dsimp only
      rw [hI]
      refine ⟨fun _ => ?_, fun h1 => absurd (nI_le (Nat.le_refl j) (by omega)) h1⟩
      conv => whnf
      try dsimp only
      exact ⟨trivial, h⟩
    | succ m ih =>
      intro j hj
      have ihj := ih (j + 1) (by omega)
      refine EV.at ck83 (by decide) 300 [] ?_
      conv => whnf
      try dsimp only
      rw [hI]
      refine ⟨fun h1 => absurd h1 (nI_ge (show j < s by omega) (by omega)), fun _ => ?_⟩
      conv => whnf
      try dsimp only
      refine ⟨trivial, c_beats (show j < 5 by omega) hi ?_⟩
      cases hb : btB (I 8) (I 7) j i
      · have e : bset (fun j => btB (I 8) (I 7) j i) (j + 1) = bset (fun j => btB (I 8) (I 7) j i) j ||| 0 := by simp only [bset, hb]
        rw [e, nI_succ] at ihj
        refine EV.at ck83 (by decide) 300 [] ?_
        conv => whnf
        try dsimp only
        refine ⟨fun _ => ?_, fun h1 => absurd rfl h1⟩
        conv => whnf
        try dsimp only
        exact ⟨trivial, ihj⟩
      · have e : bset (fun j => btB (I 8) (I 7) j i) (j + 1) = bset (fun j => btB (I 8) (I 7) j i) j ||| jshl 1 (nI j) := by simp only [bset, hb]
        rw [e, nI_succ] at ihj
        refine EV.at ck83 (by decide) 300 [] ?_
        conv => whnf
        try dsimp only
        refine ⟨fun h1 => absurd h1 (by decide), fun _ => ?_⟩
        conv => whnf
        try dsimp only
        exact ⟨trivial, ihj⟩
  refine MT.by ck83 (by decide) rfl (Nat.le_of_ble_eq_true rfl) rfl 300 [4] ?_
  conv => whnf
  try dsimp only
  exact ⟨trivial, loop s 0 (by omega)⟩
end
end
section
/-! contracts: the class's table -/
/-- Integer.bitCount as the library has it -/
def pop1 (i : Int32) : Int32 := i - (jushr i 1 &&& 1431655765)
def pop2 (i : Int32) : Int32 := (i &&& 858993459) + (jushr i 2 &&& 858993459)
def pop3 (i : Int32) : Int32 := (i + jushr i 4) &&& 252645135
def pop4 (i : Int32) : Int32 := i + jushr i 8
def pop5 (i : Int32) : Int32 := i + jushr i 16
def popJ (i : Int32) : Int32 := pop5 (pop4 (pop3 (pop2 (pop1 i)))) &&& 63
/-- the cheapest of those into x: NONE (-9) if there is none -/
def cheapest (into cost : Nat → Int32) (x : Int32) : Nat → Int32
  | 0 => -9
  | k + 1 => if into k = x ∧ (cheapest into cost x k = -9 ∨ cost k < cheapest into cost x k) then cost k else cheapest into cost x k
def beastsI (told kinds : Nat → Int32) (x : Int32) : Nat → Int32
  | 0 => 0
  | j + 1 => beastsI told kinds x j + (if kinds j = 3 then jshr (told j) x &&& 1 else 0)
section
variable {G : GG} {d n : Nat} {σ : MH} {I : Nat → Nat → Int32} {J : Nat → Nat → Int64} {Q : Option Value → MH → Prop}
theorem c_bitCount {x : Int32} (h : Q (some (.int (popJ x))) σ) : MT G (d + 1) 261 [.int x] σ Q := by
  refine MT.by ck261 (by decide) rfl (Nat.le_of_ble_eq_true rfl) rfl 300 [] ?_
  conv => whnf
  try dsimp only
  exact ⟨trivial, h⟩
theorem c_lead {i s : Nat} (hi : i < 5) (hs : s ≤ 5) (hI : I 6 0 = nI s) (h : Q (some (.int (popJ (bset (fun j => btB (I 8) (I 7) i j) s) - popJ (bset (fun j => btB (I 8) (I 7) j i) s)))) (SH n, I, J)) : MT G (d + 4) 84 [.ref 6, .int (nI i)] (SH n, I, J) Q := by
  refine MT.by ck84 (by decide) rfl (Nat.le_of_ble_eq_true rfl) rfl 300 [] ?_
  conv => whnf
  try dsimp only
  refine ⟨trivial, c_beatenBy hi hs hI ?_⟩
  refine EV.at ck84 (by decide) 300 [] ?_
  conv => whnf
  try dsimp only
  refine ⟨trivial, c_bitCount ?_⟩
  refine EV.at ck84 (by decide) 300 [] ?_
  conv => whnf
  try dsimp only
  refine ⟨trivial, c_beatersOf hi hs hI ?_⟩
  refine EV.at ck84 (by decide) 300 [] ?_
  conv => whnf
  try dsimp only
  refine ⟨trivial, c_bitCount ?_⟩
  refine EV.at ck84 (by decide) 300 [] ?_
  conv => whnf
  try dsimp only
  exact ⟨trivial, h⟩
theorem c_changesFrom {c : Nat} {x : Int32} (hc : c ≤ 12) (hI : I 6 3 = nI c) (h : Q (some (.int (cntI (fun k => decide (I 9 k = x)) c))) (SH n, I, J)) : MT G (d + 1) 86 [.ref 6, .int x] (SH n, I, J) Q := by
  have loop : ∀ m j, j + m = c → EV G 86 d 0 0 4 [.ref 6, .int x, .int (cntI (fun k => decide (I 9 k = x)) j), .int (nI j)] [] (SH n, I, J) Q := by
    intro m
    induction m with
    | zero =>
      intro j hj
      have hj : j = c := hj
      subst hj
      refine EV.at ck86 (by decide) 300 [] ?_
      conv => whnf
      try dsimp only
      rw [hI]
      refine ⟨fun _ => ?_, fun h1 => absurd (nI_le (Nat.le_refl j) (by omega)) h1⟩
      conv => whnf
      try dsimp only
      exact ⟨trivial, h⟩
    | succ m ih =>
      intro j hj
      have ihj := ih (j + 1) (by omega)
      have cj : (nI j).toNatClampNeg = j := nI_clamp (by omega)
      refine EV.at ck86 (by decide) 300 [] ?_
      conv => whnf
      try dsimp only
      rw [hI]
      refine ⟨fun h1 => absurd h1 (nI_ge (show j < c by omega) (by omega)), fun _ => ?_⟩
      conv => whnf
      try dsimp only
      refine ⟨in_nI (show j < 12 by omega) (by decide), ?_⟩
      conv => whnf
      try dsimp only
      rw [cj]
      refine ⟨fun h1 => ?_, fun h1 => ?_⟩
      · have e : cntI (fun k => decide (I 9 k = x)) (j + 1) = cntI (fun k => decide (I 9 k = x)) j + 0 := by simp only [cntI, decide_eq_false h1, b2i]
        rw [e, nI_succ] at ihj
        conv => whnf
        try dsimp only
        exact ⟨trivial, ihj⟩
      · have e : cntI (fun k => decide (I 9 k = x)) (j + 1) = cntI (fun k => decide (I 9 k = x)) j + 1 := by simp only [cntI, decide_eq_true h1, b2i]
        rw [e, nI_succ] at ihj
        conv => whnf
        try dsimp only
        exact ⟨trivial, ihj⟩
  refine MT.by ck86 (by decide) rfl (Nat.le_of_ble_eq_true rfl) rfl 300 [4] ?_
  conv => whnf
  try dsimp only
  exact ⟨trivial, loop c 0 (by omega)⟩
theorem c_changesFromD {c : Nat} {x : Int32} (hc : c ≤ 12) (hI : I 20 3 = nI c) (h : Q (some (.int (cntI (fun k => decide (I 23 k = x)) c))) (SH n, I, J)) : MT G (d + 1) 86 [.ref 20, .int x] (SH n, I, J) Q := by
  have loop : ∀ m j, j + m = c → EV G 86 d 0 0 4 [.ref 20, .int x, .int (cntI (fun k => decide (I 23 k = x)) j), .int (nI j)] [] (SH n, I, J) Q := by
    intro m
    induction m with
    | zero =>
      intro j hj
      have hj : j = c := hj
      subst hj
      refine EV.at ck86 (by decide) 300 [] ?_
      conv => whnf
      try dsimp only
      rw [hI]
      refine ⟨fun _ => ?_, fun h1 => absurd (nI_le (Nat.le_refl j) (by omega)) h1⟩
      conv => whnf
      try dsimp only
      exact ⟨trivial, h⟩
    | succ m ih =>
      intro j hj
      have ihj := ih (j + 1) (by omega)
      have cj : (nI j).toNatClampNeg = j := nI_clamp (by omega)
      refine EV.at ck86 (by decide) 300 [] ?_
      conv => whnf
      try dsimp only
      rw [hI]
      refine ⟨fun h1 => absurd h1 (nI_ge (show j < c by omega) (by omega)), fun _ => ?_⟩
      conv => whnf
      try dsimp only
      refine ⟨in_nI (show j < 12 by omega) (by decide), ?_⟩
      conv => whnf
      try dsimp only
      rw [cj]
      refine ⟨fun h1 => ?_, fun h1 => ?_⟩
      · have e : cntI (fun k => decide (I 23 k = x)) (j + 1) = cntI (fun k => decide (I 23 k = x)) j + 0 := by simp only [cntI, decide_eq_false h1, b2i]
        rw [e, nI_succ] at ihj
        conv => whnf
        try dsimp only
        exact ⟨trivial, ihj⟩
      · have e : cntI (fun k => decide (I 23 k = x)) (j + 1) = cntI (fun k => decide (I 23 k = x)) j + 1 := by simp only [cntI, decide_eq_true h1, b2i]
        rw [e, nI_succ] at ihj
        conv => whnf
        try dsimp only
        exact ⟨trivial, ihj⟩
  refine MT.by ck86 (by decide) rfl (Nat.le_of_ble_eq_true rfl) rfl 300 [4] ?_
  conv => whnf
  try dsimp only
  exact ⟨trivial, loop c 0 (by omega)⟩
theorem c_changesInto {c : Nat} {x : Int32} (hc : c ≤ 12) (hI : I 6 3 = nI c) (h : Q (some (.int (cntI (fun k => decide (I 10 k = x)) c))) (SH n, I, J)) : MT G (d + 1) 87 [.ref 6, .int x] (SH n, I, J) Q := by
  have loop : ∀ m j, j + m = c → EV G 87 d 0 0 4 [.ref 6, .int x, .int (cntI (fun k => decide (I 10 k = x)) j), .int (nI j)] [] (SH n, I, J) Q := by
    intro m
    induction m with
    | zero =>
      intro j hj
      have hj : j = c := hj
      subst hj
      refine EV.at ck87 (by decide) 300 [] ?_
      conv => whnf
      try dsimp only
      rw [hI]
      refine ⟨fun _ => ?_, fun h1 => absurd (nI_le (Nat.le_refl j) (by omega)) h1⟩
      conv => whnf
      try dsimp only
      exact ⟨trivial, h⟩
    | succ m ih =>
      intro j hj
      have ihj := ih (j + 1) (by omega)
      have cj : (nI j).toNatClampNeg = j := nI_clamp (by omega)
      refine EV.at ck87 (by decide) 300 [] ?_
      conv => whnf
      try dsimp only
      rw [hI]
      refine ⟨fun h1 => absurd h1 (nI_ge (show j < c by omega) (by omega)), fun _ => ?_⟩
      conv => whnf
      try dsimp only
      refine ⟨in_nI (show j < 12 by omega) (by decide), ?_⟩
      conv => whnf
      try dsimp only
      rw [cj]
      refine ⟨fun h1 => ?_, fun h1 => ?_⟩
      · have e : cntI (fun k => decide (I 10 k = x)) (j + 1) = cntI (fun k => decide (I 10 k = x)) j + 0 := by simp only [cntI, decide_eq_false h1, b2i]
        rw [e, nI_succ] at ihj
        conv => whnf
        try dsimp only
        exact ⟨trivial, ihj⟩
      · have e : cntI (fun k => decide (I 10 k = x)) (j + 1) = cntI (fun k => decide (I 10 k = x)) j + 1 := by simp only [cntI, decide_eq_true h1, b2i]
        rw [e, nI_succ] at ihj
        conv => whnf
        try dsimp only
        exact ⟨trivial, ihj⟩
  refine MT.by ck87 (by decide) rfl (Nat.le_of_ble_eq_true rfl) rfl 300 [4] ?_
  conv => whnf
  try dsimp only
  exact ⟨trivial, loop c 0 (by omega)⟩
theorem c_cheapestInto {c : Nat} {x : Int32} (hc : c ≤ 12) (hI : I 6 3 = nI c) (h : Q (some (.int (cheapest (I 10) (I 11) x c))) (SH n, I, J)) : MT G (d + 1) 88 [.ref 6, .int x] (SH n, I, J) Q := by
  have loop : ∀ m j, j + m = c → EV G 88 d 0 0 5 [.ref 6, .int x, .int (cheapest (I 10) (I 11) x j), .int (nI j)] [] (SH n, I, J) Q := by
    intro m
    induction m with
    | zero =>
      intro j hj
      have hj : j = c := hj
      subst hj
      refine EV.at ck88 (by decide) 300 [] ?_
      conv => whnf
      try dsimp only
      rw [hI]
      refine ⟨fun _ => ?_, fun h1 => absurd (nI_le (Nat.le_refl j) (by omega)) h1⟩
      conv => whnf
      try dsimp only
      exact ⟨trivial, h⟩
    | succ m ih =>
      intro j hj
      have ihj := ih (j + 1) (by omega)
      have cj : (nI j).toNatClampNeg = j := nI_clamp (by omega)
      refine EV.at ck88 (by decide) 300 [] ?_
      conv => whnf
      try dsimp only
      rw [hI]
      refine ⟨fun h1 => absurd h1 (nI_ge (show j < c by omega) (by omega)), fun _ => ?_⟩
      conv => whnf
      try dsimp only
      refine ⟨in_nI (show j < 12 by omega) (by decide), ?_⟩
      conv => whnf
      try dsimp only
      rw [cj]
      refine ⟨fun h1 => ?_, fun h1 => ?_⟩
      · have e : cheapest (I 10) (I 11) x (j + 1) = cheapest (I 10) (I 11) x j := by rw [cheapest, if_neg (fun q => h1 q.1)]
        rw [e, nI_succ] at ihj
        conv => whnf
        try dsimp only
        exact ⟨trivial, ihj⟩
      · conv => whnf
        try dsimp only
        refine ⟨fun h2 => ?_, fun h2 => ?_⟩
        · have e : cheapest (I 10) (I 11) x (j + 1) = I 11 j := by rw [cheapest, if_pos ⟨h1, Or.inl h2⟩]
          rw [e, nI_succ] at ihj
          conv => whnf
          try dsimp only
          refine ⟨in_nI (show j < 12 by omega) (by decide), ?_⟩
          conv => whnf
          try dsimp only
          rw [cj]
          exact ⟨trivial, ihj⟩
        · conv => whnf
          try dsimp only
          refine ⟨in_nI (show j < 12 by omega) (by decide), ?_⟩
          conv => whnf
          try dsimp only
          rw [cj]
          refine ⟨fun h3 => ?_, fun h3 => ?_⟩
          · have e : cheapest (I 10) (I 11) x (j + 1) = cheapest (I 10) (I 11) x j := by rw [cheapest, if_neg (fun q => q.2.elim h2 (fun z => Int32.not_le.mpr z h3))]
            rw [e, nI_succ] at ihj
            conv => whnf
            try dsimp only
            exact ⟨trivial, ihj⟩
          · have e : cheapest (I 10) (I 11) x (j + 1) = I 11 j := by rw [cheapest, if_pos ⟨h1, Or.inr (Int32.not_le.mp h3)⟩]
            rw [e, nI_succ] at ihj
            conv => whnf
            try dsimp only
            refine ⟨in_nI (show j < 12 by omega) (by decide), ?_⟩
            conv => whnf
            try dsimp only
            rw [cj]
            exact ⟨trivial, ihj⟩
  refine MT.by ck88 (by decide) rfl (Nat.le_of_ble_eq_true rfl) rfl 300 [5] ?_
  conv => whnf
  try dsimp only
  exact ⟨trivial, loop c 0 (by omega)⟩
theorem c_beasts {s : Nat} {x : Int32} (hs : s ≤ 5) (hI : I 6 0 = nI s) (h : Q (some (.int (beastsI (I 8) (I 7) x s))) (SH n, I, J)) : MT G (d + 2) 89 [.ref 6, .int x] (SH n, I, J) Q := by
  have loop : ∀ m j, j + m = s → EV G 89 (d+1) 0 0 4 [.ref 6, .int x, .int (beastsI (I 8) (I 7) x j), .int (nI j)] [] (SH n, I, J) Q := by
    intro m
    induction m with
    | zero =>
      intro j hj
      have hj : j = s := hj
      subst hj
      refine EV.at ck89 (by decide) 300 [] ?_
      conv => whnf
      try dsimp only
      rw [hI]
      refine ⟨fun _ => ?_, fun h1 => absurd (nI_le (Nat.le_refl j) (by omega)) h1⟩
      conv => whnf
      try dsimp only
      exact ⟨trivial, h⟩
    | succ m ih =>
      intro j hj
      have ihj := ih (j + 1) (by omega)
      have cj : (nI j).toNatClampNeg = j := nI_clamp (by omega)
      refine EV.at ck89 (by decide) 300 [] ?_
      conv => whnf
      try dsimp only
      rw [hI]
      refine ⟨fun h1 => absurd h1 (nI_ge (show j < s by omega) (by omega)), fun _ => ?_⟩
      conv => whnf
      try dsimp only
      refine ⟨in_nI (show j < 5 by omega) (by decide), ?_⟩
      conv => whnf
      try dsimp only
      rw [cj]
      refine ⟨fun h1 => ?_, fun h1 => ?_⟩
      · have e : beastsI (I 8) (I 7) x (j + 1) = beastsI (I 8) (I 7) x j + 0 := by rw [beastsI, if_neg h1]
        rw [e, nI_succ] at ihj
        conv => whnf
        try dsimp only
        exact ⟨trivial, ihj⟩
      · have e : beastsI (I 8) (I 7) x (j + 1) = beastsI (I 8) (I 7) x j + (jshr (I 8 j) x &&& 1) := by rw [beastsI, if_pos h1]
        rw [e, nI_succ] at ihj
        conv => whnf
        try dsimp only
        refine ⟨in_nI (show j < 5 by omega) (by decide), ?_⟩
        conv => whnf
        try dsimp only
        rw [cj]
        refine ⟨trivial, c_bit ?_⟩
        refine EV.at ck89 (by decide) 300 [] ?_
        conv => whnf
        try dsimp only
        exact ⟨trivial, ihj⟩
  refine MT.by ck89 (by decide) rfl (Nat.le_of_ble_eq_true rfl) rfl 300 [4] ?_
  conv => whnf
  try dsimp only
  exact ⟨trivial, loop s 0 (by omega)⟩
theorem c_countOf {s : Nat} {kd : Int32} {kn : Nat → Nat} (hs : s ≤ 5) (hI : I 6 0 = nI s) (hk : ∀ i, i < s → kn i < 6 ∧ I 7 i = nI (kn i)) (hE : EX I) (h : Q (some (.int (cntI (fun i => isK (kn i) kd) s))) (SH n, I, J)) : MT G (d + 2) 90 [.ref 6, .int kd] (SH n, I, J) Q := by
  have loop : ∀ m j, j + m = s → EV G 90 (d+1) 0 0 4 [.ref 6, .int kd, .int (cntI (fun i => isK (kn i) kd) j), .int (nI j)] [] (SH n, I, J) Q := by
    intro m
    induction m with
    | zero =>
      intro j hj
      have hj : j = s := hj
      subst hj
      refine EV.at ck90 (by decide) 300 [] ?_
      conv => whnf
      try dsimp only
      rw [hI]
      refine ⟨fun _ => ?_, fun h1 => absurd (nI_le (Nat.le_refl j) (by omega)) h1⟩
      conv => whnf
      try dsimp only
      exact ⟨trivial, h⟩
    | succ m ih =>
      intro j hj
      have ihj := ih (j + 1) (by omega)
      have cj : (nI j).toNatClampNeg = j := nI_clamp (by omega)
      refine EV.at ck90 (by decide) 300 [] ?_
      conv => whnf
      try dsimp only
      rw [hI]
      refine ⟨fun h1 => absurd h1 (nI_ge (show j < s by omega) (by omega)), fun _ => ?_⟩
      conv => whnf
      try dsimp only
      refine ⟨trivial, c_isOf (show j < 5 by omega) (hk j (by omega)).1 (hk j (by omega)).2 hE ?_⟩
      cases hb : isK (kn j) kd
      · have e : cntI (fun i => isK (kn i) kd) (j + 1) = cntI (fun i => isK (kn i) kd) j + 0 := by simp only [cntI, hb, b2i]
        rw [e, nI_succ] at ihj
        refine EV.at ck90 (by decide) 300 [] ?_
        conv => whnf
        try dsimp only
        refine ⟨fun _ => ?_, fun h1 => absurd rfl h1⟩
        conv => whnf
        try dsimp only
        exact ⟨trivial, ihj⟩
      · have e : cntI (fun i => isK (kn i) kd) (j + 1) = cntI (fun i => isK (kn i) kd) j + 1 := by simp only [cntI, hb, b2i]
        rw [e, nI_succ] at ihj
        refine EV.at ck90 (by decide) 300 [] ?_
        conv => whnf
        try dsimp only
        refine ⟨fun h1 => absurd h1 (by decide), fun _ => ?_⟩
        conv => whnf
        try dsimp only
        exact ⟨trivial, ihj⟩
  refine MT.by ck90 (by decide) rfl (Nat.le_of_ble_eq_true rfl) rfl 300 [4] ?_
  conv => whnf
  try dsimp only
  exact ⟨trivial, loop s 0 (by omega)⟩
/-- what a CHANGE TAKES: its cost, the kinds of into, from, the other one -/
def priceI (cost : Int32) (qi : Nat) (kf ko : Int32) : Int32 := jmax (cost - b2i (isK qi 1) + b2i (decide (kf = 3)) + b2i (decide (ko = 4))) 1
theorem c_price {k f t o q : Nat} (hk : k < 12) (hf : f < 5) (ht : t < 5) (ho : o < 5) (hq : q < 6) (ef : I 9 k = nI f) (et : I 10 k = nI t) (eq : I 7 t = nI q) (hE : EX I) (h : Q (some (.int (priceI (I 11 k) q (I 7 f) (I 7 o)))) (SH n, I, J)) : MT G (d + 2) 91 [.ref 6, .int (nI k), .int (nI o)] (SH n, I, J) Q := by
  have ck : (nI k).toNatClampNeg = k := cl_nI hk (by decide)
  have cf : (nI f).toNatClampNeg = f := cl_nI hf (by decide)
  have co : (nI o).toNatClampNeg = o := cl_nI ho (by decide)
  unfold priceI at h
  refine MT.by ck91 (by decide) rfl (Nat.le_of_ble_eq_true rfl) rfl 300 [] ?_
  conv => whnf
  try dsimp only
  refine ⟨in_nI hk (by decide), ?_⟩
  conv => whnf
  try dsimp only
  refine ⟨in_nI hk (by decide), ?_⟩
  conv => whnf
  try dsimp only
  rw [ck, et]
  refine ⟨trivial, c_isOf ht hq eq hE ?_⟩
  cases hb : isK q 1 <;> rw [hb] at h
  · refine EV.at ck91 (by decide) 300 [] ?_
    conv => whnf
    try dsimp only
    refine ⟨fun _ => ?_, fun h1 => absurd rfl h1⟩
    conv => whnf
    try dsimp only
    refine ⟨in_nI hk (by decide), ?_⟩
    conv => whnf
    try dsimp only
    rw [ck, ef]
    refine ⟨in_nI hf (by decide), ?_⟩
    conv => whnf
    try dsimp only
    rw [cf]
    refine ⟨fun h1 => ?_, fun h1 => ?_⟩
    · rw [decide_eq_false h1] at h
      conv => whnf
      try dsimp only
      refine ⟨in_nI ho (by decide), ?_⟩
      conv => whnf
      try dsimp only
      rw [co]
      refine ⟨fun h2 => ?_, fun h2 => ?_⟩
      · rw [decide_eq_false h2] at h
        conv => whnf
        try dsimp only
        exact ⟨trivial, h⟩
      · rw [decide_eq_true h2] at h
        conv => whnf
        try dsimp only
        exact ⟨trivial, h⟩
    · rw [decide_eq_true h1] at h
      conv => whnf
      try dsimp only
      refine ⟨in_nI ho (by decide), ?_⟩
      conv => whnf
      try dsimp only
      rw [co]
      refine ⟨fun h2 => ?_, fun h2 => ?_⟩
      · rw [decide_eq_false h2] at h
        conv => whnf
        try dsimp only
        exact ⟨trivial, h⟩
      · rw [decide_eq_true h2] at h
        conv => whnf
        try dsimp only
        exact ⟨trivial, h⟩
  · refine EV.at ck91 (by decide) 300 [] ?_
    conv => whnf
    try dsimp only
    refine ⟨fun h1 => absurd h1 (by decide), fun _ => ?_⟩
    conv => whnf
    try dsimp only
    refine ⟨in_nI hk (by decide), ?_⟩
    conv => whnf
    try dsimp only
    rw [ck, ef]
    refine ⟨in_nI hf (by decide), ?_⟩
    conv => whnf
    try dsimp only
    rw [cf]
    refine ⟨fun h1 => ?_, fun h1 => ?_⟩
    · rw [decide_eq_false h1] at h
      conv => whnf
      try dsimp only
      refine ⟨in_nI ho (by decide), ?_⟩
      conv => whnf
      try dsimp only
      rw [co]
      refine ⟨fun h2 => ?_, fun h2 => ?_⟩
      · rw [decide_eq_false h2] at h
        conv => whnf
        try dsimp only
        exact ⟨trivial, h⟩
      · rw [decide_eq_true h2] at h
        conv => whnf
        try dsimp only
        exact ⟨trivial, h⟩
    · rw [decide_eq_true h1] at h
      conv => whnf
      try dsimp only
      refine ⟨in_nI ho (by decide), ?_⟩
      conv => whnf
      try dsimp only
      rw [co]
      refine ⟨fun h2 => ?_, fun h2 => ?_⟩
      · rw [decide_eq_false h2] at h
        conv => whnf
        try dsimp only
        exact ⟨trivial, h⟩
      · rw [decide_eq_true h2] at h
        conv => whnf
        try dsimp only
        exact ⟨trivial, h⟩
end
end
section
/-! contracts: rows and texts (a strip: its cell c, its array a of N places) -/
def flI (I : Nat → Nat → Int32) (a lo hi : Nat) (v : Int32) : Nat → Nat → Int32 := fun r k => if r = a ∧ lo ≤ k ∧ k < hi then v else I r k
theorem fl_0 (I : Nat → Nat → Int32) (a lo : Nat) (v : Int32) : flI I a lo lo v = I := by
  funext r k
  unfold flI
  rw [if_neg (by omega)]
theorem fl_s {I : Nat → Nat → Int32} {a lo j : Nat} {v : Int32} (h : lo ≤ j) : upI (flI I a lo j v) a j v = flI I a lo (j + 1) v := by
  funext r k
  unfold upI flI
  by_cases h1 : r = a ∧ k = j
  · rw [if_pos h1, if_pos ⟨h1.1, by omega, by omega⟩]
  · rw [if_neg h1]
    by_cases h2 : r = a ∧ lo ≤ k ∧ k < j
    · rw [if_pos h2, if_pos ⟨h2.1, h2.2.1, by omega⟩]
    · rw [if_neg h2, if_neg (fun q => ?_)]
      by_cases h3 : k = j
      · exact h1 ⟨q.1, h3⟩
      · exact h2 ⟨q.1, q.2.1, by omega⟩
def sumL (f : Nat → Int32) : Nat → Int64
  | 0 => 0
  | j + 1 => sumL f j + (f j).toInt64
def mixL (f : Nat → Int32) (h : Int64) : Nat → Int64
  | 0 => h
  | j + 1 => 31 * mixL f h j + (f j).toInt64
def allW (f : Nat → Int32) (e : Int32) : Nat → Bool
  | 0 => true
  | j + 1 => allW f e j && decide (0 ≤ f j ∧ f j < e)
theorem allW_false {f : Nat → Int32} {e : Int32} {j m : Nat} (hj : j < m) (h : decide (0 ≤ f j ∧ f j < e) = false) : allW f e m = false := by
  induction m with
  | zero => omega
  | succ m ih =>
    unfold allW
    by_cases hm : j = m
    · subst hm; rw [h, Bool.and_false]
    · rw [ih (by omega), Bool.false_and]
section
variable {G : GG} {d n : Nat} {σ : MH} {S : SHL} {I : Nat → Nat → Int32} {J : Nat → Nat → Int64} {Q : Option Value → MH → Prop}
theorem c_rangeCheck {m N : Nat} (hm : m ≤ N) (hN : N ≤ 65536) (h : Q none σ) : MT G (d + 1) 262 [.int (nI N), .int 0, .int (nI m)] σ Q := by
  refine MT.by ck262 (by decide) rfl (Nat.le_of_ble_eq_true rfl) rfl 300 [] ?_
  conv => whnf
  try dsimp only
  refine ⟨fun _ => ?_, fun h1 => absurd (nI_pos' (show m < 2 ^ 31 by omega)) h1⟩
  conv => whnf
  try dsimp only
  refine ⟨fun _ => ?_, fun h1 => absurd (by decide) h1⟩
  conv => whnf
  try dsimp only
  refine ⟨fun _ => ?_, fun h1 => absurd (nI_le hm (by omega)) h1⟩
  conv => whnf
  try dsimp only
  exact ⟨trivial, h⟩
theorem c_fill4 {a m N : Nat} {v : Int32} (ha : S[a]? = some (12, N, [])) (hm : m ≤ N) (hN : N ≤ 65536) (h : Q none (S, flI I a 0 m v, J)) : MT G (d + 2) 264 [.ref a, .int 0, .int (nI m), .int v] (S, I, J) Q := by
  have loop : ∀ k j, j + k = m → EV G 264 (d + 1) 0 0 10 [.ref a, .int 0, .int (nI m), .int v, .int (nI j)] [] (S, flI I a 0 j v, J) Q := by
    intro k
    induction k with
    | zero =>
      intro j hj
      have hj : j = m := hj
      subst hj
      refine EV.at ck264 (by decide) 300 [] ?_
      conv => whnf
      try dsimp only
      refine ⟨fun _ => ?_, fun h1 => absurd (nI_le (Nat.le_refl j) (by omega)) h1⟩
      conv => whnf
      try dsimp only
      exact ⟨trivial, h⟩
    | succ k ih =>
      intro j hj
      have ihj := ih (j + 1) (by omega)
      have cj : (nI j).toNatClampNeg = j := nI_clamp (by omega)
      rw [← fl_s (Nat.zero_le j), nI_succ] at ihj
      refine EV.at ck264 (by decide) 300 [] ?_
      conv => whnf
      try dsimp only
      refine ⟨fun h1 => absurd h1 (nI_ge (show j < m by omega) (by omega)), fun _ => ?_⟩
      conv => whnf
      try dsimp only
      rw [ha]
      conv => whnf
      try dsimp only
      refine ⟨in_nI (show j < N by omega) hN, ?_⟩
      conv => whnf
      try dsimp only
      rw [cj]
      exact ⟨trivial, ihj⟩
  refine MT.by ck264 (by decide) rfl (Nat.le_of_ble_eq_true rfl) rfl 300 [10] ?_
  conv => whnf
  try dsimp only
  rw [ha]
  conv => whnf
  try dsimp only
  refine ⟨trivial, c_rangeCheck hm hN ?_⟩
  refine EV.at ck264 (by decide) 300 [10] ?_
  conv => whnf
  try dsimp only
  have h0 := loop m 0 (by omega)
  rw [fl_0] at h0
  exact ⟨trivial, h0⟩
theorem c_fill2 {a N : Nat} {v : Int32} (ha : S[a]? = some (12, N, [])) (hN : N ≤ 65536) (h : Q none (S, flI I a 0 N v, J)) : MT G (d + 1) 263 [.ref a, .int v] (S, I, J) Q := by
  have loop : ∀ k j, j + k = N → EV G 263 d 0 0 5 [.ref a, .int v, .int (nI j), .int (nI N)] [] (S, flI I a 0 j v, J) Q := by
    intro k
    induction k with
    | zero =>
      intro j hj
      have hj : j = N := hj
      subst hj
      refine EV.at ck263 (by decide) 300 [] ?_
      conv => whnf
      try dsimp only
      refine ⟨fun _ => ?_, fun h1 => absurd (nI_le (Nat.le_refl j) (by omega)) h1⟩
      conv => whnf
      try dsimp only
      exact ⟨trivial, h⟩
    | succ k ih =>
      intro j hj
      have ihj := ih (j + 1) (by omega)
      have cj : (nI j).toNatClampNeg = j := nI_clamp (by omega)
      rw [← fl_s (Nat.zero_le j), nI_succ] at ihj
      refine EV.at ck263 (by decide) 300 [] ?_
      conv => whnf
      try dsimp only
      refine ⟨fun h1 => absurd h1 (nI_ge (show j < N by omega) (by omega)), fun _ => ?_⟩
      conv => whnf
      try dsimp only
      rw [ha]
      conv => whnf
      try dsimp only
      refine ⟨in_nI (show j < N by omega) hN, ?_⟩
      conv => whnf
      try dsimp only
      rw [cj]
      exact ⟨trivial, ihj⟩
  refine MT.by ck263 (by decide) rfl (Nat.le_of_ble_eq_true rfl) rfl 300 [5] ?_
  conv => whnf
  try dsimp only
  rw [ha]
  conv => whnf
  try dsimp only
  have h0 := loop N 0 (by omega)
  rw [fl_0] at h0
  exact ⟨trivial, h0⟩
theorem c_fillAnew {c a m N : Nat} {v : Int32} (hc : S[c]? = some (8, 2, [some a, none])) (ha : S[a]? = some (12, N, [])) (hm : m ≤ N) (hN : N ≤ 65536) (h : Q none (S, flI (upI I c 1 (nI m)) a 0 m v, J)) : MT G (d + 3) 72 [.ref c, .int (nI m), .int v] (S, I, J) Q := by
  refine MT.by ck72 (by decide) rfl (Nat.le_of_ble_eq_true rfl) rfl 300 [] ?_
  conv => whnf
  try dsimp only
  rw [hc]
  conv => whnf
  try dsimp only
  rw [hc]
  conv => whnf
  try dsimp only
  refine ⟨trivial, c_fill4 ha hm hN ?_⟩
  refine EV.at ck72 (by decide) 300 [] ?_
  conv => whnf
  try dsimp only
  exact ⟨trivial, h⟩
theorem c_setTo {c a b m N M : Nat} (hc : S[c]? = some (8, 2, [some a, none])) (ha : S[a]? = some (12, N, [])) (hb : S[b]? = some (12, M, [])) (hm : m ≤ N) (hm2 : m ≤ M) (hN : N ≤ 65536) (h : Q none (S, cpI (upI I c 1 (nI m)) b a 0 0 m, J)) : MT G (d + 1) 73 [.ref c, .ref b, .int (nI m)] (S, I, J) Q := by
  have cm : (nI m).toNatClampNeg = m := nI_clamp (by omega)
  refine MT.by ck73 (by decide) rfl (Nat.le_of_ble_eq_true rfl) rfl 300 [] ?_
  conv => whnf
  try dsimp only
  rw [hc]
  conv => whnf
  try dsimp only
  rw [hc]
  conv => whnf
  try dsimp only
  rw [hb]
  conv => whnf
  try dsimp only
  rw [ha]
  conv => whnf
  try dsimp only
  refine ⟨⟨by decide, by decide, nI_pos (by omega), ?_, ?_⟩, ?_⟩
  · rw [cm]; show 0 + m ≤ M; omega
  · rw [cm]; show 0 + m ≤ N; omega
  conv => whnf
  try dsimp only
  rw [cm]
  exact ⟨trivial, h⟩
theorem c_holds {c a : Nat} {x k : Int32} (hc : S[c]? = some (8, 2, [some a, none])) (h : Q (some (.int (b2i (decide (0 ≤ x ∧ k ≤ I c 1 ∧ x ≤ I c 1 - k))))) (S, I, J)) : MT G (d + 1) 74 [.ref c, .int x, .int k] (S, I, J) Q := by
  refine MT.by ck74 (by decide) rfl (Nat.le_of_ble_eq_true rfl) rfl 300 [] ?_
  conv => whnf
  try dsimp only
  refine ⟨fun h1 => ?_, fun h1 => ?_⟩
  · rw [decide_eq_false (fun q => Int32.not_le.mpr h1 q.1)] at h
    conv => whnf
    try dsimp only
    exact ⟨Or.inl rfl, h⟩
  conv => whnf
  try dsimp only
  rw [hc]
  conv => whnf
  try dsimp only
  refine ⟨fun h2 => ?_, fun h2 => ?_⟩
  · rw [decide_eq_false (fun q => Int32.not_le.mpr h2 q.2.1)] at h
    conv => whnf
    try dsimp only
    exact ⟨Or.inl rfl, h⟩
  conv => whnf
  try dsimp only
  rw [hc]
  conv => whnf
  try dsimp only
  refine ⟨fun h3 => ?_, fun h3 => ?_⟩
  · rw [decide_eq_false (fun q => Int32.not_le.mpr h3 q.2.2)] at h
    conv => whnf
    try dsimp only
    exact ⟨Or.inl rfl, h⟩
  · rw [decide_eq_true ⟨Int32.not_lt.mp h1, Int32.not_lt.mp h2, Int32.not_lt.mp h3⟩] at h
    conv => whnf
    try dsimp only
    exact ⟨Or.inr rfl, h⟩
theorem c_allWithin {c a m N : Nat} {e : Int32} (hc : S[c]? = some (8, 2, [some a, none])) (ha : S[a]? = some (12, N, [])) (hm : m ≤ N) (hN : N ≤ 65536) (hI : I c 1 = nI m) (h : Q (some (.int (b2i (allW (I a) e m)))) (S, I, J)) : MT G (d + 2) 75 [.ref c, .int e] (S, I, J) Q := by
  have loop : ∀ k j, j + k = m → allW (I a) e j = true → EV G 75 (d + 1) 0 0 2 [.ref c, .int e, .int (nI j)] [] (S, I, J) Q := by
    intro k
    induction k with
    | zero =>
      intro j hj hal
      have hj : j = m := hj
      subst hj
      rw [hal] at h
      refine EV.at ck75 (by decide) 300 [] ?_
      conv => whnf
      try dsimp only
      rw [hc]
      conv => whnf
      try dsimp only
      rw [hI]
      refine ⟨fun _ => ?_, fun h1 => absurd (nI_le (Nat.le_refl j) (by omega)) h1⟩
      conv => whnf
      try dsimp only
      exact ⟨Or.inr rfl, h⟩
    | succ k ih =>
      intro j hj hal
      have cj : (nI j).toNatClampNeg = j := nI_clamp (by omega)
      refine EV.at ck75 (by decide) 300 [] ?_
      conv => whnf
      try dsimp only
      rw [hc]
      conv => whnf
      try dsimp only
      rw [hI]
      refine ⟨fun h1 => absurd h1 (nI_ge (show j < m by omega) (by omega)), fun _ => ?_⟩
      conv => whnf
      try dsimp only
      rw [hc]
      conv => whnf
      try dsimp only
      rw [ha]
      conv => whnf
      try dsimp only
      refine ⟨in_nI (show j < N by omega) hN, ?_⟩
      conv => whnf
      try dsimp only
      rw [cj]
      refine ⟨trivial, c_within ?_⟩
      cases hb : decide (0 ≤ I a j ∧ I a j < e)
      · rw [allW_false (show j < m by omega) hb] at h
        refine EV.at ck75 (by decide) 300 [] ?_
        conv => whnf
        try dsimp only
        refine ⟨fun h1 => absurd rfl h1, fun _ => ?_⟩
        conv => whnf
        try dsimp only
        exact ⟨Or.inl rfl, h⟩
      · have ihj := ih (j + 1) (by omega) (by unfold allW; rw [hal, hb]; rfl)
        rw [nI_succ] at ihj
        refine EV.at ck75 (by decide) 300 [] ?_
        conv => whnf
        try dsimp only
        refine ⟨fun _ => ?_, fun h1 => absurd h1 (by decide)⟩
        conv => whnf
        try dsimp only
        exact ⟨trivial, ihj⟩
  refine MT.by ck75 (by decide) rfl (Nat.le_of_ble_eq_true rfl) rfl 300 [2] ?_
  conv => whnf
  try dsimp only
  exact ⟨trivial, loop m 0 (by omega) rfl⟩
theorem c_sum {c a m N : Nat} (hc : S[c]? = some (8, 2, [some a, none])) (ha : S[a]? = some (12, N, [])) (hm : m ≤ N) (hN : N ≤ 65536) (hI : I c 1 = nI m) (h : Q (some (.long (sumL (I a) m))) (S, I, J)) : MT G (d + 1) 76 [.ref c] (S, I, J) Q := by
  have loop : ∀ k j, j + k = m → EV G 76 d 0 0 4 [.ref c, .long (sumL (I a) j), dm, .int (nI j)] [] (S, I, J) Q := by
    intro k
    induction k with
    | zero =>
      intro j hj
      have hj : j = m := hj
      subst hj
      refine EV.at ck76 (by decide) 300 [] ?_
      conv => whnf
      try dsimp only
      rw [hc]
      conv => whnf
      try dsimp only
      rw [hI]
      refine ⟨fun _ => ?_, fun h1 => absurd (nI_le (Nat.le_refl j) (by omega)) h1⟩
      conv => whnf
      try dsimp only
      exact ⟨trivial, h⟩
    | succ k ih =>
      intro j hj
      have ihj := ih (j + 1) (by omega)
      rw [nI_succ] at ihj
      have cj : (nI j).toNatClampNeg = j := nI_clamp (by omega)
      refine EV.at ck76 (by decide) 300 [] ?_
      conv => whnf
      try dsimp only
      rw [hc]
      conv => whnf
      try dsimp only
      rw [hI]
      refine ⟨fun h1 => absurd h1 (nI_ge (show j < m by omega) (by omega)), fun _ => ?_⟩
      conv => whnf
      try dsimp only
      rw [hc]
      conv => whnf
      try dsimp only
      rw [ha]
      conv => whnf
      try dsimp only
      refine ⟨in_nI (show j < N by omega) hN, ?_⟩
      conv => whnf
      try dsimp only
      rw [cj]
      exact ⟨trivial, ihj⟩
  refine MT.by ck76 (by decide) rfl (Nat.le_of_ble_eq_true rfl) rfl 300 [4] ?_
  conv => whnf
  try dsimp only
  exact ⟨trivial, loop m 0 (by omega)⟩
theorem c_mixInto {c a m N : Nat} {z : Int64} (hc : S[c]? = some (8, 2, [some a, none])) (ha : S[a]? = some (12, N, [])) (hm : m ≤ N) (hN : N ≤ 65536) (hI : I c 1 = nI m) (h : Q (some (.long (mixL (I a) (31 * z + (nI m).toInt64) m))) (S, I, J)) : MT G (d + 1) 77 [.ref c, .long z] (S, I, J) Q := by
  have loop : ∀ k j, j + k = m → EV G 77 d 0 0 15 [.ref c, .long z, dm, .long (mixL (I a) (31 * z + (nI m).toInt64) j), dm, .int (nI j)] [] (S, I, J) Q := by
    intro k
    induction k with
    | zero =>
      intro j hj
      have hj : j = m := hj
      subst hj
      refine EV.at ck77 (by decide) 300 [] ?_
      conv => whnf
      try dsimp only
      rw [hc]
      conv => whnf
      try dsimp only
      rw [hI]
      refine ⟨fun _ => ?_, fun h1 => absurd (nI_le (Nat.le_refl j) (by omega)) h1⟩
      conv => whnf
      try dsimp only
      exact ⟨trivial, h⟩
    | succ k ih =>
      intro j hj
      have ihj := ih (j + 1) (by omega)
      rw [nI_succ] at ihj
      have cj : (nI j).toNatClampNeg = j := nI_clamp (by omega)
      refine EV.at ck77 (by decide) 300 [] ?_
      conv => whnf
      try dsimp only
      rw [hc]
      conv => whnf
      try dsimp only
      rw [hI]
      refine ⟨fun h1 => absurd h1 (nI_ge (show j < m by omega) (by omega)), fun _ => ?_⟩
      conv => whnf
      try dsimp only
      rw [hc]
      conv => whnf
      try dsimp only
      rw [ha]
      conv => whnf
      try dsimp only
      refine ⟨in_nI (show j < N by omega) hN, ?_⟩
      conv => whnf
      try dsimp only
      rw [cj]
      exact ⟨trivial, ihj⟩
  refine MT.by ck77 (by decide) rfl (Nat.le_of_ble_eq_true rfl) rfl 300 [15] ?_
  conv => whnf
  try dsimp only
  rw [hc]
  conv => whnf
  try dsimp only
  have h0 := loop m 0 (by omega)
  rw [hI]
  exact ⟨trivial, h0⟩
theorem c_mixInto0 {c a : Nat} {z : Int64} (hc : S[c]? = some (8, 2, [some a, none])) (hI : I c 1 = -1) (h : Q (some (.long (31 * z + (-1 : Int32).toInt64))) (S, I, J)) : MT G (d + 1) 77 [.ref c, .long z] (S, I, J) Q := by
  refine MT.by ck77 (by decide) rfl (Nat.le_of_ble_eq_true rfl) rfl 300 [] ?_
  conv => whnf
  try dsimp only
  rw [hc]
  conv => whnf
  try dsimp only
  rw [hc]
  conv => whnf
  try dsimp only
  rw [hI]
  refine ⟨fun _ => ?_, fun h1 => absurd (by decide) h1⟩
  conv => whnf
  try dsimp only
  exact ⟨trivial, h⟩
end
end
section
/-! numbers: bits of small naturals (fa_and, fa_or, fa_or_sum are the kit's NUMBERS.to-paste) -/
theorem fa_and (a b : Nat) : nI a &&& nI b = nI (a &&& b) := by
  apply Int32.toBitVec_inj.1
  show BitVec.ofNat 32 a &&& BitVec.ofNat 32 b = BitVec.ofNat 32 (a &&& b)
  apply BitVec.eq_of_getLsbD_eq
  intro i hi
  simp [hi]
theorem fa_or (a b : Nat) : nI a ||| nI b = nI (a ||| b) := by
  apply Int32.toBitVec_inj.1
  show BitVec.ofNat 32 a ||| BitVec.ofNat 32 b = BitVec.ofNat 32 (a ||| b)
  apply BitVec.eq_of_getLsbD_eq
  intro i hi
  simp [hi]
theorem fa_or_sum {a k : Nat} (b : Nat) (h : a < 2 ^ k) : nI (2 ^ k * b) ||| nI a = nI (2 ^ k * b + a) := by rw [fa_or, Nat.two_pow_add_eq_or_of_lt h]
theorem nu_s : ∀ j, j < 32 → ((nI j &&& 31).toBitVec.smod 32).toNat = j := by decide +kernel
theorem nu_shr {x j : Nat} (hx : x < 2 ^ 31) (hj : j < 32) : jshr (nI x) (nI j) = nI (x / 2 ^ j) := pk_shrN hx _ j (nu_s j hj)
theorem nu_shl {x j : Nat} (hj : j < 32) (h : x * 2 ^ j < 2 ^ 32) : jshl (nI x) (nI j) = nI (x * 2 ^ j) := pk_shlN _ j (nu_s j hj) h
theorem nu_a1 {x : Nat} (hx : x < 2 ^ 32) : nI x &&& 1 = nI (x % 2) := by
  have h := pk_andN hx (m := 1) 1 (by decide)
  exact h
theorem nu_b2 (b : Bool) : b2i b = nI (if b then 1 else 0) := by cases b <;> rfl
theorem nu_bit {x j : Nat} (hx : x < 2 ^ 31) (hj : j < 32) : jshr (nI x) (nI j) &&& 1 = b2i (x.testBit j) := by
  have h1 : x / 2 ^ j < 2 ^ 32 := Nat.lt_of_le_of_lt (Nat.div_le_self _ _) (by omega)
  rw [nu_shr hx hj, nu_a1 h1, Nat.testBit_eq_decide_div_mod_eq]
  rcases Nat.mod_two_eq_zero_or_one (x / 2 ^ j) with h | h <;> rw [h] <;> rfl
theorem nu_one {j : Nat} (hj : j < 31) : jshl 1 (nI j) = nI (2 ^ j) := by
  have h2 : (2 : Nat) ^ j < 2 ^ 31 := Nat.pow_lt_pow_right (by decide) hj
  have h := nu_shl (x := 1) (j := j) (by omega) (by omega)
  rw [Nat.one_mul] at h
  exact h
theorem b2i_1 (b : Bool) : b2i b = 1 ↔ b = true := by cases b <;> simp [b2i]
theorem b2i_0 (b : Bool) : b2i b = 0 ↔ b = false := by cases b <;> simp [b2i]
theorem nu_eq {a b : Nat} (ha : a < 65536) (hb : b < 65536) : nI a = nI b ↔ a = b := nI_eq (by omega) (by omega)
/-- a set of bits without one of them -/
def clrN (x k : Nat) : Nat := if x.testBit k then x ^^^ 2 ^ k else x
theorem clrN_bits {x k : Nat} (i : Nat) : (clrN x k).testBit i = (x.testBit i && decide (i ≠ k)) := by
  unfold clrN
  by_cases h : x.testBit k = true
  · rw [if_pos h, Nat.testBit_xor, Nat.testBit_two_pow]
    by_cases hi : k = i
    · subst hi; simp [h]
    · simp [hi, Ne.symm hi]
  · rw [if_neg h]
    by_cases hi : i = k
    · subst hi; simp [h]
    · simp [hi]
theorem clrN_lt {x k b : Nat} (h : x < 2 ^ b) (hk : k < b) : clrN x k < 2 ^ b := by
  unfold clrN
  split
  · exact Nat.xor_lt_two_pow h (Nat.pow_lt_pow_right (by decide) hk)
  · exact h
theorem nu_clr {x k : Nat} (hk : k < 31) : nI x &&& (jshl 1 (nI k) ^^^ (-1)) = nI (clrN x k) := by
  rw [nu_one hk]
  apply Int32.toBitVec_inj.1
  show BitVec.ofNat 32 x &&& (BitVec.ofNat 32 (2 ^ k) ^^^ BitVec.allOnes 32) = BitVec.ofNat 32 (clrN x k)
  apply BitVec.eq_of_getLsbD_eq
  intro i hi
  simp only [BitVec.getLsbD_and, BitVec.getLsbD_xor, BitVec.getLsbD_ofNat, BitVec.getLsbD_allOnes, hi, decide_true, Bool.true_and, clrN_bits, Nat.testBit_two_pow]
  by_cases h : k = i
  · subst h; simp
  · simp [h, Ne.symm h]
/-- Integer.bitCount of a small set -/
def pcN : Nat → Nat → Nat
  | 0, _ => 0
  | f + 1, x => x % 2 + pcN f (x / 2)
set_option maxRecDepth 100000 in
theorem nu_pop : ∀ x, x < 4096 → popJ (nI x) = nI (pcN 12 x) := by decide +kernel
end
section
/-! the table and the fighters as naturals; the class's Side and Fight -/
/-- shapes, kinds, told (bits), changes, from, into, cost -/
abbrev TN : Type := Nat × (Nat → Nat) × (Nat → Nat) × Nat × (Nat → Nat) × (Nat → Nat) × (Nat → Nat)
abbrev tS (T : TN) : Nat := T.1
abbrev tK (T : TN) : Nat → Nat := T.2.1
abbrev tT (T : TN) : Nat → Nat := T.2.2.1
abbrev tC (T : TN) : Nat := T.2.2.2.1
abbrev tF (T : TN) : Nat → Nat := T.2.2.2.2.1
abbrev tI (T : TN) : Nat → Nat := T.2.2.2.2.2.1
abbrev tW (T : TN) : Nat → Nat := T.2.2.2.2.2.2
def tOK (T : TN) : Prop := tS T ≤ 5 ∧ (∀ i, i < tS T → tK T i < 6 ∧ tT T i < 32) ∧ tC T ≤ 12 ∧ ∀ k, k < tC T → tF T k < tS T ∧ tI T k < tS T ∧ 1 ≤ tW T k ∧ tW T k ≤ 5
/-- the class's memory holds the table -/
def tMem (T : TN) (I : Nat → Nat → Int32) : Prop := I 6 0 = nI (tS T) ∧ (∀ i, i < tS T → I 7 i = nI (tK T i) ∧ I 8 i = nI (tT T i)) ∧ I 6 3 = nI (tC T) ∧ ∀ k, k < tC T → I 9 k = nI (tF T k) ∧ I 10 k = nI (tI T k) ∧ I 11 k = nI (tW T k)
def btT (T : TN) (i j : Nat) : Bool := (tT T i).testBit j && !(tK T i == 3 && tK T j == 5)
/-- a fighter: shape, fire, used, knows -/
abbrev SD : Type := Nat × Nat × Nat × Nat
def sOK (T : TN) (q : SD) : Prop := q.1 < tS T ∧ q.2.1 ≤ 5 ∧ q.2.2.1 < 32 ∧ q.2.2.2 < 4096
def sMem (c : Nat) (q : SD) (I : Nat → Nat → Int32) : Prop := I c 0 = nI q.1 ∧ I c 1 = nI q.2.1 ∧ I c 2 = nI q.2.2.1 ∧ I c 3 = nI q.2.2.2
def isB (q k : Nat) : Bool := q == k || (match q with
  | 4 => k == 2
  | 5 => k == 1
  | _ => false)
def priceN (T : TN) (k o : Nat) : Nat := max (tW T k - (if isB (tK T (tI T k)) 1 then 1 else 0) + (if tK T (tF T k) = 3 then 1 else 0) + (if tK T o = 4 then 1 else 0)) 1
def canN (T : TN) (q : SD) (o k : Nat) : Bool := q.2.2.2.testBit k && (tF T k == q.1 && ((!(q.2.2.1.testBit (tI T k)) || isB (tK T (tI T k)) 2) && (btT T (tI T k) o && decide (priceN T k o ≤ q.2.1))))
def takesN (T : TN) (q : SD) (o k : Nat) : Nat := if canN T q o k then priceN T k o else 0
theorem isB_isK : ∀ q, q < 6 → ∀ k, k < 6 → 1 ≤ k → isK q (nI k) = isB q k := by decide +kernel
theorem bt_eq {T : TN} {I : Nat → Nat → Int32} (hT : tOK T) (hM : tMem T I) {i j : Nat} (hi : i < tS T) (hj : j < tS T) : btB (I 8) (I 7) i j = btT T i j := by
  obtain ⟨h5, hk, -⟩ := hT
  unfold btB btT
  rw [(hM.2.1 i hi).2, (hM.2.1 i hi).1, (hM.2.1 j hj).1, nu_bit (by have := (hk i hi).2; omega) (by omega)]
  have e3 : (nI (tK T i) = 3) ↔ tK T i = 3 := nI_eq (b := 3) (by have := (hk i hi).1; omega) (by decide)
  have e5 : (nI (tK T j) = 5) ↔ tK T j = 5 := nI_eq (b := 5) (by have := (hk j hj).1; omega) (by decide)
  simp only [e3, e5, b2i_1]
  cases (tT T i).testBit j <;> by_cases a : tK T i = 3 <;> by_cases b : tK T j = 5 <;> simp [a, b]
theorem price_eq {T : TN} (hT : tOK T) {k o : Nat} (hk : k < tC T) (ho : o < tS T) : priceI (nI (tW T k)) (tK T (tI T k)) (nI (tK T (tF T k))) (nI (tK T o)) = nI (priceN T k o) := by
  obtain ⟨h5, hkk, h12, hc⟩ := hT
  obtain ⟨c1, c2, c3, c4⟩ := hc k hk
  have q1 := (hkk _ c2).1
  have q2 := (hkk _ c1).1
  have q3 := (hkk _ ho).1
  unfold priceI priceN
  have e1 := isB_isK _ q1 1 (by decide) (by decide)
  have e1 : isK (tK T (tI T k)) 1 = isB (tK T (tI T k)) 1 := e1
  have e3 : (nI (tK T (tF T k)) = 3) ↔ tK T (tF T k) = 3 := nI_eq (b := 3) (by omega) (by decide)
  have e4 : (nI (tK T o) = 4) ↔ tK T o = 4 := nI_eq (b := 4) (by omega) (by decide)
  rw [e1]
  simp only [e3, e4]
  generalize tW T k = w at c3 c4 ⊢
  generalize isB (tK T (tI T k)) 1 = b1
  generalize hb2 : decide (tK T (tF T k) = 3) = b2
  generalize hb3 : decide (tK T o = 4) = b3
  have hall : ∀ w, w < 6 → 1 ≤ w → ∀ b1 b2 b3 : Bool, jmax (nI w - b2i b1 + b2i b2 + b2i b3) 1 = nI (max (w - (if b1 then 1 else 0) + (if b2 then 1 else 0) + (if b3 then 1 else 0)) 1) := by decide +kernel
  rw [hall w (by omega) c3 b1 b2 b3, ← hb2, ← hb3]
  simp only [decide_eq_true_eq]
section
variable {G : GG} {d n : Nat} {σ : MH} {S : SHL} {I : Nat → Nat → Int32} {J : Nat → Nat → Int64} {Q : Option Value → MH → Prop} {T : TN}
theorem c_mover {z : Nat} (hz : z ≤ 40) (hI : I 12 5 = nI z) (h : Q (some (.int (nI (z % 2)))) (SH n, I, J)) : MT G (d + 1) 3 [.ref 12] (SH n, I, J) Q := by
  refine MT.by ck3 (by decide) rfl (Nat.le_of_ble_eq_true rfl) rfl 300 [] ?_
  conv => whnf
  try dsimp only
  rw [hI, nu_a1 (by omega)]
  exact ⟨trivial, h⟩
def packS (q : SD) : Nat := (q.1 * 8 + q.2.1) * 32 + q.2.2.1
theorem packS_eq {a b u : Nat} (ha : a < 8) (hb : b < 8) (hu : u < 32) : jshl (jshl (nI a) 3 ||| nI b) 5 ||| nI u = nI ((a * 8 + b) * 32 + u) := by
  have e1 : jshl (nI a) 3 = nI (a * 2 ^ 3) := nu_shl (j := 3) (by omega) (by omega)
  have e2 : nI (a * 2 ^ 3) ||| nI b = nI (2 ^ 3 * a + b) := by rw [Nat.mul_comm a]; exact fa_or_sum a hb
  have e3 : jshl (nI (2 ^ 3 * a + b)) 5 = nI ((2 ^ 3 * a + b) * 2 ^ 5) := nu_shl (j := 5) (by omega) (by omega)
  rw [e1, e2, e3, Nat.mul_comm _ (2 ^ 5), fa_or_sum _ hu]
  congr 1
  omega
theorem c_packedS {c : Nat} {q : SD} (hc : S[c]? = some (7, 4, [none, none, none, none])) (hm : sMem c q I) (ha : q.1 < 8) (hb : q.2.1 < 8) (hu : q.2.2.1 < 32) (h : Q (some (.int (nI (packS q)))) (S, I, J)) : MT G (d + 1) 69 [.ref c] (S, I, J) Q := by
  refine MT.by ck69 (by decide) rfl (Nat.le_of_ble_eq_true rfl) rfl 300 [] ?_
  conv => whnf
  try dsimp only
  rw [hc]
  conv => whnf
  try dsimp only
  rw [hc]
  conv => whnf
  try dsimp only
  rw [hc]
  conv => whnf
  try dsimp only
  rw [hm.1, hm.2.1, hm.2.2.1, packS_eq ha hb hu]
  exact ⟨trivial, h⟩
/-- a fighter's shape, fire, used written -/
def sdI (I : Nat → Nat → Int32) (c a b u : Nat) : Nat → Nat → Int32 := fun r k => if r = c ∧ k = 0 then nI a else if r = c ∧ k = 1 then nI b else if r = c ∧ k = 2 then nI u else I r k
theorem sd_012 {I : Nat → Nat → Int32} {c a b u : Nat} : upI (upI (upI I c 0 (nI a)) c 1 (nI b)) c 2 (nI u) = sdI I c a b u := by
  funext r k
  unfold upI sdI
  by_cases h : r = c
  · subst h
    by_cases h0 : k = 0
    · subst h0; simp
    · by_cases h1 : k = 1
      · subst h1; simp
      · by_cases h2 : k = 2
        · subst h2; simp
        · simp [h0, h1, h2]
  · simp [h]
theorem sd_021 {I : Nat → Nat → Int32} {c a b u : Nat} : upI (upI (upI I c 0 (nI a)) c 2 (nI u)) c 1 (nI b) = sdI I c a b u := by
  funext r k
  unfold upI sdI
  by_cases h : r = c
  · subst h
    by_cases h0 : k = 0
    · subst h0; simp
    · by_cases h1 : k = 1
      · subst h1; simp
      · by_cases h2 : k = 2
        · subst h2; simp
        · simp [h0, h1, h2]
  · simp [h]
theorem sd_self {I : Nat → Nat → Int32} {c : Nat} {q : SD} (h : sMem c q I) : sdI I c q.1 q.2.1 q.2.2.1 = I := by
  funext r k
  unfold sdI
  split
  · rename_i z; rw [z.1, z.2]; exact h.1.symm
  · split
    · rename_i z; rw [z.1, z.2]; exact h.2.1.symm
    · split
      · rename_i z; rw [z.1, z.2]; exact h.2.2.1.symm
      · rfl
theorem sd_sd {I : Nat → Nat → Int32} {c a b u a' b' u' : Nat} : sdI (sdI I c a b u) c a' b' u' = sdI I c a' b' u' := by
  funext r k
  unfold sdI
  split
  · rfl
  · split
    · rfl
    · split
      · rfl
      · rfl
theorem unp_eq : ∀ a, a < 8 → ∀ b, b < 8 → ∀ u, u < 32 → (jshr (nI ((a * 8 + b) * 32 + u)) 8 &&& 7 = nI a ∧ jshr (nI ((a * 8 + b) * 32 + u)) 5 &&& 7 = nI b ∧ nI ((a * 8 + b) * 32 + u) &&& 31 = nI u) := by
  intro a ha b hb u hu
  have s8 : jshr (nI ((a * 8 + b) * 32 + u)) 8 = nI (((a * 8 + b) * 32 + u) / 2 ^ 8) := nu_shr (j := 8) (by omega) (by omega)
  have s5 : jshr (nI ((a * 8 + b) * 32 + u)) 5 = nI (((a * 8 + b) * 32 + u) / 2 ^ 5) := nu_shr (j := 5) (by omega) (by omega)
  have m7 : ∀ x, x < 2 ^ 32 → nI x &&& 7 = nI (x % 2 ^ 3) := fun x hx => pk_andN hx 3 (by decide)
  have m31 : ∀ x, x < 2 ^ 32 → nI x &&& 31 = nI (x % 2 ^ 5) := fun x hx => pk_andN hx 5 (by decide)
  rw [s8, s5, m7 _ (by omega), m7 _ (by omega), m31 _ (by omega)]
  refine ⟨congrArg nI ?_, congrArg nI ?_, congrArg nI ?_⟩ <;> omega
theorem c_unpackS {c a b u : Nat} (hc : S[c]? = some (7, 4, [none, none, none, none])) (ha : a < 8) (hb : b < 8) (hu : u < 32) (h : Q none (S, sdI I c a b u, J)) : MT G (d + 1) 70 [.ref c, .int (nI ((a * 8 + b) * 32 + u))] (S, I, J) Q := by
  obtain ⟨e1, e2, e3⟩ := unp_eq a ha b hb u hu
  rw [← sd_012] at h
  refine MT.by ck70 (by decide) rfl (Nat.le_of_ble_eq_true rfl) rfl 300 [] ?_
  conv => whnf
  try dsimp only
  rw [hc]
  conv => whnf
  try dsimp only
  rw [hc]
  conv => whnf
  try dsimp only
  rw [hc]
  conv => whnf
  try dsimp only
  rw [e1, e2, e3]
  exact ⟨trivial, h⟩
theorem c_takeOverS {c c' : Nat} (hc : S[c]? = some (7, 4, [none, none, none, none])) (hc' : S[c']? = some (7, 4, [none, none, none, none])) (hne : c' ≠ c) (h : Q none (S, upI (upI (upI (upI I c 0 (I c' 0)) c 1 (I c' 1)) c 2 (I c' 2)) c 3 (I c' 3), J)) : MT G (d + 1) 67 [.ref c, .ref c'] (S, I, J) Q := by
  refine MT.by ck67 (by decide) rfl (Nat.le_of_ble_eq_true rfl) rfl 300 [] ?_
  conv => whnf
  try dsimp only
  rw [hc']
  conv => whnf
  try dsimp only
  rw [hc]
  conv => whnf
  try dsimp only
  rw [hc']
  conv => whnf
  try dsimp only
  rw [hc]
  conv => whnf
  try dsimp only
  rw [hc']
  conv => whnf
  try dsimp only
  rw [hc]
  conv => whnf
  try dsimp only
  rw [hc']
  conv => whnf
  try dsimp only
  rw [hc]
  conv => whnf
  try dsimp only
  simp only [upI_oth hne]
  exact ⟨trivial, h⟩
theorem c_aboutS {c : Nat} {x : Int32} (hc : S[c]? = some (7, 4, [none, none, none, none])) (h : Q (some (.int (if x = 0 then I c 0 else if x = 1 then I c 1 else if x = 2 then I c 2 else I c 3))) (S, I, J)) : MT G (d + 1) 68 [.ref c, .int x] (S, I, J) Q := by
  refine MT.by ck68 (by decide) rfl (Nat.le_of_ble_eq_true rfl) rfl 300 [] ?_
  conv => whnf
  try dsimp only
  refine ⟨fun h1 => ?_, fun h1 => ?_⟩
  · rw [if_pos h1] at h
    conv => whnf
    try dsimp only
    rw [hc]
    conv => whnf
    try dsimp only
    exact ⟨trivial, h⟩
  rw [if_neg h1] at h
  refine ⟨fun h2 => ?_, fun h2 => ?_⟩
  · rw [if_pos h2] at h
    conv => whnf
    try dsimp only
    rw [hc]
    conv => whnf
    try dsimp only
    exact ⟨trivial, h⟩
  rw [if_neg h2] at h
  refine ⟨fun h3 => ?_, fun h3 => ?_⟩
  · rw [if_pos h3] at h
    conv => whnf
    try dsimp only
    rw [hc]
    conv => whnf
    try dsimp only
    exact ⟨trivial, h⟩
  rw [if_neg h3] at h
  conv => whnf
  try dsimp only
  rw [hc]
  conv => whnf
  try dsimp only
  exact ⟨trivial, h⟩
end
end
section
/-! the class's Fight (cell 12; the fighters' cells 14, 15; done 16, ahead 17) -/
theorem cl0 : (nI 0).toNatClampNeg = 0 := by decide
theorem cl1 : (nI 1).toNatClampNeg = 1 := by decide
section
variable {G : GG} {d n : Nat} {σ : MH} {S : SHL} {I : Nat → Nat → Int32} {J : Nat → Nat → Int64} {Q : Option Value → MH → Prop} {T : TN} {q : Nat → SD}
def fMem (q : Nat → SD) (I : Nat → Nat → Int32) : Prop := sMem 14 (q 0) I ∧ sMem 15 (q 1) I
def packF (q : Nat → SD) : Nat := packS (q 0) * 2048 + packS (q 1)
def sS (q : SD) : Prop := q.1 < 8 ∧ q.2.1 < 8 ∧ q.2.2.1 < 32
theorem packS_lt {q : SD} (h : sS q) : packS q < 2048 := by unfold packS; have := h.1; have := h.2.1; have := h.2.2; omega
theorem c_packedF (hm : fMem q I) (h0 : sS (q 0)) (h1 : sS (q 1)) (h : Q (some (.int (nI (packF q)))) (SH n, I, J)) : MT G (d + 2) 4 [.ref 12] (SH n, I, J) Q := by
  refine MT.by ck4 (by decide) rfl (Nat.le_of_ble_eq_true rfl) rfl 300 [] ?_
  conv => whnf
  try dsimp only
  refine ⟨by unfold vp_in; decide, ?_⟩
  conv => whnf
  try dsimp only
  refine ⟨trivial, c_packedS rfl hm.1 h0.1 h0.2.1 h0.2.2 ?_⟩
  refine EV.at ck4 (by decide) 300 [] ?_
  conv => whnf
  try dsimp only
  refine ⟨by unfold vp_in; decide, ?_⟩
  conv => whnf
  try dsimp only
  refine ⟨trivial, c_packedS rfl hm.2 h1.1 h1.2.1 h1.2.2 ?_⟩
  refine EV.at ck4 (by decide) 300 [] ?_
  conv => whnf
  try dsimp only
  have e1 : jshl (nI (packS (q 0))) 11 = nI (packS (q 0) * 2 ^ 11) := nu_shl (j := 11) (by omega) (by have := packS_lt h0; omega)
  have e2 : nI (packS (q 0) * 2 ^ 11) ||| nI (packS (q 1)) = nI (packF q) := by
    rw [Nat.mul_comm, fa_or_sum _ (show packS (q 1) < 2 ^ 11 from packS_lt h1)]
    congr 1
    unfold packF
    omega
  rw [e1, e2]
  exact ⟨trivial, h⟩
/-- both fighters' shapes, fires, used written -/
def fdI (I : Nat → Nat → Int32) (q : Nat → SD) : Nat → Nat → Int32 := sdI (sdI I 14 (q 0).1 (q 0).2.1 (q 0).2.2.1) 15 (q 1).1 (q 1).2.1 (q 1).2.2.1
theorem c_unpackF (h0 : sS (q 0)) (h1 : sS (q 1)) (h : Q none (SH n, fdI I q, J)) : MT G (d + 2) 5 [.ref 12, .int (nI (packF q))] (SH n, I, J) Q := by
  have l0 := packS_lt h0
  have l1 := packS_lt h1
  have e1 : jshr (nI (packF q)) 11 = nI (packS (q 0)) := by
    have : jshr (nI (packF q)) 11 = nI (packF q / 2 ^ 11) := nu_shr (j := 11) (by unfold packF; omega) (by omega)
    rw [this]
    congr 1
    unfold packF
    omega
  have e2 : nI (packF q) &&& 2047 = nI (packS (q 1)) := by
    have : nI (packF q) &&& 2047 = nI (packF q % 2 ^ 11) := pk_andN (by unfold packF; omega) 11 (by decide)
    rw [this]
    congr 1
    unfold packF
    omega
  refine MT.by ck5 (by decide) rfl (Nat.le_of_ble_eq_true rfl) rfl 300 [] ?_
  conv => whnf
  try dsimp only
  refine ⟨by unfold vp_in; decide, ?_⟩
  conv => whnf
  try dsimp only
  rw [e1]
  refine ⟨trivial, c_unpackS rfl h0.1 h0.2.1 h0.2.2 ?_⟩
  refine EV.at ck5 (by decide) 300 [] ?_
  conv => whnf
  try dsimp only
  refine ⟨by unfold vp_in; decide, ?_⟩
  conv => whnf
  try dsimp only
  rw [e2]
  refine ⟨trivial, c_unpackS rfl h1.1 h1.2.1 h1.2.2 ?_⟩
  refine EV.at ck5 (by decide) 300 [] ?_
  conv => whnf
  try dsimp only
  exact ⟨trivial, h⟩
theorem c_takes0 {k : Nat} (hT : tOK T) (hM : tMem T I) (hm : fMem q I) (hs0 : sOK T (q 0)) (hs1 : sOK T (q 1)) (hE : EX I) (hk : k < tC T) (h : Q (some (.int (nI (takesN T (q 0) (q 1).1 k)))) (SH n, I, J)) : MT G (d + 4) 6 [.ref 12, .int (nI 0), .int (nI k)] (SH n, I, J) Q := by
  obtain ⟨t5, tk, t12, tc⟩ := id hT
  obtain ⟨b1, b2, b3, b4⟩ := tc k hk
  obtain ⟨m9, m10, m11⟩ := hM.2.2.2 k hk
  have hm0 : sMem 14 (q 0) I := hm.1
  have hm1 : sMem 15 (q 1) I := hm.2
  have hq : sOK T (q 0) := hs0
  have ho : sOK T (q 1) := hs1
  have ck : (nI k).toNatClampNeg = k := cl_nI (show k < 12 by omega) (by decide)
  have ek : jshr (I 14 3) (nI k) &&& 1 = b2i ((q 0).2.2.2.testBit k) := by rw [hm0.2.2.2]; exact nu_bit (by have := hq.2.2.2; omega) (by omega)
  have eu : jshr (I 14 2) (nI (tI T k)) &&& 1 = b2i ((q 0).2.2.1.testBit (tI T k)) := by rw [hm0.2.2.1]; exact nu_bit (by have := hq.2.2.1; omega) (by omega)
  have kq := (tk _ b2).1
  have mK := (hM.2.1 _ b2).1
  have zero : canN T (q 0) (q 1).1 k = false → Q (some (.int 0)) (SH n, I, J) := fun hc => by
    have e : takesN T (q 0) (q 1).1 k = 0 := by unfold takesN; rw [hc]; rfl
    rw [e] at h
    exact h
  have behind : (q 0).2.2.2.testBit k = true → tF T k = (q 0).1 → (!((q 0).2.2.1.testBit (tI T k)) || isB (tK T (tI T k)) 2) = true → EV G 6 (d + 3) 0 0 86 [.ref 12, .int (nI 0), .int (nI k), .ref 14, .int (nI (tI T k)), .int (nI (q 1).1), dm] [] (SH n, I, J) Q := by
    intro g1 g2 g3
    refine EV.at ck6 (by decide) 300 [] ?_
    conv => whnf
    try dsimp only
    refine ⟨trivial, c_beats (show tI T k < 5 by omega) (show (q 1).1 < 5 by have := ho.1; omega) ?_⟩
    rw [bt_eq hT hM b2 ho.1]
    cases hb : btT T (tI T k) (q 1).1
    · refine EV.at ck6 (by decide) 300 [] ?_
      conv => whnf
      try dsimp only
      refine ⟨fun h1 => absurd rfl h1, fun _ => ?_⟩
      conv => whnf
      try dsimp only
      exact ⟨trivial, zero (by unfold canN; rw [hb]; simp)⟩
    · refine EV.at ck6 (by decide) 300 [] ?_
      conv => whnf
      try dsimp only
      refine ⟨fun _ => ?_, fun h1 => absurd h1 (by decide)⟩
      conv => whnf
      try dsimp only
      refine ⟨trivial, c_price (show k < 12 by omega) (show tF T k < 5 by omega) (show tI T k < 5 by omega) (show (q 1).1 < 5 by have := ho.1; omega) kq m9 m10 mK hE ?_⟩
      rw [m11, (hM.2.1 _ b1).1, (hM.2.1 _ ho.1).1, price_eq hT hk ho.1]
      have pl : priceN T k (q 1).1 < 65536 := by unfold priceN; split <;> split <;> split <;> omega
      refine EV.at ck6 (by decide) 300 [] ?_
      conv => whnf
      try dsimp only
      rw [hm0.2.1]
      refine ⟨fun h1 => ?_, fun h1 => ?_⟩
      · conv => whnf
        try dsimp only
        have h1' : (q 0).2.1 < priceN T k (q 1).1 := (nI_ltI (by have := hq.2.1; omega) (by omega)).mp h1
        exact ⟨trivial, zero (by unfold canN; rw [decide_eq_false (show ¬ priceN T k (q 1).1 ≤ (q 0).2.1 by omega)]; simp)⟩
      · conv => whnf
        try dsimp only
        have h1' : ¬ (q 0).2.1 < priceN T k (q 1).1 := fun z => h1 ((nI_ltI (by have := hq.2.1; omega) (by omega)).mpr z)
        have e : takesN T (q 0) (q 1).1 k = priceN T k (q 1).1 := by
          unfold takesN canN
          rw [g1, g2, g3, hb, decide_eq_true (show priceN T k (q 1).1 ≤ (q 0).2.1 by omega)]
          simp
        rw [e] at h
        exact ⟨trivial, h⟩
  refine MT.by ck6 (by decide) rfl (Nat.le_of_ble_eq_true rfl) rfl 300 [86] ?_
  conv => whnf
  try dsimp only
  refine ⟨by unfold vp_in; decide, ?_⟩
  conv => whnf
  try dsimp only
  refine ⟨trivial, c_bit ?_⟩
  rw [ek]
  cases hb1 : (q 0).2.2.2.testBit k
  · refine EV.at ck6 (by decide) 300 [86] ?_
    conv => whnf
    try dsimp only
    refine ⟨fun _ => ?_, fun h1 => absurd rfl h1⟩
    conv => whnf
    try dsimp only
    exact ⟨trivial, zero (by unfold canN; rw [hb1]; rfl)⟩
  · refine EV.at ck6 (by decide) 300 [86] ?_
    conv => whnf
    try dsimp only
    refine ⟨fun h1 => absurd h1 (by decide), fun _ => ?_⟩
    conv => whnf
    try dsimp only
    refine ⟨in_nI (show k < 12 by omega) (by decide), ?_⟩
    conv => whnf
    try dsimp only
    rw [ck, m9, hm0.1]
    refine ⟨fun h1 => ?_, fun h1 => ?_⟩
    · have h1' : tF T k = (q 0).1 := (nu_eq (by omega) (by have := hq.1; omega)).mp h1
      conv => whnf
      try dsimp only
      refine ⟨in_nI (show k < 12 by omega) (by decide), ?_⟩
      conv => whnf
      try dsimp only
      refine ⟨by unfold vp_in; decide, ?_⟩
      conv => whnf
      try dsimp only
      rw [ck, m10, hm1.1]
      refine ⟨trivial, c_bit ?_⟩
      rw [eu]
      cases hb2 : (q 0).2.2.1.testBit (tI T k)
      · refine EV.at ck6 (by decide) 300 [86] ?_
        conv => whnf
        try dsimp only
        refine ⟨fun _ => ?_, fun h2 => absurd h2 (by decide)⟩
        conv => whnf
        try dsimp only
        exact ⟨trivial, behind hb1 h1' (by rw [hb2]; rfl)⟩
      · refine EV.at ck6 (by decide) 300 [86] ?_
        conv => whnf
        try dsimp only
        refine ⟨fun h2 => absurd rfl h2, fun _ => ?_⟩
        conv => whnf
        try dsimp only
        refine ⟨trivial, c_isOf (show tI T k < 5 by omega) kq mK hE ?_⟩
        rw [show isK (tK T (tI T k)) 2 = isB (tK T (tI T k)) 2 from isB_isK _ kq 2 (by decide) (by decide)]
        cases hb3 : isB (tK T (tI T k)) 2
        · refine EV.at ck6 (by decide) 300 [86] ?_
          conv => whnf
          try dsimp only
          refine ⟨fun _ => ?_, fun h3 => absurd rfl h3⟩
          conv => whnf
          try dsimp only
          exact ⟨trivial, zero (by unfold canN; rw [hb2, hb3]; simp)⟩
        · refine EV.at ck6 (by decide) 300 [86] ?_
          conv => whnf
          try dsimp only
          refine ⟨fun h3 => absurd h3 (by decide), fun _ => ?_⟩
          conv => whnf
          try dsimp only
          exact ⟨trivial, behind hb1 h1' (by rw [hb3]; simp)⟩
    · have h1' : ¬ tF T k = (q 0).1 := fun z => h1 (by rw [z])
      conv => whnf
      try dsimp only
      exact ⟨trivial, zero (by unfold canN; rw [show (tF T k == (q 0).1) = false from beq_false_of_ne h1']; simp)⟩
theorem c_takes1 {k : Nat} (hT : tOK T) (hM : tMem T I) (hm : fMem q I) (hs0 : sOK T (q 0)) (hs1 : sOK T (q 1)) (hE : EX I) (hk : k < tC T) (h : Q (some (.int (nI (takesN T (q 1) (q 0).1 k)))) (SH n, I, J)) : MT G (d + 4) 6 [.ref 12, .int (nI 1), .int (nI k)] (SH n, I, J) Q := by
  obtain ⟨t5, tk, t12, tc⟩ := id hT
  obtain ⟨b1, b2, b3, b4⟩ := tc k hk
  obtain ⟨m9, m10, m11⟩ := hM.2.2.2 k hk
  have hm0 : sMem 15 (q 1) I := hm.2
  have hm1 : sMem 14 (q 0) I := hm.1
  have hq : sOK T (q 1) := hs1
  have ho : sOK T (q 0) := hs0
  have ck : (nI k).toNatClampNeg = k := cl_nI (show k < 12 by omega) (by decide)
  have ek : jshr (I 15 3) (nI k) &&& 1 = b2i ((q 1).2.2.2.testBit k) := by rw [hm0.2.2.2]; exact nu_bit (by have := hq.2.2.2; omega) (by omega)
  have eu : jshr (I 15 2) (nI (tI T k)) &&& 1 = b2i ((q 1).2.2.1.testBit (tI T k)) := by rw [hm0.2.2.1]; exact nu_bit (by have := hq.2.2.1; omega) (by omega)
  have kq := (tk _ b2).1
  have mK := (hM.2.1 _ b2).1
  have zero : canN T (q 1) (q 0).1 k = false → Q (some (.int 0)) (SH n, I, J) := fun hc => by
    have e : takesN T (q 1) (q 0).1 k = 0 := by unfold takesN; rw [hc]; rfl
    rw [e] at h
    exact h
  have behind : (q 1).2.2.2.testBit k = true → tF T k = (q 1).1 → (!((q 1).2.2.1.testBit (tI T k)) || isB (tK T (tI T k)) 2) = true → EV G 6 (d + 3) 0 0 86 [.ref 12, .int (nI 1), .int (nI k), .ref 15, .int (nI (tI T k)), .int (nI (q 0).1), dm] [] (SH n, I, J) Q := by
    intro g1 g2 g3
    refine EV.at ck6 (by decide) 300 [] ?_
    conv => whnf
    try dsimp only
    refine ⟨trivial, c_beats (show tI T k < 5 by omega) (show (q 0).1 < 5 by have := ho.1; omega) ?_⟩
    rw [bt_eq hT hM b2 ho.1]
    cases hb : btT T (tI T k) (q 0).1
    · refine EV.at ck6 (by decide) 300 [] ?_
      conv => whnf
      try dsimp only
      refine ⟨fun h1 => absurd rfl h1, fun _ => ?_⟩
      conv => whnf
      try dsimp only
      exact ⟨trivial, zero (by unfold canN; rw [hb]; simp)⟩
    · refine EV.at ck6 (by decide) 300 [] ?_
      conv => whnf
      try dsimp only
      refine ⟨fun _ => ?_, fun h1 => absurd h1 (by decide)⟩
      conv => whnf
      try dsimp only
      refine ⟨trivial, c_price (show k < 12 by omega) (show tF T k < 5 by omega) (show tI T k < 5 by omega) (show (q 0).1 < 5 by have := ho.1; omega) kq m9 m10 mK hE ?_⟩
      rw [m11, (hM.2.1 _ b1).1, (hM.2.1 _ ho.1).1, price_eq hT hk ho.1]
      have pl : priceN T k (q 0).1 < 65536 := by unfold priceN; split <;> split <;> split <;> omega
      refine EV.at ck6 (by decide) 300 [] ?_
      conv => whnf
      try dsimp only
      rw [hm0.2.1]
      refine ⟨fun h1 => ?_, fun h1 => ?_⟩
      · conv => whnf
        try dsimp only
        have h1' : (q 1).2.1 < priceN T k (q 0).1 := (nI_ltI (by have := hq.2.1; omega) (by omega)).mp h1
        exact ⟨trivial, zero (by unfold canN; rw [decide_eq_false (show ¬ priceN T k (q 0).1 ≤ (q 1).2.1 by omega)]; simp)⟩
      · conv => whnf
        try dsimp only
        have h1' : ¬ (q 1).2.1 < priceN T k (q 0).1 := fun z => h1 ((nI_ltI (by have := hq.2.1; omega) (by omega)).mpr z)
        have e : takesN T (q 1) (q 0).1 k = priceN T k (q 0).1 := by
          unfold takesN canN
          rw [g1, g2, g3, hb, decide_eq_true (show priceN T k (q 0).1 ≤ (q 1).2.1 by omega)]
          simp
        rw [e] at h
        exact ⟨trivial, h⟩
  refine MT.by ck6 (by decide) rfl (Nat.le_of_ble_eq_true rfl) rfl 300 [86] ?_
  conv => whnf
  try dsimp only
  refine ⟨by unfold vp_in; decide, ?_⟩
  conv => whnf
  try dsimp only
  refine ⟨trivial, c_bit ?_⟩
  rw [ek]
  cases hb1 : (q 1).2.2.2.testBit k
  · refine EV.at ck6 (by decide) 300 [86] ?_
    conv => whnf
    try dsimp only
    refine ⟨fun _ => ?_, fun h1 => absurd rfl h1⟩
    conv => whnf
    try dsimp only
    exact ⟨trivial, zero (by unfold canN; rw [hb1]; rfl)⟩
  · refine EV.at ck6 (by decide) 300 [86] ?_
    conv => whnf
    try dsimp only
    refine ⟨fun h1 => absurd h1 (by decide), fun _ => ?_⟩
    conv => whnf
    try dsimp only
    refine ⟨in_nI (show k < 12 by omega) (by decide), ?_⟩
    conv => whnf
    try dsimp only
    rw [ck, m9, hm0.1]
    refine ⟨fun h1 => ?_, fun h1 => ?_⟩
    · have h1' : tF T k = (q 1).1 := (nu_eq (by omega) (by have := hq.1; omega)).mp h1
      conv => whnf
      try dsimp only
      refine ⟨in_nI (show k < 12 by omega) (by decide), ?_⟩
      conv => whnf
      try dsimp only
      refine ⟨by unfold vp_in; decide, ?_⟩
      conv => whnf
      try dsimp only
      rw [ck, m10, hm1.1]
      refine ⟨trivial, c_bit ?_⟩
      rw [eu]
      cases hb2 : (q 1).2.2.1.testBit (tI T k)
      · refine EV.at ck6 (by decide) 300 [86] ?_
        conv => whnf
        try dsimp only
        refine ⟨fun _ => ?_, fun h2 => absurd h2 (by decide)⟩
        conv => whnf
        try dsimp only
        exact ⟨trivial, behind hb1 h1' (by rw [hb2]; rfl)⟩
      · refine EV.at ck6 (by decide) 300 [86] ?_
        conv => whnf
        try dsimp only
        refine ⟨fun h2 => absurd rfl h2, fun _ => ?_⟩
        conv => whnf
        try dsimp only
        refine ⟨trivial, c_isOf (show tI T k < 5 by omega) kq mK hE ?_⟩
        rw [show isK (tK T (tI T k)) 2 = isB (tK T (tI T k)) 2 from isB_isK _ kq 2 (by decide) (by decide)]
        cases hb3 : isB (tK T (tI T k)) 2
        · refine EV.at ck6 (by decide) 300 [86] ?_
          conv => whnf
          try dsimp only
          refine ⟨fun _ => ?_, fun h3 => absurd rfl h3⟩
          conv => whnf
          try dsimp only
          exact ⟨trivial, zero (by unfold canN; rw [hb2, hb3]; simp)⟩
        · refine EV.at ck6 (by decide) 300 [86] ?_
          conv => whnf
          try dsimp only
          refine ⟨fun h3 => absurd h3 (by decide), fun _ => ?_⟩
          conv => whnf
          try dsimp only
          exact ⟨trivial, behind hb1 h1' (by rw [hb3]; simp)⟩
    · have h1' : ¬ tF T k = (q 1).1 := fun z => h1 (by rw [z])
      conv => whnf
      try dsimp only
      exact ⟨trivial, zero (by unfold canN; rw [show (tF T k == (q 1).1) = false from beq_false_of_ne h1']; simp)⟩
theorem c_takes {k w : Nat} (hw : w < 2) (hT : tOK T) (hM : tMem T I) (hm : fMem q I) (hs0 : sOK T (q 0)) (hs1 : sOK T (q 1)) (hE : EX I) (hk : k < tC T) (h : Q (some (.int (nI (takesN T (q w) (q (1 - w)).1 k)))) (SH n, I, J)) : MT G (d + 4) 6 [.ref 12, .int (nI w), .int (nI k)] (SH n, I, J) Q := by
  rcases (show w = 0 ∨ w = 1 by omega) with rfl | rfl
  · exact c_takes0 hT hM hm hs0 hs1 hE hk h
  · exact c_takes1 hT hM hm hs0 hs1 hE hk h
/-- which CHANGES can be, as bits of a natural -/
def optN (T : TN) (q : SD) (o : Nat) : Nat → Nat
  | 0 => 0
  | k + 1 => optN T q o k ||| (if canN T q o k then 2 ^ k else 0)
theorem takes_pos {q : SD} {o k : Nat} : (0 < takesN T q o k) ↔ canN T q o k = true := by
  unfold takesN
  cases canN T q o k
  · simp
  · simp only [if_true, iff_true]
    unfold priceN
    omega
theorem takes_lt {q : SD} {o k : Nat} (hT : tOK T) (hk : k < tC T) : takesN T q o k < 65536 := by
  have := (hT.2.2.2 k hk).2.2.2
  unfold takesN priceN
  split
  · split <;> split <;> split <;> omega
  · omega
theorem c_options {w : Nat} (hw : w < 2) (hT : tOK T) (hM : tMem T I) (hm : fMem q I) (hs0 : sOK T (q 0)) (hs1 : sOK T (q 1)) (hE : EX I) (h : Q (some (.int (nI (optN T (q w) (q (1 - w)).1 (tC T))))) (SH n, I, J)) : MT G (d + 5) 7 [.ref 12, .int (nI w)] (SH n, I, J) Q := by
  have t12 := hT.2.2.1
  have hI : I 6 3 = nI (tC T) := hM.2.2.1
  generalize hc : tC T = c at h hI t12
  have loop : ∀ m j, j + m = c → EV G 7 (d + 4) 0 0 4 [.ref 12, .int (nI w), .int (nI (optN T (q w) (q (1 - w)).1 j)), .int (nI j)] [] (SH n, I, J) Q := by
    intro m
    induction m with
    | zero =>
      intro j hj
      have hj : j = c := hj
      rw [← hj] at h hI
      refine EV.at ck7 (by decide) 300 [] ?_
      conv => whnf
      try dsimp only
      rw [hI]
      refine ⟨fun _ => ?_, fun h1 => absurd (nI_le (Nat.le_refl j) (by omega)) h1⟩
      conv => whnf
      try dsimp only
      exact ⟨trivial, h⟩
    | succ m ih =>
      intro j hj
      have ihj := ih (j + 1) (by omega)
      rw [nI_succ] at ihj
      refine EV.at ck7 (by decide) 300 [] ?_
      conv => whnf
      try dsimp only
      rw [hI]
      refine ⟨fun h1 => absurd h1 (nI_ge (show j < c by omega) (by omega)), fun _ => ?_⟩
      conv => whnf
      try dsimp only
      have hjc : j < tC T := by omega
      refine ⟨trivial, c_takes hw hT hM hm hs0 hs1 hE hjc ?_⟩
      have tl := takes_lt (q := q w) (o := (q (1 - w)).1) hT hjc
      cases hb : canN T (q w) (q (1 - w)).1 j
      · have ht : takesN T (q w) (q (1 - w)).1 j = 0 := by unfold takesN; rw [hb]; rfl
        have e : optN T (q w) (q (1 - w)).1 (j + 1) = optN T (q w) (q (1 - w)).1 j ||| 0 := by show _ ||| (if canN T (q w) (q (1 - w)).1 j then 2 ^ j else 0) = _; rw [hb]; rfl
        rw [e, ← fa_or] at ihj
        rw [ht]
        refine EV.at ck7 (by decide) 300 [] ?_
        conv => whnf
        try dsimp only
        refine ⟨fun _ => ?_, fun h1 => absurd (by decide) h1⟩
        conv => whnf
        try dsimp only
        exact ⟨trivial, ihj⟩
      · have ht : 0 < takesN T (q w) (q (1 - w)).1 j := takes_pos.mpr hb
        have e : optN T (q w) (q (1 - w)).1 (j + 1) = optN T (q w) (q (1 - w)).1 j ||| 2 ^ j := by show _ ||| (if canN T (q w) (q (1 - w)).1 j then 2 ^ j else 0) = _; rw [hb]; rfl
        rw [e, ← fa_or, ← nu_one (show j < 31 by omega)] at ihj
        refine EV.at ck7 (by decide) 300 [] ?_
        conv => whnf
        try dsimp only
        refine ⟨fun h1 => absurd h1 (nI_nle ht (by omega)), fun _ => ?_⟩
        conv => whnf
        try dsimp only
        exact ⟨trivial, ihj⟩
  refine MT.by ck7 (by decide) rfl (Nat.le_of_ble_eq_true rfl) rfl 300 [4] ?_
  conv => whnf
  try dsimp only
  exact ⟨trivial, loop c 0 (by omega)⟩
/-- a fighter behind a CHANGE -/
def stepS (T : TN) (q : SD) (k t : Nat) : SD := (tI T k, q.2.1 - t, q.2.2.1 ||| 2 ^ tI T k, q.2.2.2)
theorem c_step0 {k t : Nat} (hT : tOK T) (hM : tMem T I) (hm : fMem q I) (hs : sOK T (q 0)) (hk : k < tC T) (ht : t ≤ (q 0).2.1) (h : Q none (SH n, sdI I 14 (stepS T (q 0) k t).1 (stepS T (q 0) k t).2.1 (stepS T (q 0) k t).2.2.1, J)) : MT G (d + 1) 8 [.ref 12, .int (nI 0), .int (nI k), .int (nI t)] (SH n, I, J) Q := by
  obtain ⟨t5, tk, t12, tc⟩ := id hT
  obtain ⟨b1, b2, b3, b4⟩ := tc k hk
  obtain ⟨m9, m10, m11⟩ := hM.2.2.2 k hk
  have hm0 : sMem 14 (q 0) I := hm.1
  have ck : (nI k).toNatClampNeg = k := cl_nI (show k < 12 by omega) (by decide)
  refine MT.by ck8 (by decide) rfl (Nat.le_of_ble_eq_true rfl) rfl 300 [] ?_
  conv => whnf
  try dsimp only
  refine ⟨by unfold vp_in; decide, ?_⟩
  conv => whnf
  try dsimp only
  refine ⟨in_nI (show k < 12 by omega) (by decide), ?_⟩
  conv => whnf
  try dsimp only
  rw [ck, m10]
  have r0 : upI I 14 0 (nI (tI T k)) 14 0 = nI (tI T k) := rfl
  have r2 : upI I 14 0 (nI (tI T k)) 14 2 = nI (q 0).2.2.1 := hm0.2.2.1
  have r1 : ∀ x, upI (upI I 14 0 (nI (tI T k))) 14 2 x 14 1 = nI (q 0).2.1 := fun x => hm0.2.1
  rw [r0, r2, r1, nu_one (show tI T k < 31 by omega), fa_or, pk_sub ht, sd_021]
  exact ⟨trivial, h⟩
theorem c_step1 {k t : Nat} (hT : tOK T) (hM : tMem T I) (hm : fMem q I) (hs : sOK T (q 1)) (hk : k < tC T) (ht : t ≤ (q 1).2.1) (h : Q none (SH n, sdI I 15 (stepS T (q 1) k t).1 (stepS T (q 1) k t).2.1 (stepS T (q 1) k t).2.2.1, J)) : MT G (d + 1) 8 [.ref 12, .int (nI 1), .int (nI k), .int (nI t)] (SH n, I, J) Q := by
  obtain ⟨t5, tk, t12, tc⟩ := id hT
  obtain ⟨b1, b2, b3, b4⟩ := tc k hk
  obtain ⟨m9, m10, m11⟩ := hM.2.2.2 k hk
  have hm0 : sMem 15 (q 1) I := hm.2
  have ck : (nI k).toNatClampNeg = k := cl_nI (show k < 12 by omega) (by decide)
  refine MT.by ck8 (by decide) rfl (Nat.le_of_ble_eq_true rfl) rfl 300 [] ?_
  conv => whnf
  try dsimp only
  refine ⟨by unfold vp_in; decide, ?_⟩
  conv => whnf
  try dsimp only
  refine ⟨in_nI (show k < 12 by omega) (by decide), ?_⟩
  conv => whnf
  try dsimp only
  rw [ck, m10]
  have r0 : upI I 15 0 (nI (tI T k)) 15 0 = nI (tI T k) := rfl
  have r2 : upI I 15 0 (nI (tI T k)) 15 2 = nI (q 1).2.2.1 := hm0.2.2.1
  have r1 : ∀ x, upI (upI I 15 0 (nI (tI T k))) 15 2 x 15 1 = nI (q 1).2.1 := fun x => hm0.2.1
  rw [r0, r2, r1, nu_one (show tI T k < 31 by omega), fa_or, pk_sub ht, sd_021]
  exact ⟨trivial, h⟩
end
end
section
/-! the class's Memo (cell 28; keys 29, values 30); the rows wb_ are the kit's BITS.to-paste -/
theorem wb_tb (n : Nat) : (lN n).toBitVec = BitVec.ofNat 64 n := rfl
theorem wb_inj {a b : Int64} (h : a.toBitVec = b.toBitVec) : a = b := Int64.toBitVec_inj.mp h
theorem wb_tn {n : Nat} (h : n < 2 ^ 64) : (lN n).toBitVec.toNat = n := by rw [wb_tb, BitVec.toNat_ofNat, Nat.mod_eq_of_lt h]
theorem wb_of (x : Int64) : ∃ n, n < 2 ^ 64 ∧ x = lN n := ⟨x.toBitVec.toNat, x.toBitVec.isLt, wb_inj (by rw [wb_tb]; simp)⟩
theorem wb_of32 (x : Int32) : ∃ n, n < 2 ^ 32 ∧ x = nI n := ⟨x.toBitVec.toNat, x.toBitVec.isLt, Int32.toBitVec_inj.mp (by show _ = BitVec.ofNat 32 _; simp)⟩
theorem wb_c : ∀ k, k < 64 → ((nI k).toInt64 &&& 63) = lN k := by decide +kernel
theorem wb_cu : ∀ k, k < 64 → ((nI k).toInt64.toUInt64 &&& Int64.toUInt64 63) = UInt64.ofNat k := by decide +kernel
theorem wb_sm : ∀ k, k < 64 → (BitVec.ofNat 64 k).smod 64 = BitVec.ofNat 64 k := by decide +kernel
theorem wb_pw {a b : Nat} (h : a ≤ b) : 2 ^ b = 2 ^ a * 2 ^ (b - a) := by rw [← Nat.pow_add]; congr 1; omega
theorem wb_lt2 {a b : Nat} (h : a < b) : 2 ^ a < 2 ^ b := Nat.pow_lt_pow_right (by decide) h
theorem wb_mod (n : Nat) : lN n = lN (n % 2 ^ 64) := wb_inj (by rw [wb_tb, wb_tb]; apply BitVec.eq_of_toNat_eq; rw [BitVec.toNat_ofNat, BitVec.toNat_ofNat, Nat.mod_mod])
theorem wb_shr {n k : Nat} (hn : n < 2 ^ 64) (hk : k < 64) : ((lN n).toUInt64 >>> ((nI k).toInt64.toUInt64 &&& Int64.toUInt64 63)).toInt64 = lN (n / 2 ^ k) := by
  rw [wb_cu k hk]
  apply wb_inj
  apply BitVec.eq_of_toNat_eq
  show ((lN n).toUInt64 >>> UInt64.ofNat k).toNat = (BitVec.ofNat 64 _).toNat
  have h1 : (UInt64.ofNat k).toNat = k := by
    show (BitVec.ofNat 64 k).toNat = k
    rw [BitVec.toNat_ofNat, Nat.mod_eq_of_lt (by omega)]
  have h2 : (lN n).toUInt64.toNat = n := wb_tn hn
  rw [UInt64.toNat_shiftRight, h1, h2, Nat.mod_eq_of_lt hk, Nat.shiftRight_eq_div_pow, BitVec.toNat_ofNat, Nat.mod_eq_of_lt (Nat.lt_of_le_of_lt (Nat.div_le_self _ _) hn)]
theorem wb_shl (n : Nat) {k : Nat} (hk : k < 64) : lN n <<< ((nI k).toInt64 &&& 63) = lN (n * 2 ^ k) := by
  rw [wb_c k hk]
  apply wb_inj
  rw [Int64.toBitVec_shiftLeft, wb_tb, wb_tb, wb_tb, wb_sm k hk]
  apply BitVec.eq_of_toNat_eq
  rw [BitVec.shiftLeft_eq', BitVec.toNat_shiftLeft, BitVec.toNat_ofNat, BitVec.toNat_ofNat, BitVec.toNat_ofNat, Nat.mod_eq_of_lt (show k < 2 ^ 64 by omega), Nat.shiftLeft_eq, Nat.mul_mod, Nat.mod_mod, ← Nat.mul_mod]
theorem wb_and {a b : Nat} (ha : a < 2 ^ 64) (hb : b < 2 ^ 64) : lN a &&& lN b = lN (a &&& b) := by
  apply wb_inj
  rw [Int64.toBitVec_and, wb_tb, wb_tb, wb_tb]
  apply BitVec.eq_of_toNat_eq
  rw [BitVec.toNat_and, BitVec.toNat_ofNat, BitVec.toNat_ofNat, BitVec.toNat_ofNat, Nat.mod_eq_of_lt ha, Nat.mod_eq_of_lt hb, Nat.mod_eq_of_lt (Nat.and_lt_two_pow _ hb)]
theorem wb_or {a b : Nat} (ha : a < 2 ^ 64) (hb : b < 2 ^ 64) : lN a ||| lN b = lN (a ||| b) := by
  apply wb_inj
  rw [Int64.toBitVec_or, wb_tb, wb_tb, wb_tb]
  apply BitVec.eq_of_toNat_eq
  rw [BitVec.toNat_or, BitVec.toNat_ofNat, BitVec.toNat_ofNat, BitVec.toNat_ofNat, Nat.mod_eq_of_lt ha, Nat.mod_eq_of_lt hb, Nat.mod_eq_of_lt (Nat.or_lt_two_pow ha hb)]
theorem lgc {x y : Int64} : lg_cmp x y = 0 ↔ x = y := by
  unfold lg_cmp
  by_cases h1 : x > y
  · rw [if_pos h1]
    constructor
    · intro h; exact absurd h (by decide)
    · intro h; rw [h] at h1; exact absurd h1 (Int64.lt_irrefl)
  · rw [if_neg h1]
    by_cases h2 : x = y
    · rw [if_pos h2]; simp [h2]
    · rw [if_neg h2]
      constructor
      · intro h; exact absurd h (by decide)
      · intro h; exact absurd h h2
def keyN (e p w : Nat) : Nat := e * 2 ^ 32 + p * 2 + w
theorem key_eq {e p w : Nat} (he : e < 2 ^ 30) (hp : p < 2 ^ 22) (hw : w < 2) : (jshlL (lN e) 32 ||| (jshl (nI p) 1).toInt64) ||| (nI w).toInt64 = lN (keyN e p w) := by
  have e1 : jshlL (lN e) 32 = lN (e * 2 ^ 32) := wb_shl e (k := 32) (by decide)
  have e2 : jshl (nI p) 1 = nI (p * 2 ^ 1) := nu_shl (j := 1) (by omega) (by omega)
  rw [e1, e2, nI_l (by omega), nI_l (by omega), wb_or (by omega) (by omega)]
  have e3 : e * 2 ^ 32 ||| p * 2 ^ 1 = e * 2 ^ 32 + p * 2 := by rw [Nat.mul_comm e, ← Nat.two_pow_add_eq_or_of_lt (show p * 2 ^ 1 < 2 ^ 32 by omega)]
  rw [e3, wb_or (by omega) (by omega)]
  have e4 : (e * 2 ^ 32 + p * 2) ||| w = e * 2 ^ 32 + p * 2 + w := by
    have e5 : e * 2 ^ 32 + p * 2 = 2 ^ 1 * (e * 2 ^ 31 + p) := by omega
    rw [e5, ← Nat.two_pow_add_eq_or_of_lt (show w < 2 ^ 1 by omega)]
  rw [e4]
  rfl
theorem ush21 (x : Int32) : ∃ s, s < 2048 ∧ jushr x 21 = nI s := by
  have h := pk_ushr x 21 21 (by decide)
  have hl : x.toBitVec.toNat < 2 ^ 32 := x.toBitVec.isLt
  refine ⟨x.toBitVec.toNat / 2 ^ 21, by omega, ?_⟩
  apply Int32.toBitVec_inj.1
  apply BitVec.eq_of_toNat_eq
  show (jushr x 21).toBitVec.toNat = (BitVec.ofNat 32 _).toNat
  rw [BitVec.toNat_ofNat, Nat.mod_eq_of_lt (by omega)]
  exact h
def SF (J : Nat → Nat → Int64) (key : Int64) (v : Int32) : Prop := v = -1 ∨ ∃ s, s < 2048 ∧ v = nI s ∧ (J 29 s = key ∨ ¬ jushrL (J 29 s) 32 = J 28 2)
section
variable {G : GG} {d n : Nat} {I : Nat → Nat → Int32} {J : Nat → Nat → Int64} {Q : Option Value → MH → Prop}
theorem c_forget (h : Q none (SH n, I, upL J 28 2 (J 28 2 + 1))) : MT G (d + 1) 22 [.ref 28] (SH n, I, J) Q := by
  refine MT.by ck22 (by decide) rfl (Nat.le_of_ble_eq_true rfl) rfl 300 [] ?_
  conv => whnf
  try dsimp only
  exact ⟨trivial, h⟩
theorem c_keyOf {e p w : Nat} (he : e < 2 ^ 30) (hp : p < 2 ^ 22) (hw : w < 2) (hJ : J 28 2 = lN e) (h : Q (some (.long (lN (keyN e p w)))) (SH n, I, J)) : MT G (d + 1) 23 [.ref 28, .int (nI p), .int (nI w)] (SH n, I, J) Q := by
  refine MT.by ck23 (by decide) rfl (Nat.le_of_ble_eq_true rfl) rfl 300 [] ?_
  conv => whnf
  try dsimp only
  rw [hJ, key_eq he hp hw]
  exact ⟨trivial, h⟩
theorem c_slotFor {key : Int64} (h : ∀ v, SF J key v → Q (some (.int v)) (SH n, I, J)) : MT G (d + 1) 24 [.ref 28, .long key] (SH n, I, J) Q := by
  have loop : ∀ m j s, j + m = 16 → s < 2048 → EV G 24 d 0 0 12 [.ref 28, .long key, dm, .int (nI s), .int (nI j)] [] (SH n, I, J) Q := by
    intro m
    induction m with
    | zero =>
      intro j s hj hs
      have hj : j = 16 := hj
      subst hj
      refine EV.at ck24 (by decide) 300 [] ?_
      conv => whnf
      try dsimp only
      refine ⟨fun _ => ?_, fun h1 => absurd (by decide) h1⟩
      conv => whnf
      try dsimp only
      exact ⟨trivial, h _ (Or.inl rfl)⟩
    | succ m ih =>
      intro j s hj hs
      have cs : (nI s).toNatClampNeg = s := nI_clamp (by omega)
      have ihj := ih (j + 1) ((s + 1) % 2048) (by omega) (Nat.mod_lt _ (by decide))
      rw [nI_succ j] at ihj
      have es : (nI s + 1) &&& 2047 = nI ((s + 1) % 2048) := by
        rw [nI_1]
        exact pk_andN (by omega) 11 (by decide)
      rw [← es] at ihj
      refine EV.at ck24 (by decide) 300 [] ?_
      conv => whnf
      try dsimp only
      refine ⟨fun h1 => absurd h1 (nI_ge (b := 16) (show j < 16 by omega) (by decide)), fun _ => ?_⟩
      conv => whnf
      try dsimp only
      refine ⟨in_nI hs (by decide), ?_⟩
      conv => whnf
      try dsimp only
      rw [cs]
      refine ⟨fun h1 => ?_, fun h1 => ?_⟩
      · conv => whnf
        try dsimp only
        exact ⟨trivial, h _ (Or.inr ⟨s, hs, rfl, Or.inl (lgc.mp h1)⟩)⟩
      · conv => whnf
        try dsimp only
        refine ⟨in_nI hs (by decide), ?_⟩
        conv => whnf
        try dsimp only
        rw [cs]
        refine ⟨fun h2 => ?_, fun h2 => ?_⟩
        · conv => whnf
          try dsimp only
          exact ⟨trivial, ihj⟩
        · conv => whnf
          try dsimp only
          exact ⟨trivial, h _ (Or.inr ⟨s, hs, rfl, Or.inr (fun z => h2 (lgc.mpr z))⟩)⟩
  refine MT.by ck24 (by decide) rfl (Nat.le_of_ble_eq_true rfl) rfl 300 [12] ?_
  conv => whnf
  try dsimp only
  obtain ⟨s, hs, e⟩ := ush21 (key.toInt32 * -1640531535)
  rw [e]
  exact ⟨trivial, loop 16 0 s (by omega) hs⟩
theorem c_hasN {key : Int64} (h : Q (some (.int 0)) (SH n, I, J)) : MT G (d + 1) 25 [.ref 28, .int (-1), .long key] (SH n, I, J) Q := by
  refine MT.by ck25 (by decide) rfl (Nat.le_of_ble_eq_true rfl) rfl 300 [] ?_
  conv => whnf
  try dsimp only
  refine ⟨fun _ => ?_, fun h1 => absurd (by decide) h1⟩
  conv => whnf
  try dsimp only
  exact ⟨Or.inl rfl, h⟩
theorem c_has {key : Int64} {s : Nat} (hs : s < 2048) (h : Q (some (.int (b2i (decide (J 29 s = key))))) (SH n, I, J)) : MT G (d + 1) 25 [.ref 28, .int (nI s), .long key] (SH n, I, J) Q := by
  have cs : (nI s).toNatClampNeg = s := nI_clamp (by omega)
  refine MT.by ck25 (by decide) rfl (Nat.le_of_ble_eq_true rfl) rfl 300 [] ?_
  conv => whnf
  try dsimp only
  refine ⟨fun h1 => absurd h1 (nI_pos (by omega)), fun _ => ?_⟩
  conv => whnf
  try dsimp only
  refine ⟨in_nI hs (by decide), ?_⟩
  conv => whnf
  try dsimp only
  rw [cs]
  refine ⟨fun h1 => ?_, fun h1 => ?_⟩
  · conv => whnf
    try dsimp only
    rw [decide_eq_false (fun z => h1 (lgc.mpr z))] at h
    exact ⟨Or.inl rfl, h⟩
  · conv => whnf
    try dsimp only
    rw [decide_eq_true (lgc.mp h1)] at h
    exact ⟨Or.inr rfl, h⟩
def ST (J : Nat → Nat → Int64) (key value : Int64) (J' : Nat → Nat → Int64) : Prop := J' = J ∨ ∃ s, s < 2048 ∧ (J 29 s = key ∨ ¬ jushrL (J 29 s) 32 = J 28 2) ∧ J' = upL (upL J 29 s key) 30 s value
theorem c_store {key value : Int64} (h : ∀ J', ST J key value J' → Q none (SH n, I, J')) : MT G (d + 2) 26 [.ref 28, .long key, .long value] (SH n, I, J) Q := by
  refine MT.by ck26 (by decide) rfl (Nat.le_of_ble_eq_true rfl) rfl 300 [] ?_
  conv => whnf
  try dsimp only
  refine ⟨trivial, c_slotFor (fun v hv => ?_)⟩
  rcases hv with rfl | ⟨s, hs, rfl, hv⟩
  · refine EV.at ck26 (by decide) 300 [] ?_
    conv => whnf
    try dsimp only
    refine ⟨fun _ => ?_, fun h1 => absurd (by decide) h1⟩
    conv => whnf
    try dsimp only
    exact ⟨trivial, h _ (Or.inl rfl)⟩
  · have cs : (nI s).toNatClampNeg = s := nI_clamp (by omega)
    refine EV.at ck26 (by decide) 300 [] ?_
    conv => whnf
    try dsimp only
    refine ⟨fun h1 => absurd h1 (nI_pos (by omega)), fun _ => ?_⟩
    conv => whnf
    try dsimp only
    refine ⟨in_nI hs (by decide), ?_⟩
    conv => whnf
    try dsimp only
    refine ⟨in_nI hs (by decide), ?_⟩
    conv => whnf
    try dsimp only
    rw [cs]
    exact ⟨trivial, h _ (Or.inr ⟨s, hs, hv, rfl⟩)⟩
end
end
section
/-! the fight solved: in how many CHANGES it ends (the class's Search, cell 31) -/
def betN (a b : Nat) : Nat := if (b % 2 = 1) ↔ (a % 2 = 1) then (if b % 2 = 1 then min a b else max a b) else (if b % 2 = 1 then b else a)
theorem betN_le {a b m : Nat} (ha : a ≤ m) (hb : b ≤ m) : betN a b ≤ m := by
  unfold betN
  split
  · split <;> omega
  · split <;> omega
/-- the fighters behind a CHANGE of w -/
def stepQ (T : TN) (q : Nat → SD) (w k : Nat) : Nat → SD := fun v => if v = w then stepS T (q w) k (takesN T (q w) (q (1 - w)).1 k) else q v
def eFold (g : Nat → Nat) (can : Nat → Bool) : Nat → Nat
  | 0 => 0
  | k + 1 => if can k then betN (eFold g can k) (1 + g k) else eFold g can k
def endsF (T : TN) : Nat → (Nat → SD) → Nat → Nat
  | 0, _, _ => 0
  | f + 1, q, w => eFold (fun k => endsF T f (stepQ T q w k) (1 - w)) (fun k => canN T (q w) (q (1 - w)).1 k) (tC T)
def ends (T : TN) (q : Nat → SD) (w : Nat) : Nat := endsF T 10 q w
def fsum (q : Nat → SD) : Nat := (q 0).2.1 + (q 1).2.1
def vQ (T : TN) (q : Nat → SD) : Prop := sOK T (q 0) ∧ sOK T (q 1)
theorem eFold_le {g : Nat → Nat} {can : Nat → Bool} {m : Nat} (h : ∀ k, g k ≤ m) : ∀ c, eFold g can c ≤ m + 1
  | 0 => Nat.zero_le _
  | c + 1 => by
    unfold eFold
    split
    · exact betN_le (eFold_le h c) (by have := h c; omega)
    · exact eFold_le h c
theorem endsF_le (T : TN) : ∀ f q w, endsF T f q w ≤ f
  | 0, _, _ => Nat.le_refl 0
  | f + 1, q, w => eFold_le (fun k => endsF_le T f _ _) _
theorem eFold_congr {g g' : Nat → Nat} {can : Nat → Bool} : ∀ c, (∀ k, k < c → can k = true → g k = g' k) → eFold g can c = eFold g' can c
  | 0, _ => rfl
  | c + 1, h => by
    unfold eFold
    rw [eFold_congr c (fun k hk => h k (by omega))]
    by_cases hc : can c = true
    · rw [if_pos hc, if_pos hc, h c (by omega) hc]
    · rw [if_neg hc, if_neg hc]
theorem can_price {T : TN} {q : SD} {o k : Nat} (h : canN T q o k = true) : takesN T q o k ≤ q.2.1 ∧ 1 ≤ takesN T q o k := by
  have h2 : priceN T k o ≤ q.2.1 := by
    unfold canN at h
    simp only [Bool.and_eq_true, decide_eq_true_eq] at h
    exact h.2.2.2.2
  have h3 : 1 ≤ priceN T k o := by unfold priceN; omega
  unfold takesN
  rw [if_pos h]
  exact ⟨h2, h3⟩
theorem fsum_step {T : TN} {q : Nat → SD} {w k : Nat} (hw : w < 2) (h : canN T (q w) (q (1 - w)).1 k = true) : fsum (stepQ T q w k) + 1 ≤ fsum q := by
  obtain ⟨h1, h2⟩ := can_price h
  rcases (show w = 0 ∨ w = 1 by omega) with rfl | rfl
  · show (q 0).2.1 - _ + (q 1).2.1 + 1 ≤ (q 0).2.1 + (q 1).2.1
    omega
  · show (q 0).2.1 + ((q 1).2.1 - _) + 1 ≤ (q 0).2.1 + (q 1).2.1
    omega
theorem eFold_none {g : Nat → Nat} {can : Nat → Bool} : ∀ c, (∀ k, k < c → can k = false) → eFold g can c = 0
  | 0, _ => rfl
  | c + 1, h => by
    unfold eFold
    rw [h c (by omega)]
    exact eFold_none c (fun k hk => h k (by omega))
theorem endsF_stable {T : TN} : ∀ f q w, w < 2 → fsum q ≤ f → endsF T (f + 1) q w = endsF T f q w
  | 0, q, w, hw, h => by
    show eFold _ _ _ = 0
    refine eFold_none _ (fun k _ => ?_)
    cases hc : canN T (q w) (q (1 - w)).1 k with
    | false => rfl
    | true => exact absurd (fsum_step hw hc) (by omega)
  | f + 1, q, w, hw, h => by
    show eFold _ _ _ = eFold _ _ _
    refine eFold_congr _ (fun k _ hc => ?_)
    exact endsF_stable f _ _ (by omega) (by have := fsum_step hw hc; omega)
theorem endsF_ends {T : TN} {q : Nat → SD} {w : Nat} (hw : w < 2) : ∀ m f, f + m = 10 → fsum q ≤ f → endsF T f q w = ends T q w
  | 0, f, hf, _ => by have : f = 10 := hf; subst this; rfl
  | m + 1, f, hf, h => by
    rw [← endsF_stable f q w hw h]
    exact endsF_ends hw m (f + 1) (by omega) (by omega)
theorem stepQ_congr {T : TN} {q q' : Nat → SD} {w k : Nat} (hw : w < 2) (h0 : q 0 = q' 0) (h1 : q 1 = q' 1) : stepQ T q w k 0 = stepQ T q' w k 0 ∧ stepQ T q w k 1 = stepQ T q' w k 1 := by
  rcases (show w = 0 ∨ w = 1 by omega) with rfl | rfl <;> simp [stepQ, h0, h1]
theorem endsF_congr {T : TN} : ∀ f (q q' : Nat → SD) w, w < 2 → q 0 = q' 0 → q 1 = q' 1 → endsF T f q w = endsF T f q' w
  | 0, _, _, _, _, _, _ => rfl
  | f + 1, q, q', w, hw, h0, h1 => by
    have hc : (fun k => canN T (q w) (q (1 - w)).1 k) = (fun k => canN T (q' w) (q' (1 - w)).1 k) := by
      rcases (show w = 0 ∨ w = 1 by omega) with rfl | rfl <;> simp [h0, h1]
    show eFold _ _ _ = eFold _ _ _
    rw [hc]
    refine eFold_congr _ (fun k _ _ => ?_)
    obtain ⟨a, b⟩ := stepQ_congr (T := T) (k := k) hw h0 h1
    exact endsF_congr f _ _ _ (by omega) a b
theorem vQ_step {T : TN} {q : Nat → SD} {w k : Nat} (hT : tOK T) (hw : w < 2) (hk : k < tC T) (hv : vQ T q) : vQ T (stepQ T q w k) := by
  have hs : ∀ x : SD, ∀ t, sOK T x → sOK T (stepS T x k t) := by
    intro x t hx
    have hi := (hT.2.2.2 k hk).2.1
    have h5 := hT.1
    refine ⟨hi, by show x.2.1 - t ≤ 5; have := hx.2.1; omega, ?_, hx.2.2.2⟩
    show x.2.2.1 ||| 2 ^ tI T k < 2 ^ 5
    exact Nat.or_lt_two_pow hx.2.2.1 (Nat.pow_lt_pow_right (by decide) (by omega))
  rcases (show w = 0 ∨ w = 1 by omega) with rfl | rfl
  · exact ⟨hs _ _ hv.1, hv.2⟩
  · exact ⟨hv.1, hs _ _ hv.2⟩
theorem knows_step {T : TN} {q : Nat → SD} {w k v : Nat} : (stepQ T q w k v).2.2.2 = (q v).2.2.2 := by
  unfold stepQ
  split
  · rename_i h; rw [h]; rfl
  · rfl
theorem sS_of {T : TN} {x : SD} (hT : tOK T) (h : sOK T x) : sS x := ⟨by have := h.1; have := hT.1; omega, by have := h.2.1; omega, h.2.2.1⟩
-- ===== memories that differ in the fighters alone
theorem sd_oth {I : Nat → Nat → Int32} {c a b u r : Nat} (h : r ≠ c) : sdI I c a b u r = I r := by
  funext k
  simp [sdI, h]
theorem tMem_of {T : TN} {I I' : Nat → Nat → Int32} (h : ∀ r, r < 12 → I' r = I r) (hM : tMem T I) : tMem T I' := by
  unfold tMem at *
  rw [h 6 (by omega), h 7 (by omega), h 8 (by omega), h 9 (by omega), h 10 (by omega), h 11 (by omega)]
  exact hM
theorem EX_of {I I' : Nat → Nat → Int32} (h : ∀ r, r < 12 → I' r = I r) (hE : EX I) : EX I' := by
  unfold EX at *
  rw [h 1 (by omega), h 2 (by omega)]
  exact hE
theorem sMem_sd {I : Nat → Nat → Int32} {c : Nat} {q : SD} {x : SD} (h : sMem c q I) (hx : x.2.2.2 = q.2.2.2) : sMem c x (sdI I c x.1 x.2.1 x.2.2.1) := ⟨by simp [sdI], by simp [sdI], by simp [sdI], by rw [hx, ← h.2.2.2]; simp [sdI]⟩
theorem sMem_oth {I I' : Nat → Nat → Int32} {c : Nat} {q : SD} (h : sMem c q I) (he : I' c = I c) : sMem c q I' := by
  unfold sMem at *
  rw [he]
  exact h
theorem sd_comm {I : Nat → Nat → Int32} {c c' a b u a' b' u' : Nat} (h : c ≠ c') : sdI (sdI I c a b u) c' a' b' u' = sdI (sdI I c' a' b' u') c a b u := by
  funext r k
  by_cases hr : r = c
  · subst hr
    rw [sd_oth (I := sdI I r a b u) h]
    unfold sdI
    simp [h]
  · by_cases hr' : r = c'
    · subst hr'
      rw [sd_oth (I := sdI I r a' b' u') hr]
      unfold sdI
      simp [hr]
    · rw [sd_oth hr', sd_oth hr, sd_oth hr, sd_oth hr']
/-- the memory behind a CHANGE of w -/
def stI (T : TN) (I : Nat → Nat → Int32) (q : Nat → SD) (w k : Nat) : Nat → Nat → Int32 := sdI I (14 + w) (stepQ T q w k w).1 (stepQ T q w k w).2.1 (stepQ T q w k w).2.2.1
theorem stI_lo {T : TN} {I : Nat → Nat → Int32} {q : Nat → SD} {w k r : Nat} (h : r < 12) : stI T I q w k r = I r := sd_oth (by omega)
theorem fMem_st {T : TN} {I : Nat → Nat → Int32} {q : Nat → SD} {w k : Nat} (hw : w < 2) (hm : fMem q I) : fMem (stepQ T q w k) (stI T I q w k) := by
  rcases (show w = 0 ∨ w = 1 by omega) with rfl | rfl
  · exact ⟨sMem_sd hm.1 knows_step, sMem_oth hm.2 (sd_oth (by decide))⟩
  · exact ⟨sMem_oth hm.1 (sd_oth (by decide)), sMem_sd hm.2 knows_step⟩
theorem fd_st {T : TN} {I : Nat → Nat → Int32} {q : Nat → SD} {w k : Nat} (hw : w < 2) (hm : fMem q I) : fdI (stI T I q w k) q = I := by
  unfold fdI stI
  rcases (show w = 0 ∨ w = 1 by omega) with rfl | rfl
  · show sdI (sdI (sdI I 14 _ _ _) 14 _ _ _) 15 _ _ _ = I
    rw [sd_sd, sd_self hm.1, sd_self hm.2]
  · show sdI (sdI (sdI I 15 _ _ _) 14 _ _ _) 15 _ _ _ = I
    rw [sd_comm (c := 15) (c' := 14) (by decide), sd_sd, sd_self hm.1, sd_self hm.2]
section
variable {G : GG} {d n : Nat} {I : Nat → Nat → Int32} {J : Nat → Nat → Int64} {Q : Option Value → MH → Prop} {T : TN} {q : Nat → SD}
theorem c_step {k w : Nat} (hw : w < 2) (hT : tOK T) (hM : tMem T I) (hm : fMem q I) (hv : vQ T q) (hk : k < tC T) (hc : canN T (q w) (q (1 - w)).1 k = true) (h : Q none (SH n, stI T I q w k, J)) : MT G (d + 1) 8 [.ref 12, .int (nI w), .int (nI k), .int (nI (takesN T (q w) (q (1 - w)).1 k))] (SH n, I, J) Q := by
  have ht := (can_price hc).1
  rcases (show w = 0 ∨ w = 1 by omega) with rfl | rfl
  · exact c_step0 hT hM hm hv.1 hk ht h
  · exact c_step1 hT hM hm hv.2 hk ht h
theorem odd_nI {a : Nat} (ha : a < 65536) : (nI a &&& 1 = 1) ↔ a % 2 = 1 := by
  rw [nu_a1 (by omega)]
  exact nI_eq (b := 1) (by omega) (by decide)
theorem c_better {σ : MH} {a b : Nat} (ha : a < 65536) (hb : b < 65536) (h : Q (some (.int (nI (betN a b)))) σ) : MT G (d + 1) 47 [.int (nI a), .int (nI b)] σ Q := by
  have mn : jmin (nI a) (nI b) = nI (min a b) := by
    unfold jmin
    by_cases z : b < a
    · rw [if_pos ((nI_ltI (by omega) (by omega)).mpr z), Nat.min_eq_right (by omega)]
    · rw [if_neg (fun y => z ((nI_ltI (by omega) (by omega)).mp y)), Nat.min_eq_left (by omega)]
  have mx : jmax (nI a) (nI b) = nI (max a b) := by
    unfold jmax
    by_cases z : a < b
    · rw [if_pos ((nI_ltI (by omega) (by omega)).mpr z), Nat.max_eq_right (by omega)]
    · rw [if_neg (fun y => z ((nI_ltI (by omega) (by omega)).mp y)), Nat.max_eq_left (by omega)]
  unfold betN at h
  refine MT.by ck47 (by decide) rfl (Nat.le_of_ble_eq_true rfl) rfl 300 [] ?_
  conv => whnf
  try dsimp only
  refine ⟨fun h1 => ?_, fun h1 => ?_⟩
  · have g1 : ¬ b % 2 = 1 := fun z => h1 ((odd_nI hb).mpr z)
    conv => whnf
    try dsimp only
    refine ⟨fun h2 => ?_, fun h2 => ?_⟩
    · have g2 : ¬ a % 2 = 1 := fun z => h2 ((odd_nI ha).mpr z)
      rw [if_pos (by simp only [g1, g2]), if_neg g1] at h
      conv => whnf
      try dsimp only
      refine ⟨fun _ => ?_, fun h3 => absurd rfl h3⟩
      conv => whnf
      try dsimp only
      refine ⟨fun _ => ?_, fun h3 => absurd rfl h3⟩
      conv => whnf
      try dsimp only
      rw [mx]
      exact ⟨trivial, h⟩
    · have g2 : a % 2 = 1 := (odd_nI ha).mp h2
      rw [if_neg (by simp only [g1, g2]; decide), if_neg g1] at h
      conv => whnf
      try dsimp only
      refine ⟨fun h3 => absurd h3 (by decide), fun _ => ?_⟩
      conv => whnf
      try dsimp only
      refine ⟨fun _ => ?_, fun h3 => absurd rfl h3⟩
      conv => whnf
      try dsimp only
      exact ⟨trivial, h⟩
  · have g1 : b % 2 = 1 := (odd_nI hb).mp h1
    conv => whnf
    try dsimp only
    refine ⟨fun h2 => ?_, fun h2 => ?_⟩
    · have g2 : ¬ a % 2 = 1 := fun z => h2 ((odd_nI ha).mpr z)
      rw [if_neg (by simp only [g1, g2]; decide), if_pos g1] at h
      conv => whnf
      try dsimp only
      refine ⟨fun h3 => absurd h3 (by decide), fun _ => ?_⟩
      conv => whnf
      try dsimp only
      refine ⟨fun h3 => absurd h3 (by decide), fun _ => ?_⟩
      conv => whnf
      try dsimp only
      exact ⟨trivial, h⟩
    · have g2 : a % 2 = 1 := (odd_nI ha).mp h2
      rw [if_pos (by simp only [g1, g2]), if_pos g1] at h
      conv => whnf
      try dsimp only
      refine ⟨fun _ => ?_, fun h3 => absurd rfl h3⟩
      conv => whnf
      try dsimp only
      refine ⟨fun h3 => absurd h3 (by decide), fun _ => ?_⟩
      conv => whnf
      try dsimp only
      rw [mn]
      exact ⟨trivial, h⟩
end
end
section
/-! endsIn and endsBehind: the memo holds what the search would find -/
theorem jsh_key {e p w : Nat} (he : e < 2 ^ 30) (hp : p < 2 ^ 22) (hw : w < 2) : jushrL (lN (keyN e p w)) 32 = lN e := by
  have h1 : keyN e p w < 2 ^ 64 := by unfold keyN; omega
  have h : jushrL (lN (keyN e p w)) 32 = lN (keyN e p w / 2 ^ 32) := wb_shr (k := 32) h1 (by decide)
  rw [h]
  congr 1
  unfold keyN
  omega
theorem key_inj {e p w p' w' : Nat} (he : e < 2 ^ 30) (hp : p < 2 ^ 22) (hw : w < 2) (hp' : p' < 2 ^ 22) (hw' : w' < 2) (h : lN (keyN e p w) = lN (keyN e p' w')) : p = p' ∧ w = w' := by
  have h2 := (pk_lEQ (show keyN e p w < 2 ^ 63 by unfold keyN; omega) (show keyN e p' w' < 2 ^ 63 by unfold keyN; omega)).mp h
  unfold keyN at h2
  omega
theorem packF_lt {q : Nat → SD} (h0 : sS (q 0)) (h1 : sS (q 1)) : packF q < 2 ^ 22 := by
  have := packS_lt h0
  have := packS_lt h1
  unfold packF
  omega
theorem packS_inj {x y : SD} (hx : sS x) (hy : sS y) (h : packS x = packS y) (hk : x.2.2.2 = y.2.2.2) : x = y := by
  obtain ⟨a, b, c, e⟩ := x
  obtain ⟨a', b', c', e'⟩ := y
  obtain ⟨x1, x2, x3⟩ := hx
  obtain ⟨y1, y2, y3⟩ := hy
  unfold packS at h
  dsimp only at *
  have h1 : a = a' := by omega
  have h2 : b = b' := by omega
  have h3 : c = c' := by omega
  rw [h1, h2, h3, hk]
theorem packF_inj {q q' : Nat → SD} (h0 : sS (q 0)) (h1 : sS (q 1)) (h0' : sS (q' 0)) (h1' : sS (q' 1)) (h : packF q = packF q') (k0 : (q 0).2.2.2 = (q' 0).2.2.2) (k1 : (q 1).2.2.2 = (q' 1).2.2.2) : q 0 = q' 0 ∧ q 1 = q' 1 := by
  have a := packS_lt h1
  have b := packS_lt h1'
  unfold packF at h
  exact ⟨packS_inj h0 h0' (by omega) k0, packS_inj h1 h1' (by omega) k1⟩
/-- the memo of an era: every key of that era stands beside its value, by V -/
def MIv (T : TN) (V : (Nat → SD) → Nat → Int64) (k0 k1 e : Nat) (J : Nat → Nat → Int64) : Prop := J 28 2 = lN e ∧ e < 2 ^ 30 ∧ (∀ s, s < 2048 → jushrL (J 29 s) 32 = lN e → ∃ (q : Nat → SD) (w : Nat), w < 2 ∧ vQ T q ∧ (q 0).2.2.2 = k0 ∧ (q 1).2.2.2 = k1 ∧ J 29 s = lN (keyN e (packF q) w) ∧ J 30 s = V q w) ∧ ∀ s, s < 2048 → ∃ y, y ≤ e ∧ jushrL (J 29 s) 32 = lN y
def sameJ (J J' : Nat → Nat → Int64) : Prop := ∀ x, x ≠ 29 → x ≠ 30 → J' x = J x
theorem sameJ.rf (J : Nat → Nat → Int64) : sameJ J J := fun _ _ _ => rfl
theorem sameJ.tr {J J' J'' : Nat → Nat → Int64} (h : sameJ J J') (h' : sameJ J' J'') : sameJ J J'' := fun x a b => (h' x a b).trans (h x a b)
theorem MIv.hit {T : TN} {V : (Nat → SD) → Nat → Int64} (hV : ∀ (q q' : Nat → SD) w, w < 2 → q 0 = q' 0 → q 1 = q' 1 → V q w = V q' w) {k0 k1 e : Nat} {J : Nat → Nat → Int64} {q : Nat → SD} {w s : Nat} (hT : tOK T) (h : MIv T V k0 k1 e J) (hs : s < 2048) (hv : vQ T q) (h0 : (q 0).2.2.2 = k0) (h1 : (q 1).2.2.2 = k1) (hw : w < 2) (hk : J 29 s = lN (keyN e (packF q) w)) : J 30 s = V q w := by
  have p1 := packF_lt (sS_of hT hv.1) (sS_of hT hv.2)
  obtain ⟨q', w', a1, a2, a3, a4, a5, a6⟩ := h.2.2.1 s hs (by rw [hk]; exact jsh_key h.2.1 p1 hw)
  have p2 := packF_lt (sS_of hT a2.1) (sS_of hT a2.2)
  obtain ⟨b1, b2⟩ := key_inj h.2.1 p1 hw p2 a1 (hk.symm.trans a5)
  obtain ⟨c0, c1⟩ := packF_inj (sS_of hT hv.1) (sS_of hT hv.2) (sS_of hT a2.1) (sS_of hT a2.2) b1 (by rw [h0, a3]) (by rw [h1, a4])
  rw [a6, ← b2]
  exact (hV q q' w hw c0 c1).symm
theorem MIv.put {T : TN} {V : (Nat → SD) → Nat → Int64} {k0 k1 e : Nat} {J J' : Nat → Nat → Int64} {q : Nat → SD} {w : Nat} {x : Int64} (hT : tOK T) (h : MIv T V k0 k1 e J) (hv : vQ T q) (h0 : (q 0).2.2.2 = k0) (h1 : (q 1).2.2.2 = k1) (hw : w < 2) (hx : x = V q w) (hS : ST J (lN (keyN e (packF q) w)) x J') : MIv T V k0 k1 e J' ∧ sameJ J J' := by
  rcases hS with rfl | ⟨s, hs, -, rfl⟩
  · exact ⟨h, sameJ.rf _⟩
  · have e29 : ∀ j, upL (upL J 29 s (lN (keyN e (packF q) w))) 30 s x 29 j = if j = s then lN (keyN e (packF q) w) else J 29 j := by
      intro j
      rw [upL_oth (by decide), upL_row]
      rfl
    refine ⟨⟨?_, h.2.1, fun s' hs' hk' => ?_, fun s' hs' => ?_⟩, fun r a b => ?_⟩
    · show upL (upL J 29 s _) 30 s x 28 2 = lN e
      rw [upL_oth (by decide), upL_oth (by decide)]
      exact h.1
    · have e30 : ∀ j, upL (upL J 29 s (lN (keyN e (packF q) w))) 30 s x 30 j = if j = s then x else J 30 j := by
        intro j
        rw [upL_row, upL_oth (by decide)]
        rfl
      by_cases z : s' = s
      · subst z
        exact ⟨q, w, hw, hv, h0, h1, by rw [e29, if_pos rfl], by rw [e30, if_pos rfl, hx]⟩
      · rw [e29, if_neg z] at hk'
        obtain ⟨q', w', a1, a2, a3, a4, a5, a6⟩ := h.2.2.1 s' hs' hk'
        exact ⟨q', w', a1, a2, a3, a4, by rw [e29, if_neg z]; exact a5, by rw [e30, if_neg z]; exact a6⟩
    · by_cases z : s' = s
      · subst z
        exact ⟨e, Nat.le_refl e, by rw [e29, if_pos rfl]; exact jsh_key h.2.1 (packF_lt (sS_of hT hv.1) (sS_of hT hv.2)) hw⟩
      · rw [e29, if_neg z]
        exact h.2.2.2 s' hs'
    · rw [upL_oth b, upL_oth a]
/-- the memo between searches: no key is of a later era -/
def MG (e : Nat) (J : Nat → Nat → Int64) : Prop := J 28 2 = lN e ∧ e < 2 ^ 30 ∧ ∀ s, s < 2048 → ∃ y, y ≤ e ∧ jushrL (J 29 s) 32 = lN y
theorem MIv.mg {T : TN} {V : (Nat → SD) → Nat → Int64} {k0 k1 e : Nat} {J : Nat → Nat → Int64} (h : MIv T V k0 k1 e J) : MG e J := ⟨h.1, h.2.1, h.2.2.2⟩
theorem MG.next {T : TN} {V : (Nat → SD) → Nat → Int64} {k0 k1 e : Nat} {J : Nat → Nat → Int64} (h : MG e J) (he : e + 1 < 2 ^ 30) : MIv T V k0 k1 (e + 1) (upL J 28 2 (J 28 2 + 1)) := by
  have e28 : upL J 28 2 (J 28 2 + 1) 28 2 = J 28 2 + 1 := by simp [upL]
  have e29 : upL J 28 2 (J 28 2 + 1) 29 = J 29 := upL_oth (by decide)
  refine ⟨by rw [e28, h.1, lN_1], he, fun s hs hk => ?_, fun s hs => ?_⟩
  · rw [e29] at hk
    obtain ⟨y, hy, hy2⟩ := h.2.2 s hs
    have := (pk_lEQ (show y < 2 ^ 63 by omega) (show e + 1 < 2 ^ 63 by omega)).mp (hy2.symm.trans hk)
    omega
  · rw [e29]
    obtain ⟨y, hy, hy2⟩ := h.2.2 s hs
    exact ⟨y, by omega, hy2⟩
def Ve (T : TN) : (Nat → SD) → Nat → Int64 := fun q w => lN (ends T q w)
theorem Ve_c (T : TN) : ∀ (q q' : Nat → SD) w, w < 2 → q 0 = q' 0 → q 1 = q' 1 → Ve T q w = Ve T q' w := fun q q' w hw h0 h1 => congrArg lN (endsF_congr 10 q q' w hw h0 h1)
def EIn (G : GG) (n : Nat) (T : TN) (k0 k1 e r dep : Nat) : Prop := ∀ (D : Nat) (I : Nat → Nat → Int32) (J : Nat → Nat → Int64) (Q : Option Value → MH → Prop) (q : Nat → SD) (w : Nat), 2 * r + 8 ≤ D → tMem T I → EX I → fMem q I → vQ T q → (q 0).2.2.2 = k0 → (q 1).2.2.2 = k1 → w < 2 → MIv T (Ve T) k0 k1 e J → fsum q ≤ r →
  (∀ J', MIv T (Ve T) k0 k1 e J' → sameJ J J' → Q (some (.int (nI (ends T q w)))) (SH n, I, J')) → MT G D 45 [.ref 31, .int (nI w), .int (nI dep)] (SH n, I, J) Q
def EBh (G : GG) (n : Nat) (T : TN) (k0 k1 e r dep : Nat) : Prop := ∀ (D : Nat) (I : Nat → Nat → Int32) (J : Nat → Nat → Int64) (Q : Option Value → MH → Prop) (q : Nat → SD) (w k : Nat), 2 * r + 9 ≤ D → tMem T I → EX I → fMem q I → vQ T q → (q 0).2.2.2 = k0 → (q 1).2.2.2 = k1 → w < 2 → MIv T (Ve T) k0 k1 e J → fsum q ≤ r + 1 → k < tC T → canN T (q w) (q (1 - w)).1 k = true →
  (∀ J', MIv T (Ve T) k0 k1 e J' → sameJ J J' → Q (some (.int (nI (ends T (stepQ T q w k) (1 - w))))) (SH n, I, J')) → MT G D 46 [.ref 31, .int (nI w), .int (nI k), .int (nI (takesN T (q w) (q (1 - w)).1 k)), .int (nI dep)] (SH n, I, J) Q
theorem one_sub {w : Nat} (hw : w < 2) : (1 : Int32) - nI w = nI (1 - w) := by
  rcases (show w = 0 ∨ w = 1 by omega) with rfl | rfl <;> rfl
theorem EBh_of {G : GG} {n : Nat} {T : TN} {k0 k1 e r dep : Nat} (hT : tOK T) (hE : EIn G n T k0 k1 e r (dep + 1)) : EBh G n T k0 k1 e r dep := by
  intro D I J Q q w k hD hM hX hm hv h0 h1 hw hMI hf hk hc h
  obtain ⟨x, rfl⟩ : ∃ x, D = x + 9 := ⟨D - 9, by omega⟩
  have s0 := sS_of hT hv.1
  have s1 := sS_of hT hv.2
  refine MT.by ck46 (by decide) rfl (Nat.le_of_ble_eq_true rfl) rfl 300 [] ?_
  conv => whnf
  try dsimp only
  refine ⟨trivial, c_packedF hm s0 s1 ?_⟩
  refine EV.at ck46 (by decide) 300 [] ?_
  conv => whnf
  try dsimp only
  refine ⟨trivial, c_step hw hT hM hm hv hk hc ?_⟩
  refine EV.at ck46 (by decide) 300 [] ?_
  conv => whnf
  try dsimp only
  rw [one_sub hw, nI_1]
  refine ⟨trivial, hE (x + 8) _ _ _ (stepQ T q w k) (1 - w) (by omega) (tMem_of (fun r hr => stI_lo hr) hM) (EX_of (fun r hr => stI_lo hr) hX) (fMem_st hw hm) (vQ_step hT hw hk hv) (by rw [knows_step]; exact h0) (by rw [knows_step]; exact h1) (by omega) hMI (by have := fsum_step hw hc; omega) (fun J' hJ' hs' => ?_)⟩
  refine EV.at ck46 (by decide) 300 [] ?_
  conv => whnf
  try dsimp only
  refine ⟨trivial, c_unpackF s0 s1 ?_⟩
  rw [fd_st hw hm]
  refine EV.at ck46 (by decide) 300 [] ?_
  conv => whnf
  try dsimp only
  exact ⟨trivial, h J' hJ' hs'⟩
theorem EIn_zero {G : GG} {n : Nat} {T : TN} {k0 k1 e : Nat} : EIn G n T k0 k1 e 0 10 := by
  intro D I J Q q w hD hM hX hm hv h0 h1 hw hMI hf h
  obtain ⟨x, rfl⟩ : ∃ x, D = x + 8 := ⟨D - 8, by omega⟩
  have e0 : ends T q w = 0 := (endsF_ends hw 10 0 rfl hf).symm
  have h := h J hMI (sameJ.rf _)
  rw [e0] at h
  refine MT.by ck45 (by decide) rfl (Nat.le_of_ble_eq_true rfl) rfl 300 [] ?_
  conv => whnf
  try dsimp only
  refine ⟨fun h1 => absurd h1 (by decide), fun _ => ?_⟩
  conv => whnf
  try dsimp only
  exact ⟨trivial, h⟩
theorem EIn_succ {G : GG} {n : Nat} {T : TN} {k0 k1 e r dep : Nat} (hT : tOK T) (hdep : dep + (r + 1) = 10) (hB : EBh G n T k0 k1 e r dep) : EIn G n T k0 k1 e (r + 1) dep := by
  intro D I J Q q w hD hM hX hm hv h0 h1 hw hMI hf h
  obtain ⟨x, rfl⟩ : ∃ x, D = x + 10 := ⟨D - 10, by omega⟩
  have s0 := sS_of hT hv.1
  have s1 := sS_of hT hv.2
  have pl := packF_lt s0 s1
  have t12 := hT.2.2.1
  have hC : I 6 3 = nI (tC T) := hM.2.2.1
  have hend : endsF T (r + 1) q w = ends T q w := endsF_ends hw dep (r + 1) (by omega) hf
  have hle : ∀ c, eFold (fun k => endsF T r (stepQ T q w k) (1 - w)) (fun k => canN T (q w) (q (1 - w)).1 k) c ≤ r + 1 := eFold_le (fun k => endsF_le T r _ _)
  have loop : ∀ m j J1 (z8 : Value), isDm z8 = true ∨ (∃ y, z8 = .int y) → j + m = tC T → MIv T (Ve T) k0 k1 e J1 → sameJ J J1 → ∀ (sl : Int32), EV G 45 (x + 9) 0 0 65 [.ref 31, .int (nI w), .int (nI dep), .long (lN (keyN e (packF q) w)), dm, .int sl, .int (nI (eFold (fun k => endsF T r (stepQ T q w k) (1 - w)) (fun k => canN T (q w) (q (1 - w)).1 k) j)), .int (nI j), z8] [] (SH n, I, J1) Q := by
    intro m
    induction m with
    | zero =>
      intro j J1 z8 hz hj hMI1 hs1 sl
      have hj : j = tC T := hj
      have hv1 : eFold (fun k => endsF T r (stepQ T q w k) (1 - w)) (fun k => canN T (q w) (q (1 - w)).1 k) j = ends T q w := by rw [hj]; exact hend
      have hl2 := hle j
      rw [hv1] at hl2 ⊢
      refine EV.at ck45 (by decide) 300 [] ?_
      conv => whnf
      try dsimp only
      rw [hC, ← hj]
      refine ⟨fun _ => ?_, fun h1 => absurd (nI_le (Nat.le_refl j) (by omega)) h1⟩
      conv => whnf
      try dsimp only
      refine ⟨trivial, c_store (fun J2 hJ2 => ?_)⟩
      rw [nI_l (by omega)] at hJ2
      obtain ⟨g1, g2⟩ := hMI1.put hT hv h0 h1 hw rfl hJ2
      refine EV.at ck45 (by decide) 300 [] ?_
      conv => whnf
      try dsimp only
      exact ⟨trivial, h J2 g1 (hs1.tr g2)⟩
    | succ m ih =>
      intro j J1 z8 hz hj hMI1 hs1 sl
      have hjc : j < tC T := by omega
      have cj : (nI j).toNatClampNeg = j := nI_clamp (by omega)
      have hl2 := hle j
      have hdm : ∀ v : Int32, EV G 45 (x + 9) 0 0 87 [.ref 31, .int (nI w), .int (nI dep), .long (lN (keyN e (packF q) w)), dm, .int sl, .int (nI (eFold (fun k => endsF T r (stepQ T q w k) (1 - w)) (fun k => canN T (q w) (q (1 - w)).1 k) j)), .int (nI j), z8] [.int (nI (takesN T (q w) (q (1 - w)).1 j))] (SH n, I, J1) Q := by
        intro _
        have tl := takes_lt (q := q w) (o := (q (1 - w)).1) hT hjc
        cases hb : canN T (q w) (q (1 - w)).1 j
        · have ht : takesN T (q w) (q (1 - w)).1 j = 0 := by unfold takesN; rw [hb]; rfl
          have e1 : eFold (fun k => endsF T r (stepQ T q w k) (1 - w)) (fun k => canN T (q w) (q (1 - w)).1 k) (j + 1) = eFold (fun k => endsF T r (stepQ T q w k) (1 - w)) (fun k => canN T (q w) (q (1 - w)).1 k) j := by
            show (if canN T (q w) (q (1 - w)).1 j = true then _ else _) = _
            rw [hb]; rfl
          have ihj := ih (j + 1) J1 (.int 0) (Or.inr ⟨0, rfl⟩) (by omega) hMI1 hs1 sl
          rw [e1, nI_succ] at ihj
          rw [ht]
          refine EV.at ck45 (by decide) 300 [] ?_
          conv => whnf
          try dsimp only
          refine ⟨fun _ => ?_, fun h1 => absurd (by decide) h1⟩
          conv => whnf
          try dsimp only
          exact ⟨trivial, ihj⟩
        · have ht : 0 < takesN T (q w) (q (1 - w)).1 j := takes_pos.mpr hb
          have e1 : eFold (fun k => endsF T r (stepQ T q w k) (1 - w)) (fun k => canN T (q w) (q (1 - w)).1 k) (j + 1) = betN (eFold (fun k => endsF T r (stepQ T q w k) (1 - w)) (fun k => canN T (q w) (q (1 - w)).1 k) j) (1 + endsF T r (stepQ T q w j) (1 - w)) := by
            show (if canN T (q w) (q (1 - w)).1 j = true then _ else _) = _
            rw [hb]; rfl
          have hst : endsF T r (stepQ T q w j) (1 - w) = ends T (stepQ T q w j) (1 - w) := endsF_ends (by omega) (dep + 1) r (by omega) (by have := fsum_step hw hb; omega)
          have hlr := endsF_le T r (stepQ T q w j) (1 - w)
          refine EV.at ck45 (by decide) 300 [] ?_
          conv => whnf
          try dsimp only
          refine ⟨fun h1 => absurd h1 (nI_nle ht (by omega)), fun _ => ?_⟩
          conv => whnf
          try dsimp only
          refine ⟨trivial, hB (x + 9) I J1 _ q w j (by omega) hM hX hm hv h0 h1 hw hMI1 hf hjc hb (fun J2 hJ2 hs2 => ?_)⟩
          rw [hst] at e1 hlr
          refine EV.at ck45 (by decide) 300 [] ?_
          conv => whnf
          try dsimp only
          rw [show (1 : Int32) + nI (ends T (stepQ T q w j) (1 - w)) = nI (1 + ends T (stepQ T q w j) (1 - w)) from nI_add 1 _]
          refine ⟨trivial, c_better (by omega) (by omega) ?_⟩
          have ihj := ih (j + 1) J2 (.int (nI (takesN T (q w) (q (1 - w)).1 j))) (Or.inr ⟨_, rfl⟩) (by omega) hJ2 (hs1.tr hs2) sl
          rw [e1, nI_succ] at ihj
          refine EV.at ck45 (by decide) 300 [] ?_
          conv => whnf
          try dsimp only
          exact ⟨trivial, ihj⟩
      refine EV.at ck45 (by decide) 300 [] ?_
      conv => whnf
      try dsimp only
      rw [hC]
      refine ⟨fun h1 => absurd h1 (nI_ge (show j < tC T by omega) (by omega)), fun _ => ?_⟩
      conv => whnf
      try dsimp only
      refine ⟨trivial, c_takes hw hT hM hm hv.1 hv.2 hX hjc ?_⟩
      exact hdm 0
  refine MT.by ck45 (by decide) rfl (Nat.le_of_ble_eq_true rfl) rfl 300 [65] ?_
  conv => whnf
  try dsimp only
  refine ⟨fun _ => ?_, fun h1 => absurd (nI_lt (a := dep) (b := 10) (by omega) (by decide)) h1⟩
  conv => whnf
  try dsimp only
  refine ⟨trivial, c_packedF hm s0 s1 ?_⟩
  refine EV.at ck45 (by decide) 300 [65] ?_
  conv => whnf
  try dsimp only
  refine ⟨trivial, c_keyOf hMI.2.1 pl hw hMI.1 ?_⟩
  refine EV.at ck45 (by decide) 300 [65] ?_
  conv => whnf
  try dsimp only
  refine ⟨trivial, c_slotFor (fun v hv' => ?_)⟩
  rcases hv' with rfl | ⟨s, hs, rfl, hv'⟩
  · refine EV.at ck45 (by decide) 300 [65] ?_
    conv => whnf
    try dsimp only
    refine ⟨trivial, c_hasN ?_⟩
    refine EV.at ck45 (by decide) 300 [65] ?_
    conv => whnf
    try dsimp only
    refine ⟨fun _ => ?_, fun h1 => absurd rfl h1⟩
    conv => whnf
    try dsimp only
    exact ⟨trivial, loop (tC T) 0 J dm (Or.inl rfl) (by omega) hMI (sameJ.rf _) _⟩
  · have cs : (nI s).toNatClampNeg = s := nI_clamp (by omega)
    refine EV.at ck45 (by decide) 300 [65] ?_
    conv => whnf
    try dsimp only
    refine ⟨trivial, c_has hs ?_⟩
    by_cases hk : J 29 s = lN (keyN e (packF q) w)
    · rw [decide_eq_true hk]
      have hval := hMI.hit (Ve_c T) hT hs hv h0 h1 hw hk
      refine EV.at ck45 (by decide) 300 [65] ?_
      conv => whnf
      try dsimp only
      refine ⟨fun h1 => absurd h1 (by decide), fun _ => ?_⟩
      conv => whnf
      try dsimp only
      refine ⟨in_nI hs (by decide), ?_⟩
      conv => whnf
      try dsimp only
      rw [cs, hval]
      show True ∧ Q (some (.int (lN (ends T q w)).toInt32)) _
      rw [lN_i]
      exact ⟨trivial, h J hMI (sameJ.rf _)⟩
    · rw [decide_eq_false hk]
      refine EV.at ck45 (by decide) 300 [65] ?_
      conv => whnf
      try dsimp only
      refine ⟨fun _ => ?_, fun h1 => absurd rfl h1⟩
      conv => whnf
      try dsimp only
      exact ⟨trivial, loop (tC T) 0 J dm (Or.inl rfl) (by omega) hMI (sameJ.rf _) _⟩
theorem EIn_all {G : GG} {n : Nat} {T : TN} {k0 k1 e : Nat} (hT : tOK T) : ∀ r dep, dep + r = 10 → EIn G n T k0 k1 e r dep
  | 0, dep, h => by have h : dep = 10 := h; subst h; exact EIn_zero
  | r + 1, dep, h => EIn_succ hT h (EBh_of hT (EIn_all hT r (dep + 1) (by omega)))
end
section
/-! Search: length, who wins, how little fire is enough -/
def wonN (T : TN) (q : Nat → SD) (who w : Nat) : Bool := decide ((ends T q who % 2 = 1) ↔ w = who)
def setF (q : Nat → SD) (w v : Nat) : Nat → SD := fun x => if x = w then ((q w).1, v, (q w).2.2.1, (q w).2.2.2) else q x
def setK (q : Nat → SD) (w v : Nat) : Nat → SD := fun x => if x = w then ((q w).1, (q w).2.1, (q w).2.2.1, v) else q x
def leastI (T : TN) (q : Nat → SD) (who w : Nat) : Nat → Nat → Int32
  | 0, _ => -9
  | m + 1, v => if wonN T (setF q w v) who w then nI v else leastI T q who w m (v + 1)
/-- the longs that others than the memo hold -/
def sameM (J J' : Nat → Nat → Int64) : Prop := ∀ x, x ≠ 28 → x ≠ 29 → x ≠ 30 → J' x = J x
theorem sameM.rf (J : Nat → Nat → Int64) : sameM J J := fun _ _ _ _ => rfl
theorem sameM.tr {J J' J'' : Nat → Nat → Int64} (h : sameM J J') (h' : sameM J' J'') : sameM J J'' := fun x a b c => (h' x a b c).trans (h x a b c)
theorem sameM.of {J J' : Nat → Nat → Int64} {y : Int64} (h : sameJ (upL J 28 2 y) J') : sameM J J' := fun x a b c => by rw [h x b c, upL_oth a]
theorem ne_m9 {v : Nat} (hv : v < 2 ^ 31) : ¬ nI v = -9 := fun hh => by
  have h2 : nI v < 0 := by rw [hh]; decide
  exact absurd h2 (nI_pos hv)
theorem up_up {I : Nat → Nat → Int32} {r k : Nat} {x y : Int32} : upI (upI I r k x) r k y = upI I r k y := by
  funext r' k'
  unfold upI
  split <;> rfl
theorem up_self {I : Nat → Nat → Int32} {r k : Nat} : upI I r k (I r k) = I := by
  funext r' k'
  unfold upI
  split
  · rename_i h; rw [h.1, h.2]
  · rfl
theorem up_back {I : Nat → Nat → Int32} {r k : Nat} {x : Int32} : upI (upI I r k x) r k (I r k) = I := by rw [up_up, up_self]
theorem fMem_setF0 {q : Nat → SD} {I : Nat → Nat → Int32} {v : Nat} (h : fMem q I) : fMem (setF q 0 v) (upI I 14 1 (nI v)) := ⟨⟨h.1.1, rfl, h.1.2.2.1, h.1.2.2.2⟩, sMem_oth h.2 (upI_oth (by decide))⟩
theorem fMem_setF1 {q : Nat → SD} {I : Nat → Nat → Int32} {v : Nat} (h : fMem q I) : fMem (setF q 1 v) (upI I 15 1 (nI v)) := ⟨sMem_oth h.1 (upI_oth (by decide)), ⟨h.2.1, rfl, h.2.2.2.1, h.2.2.2.2⟩⟩
theorem vQ_setF0 {T : TN} {q : Nat → SD} {v : Nat} (h : vQ T q) (hv : v ≤ 5) : vQ T (setF q 0 v) := ⟨⟨h.1.1, hv, h.1.2.2⟩, h.2⟩
theorem vQ_setF1 {T : TN} {q : Nat → SD} {v : Nat} (h : vQ T q) (hv : v ≤ 5) : vQ T (setF q 1 v) := ⟨h.1, ⟨h.2.1, hv, h.2.2.2⟩⟩
theorem fsum_le {T : TN} {q : Nat → SD} (h : vQ T q) : fsum q ≤ 10 := by have := h.1.2.1; have := h.2.2.1; unfold fsum; omega
section
variable {G : GG} {d n : Nat} {I : Nat → Nat → Int32} {J : Nat → Nat → Int64} {Q : Option Value → MH → Prop} {T : TN} {q : Nat → SD}
theorem c_length {z e : Nat} (hT : tOK T) (hM : tMem T I) (hX : EX I) (hm : fMem q I) (hv : vQ T q) (hz : z ≤ 40) (hI : I 12 5 = nI z) (hG : MG e J) (he : e + 1 < 2 ^ 30) (h : ∀ J', MIv T (Ve T) (q 0).2.2.2 (q 1).2.2.2 (e + 1) J' → sameM J J' → Q (some (.int (nI (ends T q (z % 2))))) (SH n, I, J')) : MT G (d + 30) 44 [.ref 31] (SH n, I, J) Q := by
  refine MT.by ck44 (by decide) rfl (Nat.le_of_ble_eq_true rfl) rfl 300 [] ?_
  conv => whnf
  try dsimp only
  refine ⟨trivial, c_forget ?_⟩
  refine EV.at ck44 (by decide) 300 [] ?_
  conv => whnf
  try dsimp only
  refine ⟨trivial, c_mover hz hI ?_⟩
  refine EV.at ck44 (by decide) 300 [] ?_
  conv => whnf
  try dsimp only
  refine ⟨trivial, EIn_all hT 10 0 rfl (d + 29) I _ _ q (z % 2) (by omega) hM hX hm hv rfl rfl (Nat.mod_lt _ (by decide)) (hG.next he) (fsum_le hv) (fun J' hJ' hs' => ?_)⟩
  refine EV.at ck44 (by decide) 300 [] ?_
  conv => whnf
  try dsimp only
  exact ⟨trivial, h J' hJ' (sameM.of hs')⟩
theorem c_isWonBy {z e w : Nat} (hw : w < 2) (hT : tOK T) (hM : tMem T I) (hX : EX I) (hm : fMem q I) (hv : vQ T q) (hz : z ≤ 40) (hI : I 12 5 = nI z) (hG : MG e J) (he : e + 1 < 2 ^ 30) (h : ∀ J', MG (e + 1) J' → sameM J J' → Q (some (.int (b2i (wonN T q (z % 2) w)))) (SH n, I, J')) : MT G (d + 30) 51 [.ref 31, .int (nI w)] (SH n, I, J) Q := by
  have hle := endsF_le T 10 q (z % 2)
  have hle : ends T q (z % 2) ≤ 10 := hle
  have hz2 : z % 2 < 2 := Nat.mod_lt _ (by decide)
  refine MT.by ck51 (by decide) rfl (Nat.le_of_ble_eq_true rfl) rfl 300 [] ?_
  conv => whnf
  try dsimp only
  refine ⟨trivial, c_forget ?_⟩
  refine EV.at ck51 (by decide) 300 [] ?_
  conv => whnf
  try dsimp only
  refine ⟨trivial, c_mover hz hI ?_⟩
  refine EV.at ck51 (by decide) 300 [] ?_
  conv => whnf
  try dsimp only
  refine ⟨trivial, EIn_all hT 10 0 rfl (d + 29) I _ _ q (z % 2) (by omega) hM hX hm hv rfl rfl hz2 (hG.next he) (fsum_le hv) (fun J' hJ' hs' => ?_)⟩
  have h := h J' hJ'.mg (sameM.of hs')
  unfold wonN at h
  refine EV.at ck51 (by decide) 300 [] ?_
  conv => whnf
  try dsimp only
  refine ⟨fun h1 => ?_, fun h1 => ?_⟩
  · have g1 : ¬ ends T q (z % 2) % 2 = 1 := fun y => h1 ((odd_nI (by omega)).mpr y)
    conv => whnf
    try dsimp only
    refine ⟨fun h2 => ?_, fun h2 => ?_⟩
    · have g2 : ¬ w = z % 2 := fun y => h2 (by rw [y])
      rw [decide_eq_true (by simp only [g1, g2])] at h
      conv => whnf
      try dsimp only
      refine ⟨fun h3 => absurd rfl h3, fun _ => ?_⟩
      conv => whnf
      try dsimp only
      exact ⟨Or.inr rfl, h⟩
    · have g2 : w = z % 2 := (nu_eq (by omega) (by omega)).mp h2
      rw [decide_eq_false (by simp only [g1, g2]; decide)] at h
      conv => whnf
      try dsimp only
      refine ⟨fun _ => ?_, fun h3 => absurd h3 (by decide)⟩
      conv => whnf
      try dsimp only
      exact ⟨Or.inl rfl, h⟩
  · have g1 : ends T q (z % 2) % 2 = 1 := (odd_nI (by omega)).mp h1
    conv => whnf
    try dsimp only
    refine ⟨fun h2 => ?_, fun h2 => ?_⟩
    · have g2 : ¬ w = z % 2 := fun y => h2 (by rw [y])
      rw [decide_eq_false (by simp only [g1, g2]; decide)] at h
      conv => whnf
      try dsimp only
      refine ⟨fun _ => ?_, fun h3 => absurd h3 (by decide)⟩
      conv => whnf
      try dsimp only
      exact ⟨Or.inl rfl, h⟩
    · have g2 : w = z % 2 := (nu_eq (by omega) (by omega)).mp h2
      rw [decide_eq_true (by simp only [g1, g2])] at h
      conv => whnf
      try dsimp only
      refine ⟨fun h3 => absurd rfl h3, fun _ => ?_⟩
      conv => whnf
      try dsimp only
      exact ⟨Or.inr rfl, h⟩
theorem c_least0 {z e : Nat} (hT : tOK T) (hM : tMem T I) (hX : EX I) (hm : fMem q I) (hv : vQ T q) (hz : z ≤ 40) (hI : I 12 5 = nI z) (hG : MG e J) (he : e + 20 < 2 ^ 30) (h : ∀ J' e', e' ≤ e + 6 → MG e' J' → sameM J J' → Q (some (.int (leastI T q (z % 2) 0 6 0))) (SH n, I, J')) : MT G (d + 40) 52 [.ref 31, .int (nI 0)] (SH n, I, J) Q := by
  have hm0 : sMem 14 (q 0) I := hm.1
  have back : ∀ x : Int32, upI (upI I 14 1 x) 14 1 (I 14 1) = I := fun x => up_back
  have fin : ∀ (J1 : Nat → Nat → Int64) (e1 v : Nat) (x y : Int32), e1 ≤ e + 6 → MG e1 J1 → sameM J J1 → y = leastI T q (z % 2) 0 6 0 → (¬ y = -9 ∨ v = 6) → v ≤ 6 → EV G 52 (d + 39) 0 0 22 [.ref 31, .int (nI 0), .ref 14, .int (nI (q 0).2.1), .int y, .int (nI v)] [] (SH n, upI I 14 1 x, J1) Q := by
    intro J1 e1 v x y h1 h2 h3 h4 h5 h6
    have hq := h J1 e1 h1 h2 h3
    rw [← h4] at hq
    have hfin : EV G 52 (d + 39) 0 0 64 [.ref 31, .int (nI 0), .ref 14, .int (nI (q 0).2.1), .int y, .int (nI v)] [] (SH n, upI I 14 1 x, J1) Q := by
      refine EV.at ck52 (by decide) 300 [] ?_
      conv => whnf
      try dsimp only
      rw [← hm0.2.1, back]
      exact ⟨trivial, hq⟩
    refine EV.at ck52 (by decide) 300 [64] ?_
    conv => whnf
    try dsimp only
    refine ⟨fun _ => ⟨trivial, hfin⟩, fun h7 => ?_⟩
    conv => whnf
    try dsimp only
    refine ⟨fun _ => ⟨trivial, hfin⟩, fun h8 => ?_⟩
    rcases h5 with h5 | h5
    · exact absurd h8 h5
    · rw [h5] at h7
      exact absurd (by decide) h7
  have loop : ∀ m v (x : Int32) (J1 : Nat → Nat → Int64) (e1 : Nat), v + m = 6 → e1 ≤ e + v → MG e1 J1 → sameM J J1 → leastI T q (z % 2) 0 6 0 = leastI T q (z % 2) 0 m v → EV G 52 (d + 39) 0 0 22 [.ref 31, .int (nI 0), .ref 14, .int (nI (q 0).2.1), .int (-9), .int (nI v)] [] (SH n, upI I 14 1 x, J1) Q := by
    intro m
    induction m with
    | zero =>
      intro v x J1 e1 hvm h1 h2 h3 h4
      exact fin J1 e1 v x (-9) (by omega) h2 h3 h4.symm (Or.inr (by omega)) (by omega)
    | succ m ih =>
      intro v x J1 e1 hvm h1 h2 h3 h4
      refine EV.at ck52 (by decide) 300 [] ?_
      conv => whnf
      try dsimp only
      refine ⟨fun h5 => absurd h5 (nI_nlt (show v ≤ 5 by omega) (by decide)), fun _ => ?_⟩
      conv => whnf
      try dsimp only
      refine ⟨fun h5 => absurd rfl h5, fun _ => ?_⟩
      conv => whnf
      try dsimp only
      rw [up_up]
      have hlo : ∀ r, r < 12 → upI I 14 1 (nI v) r = I r := fun r hr => upI_oth (by omega)
      refine ⟨trivial, c_isWonBy (q := setF q 0 v) (z := z) (by omega) hT (tMem_of hlo hM) (EX_of hlo hX) (fMem_setF0 hm) (vQ_setF0 hv (by omega)) hz (by rw [upI_oth (by decide)]; exact hI) h2 (by omega) (fun J2 hJ2 hs2 => ?_)⟩
      have hun : leastI T q (z % 2) 0 (m + 1) v = if wonN T (setF q 0 v) (z % 2) 0 then nI v else leastI T q (z % 2) 0 m (v + 1) := rfl
      cases hb : wonN T (setF q 0 v) (z % 2) 0
      · rw [hb] at hun
        have hun : leastI T q (z % 2) 0 (m + 1) v = leastI T q (z % 2) 0 m (v + 1) := hun
        have ihj := ih (v + 1) (nI v) J2 (e1 + 1) (by omega) (by omega) hJ2 (h3.tr hs2) (h4.trans hun)
        rw [nI_succ v] at ihj
        refine EV.at ck52 (by decide) 300 [] ?_
        conv => whnf
        try dsimp only
        refine ⟨fun _ => ?_, fun h5 => absurd rfl h5⟩
        conv => whnf
        try dsimp only
        exact ⟨trivial, ihj⟩
      · rw [hb] at hun
        have hun : leastI T q (z % 2) 0 (m + 1) v = nI v := hun
        have ihj := fin J2 (e1 + 1) (v + 1) (nI v) (nI v) (by omega) hJ2 (h3.tr hs2) (hun.symm.trans h4.symm) (Or.inl (ne_m9 (by omega))) (by omega)
        rw [nI_succ v] at ihj
        refine EV.at ck52 (by decide) 300 [] ?_
        conv => whnf
        try dsimp only
        refine ⟨fun h5 => absurd h5 (by decide), fun _ => ?_⟩
        conv => whnf
        try dsimp only
        exact ⟨trivial, ihj⟩
  refine MT.by ck52 (by decide) rfl (Nat.le_of_ble_eq_true rfl) rfl 300 [22] ?_
  conv => whnf
  try dsimp only
  refine ⟨by unfold vp_in; decide, ?_⟩
  conv => whnf
  try dsimp only
  have hl := loop 6 0 (I 14 1) J e (by omega) (by omega) hG (sameM.rf J) rfl
  rw [up_self] at hl
  rw [hm0.2.1]
  exact ⟨trivial, hl⟩
theorem c_least1 {z e : Nat} (hT : tOK T) (hM : tMem T I) (hX : EX I) (hm : fMem q I) (hv : vQ T q) (hz : z ≤ 40) (hI : I 12 5 = nI z) (hG : MG e J) (he : e + 20 < 2 ^ 30) (h : ∀ J' e', e' ≤ e + 6 → MG e' J' → sameM J J' → Q (some (.int (leastI T q (z % 2) 1 6 0))) (SH n, I, J')) : MT G (d + 40) 52 [.ref 31, .int (nI 1)] (SH n, I, J) Q := by
  have hm0 : sMem 15 (q 1) I := hm.2
  have back : ∀ x : Int32, upI (upI I 15 1 x) 15 1 (I 15 1) = I := fun x => up_back
  have fin : ∀ (J1 : Nat → Nat → Int64) (e1 v : Nat) (x y : Int32), e1 ≤ e + 6 → MG e1 J1 → sameM J J1 → y = leastI T q (z % 2) 1 6 0 → (¬ y = -9 ∨ v = 6) → v ≤ 6 → EV G 52 (d + 39) 0 0 22 [.ref 31, .int (nI 1), .ref 15, .int (nI (q 1).2.1), .int y, .int (nI v)] [] (SH n, upI I 15 1 x, J1) Q := by
    intro J1 e1 v x y h1 h2 h3 h4 h5 h6
    have hq := h J1 e1 h1 h2 h3
    rw [← h4] at hq
    have hfin : EV G 52 (d + 39) 0 0 64 [.ref 31, .int (nI 1), .ref 15, .int (nI (q 1).2.1), .int y, .int (nI v)] [] (SH n, upI I 15 1 x, J1) Q := by
      refine EV.at ck52 (by decide) 300 [] ?_
      conv => whnf
      try dsimp only
      rw [← hm0.2.1, back]
      exact ⟨trivial, hq⟩
    refine EV.at ck52 (by decide) 300 [64] ?_
    conv => whnf
    try dsimp only
    refine ⟨fun _ => ⟨trivial, hfin⟩, fun h7 => ?_⟩
    conv => whnf
    try dsimp only
    refine ⟨fun _ => ⟨trivial, hfin⟩, fun h8 => ?_⟩
    rcases h5 with h5 | h5
    · exact absurd h8 h5
    · rw [h5] at h7
      exact absurd (by decide) h7
  have loop : ∀ m v (x : Int32) (J1 : Nat → Nat → Int64) (e1 : Nat), v + m = 6 → e1 ≤ e + v → MG e1 J1 → sameM J J1 → leastI T q (z % 2) 1 6 0 = leastI T q (z % 2) 1 m v → EV G 52 (d + 39) 0 0 22 [.ref 31, .int (nI 1), .ref 15, .int (nI (q 1).2.1), .int (-9), .int (nI v)] [] (SH n, upI I 15 1 x, J1) Q := by
    intro m
    induction m with
    | zero =>
      intro v x J1 e1 hvm h1 h2 h3 h4
      exact fin J1 e1 v x (-9) (by omega) h2 h3 h4.symm (Or.inr (by omega)) (by omega)
    | succ m ih =>
      intro v x J1 e1 hvm h1 h2 h3 h4
      refine EV.at ck52 (by decide) 300 [] ?_
      conv => whnf
      try dsimp only
      refine ⟨fun h5 => absurd h5 (nI_nlt (show v ≤ 5 by omega) (by decide)), fun _ => ?_⟩
      conv => whnf
      try dsimp only
      refine ⟨fun h5 => absurd rfl h5, fun _ => ?_⟩
      conv => whnf
      try dsimp only
      rw [up_up]
      have hlo : ∀ r, r < 12 → upI I 15 1 (nI v) r = I r := fun r hr => upI_oth (by omega)
      refine ⟨trivial, c_isWonBy (q := setF q 1 v) (z := z) (by omega) hT (tMem_of hlo hM) (EX_of hlo hX) (fMem_setF1 hm) (vQ_setF1 hv (by omega)) hz (by rw [upI_oth (by decide)]; exact hI) h2 (by omega) (fun J2 hJ2 hs2 => ?_)⟩
      have hun : leastI T q (z % 2) 1 (m + 1) v = if wonN T (setF q 1 v) (z % 2) 1 then nI v else leastI T q (z % 2) 1 m (v + 1) := rfl
      cases hb : wonN T (setF q 1 v) (z % 2) 1
      · rw [hb] at hun
        have hun : leastI T q (z % 2) 1 (m + 1) v = leastI T q (z % 2) 1 m (v + 1) := hun
        have ihj := ih (v + 1) (nI v) J2 (e1 + 1) (by omega) (by omega) hJ2 (h3.tr hs2) (h4.trans hun)
        rw [nI_succ v] at ihj
        refine EV.at ck52 (by decide) 300 [] ?_
        conv => whnf
        try dsimp only
        refine ⟨fun _ => ?_, fun h5 => absurd rfl h5⟩
        conv => whnf
        try dsimp only
        exact ⟨trivial, ihj⟩
      · rw [hb] at hun
        have hun : leastI T q (z % 2) 1 (m + 1) v = nI v := hun
        have ihj := fin J2 (e1 + 1) (v + 1) (nI v) (nI v) (by omega) hJ2 (h3.tr hs2) (hun.symm.trans h4.symm) (Or.inl (ne_m9 (by omega))) (by omega)
        rw [nI_succ v] at ihj
        refine EV.at ck52 (by decide) 300 [] ?_
        conv => whnf
        try dsimp only
        refine ⟨fun h5 => absurd h5 (by decide), fun _ => ?_⟩
        conv => whnf
        try dsimp only
        exact ⟨trivial, ihj⟩
  refine MT.by ck52 (by decide) rfl (Nat.le_of_ble_eq_true rfl) rfl 300 [22] ?_
  conv => whnf
  try dsimp only
  refine ⟨by unfold vp_in; decide, ?_⟩
  conv => whnf
  try dsimp only
  have hl := loop 6 0 (I 15 1) J e (by omega) (by omega) hG (sameM.rf J) rfl
  rw [up_self] at hl
  rw [hm0.2.1]
  exact ⟨trivial, hl⟩
end
end
section
/-! Search: what to learn, what is needed, the first CHANGE that wins -/
def firstI (P : Nat → Bool) : Nat → Nat → Int32
  | 0, _ => -9
  | m + 1, v => if P v then nI v else firstI P m (v + 1)
def orN (P : Nat → Bool) : Nat → Nat
  | 0 => 0
  | k + 1 => orN P k ||| (if P k then 2 ^ k else 0)
def learnP (T : TN) (q : Nat → SD) (who w k : Nat) : Bool := !((q w).2.2.2.testBit k) && wonN T (setK q w ((q w).2.2.2 ||| 2 ^ k)) who w
def learnI (T : TN) (q : Nat → SD) (who w : Nat) : Int32 := if wonN T q who w then -9 else firstI (learnP T q who w) (tC T) 0
def needP (T : TN) (q : Nat → SD) (who w k : Nat) : Bool := (q w).2.2.2.testBit k && !(wonN T (setK q w (clrN (q w).2.2.2 k)) who w)
def needN (T : TN) (q : Nat → SD) (who w : Nat) : Nat := if wonN T q who w then orN (needP T q who w) (tC T) else 0
def winP (T : TN) (q : Nat → SD) (w k : Nat) : Bool := canN T (q w) (q (1 - w)).1 k && decide (ends T (stepQ T q w k) (1 - w) % 2 = 0)
theorem fMem_setK0 {q : Nat → SD} {I : Nat → Nat → Int32} {v : Nat} (h : fMem q I) : fMem (setK q 0 v) (upI I 14 3 (nI v)) := ⟨⟨h.1.1, h.1.2.1, h.1.2.2.1, rfl⟩, sMem_oth h.2 (upI_oth (by decide))⟩
theorem fMem_setK1 {q : Nat → SD} {I : Nat → Nat → Int32} {v : Nat} (h : fMem q I) : fMem (setK q 1 v) (upI I 15 3 (nI v)) := ⟨sMem_oth h.1 (upI_oth (by decide)), ⟨h.2.1, h.2.2.1, h.2.2.2.1, rfl⟩⟩
theorem vQ_setK0 {T : TN} {q : Nat → SD} {v : Nat} (h : vQ T q) (hv : v < 4096) : vQ T (setK q 0 v) := ⟨⟨h.1.1, h.1.2.1, h.1.2.2.1, hv⟩, h.2⟩
theorem vQ_setK1 {T : TN} {q : Nat → SD} {v : Nat} (h : vQ T q) (hv : v < 4096) : vQ T (setK q 1 v) := ⟨h.1, ⟨h.2.1, h.2.2.1, h.2.2.2.1, hv⟩⟩
section
variable {G : GG} {d n : Nat} {I : Nat → Nat → Int32} {J : Nat → Nat → Int64} {Q : Option Value → MH → Prop} {T : TN} {q : Nat → SD}
theorem c_learn0 {z e : Nat} (hT : tOK T) (hM : tMem T I) (hX : EX I) (hm : fMem q I) (hv : vQ T q) (hz : z ≤ 40) (hI : I 12 5 = nI z) (hG : MG e J) (he : e + 20 < 2 ^ 30) (h : ∀ J' e', e' ≤ e + 13 → MG e' J' → sameM J J' → Q (some (.int (learnI T q (z % 2) 0))) (SH n, I, J')) : MT G (d + 40) 53 [.ref 31, .int (nI 0)] (SH n, I, J) Q := by
  have hm0 : sMem 14 (q 0) I := hm.1
  have t12 := hT.2.2.1
  have hC : I 6 3 = nI (tC T) := hM.2.2.1
  have hkn := hv.1.2.2.2
  have back : ∀ x : Int32, upI (upI I 14 3 x) 14 3 (I 14 3) = I := fun x => up_back
  have r6 : ∀ x : Int32, upI I 14 3 x 6 3 = nI (tC T) := fun x => by rw [upI_oth (by decide)]; exact hC
  refine MT.by ck53 (by decide) rfl (Nat.le_of_ble_eq_true rfl) rfl 300 [33] ?_
  conv => whnf
  try dsimp only
  refine ⟨trivial, c_isWonBy (z := z) (by omega) hT hM hX hm hv hz hI hG (by omega) (fun J0 hJ0 hs0 => ?_)⟩
  cases hwon : wonN T q (z % 2) 0
  case true =>
    have hq := h J0 (e + 1) (by omega) hJ0 hs0
    unfold learnI at hq
    rw [hwon] at hq
    refine EV.at ck53 (by decide) 300 [33] ?_
    conv => whnf
    try dsimp only
    refine ⟨fun h1 => absurd h1 (by decide), fun _ => ?_⟩
    conv => whnf
    try dsimp only
    exact ⟨trivial, hq⟩
  case false =>
    have hL : learnI T q (z % 2) 0 = firstI (learnP T q (z % 2) 0) (tC T) 0 := by unfold learnI; rw [hwon]; rfl
    rw [hL] at h
    have fin : ∀ (J1 : Nat → Nat → Int64) (e1 v : Nat) (x y : Int32), e1 ≤ e + 13 → MG e1 J1 → sameM J J1 → y = firstI (learnP T q (z % 2) 0) (tC T) 0 → (¬ y = -9 ∨ v = tC T) → v ≤ tC T → EV G 53 (d + 39) 0 0 33 [.ref 31, .int (nI 0), .ref 14, .int (nI (q 0).2.2.2), .int y, .int (nI v)] [] (SH n, upI I 14 3 x, J1) Q := by
      intro J1 e1 v x y h1 h2 h3 h4 h5 h6
      have hq := h J1 e1 h1 h2 h3
      rw [← h4] at hq
      have hfin : EV G 53 (d + 39) 0 0 94 [.ref 31, .int (nI 0), .ref 14, .int (nI (q 0).2.2.2), .int y, .int (nI v)] [] (SH n, upI I 14 3 x, J1) Q := by
        refine EV.at ck53 (by decide) 300 [] ?_
        conv => whnf
        try dsimp only
        rw [← hm0.2.2.2, back]
        exact ⟨trivial, hq⟩
      refine EV.at ck53 (by decide) 300 [94] ?_
      conv => whnf
      try dsimp only
      rw [r6]
      refine ⟨fun _ => ⟨trivial, hfin⟩, fun h7 => ?_⟩
      conv => whnf
      try dsimp only
      refine ⟨fun _ => ⟨trivial, hfin⟩, fun h8 => ?_⟩
      rcases h5 with h5 | h5
      · exact absurd h8 h5
      · rw [h5] at h7
        exact absurd (nI_le (Nat.le_refl _) (by omega)) h7
    have loop : ∀ m v (x : Int32) (J1 : Nat → Nat → Int64) (e1 : Nat), v + m = tC T → e1 ≤ e + 1 + v → MG e1 J1 → sameM J J1 → firstI (learnP T q (z % 2) 0) (tC T) 0 = firstI (learnP T q (z % 2) 0) m v → EV G 53 (d + 39) 0 0 33 [.ref 31, .int (nI 0), .ref 14, .int (nI (q 0).2.2.2), .int (-9), .int (nI v)] [] (SH n, upI I 14 3 x, J1) Q := by
      intro m
      induction m with
      | zero =>
        intro v x J1 e1 hvm h1 h2 h3 h4
        exact fin J1 e1 v x (-9) (by omega) h2 h3 h4.symm (Or.inr (by omega)) (by omega)
      | succ m ih =>
        intro v x J1 e1 hvm h1 h2 h3 h4
        have hun : firstI (learnP T q (z % 2) 0) (m + 1) v = if learnP T q (z % 2) 0 v then nI v else firstI (learnP T q (z % 2) 0) m (v + 1) := rfl
        have hbit := nu_bit (x := (q 0).2.2.2) (j := v) (by omega) (by omega)
        have hset : (q 0).2.2.2 ||| 2 ^ v < 4096 := Nat.or_lt_two_pow (n := 12) hkn (Nat.pow_lt_pow_right (by decide) (by omega))
        have next : ∀ (J2 : Nat → Nat → Int64) (e2 : Nat), e2 ≤ e + 1 + (v + 1) → MG e2 J2 → sameM J J2 → learnP T q (z % 2) 0 v = false → EV G 53 (d + 39) 0 0 33 [.ref 31, .int (nI 0), .ref 14, .int (nI (q 0).2.2.2), .int (-9), .int (nI v + 1)] [] (SH n, upI I 14 3 (nI ((q 0).2.2.2 ||| 2 ^ v)), J2) Q := by
          intro J2 e2 a1 a2 a3 a4
          rw [a4] at hun
          have ihj := ih (v + 1) (nI ((q 0).2.2.2 ||| 2 ^ v)) J2 e2 (by omega) a1 a2 a3 (h4.trans hun)
          rw [nI_succ v] at ihj
          exact ihj
        refine EV.at ck53 (by decide) 300 [] ?_
        conv => whnf
        try dsimp only
        rw [r6]
        refine ⟨fun h5 => absurd h5 (nI_ge (show v < tC T by omega) (by omega)), fun _ => ?_⟩
        conv => whnf
        try dsimp only
        refine ⟨fun h5 => absurd rfl h5, fun _ => ?_⟩
        conv => whnf
        try dsimp only
        rw [up_up, nu_one (show v < 31 by omega), fa_or]
        refine ⟨trivial, c_bit ?_⟩
        rw [hbit]
        cases hb : (q 0).2.2.2.testBit v
        · refine EV.at ck53 (by decide) 300 [] ?_
          conv => whnf
          try dsimp only
          refine ⟨fun h5 => absurd rfl h5, fun _ => ?_⟩
          conv => whnf
          try dsimp only
          have hlo : ∀ r, r < 12 → upI I 14 3 (nI ((q 0).2.2.2 ||| 2 ^ v)) r = I r := fun r hr => upI_oth (by omega)
          refine ⟨trivial, c_isWonBy (q := setK q 0 ((q 0).2.2.2 ||| 2 ^ v)) (z := z) (by omega) hT (tMem_of hlo hM) (EX_of hlo hX) (fMem_setK0 hm) (vQ_setK0 hv hset) hz (by rw [upI_oth (by decide)]; exact hI) h2 (by omega) (fun J2 hJ2 hs2 => ?_)⟩
          cases hb2 : wonN T (setK q 0 ((q 0).2.2.2 ||| 2 ^ v)) (z % 2) 0
          · have hn := next J2 (e1 + 1) (by omega) hJ2 (h3.tr hs2) (by unfold learnP; rw [hb, hb2]; rfl)
            refine EV.at ck53 (by decide) 300 [] ?_
            conv => whnf
            try dsimp only
            refine ⟨fun _ => ?_, fun h5 => absurd rfl h5⟩
            conv => whnf
            try dsimp only
            exact ⟨trivial, hn⟩
          · have hp : learnP T q (z % 2) 0 v = true := by unfold learnP; rw [hb, hb2]; rfl
            rw [hp] at hun
            have hun : firstI (learnP T q (z % 2) 0) (m + 1) v = nI v := hun
            have hn := fin J2 (e1 + 1) (v + 1) (nI ((q 0).2.2.2 ||| 2 ^ v)) (nI v) (by omega) hJ2 (h3.tr hs2) (hun.symm.trans h4.symm) (Or.inl (ne_m9 (by omega))) (by omega)
            rw [nI_succ v] at hn
            refine EV.at ck53 (by decide) 300 [] ?_
            conv => whnf
            try dsimp only
            refine ⟨fun h5 => absurd h5 (by decide), fun _ => ?_⟩
            conv => whnf
            try dsimp only
            exact ⟨trivial, hn⟩
        · have hn := next J1 e1 (by omega) h2 h3 (by unfold learnP; rw [hb]; rfl)
          refine EV.at ck53 (by decide) 300 [] ?_
          conv => whnf
          try dsimp only
          refine ⟨fun _ => ?_, fun h5 => absurd h5 (by decide)⟩
          conv => whnf
          try dsimp only
          exact ⟨trivial, hn⟩
    refine EV.at ck53 (by decide) 300 [33] ?_
    conv => whnf
    try dsimp only
    refine ⟨fun _ => ?_, fun h5 => absurd rfl h5⟩
    conv => whnf
    try dsimp only
    refine ⟨by unfold vp_in; decide, ?_⟩
    conv => whnf
    try dsimp only
    have hl := loop (tC T) 0 (I 14 3) J0 (e + 1) (by omega) (by omega) hJ0 hs0 rfl
    rw [up_self] at hl
    rw [hm0.2.2.2]
    exact ⟨trivial, hl⟩
theorem c_learn1 {z e : Nat} (hT : tOK T) (hM : tMem T I) (hX : EX I) (hm : fMem q I) (hv : vQ T q) (hz : z ≤ 40) (hI : I 12 5 = nI z) (hG : MG e J) (he : e + 20 < 2 ^ 30) (h : ∀ J' e', e' ≤ e + 13 → MG e' J' → sameM J J' → Q (some (.int (learnI T q (z % 2) 1))) (SH n, I, J')) : MT G (d + 40) 53 [.ref 31, .int (nI 1)] (SH n, I, J) Q := by
  have hm0 : sMem 15 (q 1) I := hm.2
  have t12 := hT.2.2.1
  have hC : I 6 3 = nI (tC T) := hM.2.2.1
  have hkn := hv.2.2.2.2
  have back : ∀ x : Int32, upI (upI I 15 3 x) 15 3 (I 15 3) = I := fun x => up_back
  have r6 : ∀ x : Int32, upI I 15 3 x 6 3 = nI (tC T) := fun x => by rw [upI_oth (by decide)]; exact hC
  refine MT.by ck53 (by decide) rfl (Nat.le_of_ble_eq_true rfl) rfl 300 [33] ?_
  conv => whnf
  try dsimp only
  refine ⟨trivial, c_isWonBy (z := z) (by omega) hT hM hX hm hv hz hI hG (by omega) (fun J0 hJ0 hs0 => ?_)⟩
  cases hwon : wonN T q (z % 2) 1
  case true =>
    have hq := h J0 (e + 1) (by omega) hJ0 hs0
    unfold learnI at hq
    rw [hwon] at hq
    refine EV.at ck53 (by decide) 300 [33] ?_
    conv => whnf
    try dsimp only
    refine ⟨fun h1 => absurd h1 (by decide), fun _ => ?_⟩
    conv => whnf
    try dsimp only
    exact ⟨trivial, hq⟩
  case false =>
    have hL : learnI T q (z % 2) 1 = firstI (learnP T q (z % 2) 1) (tC T) 0 := by unfold learnI; rw [hwon]; rfl
    rw [hL] at h
    have fin : ∀ (J1 : Nat → Nat → Int64) (e1 v : Nat) (x y : Int32), e1 ≤ e + 13 → MG e1 J1 → sameM J J1 → y = firstI (learnP T q (z % 2) 1) (tC T) 0 → (¬ y = -9 ∨ v = tC T) → v ≤ tC T → EV G 53 (d + 39) 0 0 33 [.ref 31, .int (nI 1), .ref 15, .int (nI (q 1).2.2.2), .int y, .int (nI v)] [] (SH n, upI I 15 3 x, J1) Q := by
      intro J1 e1 v x y h1 h2 h3 h4 h5 h6
      have hq := h J1 e1 h1 h2 h3
      rw [← h4] at hq
      have hfin : EV G 53 (d + 39) 0 0 94 [.ref 31, .int (nI 1), .ref 15, .int (nI (q 1).2.2.2), .int y, .int (nI v)] [] (SH n, upI I 15 3 x, J1) Q := by
        refine EV.at ck53 (by decide) 300 [] ?_
        conv => whnf
        try dsimp only
        rw [← hm0.2.2.2, back]
        exact ⟨trivial, hq⟩
      refine EV.at ck53 (by decide) 300 [94] ?_
      conv => whnf
      try dsimp only
      rw [r6]
      refine ⟨fun _ => ⟨trivial, hfin⟩, fun h7 => ?_⟩
      conv => whnf
      try dsimp only
      refine ⟨fun _ => ⟨trivial, hfin⟩, fun h8 => ?_⟩
      rcases h5 with h5 | h5
      · exact absurd h8 h5
      · rw [h5] at h7
        exact absurd (nI_le (Nat.le_refl _) (by omega)) h7
    have loop : ∀ m v (x : Int32) (J1 : Nat → Nat → Int64) (e1 : Nat), v + m = tC T → e1 ≤ e + 1 + v → MG e1 J1 → sameM J J1 → firstI (learnP T q (z % 2) 1) (tC T) 0 = firstI (learnP T q (z % 2) 1) m v → EV G 53 (d + 39) 0 0 33 [.ref 31, .int (nI 1), .ref 15, .int (nI (q 1).2.2.2), .int (-9), .int (nI v)] [] (SH n, upI I 15 3 x, J1) Q := by
      intro m
      induction m with
      | zero =>
        intro v x J1 e1 hvm h1 h2 h3 h4
        exact fin J1 e1 v x (-9) (by omega) h2 h3 h4.symm (Or.inr (by omega)) (by omega)
      | succ m ih =>
        intro v x J1 e1 hvm h1 h2 h3 h4
        have hun : firstI (learnP T q (z % 2) 1) (m + 1) v = if learnP T q (z % 2) 1 v then nI v else firstI (learnP T q (z % 2) 1) m (v + 1) := rfl
        have hbit := nu_bit (x := (q 1).2.2.2) (j := v) (by omega) (by omega)
        have hset : (q 1).2.2.2 ||| 2 ^ v < 4096 := Nat.or_lt_two_pow (n := 12) hkn (Nat.pow_lt_pow_right (by decide) (by omega))
        have next : ∀ (J2 : Nat → Nat → Int64) (e2 : Nat), e2 ≤ e + 1 + (v + 1) → MG e2 J2 → sameM J J2 → learnP T q (z % 2) 1 v = false → EV G 53 (d + 39) 0 0 33 [.ref 31, .int (nI 1), .ref 15, .int (nI (q 1).2.2.2), .int (-9), .int (nI v + 1)] [] (SH n, upI I 15 3 (nI ((q 1).2.2.2 ||| 2 ^ v)), J2) Q := by
          intro J2 e2 a1 a2 a3 a4
          rw [a4] at hun
          have ihj := ih (v + 1) (nI ((q 1).2.2.2 ||| 2 ^ v)) J2 e2 (by omega) a1 a2 a3 (h4.trans hun)
          rw [nI_succ v] at ihj
          exact ihj
        refine EV.at ck53 (by decide) 300 [] ?_
        conv => whnf
        try dsimp only
        rw [r6]
        refine ⟨fun h5 => absurd h5 (nI_ge (show v < tC T by omega) (by omega)), fun _ => ?_⟩
        conv => whnf
        try dsimp only
        refine ⟨fun h5 => absurd rfl h5, fun _ => ?_⟩
        conv => whnf
        try dsimp only
        rw [up_up, nu_one (show v < 31 by omega), fa_or]
        refine ⟨trivial, c_bit ?_⟩
        rw [hbit]
        cases hb : (q 1).2.2.2.testBit v
        · refine EV.at ck53 (by decide) 300 [] ?_
          conv => whnf
          try dsimp only
          refine ⟨fun h5 => absurd rfl h5, fun _ => ?_⟩
          conv => whnf
          try dsimp only
          have hlo : ∀ r, r < 12 → upI I 15 3 (nI ((q 1).2.2.2 ||| 2 ^ v)) r = I r := fun r hr => upI_oth (by omega)
          refine ⟨trivial, c_isWonBy (q := setK q 1 ((q 1).2.2.2 ||| 2 ^ v)) (z := z) (by omega) hT (tMem_of hlo hM) (EX_of hlo hX) (fMem_setK1 hm) (vQ_setK1 hv hset) hz (by rw [upI_oth (by decide)]; exact hI) h2 (by omega) (fun J2 hJ2 hs2 => ?_)⟩
          cases hb2 : wonN T (setK q 1 ((q 1).2.2.2 ||| 2 ^ v)) (z % 2) 1
          · have hn := next J2 (e1 + 1) (by omega) hJ2 (h3.tr hs2) (by unfold learnP; rw [hb, hb2]; rfl)
            refine EV.at ck53 (by decide) 300 [] ?_
            conv => whnf
            try dsimp only
            refine ⟨fun _ => ?_, fun h5 => absurd rfl h5⟩
            conv => whnf
            try dsimp only
            exact ⟨trivial, hn⟩
          · have hp : learnP T q (z % 2) 1 v = true := by unfold learnP; rw [hb, hb2]; rfl
            rw [hp] at hun
            have hun : firstI (learnP T q (z % 2) 1) (m + 1) v = nI v := hun
            have hn := fin J2 (e1 + 1) (v + 1) (nI ((q 1).2.2.2 ||| 2 ^ v)) (nI v) (by omega) hJ2 (h3.tr hs2) (hun.symm.trans h4.symm) (Or.inl (ne_m9 (by omega))) (by omega)
            rw [nI_succ v] at hn
            refine EV.at ck53 (by decide) 300 [] ?_
            conv => whnf
            try dsimp only
            refine ⟨fun h5 => absurd h5 (by decide), fun _ => ?_⟩
            conv => whnf
            try dsimp only
            exact ⟨trivial, hn⟩
        · have hn := next J1 e1 (by omega) h2 h3 (by unfold learnP; rw [hb]; rfl)
          refine EV.at ck53 (by decide) 300 [] ?_
          conv => whnf
          try dsimp only
          refine ⟨fun _ => ?_, fun h5 => absurd h5 (by decide)⟩
          conv => whnf
          try dsimp only
          exact ⟨trivial, hn⟩
    refine EV.at ck53 (by decide) 300 [33] ?_
    conv => whnf
    try dsimp only
    refine ⟨fun _ => ?_, fun h5 => absurd rfl h5⟩
    conv => whnf
    try dsimp only
    refine ⟨by unfold vp_in; decide, ?_⟩
    conv => whnf
    try dsimp only
    have hl := loop (tC T) 0 (I 15 3) J0 (e + 1) (by omega) (by omega) hJ0 hs0 rfl
    rw [up_self] at hl
    rw [hm0.2.2.2]
    exact ⟨trivial, hl⟩
theorem c_need0 {z e : Nat} (hT : tOK T) (hM : tMem T I) (hX : EX I) (hm : fMem q I) (hv : vQ T q) (hz : z ≤ 40) (hI : I 12 5 = nI z) (hG : MG e J) (he : e + 20 < 2 ^ 30) (h : ∀ J' e', e' ≤ e + 13 → MG e' J' → sameM J J' → Q (some (.int (nI (needN T q (z % 2) 0)))) (SH n, I, J')) : MT G (d + 40) 54 [.ref 31, .int (nI 0)] (SH n, I, J) Q := by
  have hm0 : sMem 14 (q 0) I := hm.1
  have t12 := hT.2.2.1
  have hC : I 6 3 = nI (tC T) := hM.2.2.1
  have hkn := hv.1.2.2.2
  have back : ∀ x : Int32, upI (upI I 14 3 x) 14 3 (I 14 3) = I := fun x => up_back
  have r6 : ∀ x : Int32, upI I 14 3 x 6 3 = nI (tC T) := fun x => by rw [upI_oth (by decide)]; exact hC
  refine MT.by ck54 (by decide) rfl (Nat.le_of_ble_eq_true rfl) rfl 300 [31] ?_
  conv => whnf
  try dsimp only
  refine ⟨trivial, c_isWonBy (z := z) (by omega) hT hM hX hm hv hz hI hG (by omega) (fun J0 hJ0 hs0 => ?_)⟩
  cases hwon : wonN T q (z % 2) 0
  case false =>
    have hq := h J0 (e + 1) (by omega) hJ0 hs0
    unfold needN at hq
    rw [hwon] at hq
    refine EV.at ck54 (by decide) 300 [31] ?_
    conv => whnf
    try dsimp only
    refine ⟨fun h1 => absurd rfl h1, fun _ => ?_⟩
    conv => whnf
    try dsimp only
    exact ⟨trivial, hq⟩
  case true =>
    have hL : needN T q (z % 2) 0 = orN (needP T q (z % 2) 0) (tC T) := by unfold needN; rw [hwon]; rfl
    rw [hL] at h
    have loop : ∀ m v (x : Int32) (J1 : Nat → Nat → Int64) (e1 : Nat), v + m = tC T → e1 ≤ e + 1 + v → MG e1 J1 → sameM J J1 → EV G 54 (d + 39) 0 0 31 [.ref 31, .int (nI 0), .ref 14, .int (nI (q 0).2.2.2), .int (nI (orN (needP T q (z % 2) 0) v)), .int (nI v)] [] (SH n, upI I 14 3 x, J1) Q := by
      intro m
      induction m with
      | zero =>
        intro v x J1 e1 hvm h1 h2 h3
        have hvm : v = tC T := hvm
        have hq := h J1 e1 (by omega) h2 h3
        rw [← hvm] at hq
        refine EV.at ck54 (by decide) 300 [] ?_
        conv => whnf
        try dsimp only
        rw [r6, ← hvm]
        refine ⟨fun _ => ?_, fun h1 => absurd (nI_le (Nat.le_refl v) (by omega)) h1⟩
        conv => whnf
        try dsimp only
        rw [← hm0.2.2.2, back]
        exact ⟨trivial, hq⟩
      | succ m ih =>
        intro v x J1 e1 hvm h1 h2 h3
        have hun : orN (needP T q (z % 2) 0) (v + 1) = orN (needP T q (z % 2) 0) v ||| (if needP T q (z % 2) 0 v then 2 ^ v else 0) := rfl
        have hbit := nu_bit (x := (q 0).2.2.2) (j := v) (by omega) (by omega)
        have hset : clrN (q 0).2.2.2 v < 4096 := clrN_lt (b := 12) hkn (by omega)
        have next : ∀ (J2 : Nat → Nat → Int64) (e2 : Nat), e2 ≤ e + 1 + (v + 1) → MG e2 J2 → sameM J J2 → needP T q (z % 2) 0 v = false → EV G 54 (d + 39) 0 0 31 [.ref 31, .int (nI 0), .ref 14, .int (nI (q 0).2.2.2), .int (nI (orN (needP T q (z % 2) 0) v) ||| 0), .int (nI v + 1)] [] (SH n, upI I 14 3 (nI (clrN (q 0).2.2.2 v)), J2) Q := by
          intro J2 e2 a1 a2 a3 a4
          rw [a4] at hun
          have ihj := ih (v + 1) (nI (clrN (q 0).2.2.2 v)) J2 e2 (by omega) a1 a2 a3
          have e5 : nI (orN (needP T q (z % 2) 0) v) ||| 0 = nI (orN (needP T q (z % 2) 0) (v + 1)) := by rw [hun]; exact fa_or _ 0
          rw [nI_succ v, ← e5] at ihj
          exact ihj
        refine EV.at ck54 (by decide) 300 [] ?_
        conv => whnf
        try dsimp only
        rw [r6]
        refine ⟨fun h5 => absurd h5 (nI_ge (show v < tC T by omega) (by omega)), fun _ => ?_⟩
        conv => whnf
        try dsimp only
        rw [up_up, nu_clr (show v < 31 by omega)]
        refine ⟨trivial, c_bit ?_⟩
        rw [hbit]
        cases hb : (q 0).2.2.2.testBit v
        · have hn := next J1 e1 (by omega) h2 h3 (by unfold needP; rw [hb]; rfl)
          refine EV.at ck54 (by decide) 300 [] ?_
          conv => whnf
          try dsimp only
          refine ⟨fun _ => ?_, fun h5 => absurd h5 (by decide)⟩
          conv => whnf
          try dsimp only
          exact ⟨trivial, hn⟩
        · refine EV.at ck54 (by decide) 300 [] ?_
          conv => whnf
          try dsimp only
          refine ⟨fun h5 => absurd rfl h5, fun _ => ?_⟩
          conv => whnf
          try dsimp only
          have hlo : ∀ r, r < 12 → upI I 14 3 (nI (clrN (q 0).2.2.2 v)) r = I r := fun r hr => upI_oth (by omega)
          refine ⟨trivial, c_isWonBy (q := setK q 0 (clrN (q 0).2.2.2 v)) (z := z) (by omega) hT (tMem_of hlo hM) (EX_of hlo hX) (fMem_setK0 hm) (vQ_setK0 hv hset) hz (by rw [upI_oth (by decide)]; exact hI) h2 (by omega) (fun J2 hJ2 hs2 => ?_)⟩
          cases hb2 : wonN T (setK q 0 (clrN (q 0).2.2.2 v)) (z % 2) 0
          · have hp : needP T q (z % 2) 0 v = true := by unfold needP; rw [hb, hb2]; rfl
            rw [hp] at hun
            have ihj := ih (v + 1) (nI (clrN (q 0).2.2.2 v)) J2 (e1 + 1) (by omega) (by omega) hJ2 (h3.tr hs2)
            have e5 : nI (orN (needP T q (z % 2) 0) v) ||| jshl 1 (nI v) = nI (orN (needP T q (z % 2) 0) (v + 1)) := by rw [hun, nu_one (show v < 31 by omega)]; exact fa_or _ _
            rw [nI_succ v, ← e5] at ihj
            refine EV.at ck54 (by decide) 300 [] ?_
            conv => whnf
            try dsimp only
            refine ⟨fun h5 => absurd rfl h5, fun _ => ?_⟩
            conv => whnf
            try dsimp only
            exact ⟨trivial, ihj⟩
          · have hn := next J2 (e1 + 1) (by omega) hJ2 (h3.tr hs2) (by unfold needP; rw [hb, hb2]; rfl)
            refine EV.at ck54 (by decide) 300 [] ?_
            conv => whnf
            try dsimp only
            refine ⟨fun _ => ?_, fun h5 => absurd h5 (by decide)⟩
            conv => whnf
            try dsimp only
            exact ⟨trivial, hn⟩
    refine EV.at ck54 (by decide) 300 [31] ?_
    conv => whnf
    try dsimp only
    refine ⟨fun _ => ?_, fun h5 => absurd h5 (by decide)⟩
    conv => whnf
    try dsimp only
    refine ⟨by unfold vp_in; decide, ?_⟩
    conv => whnf
    try dsimp only
    have hl := loop (tC T) 0 (I 14 3) J0 (e + 1) (by omega) (by omega) hJ0 hs0
    rw [up_self] at hl
    rw [hm0.2.2.2]
    exact ⟨trivial, hl⟩
theorem c_need1 {z e : Nat} (hT : tOK T) (hM : tMem T I) (hX : EX I) (hm : fMem q I) (hv : vQ T q) (hz : z ≤ 40) (hI : I 12 5 = nI z) (hG : MG e J) (he : e + 20 < 2 ^ 30) (h : ∀ J' e', e' ≤ e + 13 → MG e' J' → sameM J J' → Q (some (.int (nI (needN T q (z % 2) 1)))) (SH n, I, J')) : MT G (d + 40) 54 [.ref 31, .int (nI 1)] (SH n, I, J) Q := by
  have hm0 : sMem 15 (q 1) I := hm.2
  have t12 := hT.2.2.1
  have hC : I 6 3 = nI (tC T) := hM.2.2.1
  have hkn := hv.2.2.2.2
  have back : ∀ x : Int32, upI (upI I 15 3 x) 15 3 (I 15 3) = I := fun x => up_back
  have r6 : ∀ x : Int32, upI I 15 3 x 6 3 = nI (tC T) := fun x => by rw [upI_oth (by decide)]; exact hC
  refine MT.by ck54 (by decide) rfl (Nat.le_of_ble_eq_true rfl) rfl 300 [31] ?_
  conv => whnf
  try dsimp only
  refine ⟨trivial, c_isWonBy (z := z) (by omega) hT hM hX hm hv hz hI hG (by omega) (fun J0 hJ0 hs0 => ?_)⟩
  cases hwon : wonN T q (z % 2) 1
  case false =>
    have hq := h J0 (e + 1) (by omega) hJ0 hs0
    unfold needN at hq
    rw [hwon] at hq
    refine EV.at ck54 (by decide) 300 [31] ?_
    conv => whnf
    try dsimp only
    refine ⟨fun h1 => absurd rfl h1, fun _ => ?_⟩
    conv => whnf
    try dsimp only
    exact ⟨trivial, hq⟩
  case true =>
    have hL : needN T q (z % 2) 1 = orN (needP T q (z % 2) 1) (tC T) := by unfold needN; rw [hwon]; rfl
    rw [hL] at h
    have loop : ∀ m v (x : Int32) (J1 : Nat → Nat → Int64) (e1 : Nat), v + m = tC T → e1 ≤ e + 1 + v → MG e1 J1 → sameM J J1 → EV G 54 (d + 39) 0 0 31 [.ref 31, .int (nI 1), .ref 15, .int (nI (q 1).2.2.2), .int (nI (orN (needP T q (z % 2) 1) v)), .int (nI v)] [] (SH n, upI I 15 3 x, J1) Q := by
      intro m
      induction m with
      | zero =>
        intro v x J1 e1 hvm h1 h2 h3
        have hvm : v = tC T := hvm
        have hq := h J1 e1 (by omega) h2 h3
        rw [← hvm] at hq
        refine EV.at ck54 (by decide) 300 [] ?_
        conv => whnf
        try dsimp only
        rw [r6, ← hvm]
        refine ⟨fun _ => ?_, fun h1 => absurd (nI_le (Nat.le_refl v) (by omega)) h1⟩
        conv => whnf
        try dsimp only
        rw [← hm0.2.2.2, back]
        exact ⟨trivial, hq⟩
      | succ m ih =>
        intro v x J1 e1 hvm h1 h2 h3
        have hun : orN (needP T q (z % 2) 1) (v + 1) = orN (needP T q (z % 2) 1) v ||| (if needP T q (z % 2) 1 v then 2 ^ v else 0) := rfl
        have hbit := nu_bit (x := (q 1).2.2.2) (j := v) (by omega) (by omega)
        have hset : clrN (q 1).2.2.2 v < 4096 := clrN_lt (b := 12) hkn (by omega)
        have next : ∀ (J2 : Nat → Nat → Int64) (e2 : Nat), e2 ≤ e + 1 + (v + 1) → MG e2 J2 → sameM J J2 → needP T q (z % 2) 1 v = false → EV G 54 (d + 39) 0 0 31 [.ref 31, .int (nI 1), .ref 15, .int (nI (q 1).2.2.2), .int (nI (orN (needP T q (z % 2) 1) v) ||| 0), .int (nI v + 1)] [] (SH n, upI I 15 3 (nI (clrN (q 1).2.2.2 v)), J2) Q := by
          intro J2 e2 a1 a2 a3 a4
          rw [a4] at hun
          have ihj := ih (v + 1) (nI (clrN (q 1).2.2.2 v)) J2 e2 (by omega) a1 a2 a3
          have e5 : nI (orN (needP T q (z % 2) 1) v) ||| 0 = nI (orN (needP T q (z % 2) 1) (v + 1)) := by rw [hun]; exact fa_or _ 0
          rw [nI_succ v, ← e5] at ihj
          exact ihj
        refine EV.at ck54 (by decide) 300 [] ?_
        conv => whnf
        try dsimp only
        rw [r6]
        refine ⟨fun h5 => absurd h5 (nI_ge (show v < tC T by omega) (by omega)), fun _ => ?_⟩
        conv => whnf
        try dsimp only
        rw [up_up, nu_clr (show v < 31 by omega)]
        refine ⟨trivial, c_bit ?_⟩
        rw [hbit]
        cases hb : (q 1).2.2.2.testBit v
        · have hn := next J1 e1 (by omega) h2 h3 (by unfold needP; rw [hb]; rfl)
          refine EV.at ck54 (by decide) 300 [] ?_
          conv => whnf
          try dsimp only
          refine ⟨fun _ => ?_, fun h5 => absurd h5 (by decide)⟩
          conv => whnf
          try dsimp only
          exact ⟨trivial, hn⟩
        · refine EV.at ck54 (by decide) 300 [] ?_
          conv => whnf
          try dsimp only
          refine ⟨fun h5 => absurd rfl h5, fun _ => ?_⟩
          conv => whnf
          try dsimp only
          have hlo : ∀ r, r < 12 → upI I 15 3 (nI (clrN (q 1).2.2.2 v)) r = I r := fun r hr => upI_oth (by omega)
          refine ⟨trivial, c_isWonBy (q := setK q 1 (clrN (q 1).2.2.2 v)) (z := z) (by omega) hT (tMem_of hlo hM) (EX_of hlo hX) (fMem_setK1 hm) (vQ_setK1 hv hset) hz (by rw [upI_oth (by decide)]; exact hI) h2 (by omega) (fun J2 hJ2 hs2 => ?_)⟩
          cases hb2 : wonN T (setK q 1 (clrN (q 1).2.2.2 v)) (z % 2) 1
          · have hp : needP T q (z % 2) 1 v = true := by unfold needP; rw [hb, hb2]; rfl
            rw [hp] at hun
            have ihj := ih (v + 1) (nI (clrN (q 1).2.2.2 v)) J2 (e1 + 1) (by omega) (by omega) hJ2 (h3.tr hs2)
            have e5 : nI (orN (needP T q (z % 2) 1) v) ||| jshl 1 (nI v) = nI (orN (needP T q (z % 2) 1) (v + 1)) := by rw [hun, nu_one (show v < 31 by omega)]; exact fa_or _ _
            rw [nI_succ v, ← e5] at ihj
            refine EV.at ck54 (by decide) 300 [] ?_
            conv => whnf
            try dsimp only
            refine ⟨fun h5 => absurd rfl h5, fun _ => ?_⟩
            conv => whnf
            try dsimp only
            exact ⟨trivial, ihj⟩
          · have hn := next J2 (e1 + 1) (by omega) hJ2 (h3.tr hs2) (by unfold needP; rw [hb, hb2]; rfl)
            refine EV.at ck54 (by decide) 300 [] ?_
            conv => whnf
            try dsimp only
            refine ⟨fun _ => ?_, fun h5 => absurd h5 (by decide)⟩
            conv => whnf
            try dsimp only
            exact ⟨trivial, hn⟩
    refine EV.at ck54 (by decide) 300 [31] ?_
    conv => whnf
    try dsimp only
    refine ⟨fun _ => ?_, fun h5 => absurd h5 (by decide)⟩
    conv => whnf
    try dsimp only
    refine ⟨by unfold vp_in; decide, ?_⟩
    conv => whnf
    try dsimp only
    have hl := loop (tC T) 0 (I 15 3) J0 (e + 1) (by omega) (by omega) hJ0 hs0
    rw [up_self] at hl
    rw [hm0.2.2.2]
    exact ⟨trivial, hl⟩
theorem c_firstWinning {z e : Nat} (hT : tOK T) (hM : tMem T I) (hX : EX I) (hm : fMem q I) (hv : vQ T q) (hz : z ≤ 40) (hI : I 12 5 = nI z) (hG : MG e J) (he : e + 1 < 2 ^ 30) (h : ∀ J', MG (e + 1) J' → sameM J J' → Q (some (.int (firstI (winP T q (z % 2)) (tC T) 0))) (SH n, I, J')) : MT G (d + 40) 48 [.ref 31] (SH n, I, J) Q := by
  have t12 := hT.2.2.1
  have hC : I 6 3 = nI (tC T) := hM.2.2.1
  have hz2 : z % 2 < 2 := Nat.mod_lt _ (by decide)
  generalize hw : z % 2 = w at h hz2
  have loop : ∀ m j J1 (z3 : Value), isDm z3 = true ∨ (∃ y, z3 = .int y) → j + m = tC T → MIv T (Ve T) (q 0).2.2.2 (q 1).2.2.2 (e + 1) J1 → sameM J J1 → firstI (winP T q w) (tC T) 0 = firstI (winP T q w) m j → EV G 48 (d + 39) 0 0 17 [.ref 31, .int (nI w), .int (nI j), z3] [] (SH n, I, J1) Q := by
    intro m
    induction m with
    | zero =>
      intro j J1 z3 hz3 hj h1 h2 h3
      have hj : j = tC T := hj
      have hq := h J1 h1.mg h2
      rw [h3] at hq
      refine EV.at ck48 (by decide) 300 [] ?_
      conv => whnf
      try dsimp only
      rw [hC, ← hj]
      refine ⟨fun _ => ?_, fun h1 => absurd (nI_le (Nat.le_refl j) (by omega)) h1⟩
      conv => whnf
      try dsimp only
      exact ⟨trivial, hq⟩
    | succ m ih =>
      intro j J1 z3 hz3 hj h1 h2 h3
      have hjc : j < tC T := by omega
      have hun : firstI (winP T q w) (m + 1) j = if winP T q w j then nI j else firstI (winP T q w) m (j + 1) := rfl
      have next : ∀ J2 (y : Int32), MIv T (Ve T) (q 0).2.2.2 (q 1).2.2.2 (e + 1) J2 → sameM J J2 → winP T q w j = false → EV G 48 (d + 39) 0 0 17 [.ref 31, .int (nI w), .int (nI j + 1), .int y] [] (SH n, I, J2) Q := by
        intro J2 y a1 a2 a3
        rw [a3] at hun
        have ihj := ih (j + 1) J2 (.int y) (Or.inr ⟨y, rfl⟩) (by omega) a1 a2 (h3.trans hun)
        rw [nI_succ j] at ihj
        exact ihj
      refine EV.at ck48 (by decide) 300 [] ?_
      conv => whnf
      try dsimp only
      rw [hC]
      refine ⟨fun h5 => absurd h5 (nI_ge hjc (by omega)), fun _ => ?_⟩
      conv => whnf
      try dsimp only
      refine ⟨trivial, c_takes hz2 hT hM hm hv.1 hv.2 hX hjc ?_⟩
      have tl := takes_lt (q := q w) (o := (q (1 - w)).1) hT hjc
      cases hb : canN T (q w) (q (1 - w)).1 j
      · have ht : takesN T (q w) (q (1 - w)).1 j = 0 := by unfold takesN; rw [hb]; rfl
        rw [ht]
        have hn := next J1 (nI 0) h1 h2 (by unfold winP; rw [hb]; rfl)
        refine EV.at ck48 (by decide) 300 [] ?_
        conv => whnf
        try dsimp only
        refine ⟨fun _ => ?_, fun h5 => absurd (by decide) h5⟩
        conv => whnf
        try dsimp only
        exact ⟨trivial, hn⟩
      · have ht : 0 < takesN T (q w) (q (1 - w)).1 j := takes_pos.mpr hb
        refine EV.at ck48 (by decide) 300 [] ?_
        conv => whnf
        try dsimp only
        refine ⟨fun h5 => absurd h5 (nI_nle ht (by omega)), fun _ => ?_⟩
        conv => whnf
        try dsimp only
        have hle : ends T (stepQ T q w j) (1 - w) ≤ 10 := endsF_le T 10 _ _
        refine ⟨trivial, EBh_of hT (EIn_all hT 9 1 rfl) (d + 39) I J1 _ q w j (by omega) hM hX hm hv rfl rfl hz2 h1 (fsum_le hv) hjc hb (fun J2 hJ2 hs2 => ?_)⟩
        have hs3 : sameM J J2 := h2.tr (fun x a b c => hs2 x b c)
        have hodd := odd_nI (a := ends T (stepQ T q w j) (1 - w)) (by omega)
        have e1 := nu_a1 (x := ends T (stepQ T q w j) (1 - w)) (by omega)
        refine EV.at ck48 (by decide) 300 [] ?_
        conv => whnf
        try dsimp only
        rw [e1]
        refine ⟨fun h5 => ?_, fun h5 => ?_⟩
        · have hn := next J2 (nI (takesN T (q w) (q (1 - w)).1 j)) hJ2 hs3 (by unfold winP; rw [hb, decide_eq_false (fun y => h5 (by rw [y]; rfl))]; rfl)
          conv => whnf
          try dsimp only
          exact ⟨trivial, hn⟩
        · have h6 : ends T (stepQ T q w j) (1 - w) % 2 = 0 := (nI_eq (b := 0) (by omega) (by decide)).mp h5
          have hp : winP T q w j = true := by unfold winP; rw [hb, decide_eq_true h6]; rfl
          rw [hp] at hun
          have hq := h J2 hJ2.mg hs3
          rw [h3, hun] at hq
          conv => whnf
          try dsimp only
          exact ⟨trivial, hq⟩
  refine MT.by ck48 (by decide) rfl (Nat.le_of_ble_eq_true rfl) rfl 300 [17] ?_
  conv => whnf
  try dsimp only
  refine ⟨trivial, c_forget ?_⟩
  refine EV.at ck48 (by decide) 300 [17] ?_
  conv => whnf
  try dsimp only
  refine ⟨trivial, c_mover hz hI ?_⟩
  rw [hw]
  refine EV.at ck48 (by decide) 300 [17] ?_
  conv => whnf
  try dsimp only
  exact ⟨trivial, loop (tC T) 0 _ dm (Or.inl rfl) (by omega) (hG.next he) (fun x a b c => upL_oth a) rfl⟩
end
end
