section
-- ===== PART A: goes FIRST, ahead of the names: the tables' words, and 'selects' of the private methods out of them =====
/-- a private method of a class that the tables say can be made, by its rows of tables_1 -/
def lw_okq (q : MethodName × Nat) : Prop := (q.1.cls ≠ "java/lang/invoke/MethodHandle" ∧ q.1.cls ≠ "java/lang/invoke/VarHandle") ∧ Cond.instantiable q.1.cls q.2 ∈ tables_1 ∧ Cond.privateMethod q.1 ∈ tables_1 ∧ Cond.instanceMethod q.1 ∈ tables_1
theorem lw_p0 : lw_okq (⟨"HaloTrees", "remember", "()V"⟩, 8) := ⟨⟨by decide +kernel, by decide +kernel⟩, List.mem_of_getElem? (i := 15) (by decide +kernel), List.mem_of_getElem? (i := 244) (by decide +kernel), List.mem_of_getElem? (i := 245) (by decide +kernel)⟩
theorem lw_p1 : lw_okq (⟨"HaloTrees", "isGrainOfPicture", "(II)Z"⟩, 8) := ⟨⟨by decide +kernel, by decide +kernel⟩, List.mem_of_getElem? (i := 15) (by decide +kernel), List.mem_of_getElem? (i := 276) (by decide +kernel), List.mem_of_getElem? (i := 277) (by decide +kernel)⟩
theorem lw_p2 : lw_okq (⟨"HaloTrees", "isPicture", "(I)Z"⟩, 8) := ⟨⟨by decide +kernel, by decide +kernel⟩, List.mem_of_getElem? (i := 15) (by decide +kernel), List.mem_of_getElem? (i := 280) (by decide +kernel), List.mem_of_getElem? (i := 281) (by decide +kernel)⟩
theorem lw_p3 : lw_okq (⟨"HaloTrees$Lots", "draw", "()I"⟩, 1) := ⟨⟨by decide +kernel, by decide +kernel⟩, List.mem_of_getElem? (i := 204) (by decide +kernel), List.mem_of_getElem? (i := 340) (by decide +kernel), List.mem_of_getElem? (i := 341) (by decide +kernel)⟩
theorem lw_p4 : lw_okq (⟨"HaloTrees$Lots", "layAnywhere", "(LHaloTrees$Field;II)V"⟩, 1) := ⟨⟨by decide +kernel, by decide +kernel⟩, List.mem_of_getElem? (i := 204) (by decide +kernel), List.mem_of_getElem? (i := 346) (by decide +kernel), List.mem_of_getElem? (i := 347) (by decide +kernel)⟩
theorem lw_p5 : lw_okq (⟨"HaloTrees$Lots", "shifted", "(I)I"⟩, 1) := ⟨⟨by decide +kernel, by decide +kernel⟩, List.mem_of_getElem? (i := 204) (by decide +kernel), List.mem_of_getElem? (i := 360) (by decide +kernel), List.mem_of_getElem? (i := 361) (by decide +kernel)⟩
theorem lw_p6 : lw_okq (⟨"HaloTrees$Clumping", "linkToLesser", "(LHaloTrees$Field;III)V"⟩, 4) := ⟨⟨by decide +kernel, by decide +kernel⟩, List.mem_of_getElem? (i := 85) (by decide +kernel), List.mem_of_getElem? (i := 396) (by decide +kernel), List.mem_of_getElem? (i := 397) (by decide +kernel)⟩
theorem lw_p7 : lw_okq (⟨"HaloTrees$Clumping", "reachedFrom", "(II)I"⟩, 4) := ⟨⟨by decide +kernel, by decide +kernel⟩, List.mem_of_getElem? (i := 85) (by decide +kernel), List.mem_of_getElem? (i := 416) (by decide +kernel), List.mem_of_getElem? (i := 417) (by decide +kernel)⟩
theorem lw_p8 : lw_okq (⟨"HaloTrees$Clumping", "linkedToAny", "(I)I"⟩, 4) := ⟨⟨by decide +kernel, by decide +kernel⟩, List.mem_of_getElem? (i := 85) (by decide +kernel), List.mem_of_getElem? (i := 420) (by decide +kernel), List.mem_of_getElem? (i := 421) (by decide +kernel)⟩
theorem lw_p9 : lw_okq (⟨"HaloTrees$Clumping", "tellMembers", "(I)V"⟩, 4) := ⟨⟨by decide +kernel, by decide +kernel⟩, List.mem_of_getElem? (i := 85) (by decide +kernel), List.mem_of_getElem? (i := 424) (by decide +kernel), List.mem_of_getElem? (i := 425) (by decide +kernel)⟩
theorem lw_p10 : lw_okq (⟨"HaloTrees$Halos", "insert", "(II)V"⟩, 7) := ⟨⟨by decide +kernel, by decide +kernel⟩, List.mem_of_getElem? (i := 109) (by decide +kernel), List.mem_of_getElem? (i := 438) (by decide +kernel), List.mem_of_getElem? (i := 439) (by decide +kernel)⟩
theorem lw_p11 : lw_okq (⟨"HaloTrees$Halos", "withMostOf", "(LHaloTrees$Field;I)I"⟩, 7) := ⟨⟨by decide +kernel, by decide +kernel⟩, List.mem_of_getElem? (i := 109) (by decide +kernel), List.mem_of_getElem? (i := 455) (by decide +kernel), List.mem_of_getElem? (i := 456) (by decide +kernel)⟩
theorem lw_p12 : lw_okq (⟨"HaloTrees", "treeOf", "(I)LHaloTrees$SplittingTree;"⟩, 8) := ⟨⟨by decide +kernel, by decide +kernel⟩, List.mem_of_getElem? (i := 15) (by decide +kernel), List.mem_of_getElem? (i := 485) (by decide +kernel), List.mem_of_getElem? (i := 486) (by decide +kernel)⟩
theorem lw_p13 : lw_okq (⟨"HaloTrees$SplittingTree", "split", "(III)I"⟩, 8) := ⟨⟨by decide +kernel, by decide +kernel⟩, List.mem_of_getElem? (i := 168) (by decide +kernel), List.mem_of_getElem? (i := 497) (by decide +kernel), List.mem_of_getElem? (i := 498) (by decide +kernel)⟩
theorem lw_p14 : lw_okq (⟨"HaloTrees$SplittingTree", "sort", "(III)V"⟩, 8) := ⟨⟨by decide +kernel, by decide +kernel⟩, List.mem_of_getElem? (i := 168) (by decide +kernel), List.mem_of_getElem? (i := 501) (by decide +kernel), List.mem_of_getElem? (i := 502) (by decide +kernel)⟩
theorem lw_p15 : lw_okq (⟨"HaloTrees$SplittingTree", "rankOf", "(II)I"⟩, 8) := ⟨⟨by decide +kernel, by decide +kernel⟩, List.mem_of_getElem? (i := 168) (by decide +kernel), List.mem_of_getElem? (i := 505) (by decide +kernel), List.mem_of_getElem? (i := 506) (by decide +kernel)⟩
def lw_privs_1 : List (MethodName × Nat) := [(⟨"HaloTrees", "remember", "()V"⟩, 8), (⟨"HaloTrees", "isGrainOfPicture", "(II)Z"⟩, 8), (⟨"HaloTrees", "isPicture", "(I)Z"⟩, 8), (⟨"HaloTrees$Lots", "draw", "()I"⟩, 1), (⟨"HaloTrees$Lots", "layAnywhere", "(LHaloTrees$Field;II)V"⟩, 1), (⟨"HaloTrees$Lots", "shifted", "(I)I"⟩, 1), (⟨"HaloTrees$Clumping", "linkToLesser", "(LHaloTrees$Field;III)V"⟩, 4), (⟨"HaloTrees$Clumping", "reachedFrom", "(II)I"⟩, 4), (⟨"HaloTrees$Clumping", "linkedToAny", "(I)I"⟩, 4), (⟨"HaloTrees$Clumping", "tellMembers", "(I)V"⟩, 4), (⟨"HaloTrees$Halos", "insert", "(II)V"⟩, 7), (⟨"HaloTrees$Halos", "withMostOf", "(LHaloTrees$Field;I)I"⟩, 7), (⟨"HaloTrees", "treeOf", "(I)LHaloTrees$SplittingTree;"⟩, 8), (⟨"HaloTrees$SplittingTree", "split", "(III)I"⟩, 8), (⟨"HaloTrees$SplittingTree", "sort", "(III)V"⟩, 8), (⟨"HaloTrees$SplittingTree", "rankOf", "(II)I"⟩, 8)]
theorem lw_r1 : ∀ q ∈ lw_privs_1, lw_okq q := List.forall_mem_cons.mpr ⟨lw_p0, List.forall_mem_cons.mpr ⟨lw_p1, List.forall_mem_cons.mpr ⟨lw_p2, List.forall_mem_cons.mpr ⟨lw_p3, List.forall_mem_cons.mpr ⟨lw_p4, List.forall_mem_cons.mpr ⟨lw_p5, List.forall_mem_cons.mpr ⟨lw_p6, List.forall_mem_cons.mpr ⟨lw_p7, List.forall_mem_cons.mpr ⟨lw_p8, List.forall_mem_cons.mpr ⟨lw_p9, List.forall_mem_cons.mpr ⟨lw_p10, List.forall_mem_cons.mpr ⟨lw_p11, List.forall_mem_cons.mpr ⟨lw_p12, List.forall_mem_cons.mpr ⟨lw_p13, List.forall_mem_cons.mpr ⟨lw_p14, List.forall_mem_cons.mpr ⟨lw_p15, fun _ h => absurd h List.not_mem_nil⟩⟩⟩⟩⟩⟩⟩⟩⟩⟩⟩⟩⟩⟩⟩⟩
theorem lw_p16 : lw_okq (⟨"HaloTrees", "isHalo", "(II)Z"⟩, 8) := ⟨⟨by decide +kernel, by decide +kernel⟩, List.mem_of_getElem? (i := 15) (by decide +kernel), List.mem_of_getElem? (i := 529) (by decide +kernel), List.mem_of_getElem? (i := 530) (by decide +kernel)⟩
theorem lw_p17 : lw_okq (⟨"HaloTrees", "strayed", "(II)I"⟩, 8) := ⟨⟨by decide +kernel, by decide +kernel⟩, List.mem_of_getElem? (i := 15) (by decide +kernel), List.mem_of_getElem? (i := 537) (by decide +kernel), List.mem_of_getElem? (i := 538) (by decide +kernel)⟩
theorem lw_p18 : lw_okq (⟨"HaloTrees$SplittingTree", "lookedAtFrom", "(IIIII)I"⟩, 8) := ⟨⟨by decide +kernel, by decide +kernel⟩, List.mem_of_getElem? (i := 168) (by decide +kernel), List.mem_of_getElem? (i := 570) (by decide +kernel), List.mem_of_getElem? (i := 571) (by decide +kernel)⟩
theorem lw_p19 : lw_okq (⟨"HaloTrees", "clumpedBy", "(II)LHaloTrees$Clumping;"⟩, 8) := ⟨⟨by decide +kernel, by decide +kernel⟩, List.mem_of_getElem? (i := 15) (by decide +kernel), List.mem_of_getElem? (i := 595) (by decide +kernel), List.mem_of_getElem? (i := 596) (by decide +kernel)⟩
theorem lw_p20 : lw_okq (⟨"HaloTreesModel", "minds", "()V"⟩, 16) := ⟨⟨by decide +kernel, by decide +kernel⟩, List.mem_of_getElem? (i := 622) (by decide +kernel), List.mem_of_getElem? (i := 682) (by decide +kernel), List.mem_of_getElem? (i := 683) (by decide +kernel)⟩
theorem lw_p21 : lw_okq (⟨"HaloTreesModel", "copy", "(II)V"⟩, 16) := ⟨⟨by decide +kernel, by decide +kernel⟩, List.mem_of_getElem? (i := 622) (by decide +kernel), List.mem_of_getElem? (i := 686) (by decide +kernel), List.mem_of_getElem? (i := 687) (by decide +kernel)⟩
theorem lw_p22 : lw_okq (⟨"HaloTreesModel", "begins", "()I"⟩, 16) := ⟨⟨by decide +kernel, by decide +kernel⟩, List.mem_of_getElem? (i := 622) (by decide +kernel), List.mem_of_getElem? (i := 690) (by decide +kernel), List.mem_of_getElem? (i := 691) (by decide +kernel)⟩
theorem lw_p23 : lw_okq (⟨"HaloTreesModel", "isPicture", "(I)Z"⟩, 16) := ⟨⟨by decide +kernel, by decide +kernel⟩, List.mem_of_getElem? (i := 622) (by decide +kernel), List.mem_of_getElem? (i := 706) (by decide +kernel), List.mem_of_getElem? (i := 707) (by decide +kernel)⟩
theorem lw_p24 : lw_okq (⟨"HaloTreesModel", "setOf", "(I)I"⟩, 16) := ⟨⟨by decide +kernel, by decide +kernel⟩, List.mem_of_getElem? (i := 622) (by decide +kernel), List.mem_of_getElem? (i := 723) (by decide +kernel), List.mem_of_getElem? (i := 724) (by decide +kernel)⟩
theorem lw_p25 : lw_okq (⟨"HaloTreesModel", "lays", "(IIII)V"⟩, 16) := ⟨⟨by decide +kernel, by decide +kernel⟩, List.mem_of_getElem? (i := 622) (by decide +kernel), List.mem_of_getElem? (i := 730) (by decide +kernel), List.mem_of_getElem? (i := 731) (by decide +kernel)⟩
theorem lw_p26 : lw_okq (⟨"HaloTreesModel", "draw", "(I)I"⟩, 16) := ⟨⟨by decide +kernel, by decide +kernel⟩, List.mem_of_getElem? (i := 622) (by decide +kernel), List.mem_of_getElem? (i := 757) (by decide +kernel), List.mem_of_getElem? (i := 758) (by decide +kernel)⟩
theorem lw_p27 : lw_okq (⟨"HaloTreesModel", "x", "(II)I"⟩, 16) := ⟨⟨by decide +kernel, by decide +kernel⟩, List.mem_of_getElem? (i := 622) (by decide +kernel), List.mem_of_getElem? (i := 763) (by decide +kernel), List.mem_of_getElem? (i := 764) (by decide +kernel)⟩
theorem lw_p28 : lw_okq (⟨"HaloTreesModel", "y", "(II)I"⟩, 16) := ⟨⟨by decide +kernel, by decide +kernel⟩, List.mem_of_getElem? (i := 622) (by decide +kernel), List.mem_of_getElem? (i := 770) (by decide +kernel), List.mem_of_getElem? (i := 771) (by decide +kernel)⟩
theorem lw_p29 : lw_okq (⟨"HaloTreesModel", "countHalos", "(I)I"⟩, 16) := ⟨⟨by decide +kernel, by decide +kernel⟩, List.mem_of_getElem? (i := 622) (by decide +kernel), List.mem_of_getElem? (i := 782) (by decide +kernel), List.mem_of_getElem? (i := 783) (by decide +kernel)⟩
theorem lw_p30 : lw_okq (⟨"HaloTreesModel", "layAll", "()V"⟩, 16) := ⟨⟨by decide +kernel, by decide +kernel⟩, List.mem_of_getElem? (i := 622) (by decide +kernel), List.mem_of_getElem? (i := 786) (by decide +kernel), List.mem_of_getElem? (i := 787) (by decide +kernel)⟩
theorem lw_p31 : lw_okq (⟨"HaloTreesModel", "layHalos", "(I)V"⟩, 16) := ⟨⟨by decide +kernel, by decide +kernel⟩, List.mem_of_getElem? (i := 622) (by decide +kernel), List.mem_of_getElem? (i := 790) (by decide +kernel), List.mem_of_getElem? (i := 791) (by decide +kernel)⟩
def lw_privs_2 : List (MethodName × Nat) := [(⟨"HaloTrees", "isHalo", "(II)Z"⟩, 8), (⟨"HaloTrees", "strayed", "(II)I"⟩, 8), (⟨"HaloTrees$SplittingTree", "lookedAtFrom", "(IIIII)I"⟩, 8), (⟨"HaloTrees", "clumpedBy", "(II)LHaloTrees$Clumping;"⟩, 8), (⟨"HaloTreesModel", "minds", "()V"⟩, 16), (⟨"HaloTreesModel", "copy", "(II)V"⟩, 16), (⟨"HaloTreesModel", "begins", "()I"⟩, 16), (⟨"HaloTreesModel", "isPicture", "(I)Z"⟩, 16), (⟨"HaloTreesModel", "setOf", "(I)I"⟩, 16), (⟨"HaloTreesModel", "lays", "(IIII)V"⟩, 16), (⟨"HaloTreesModel", "draw", "(I)I"⟩, 16), (⟨"HaloTreesModel", "x", "(II)I"⟩, 16), (⟨"HaloTreesModel", "y", "(II)I"⟩, 16), (⟨"HaloTreesModel", "countHalos", "(I)I"⟩, 16), (⟨"HaloTreesModel", "layAll", "()V"⟩, 16), (⟨"HaloTreesModel", "layHalos", "(I)V"⟩, 16)]
theorem lw_r2 : ∀ q ∈ lw_privs_2, lw_okq q := List.forall_mem_cons.mpr ⟨lw_p16, List.forall_mem_cons.mpr ⟨lw_p17, List.forall_mem_cons.mpr ⟨lw_p18, List.forall_mem_cons.mpr ⟨lw_p19, List.forall_mem_cons.mpr ⟨lw_p20, List.forall_mem_cons.mpr ⟨lw_p21, List.forall_mem_cons.mpr ⟨lw_p22, List.forall_mem_cons.mpr ⟨lw_p23, List.forall_mem_cons.mpr ⟨lw_p24, List.forall_mem_cons.mpr ⟨lw_p25, List.forall_mem_cons.mpr ⟨lw_p26, List.forall_mem_cons.mpr ⟨lw_p27, List.forall_mem_cons.mpr ⟨lw_p28, List.forall_mem_cons.mpr ⟨lw_p29, List.forall_mem_cons.mpr ⟨lw_p30, List.forall_mem_cons.mpr ⟨lw_p31, fun _ h => absurd h List.not_mem_nil⟩⟩⟩⟩⟩⟩⟩⟩⟩⟩⟩⟩⟩⟩⟩⟩
theorem lw_p32 : lw_okq (⟨"HaloTreesModel", "clumpOf", "(IIII)I"⟩, 16) := ⟨⟨by decide +kernel, by decide +kernel⟩, List.mem_of_getElem? (i := 622) (by decide +kernel), List.mem_of_getElem? (i := 794) (by decide +kernel), List.mem_of_getElem? (i := 795) (by decide +kernel)⟩
theorem lw_p33 : lw_okq (⟨"HaloTreesModel", "isLinked", "(IIII)Z"⟩, 16) := ⟨⟨by decide +kernel, by decide +kernel⟩, List.mem_of_getElem? (i := 622) (by decide +kernel), List.mem_of_getElem? (i := 798) (by decide +kernel), List.mem_of_getElem? (i := 799) (by decide +kernel)⟩
theorem lw_p34 : lw_okq (⟨"HaloTreesModel", "way", "(III)I"⟩, 16) := ⟨⟨by decide +kernel, by decide +kernel⟩, List.mem_of_getElem? (i := 622) (by decide +kernel), List.mem_of_getElem? (i := 802) (by decide +kernel), List.mem_of_getElem? (i := 803) (by decide +kernel)⟩
theorem lw_p35 : lw_okq (⟨"HaloTreesModel", "weight", "(I)I"⟩, 16) := ⟨⟨by decide +kernel, by decide +kernel⟩, List.mem_of_getElem? (i := 622) (by decide +kernel), List.mem_of_getElem? (i := 806) (by decide +kernel), List.mem_of_getElem? (i := 807) (by decide +kernel)⟩
theorem lw_p36 : lw_okq (⟨"HaloTreesModel", "isAhead", "(II)Z"⟩, 16) := ⟨⟨by decide +kernel, by decide +kernel⟩, List.mem_of_getElem? (i := 622) (by decide +kernel), List.mem_of_getElem? (i := 810) (by decide +kernel), List.mem_of_getElem? (i := 811) (by decide +kernel)⟩
theorem lw_p37 : lw_okq (⟨"HaloTreesModel", "goesOn", "(II)I"⟩, 16) := ⟨⟨by decide +kernel, by decide +kernel⟩, List.mem_of_getElem? (i := 622) (by decide +kernel), List.mem_of_getElem? (i := 817) (by decide +kernel), List.mem_of_getElem? (i := 818) (by decide +kernel)⟩
theorem lw_p38 : lw_okq (⟨"HaloTreesModel", "haloSet", "(II)I"⟩, 16) := ⟨⟨by decide +kernel, by decide +kernel⟩, List.mem_of_getElem? (i := 622) (by decide +kernel), List.mem_of_getElem? (i := 821) (by decide +kernel), List.mem_of_getElem? (i := 822) (by decide +kernel)⟩
theorem lw_p39 : lw_okq (⟨"HaloTreesModel", "comesFrom", "(II)I"⟩, 16) := ⟨⟨by decide +kernel, by decide +kernel⟩, List.mem_of_getElem? (i := 622) (by decide +kernel), List.mem_of_getElem? (i := 825) (by decide +kernel), List.mem_of_getElem? (i := 826) (by decide +kernel)⟩
theorem lw_p40 : lw_okq (⟨"HaloTreesModel", "branchLong", "(II)I"⟩, 16) := ⟨⟨by decide +kernel, by decide +kernel⟩, List.mem_of_getElem? (i := 622) (by decide +kernel), List.mem_of_getElem? (i := 829) (by decide +kernel), List.mem_of_getElem? (i := 830) (by decide +kernel)⟩
theorem lw_p41 : lw_okq (⟨"HaloTreesModel", "mainOf", "(II)I"⟩, 16) := ⟨⟨by decide +kernel, by decide +kernel⟩, List.mem_of_getElem? (i := 622) (by decide +kernel), List.mem_of_getElem? (i := 833) (by decide +kernel), List.mem_of_getElem? (i := 834) (by decide +kernel)⟩
theorem lw_p42 : lw_okq (⟨"HaloTreesModel", "links", "(I)I"⟩, 16) := ⟨⟨by decide +kernel, by decide +kernel⟩, List.mem_of_getElem? (i := 622) (by decide +kernel), List.mem_of_getElem? (i := 841) (by decide +kernel), List.mem_of_getElem? (i := 842) (by decide +kernel)⟩
theorem lw_p43 : lw_okq (⟨"HaloTreesModel", "linksOf", "(II)I"⟩, 16) := ⟨⟨by decide +kernel, by decide +kernel⟩, List.mem_of_getElem? (i := 622) (by decide +kernel), List.mem_of_getElem? (i := 845) (by decide +kernel), List.mem_of_getElem? (i := 846) (by decide +kernel)⟩
theorem lw_p44 : lw_okq (⟨"HaloTreesModel", "clumpsOf", "(III)I"⟩, 16) := ⟨⟨by decide +kernel, by decide +kernel⟩, List.mem_of_getElem? (i := 622) (by decide +kernel), List.mem_of_getElem? (i := 849) (by decide +kernel), List.mem_of_getElem? (i := 850) (by decide +kernel)⟩
theorem lw_p45 : lw_okq (⟨"HaloTreesModel", "halosOf", "(I)I"⟩, 16) := ⟨⟨by decide +kernel, by decide +kernel⟩, List.mem_of_getElem? (i := 622) (by decide +kernel), List.mem_of_getElem? (i := 853) (by decide +kernel), List.mem_of_getElem? (i := 854) (by decide +kernel)⟩
theorem lw_p46 : lw_okq (⟨"HaloTreesModel", "longest", "(I)I"⟩, 16) := ⟨⟨by decide +kernel, by decide +kernel⟩, List.mem_of_getElem? (i := 622) (by decide +kernel), List.mem_of_getElem? (i := 857) (by decide +kernel), List.mem_of_getElem? (i := 858) (by decide +kernel)⟩
theorem lw_p47 : lw_okq (⟨"HaloTreesModel", "layTree", "(I)V"⟩, 16) := ⟨⟨by decide +kernel, by decide +kernel⟩, List.mem_of_getElem? (i := 622) (by decide +kernel), List.mem_of_getElem? (i := 861) (by decide +kernel), List.mem_of_getElem? (i := 862) (by decide +kernel)⟩
def lw_privs_3 : List (MethodName × Nat) := [(⟨"HaloTreesModel", "clumpOf", "(IIII)I"⟩, 16), (⟨"HaloTreesModel", "isLinked", "(IIII)Z"⟩, 16), (⟨"HaloTreesModel", "way", "(III)I"⟩, 16), (⟨"HaloTreesModel", "weight", "(I)I"⟩, 16), (⟨"HaloTreesModel", "isAhead", "(II)Z"⟩, 16), (⟨"HaloTreesModel", "goesOn", "(II)I"⟩, 16), (⟨"HaloTreesModel", "haloSet", "(II)I"⟩, 16), (⟨"HaloTreesModel", "comesFrom", "(II)I"⟩, 16), (⟨"HaloTreesModel", "branchLong", "(II)I"⟩, 16), (⟨"HaloTreesModel", "mainOf", "(II)I"⟩, 16), (⟨"HaloTreesModel", "links", "(I)I"⟩, 16), (⟨"HaloTreesModel", "linksOf", "(II)I"⟩, 16), (⟨"HaloTreesModel", "clumpsOf", "(III)I"⟩, 16), (⟨"HaloTreesModel", "halosOf", "(I)I"⟩, 16), (⟨"HaloTreesModel", "longest", "(I)I"⟩, 16), (⟨"HaloTreesModel", "layTree", "(I)V"⟩, 16)]
theorem lw_r3 : ∀ q ∈ lw_privs_3, lw_okq q := List.forall_mem_cons.mpr ⟨lw_p32, List.forall_mem_cons.mpr ⟨lw_p33, List.forall_mem_cons.mpr ⟨lw_p34, List.forall_mem_cons.mpr ⟨lw_p35, List.forall_mem_cons.mpr ⟨lw_p36, List.forall_mem_cons.mpr ⟨lw_p37, List.forall_mem_cons.mpr ⟨lw_p38, List.forall_mem_cons.mpr ⟨lw_p39, List.forall_mem_cons.mpr ⟨lw_p40, List.forall_mem_cons.mpr ⟨lw_p41, List.forall_mem_cons.mpr ⟨lw_p42, List.forall_mem_cons.mpr ⟨lw_p43, List.forall_mem_cons.mpr ⟨lw_p44, List.forall_mem_cons.mpr ⟨lw_p45, List.forall_mem_cons.mpr ⟨lw_p46, List.forall_mem_cons.mpr ⟨lw_p47, fun _ h => absurd h List.not_mem_nil⟩⟩⟩⟩⟩⟩⟩⟩⟩⟩⟩⟩⟩⟩⟩⟩
theorem lw_p48 : lw_okq (⟨"HaloTreesModel", "adds", "(IIII)V"⟩, 16) := ⟨⟨by decide +kernel, by decide +kernel⟩, List.mem_of_getElem? (i := 622) (by decide +kernel), List.mem_of_getElem? (i := 865) (by decide +kernel), List.mem_of_getElem? (i := 866) (by decide +kernel)⟩
theorem lw_p49 : lw_okq (⟨"HaloTreesModel", "sorts", "(IIII)V"⟩, 16) := ⟨⟨by decide +kernel, by decide +kernel⟩, List.mem_of_getElem? (i := 622) (by decide +kernel), List.mem_of_getElem? (i := 869) (by decide +kernel), List.mem_of_getElem? (i := 870) (by decide +kernel)⟩
theorem lw_p50 : lw_okq (⟨"HaloTreesModel", "key", "(III)I"⟩, 16) := ⟨⟨by decide +kernel, by decide +kernel⟩, List.mem_of_getElem? (i := 622) (by decide +kernel), List.mem_of_getElem? (i := 873) (by decide +kernel), List.mem_of_getElem? (i := 874) (by decide +kernel)⟩
theorem lw_p51 : lw_okq (⟨"HaloTreesModel", "topOf", "(I)I"⟩, 16) := ⟨⟨by decide +kernel, by decide +kernel⟩, List.mem_of_getElem? (i := 622) (by decide +kernel), List.mem_of_getElem? (i := 878) (by decide +kernel), List.mem_of_getElem? (i := 879) (by decide +kernel)⟩
theorem lw_p52 : lw_okq (⟨"HaloTreesModel", "haloIn", "(II)I"⟩, 16) := ⟨⟨by decide +kernel, by decide +kernel⟩, List.mem_of_getElem? (i := 622) (by decide +kernel), List.mem_of_getElem? (i := 886) (by decide +kernel), List.mem_of_getElem? (i := 887) (by decide +kernel)⟩
theorem lw_p53 : lw_okq (⟨"HaloTreesModel", "holds", "(II)I"⟩, 16) := ⟨⟨by decide +kernel, by decide +kernel⟩, List.mem_of_getElem? (i := 622) (by decide +kernel), List.mem_of_getElem? (i := 890) (by decide +kernel), List.mem_of_getElem? (i := 891) (by decide +kernel)⟩
theorem lw_p54 : lw_okq (⟨"HaloTreesModel", "depthOf", "(II)I"⟩, 16) := ⟨⟨by decide +kernel, by decide +kernel⟩, List.mem_of_getElem? (i := 622) (by decide +kernel), List.mem_of_getElem? (i := 894) (by decide +kernel), List.mem_of_getElem? (i := 895) (by decide +kernel)⟩
theorem lw_p55 : lw_okq (⟨"HaloTreesModel", "isHalo", "(II)Z"⟩, 16) := ⟨⟨by decide +kernel, by decide +kernel⟩, List.mem_of_getElem? (i := 622) (by decide +kernel), List.mem_of_getElem? (i := 902) (by decide +kernel), List.mem_of_getElem? (i := 903) (by decide +kernel)⟩
theorem lw_p56 : lw_okq (⟨"HaloTreesModel", "grew", "(II)I"⟩, 16) := ⟨⟨by decide +kernel, by decide +kernel⟩, List.mem_of_getElem? (i := 622) (by decide +kernel), List.mem_of_getElem? (i := 906) (by decide +kernel), List.mem_of_getElem? (i := 907) (by decide +kernel)⟩
theorem lw_p57 : lw_okq (⟨"HaloTreesModel", "strayed", "(II)I"⟩, 16) := ⟨⟨by decide +kernel, by decide +kernel⟩, List.mem_of_getElem? (i := 622) (by decide +kernel), List.mem_of_getElem? (i := 910) (by decide +kernel), List.mem_of_getElem? (i := 911) (by decide +kernel)⟩
theorem lw_p58 : lw_okq (⟨"HaloTreesModel", "farFrom", "(IIII)I"⟩, 16) := ⟨⟨by decide +kernel, by decide +kernel⟩, List.mem_of_getElem? (i := 622) (by decide +kernel), List.mem_of_getElem? (i := 932) (by decide +kernel), List.mem_of_getElem? (i := 933) (by decide +kernel)⟩
theorem lw_p59 : lw_okq (⟨"HaloTreesModel", "looked", "(IIII)I"⟩, 16) := ⟨⟨by decide +kernel, by decide +kernel⟩, List.mem_of_getElem? (i := 622) (by decide +kernel), List.mem_of_getElem? (i := 936) (by decide +kernel), List.mem_of_getElem? (i := 937) (by decide +kernel)⟩
def lw_privs_4 : List (MethodName × Nat) := [(⟨"HaloTreesModel", "adds", "(IIII)V"⟩, 16), (⟨"HaloTreesModel", "sorts", "(IIII)V"⟩, 16), (⟨"HaloTreesModel", "key", "(III)I"⟩, 16), (⟨"HaloTreesModel", "topOf", "(I)I"⟩, 16), (⟨"HaloTreesModel", "haloIn", "(II)I"⟩, 16), (⟨"HaloTreesModel", "holds", "(II)I"⟩, 16), (⟨"HaloTreesModel", "depthOf", "(II)I"⟩, 16), (⟨"HaloTreesModel", "isHalo", "(II)Z"⟩, 16), (⟨"HaloTreesModel", "grew", "(II)I"⟩, 16), (⟨"HaloTreesModel", "strayed", "(II)I"⟩, 16), (⟨"HaloTreesModel", "farFrom", "(IIII)I"⟩, 16), (⟨"HaloTreesModel", "looked", "(IIII)I"⟩, 16)]
theorem lw_r4 : ∀ q ∈ lw_privs_4, lw_okq q := List.forall_mem_cons.mpr ⟨lw_p48, List.forall_mem_cons.mpr ⟨lw_p49, List.forall_mem_cons.mpr ⟨lw_p50, List.forall_mem_cons.mpr ⟨lw_p51, List.forall_mem_cons.mpr ⟨lw_p52, List.forall_mem_cons.mpr ⟨lw_p53, List.forall_mem_cons.mpr ⟨lw_p54, List.forall_mem_cons.mpr ⟨lw_p55, List.forall_mem_cons.mpr ⟨lw_p56, List.forall_mem_cons.mpr ⟨lw_p57, List.forall_mem_cons.mpr ⟨lw_p58, List.forall_mem_cons.mpr ⟨lw_p59, fun _ h => absurd h List.not_mem_nil⟩⟩⟩⟩⟩⟩⟩⟩⟩⟩⟩⟩
def lw_privs : List (MethodName × Nat) := lw_privs_1 ++ (lw_privs_2 ++ (lw_privs_3 ++ (lw_privs_4)))
def lw_tbl : List Cond := k2_sels lw_privs ++ tables_1
theorem lw_privs_ok : ∀ q ∈ lw_privs, lw_okq q := by
  show ∀ q ∈ lw_privs_1 ++ (lw_privs_2 ++ (lw_privs_3 ++ (lw_privs_4))), lw_okq q
  exact List.forall_mem_append.mpr ⟨lw_r1, List.forall_mem_append.mpr ⟨lw_r2, List.forall_mem_append.mpr ⟨lw_r3, lw_r4⟩⟩⟩
end
section
def RX0 : String := "HaloTrees$Clumping"
def TX0 : u_T := fun k => match k with
  | 0 => ("HaloTrees$Clumping", "links", "I", false)
  | 1 => ("HaloTrees$Clumping", "count", "I", false)
  | 2 => ("HaloTrees$Clumping", "linked", "[I", true)
  | _ => ("HaloTrees$Clumping", "clump", "[I", true)
def tyX0 : Nat → FieldType := fun k => match k with
  | 0 => .int
  | 1 => .int
  | 2 => .array .int
  | _ => .array .int
theorem nmX0 : ∀ a, a < 4 → ∀ b, b < 4 → a ≠ b → (TX0 a).2.1 ≠ (TX0 b).2.1 := by decide +kernel
theorem tyX0_ok : ∀ k, k < 4 → parseFieldDescriptor (TX0 k).2.2.1 = some (tyX0 k) := by decide +kernel
abbrev cX0_init : ByteArray := prog_2_method_1_code
def yX0_init : MethodName := ⟨RX0, "<init>", "()V"⟩
abbrev cX0_link : ByteArray := prog_2_method_2_code
def yX0_link : MethodName := ⟨RX0, "link", "(LHaloTrees$Field;II)V"⟩
abbrev cX0_linkToLesser : ByteArray := prog_2_method_3_code
def yX0_linkToLesser : MethodName := ⟨RX0, "linkToLesser", "(LHaloTrees$Field;III)V"⟩
abbrev cX0_gatherClumps : ByteArray := prog_2_method_4_code
def yX0_gatherClumps : MethodName := ⟨RX0, "gatherClumps", "(I)V"⟩
abbrev cX0_tellMembers : ByteArray := prog_2_method_5_code
def yX0_tellMembers : MethodName := ⟨RX0, "tellMembers", "(I)V"⟩
abbrev cX0_reachedFrom : ByteArray := prog_2_method_6_code
def yX0_reachedFrom : MethodName := ⟨RX0, "reachedFrom", "(II)I"⟩
abbrev cX0_linkedToAny : ByteArray := prog_2_method_7_code
def yX0_linkedToAny : MethodName := ⟨RX0, "linkedToAny", "(I)I"⟩
abbrev cX0_countSteps : ByteArray := prog_2_method_8_code
def yX0_countSteps : MethodName := ⟨RX0, "countSteps", "(II)I"⟩
abbrev cX0_isHolding : ByteArray := prog_2_method_9_code
def yX0_isHolding : MethodName := ⟨RX0, "isHolding", "(I)Z"⟩
def RX1 : String := "HaloTrees$Field"
def TX1 : u_T := fun k => match k with
  | 0 => ("HaloTrees$Field", "pictures", "I", false)
  | 1 => ("HaloTrees$Field", "length", "I", false)
  | 2 => ("HaloTrees$Field", "least", "I", false)
  | 3 => ("HaloTrees$Field", "weight", "[I", true)
  | _ => ("HaloTrees$Field", "place", "[I", true)
def tyX1 : Nat → FieldType := fun k => match k with
  | 0 => .int
  | 1 => .int
  | 2 => .int
  | 3 => .array .int
  | _ => .array .int
theorem nmX1 : ∀ a, a < 5 → ∀ b, b < 5 → a ≠ b → (TX1 a).2.1 ≠ (TX1 b).2.1 := by decide +kernel
theorem tyX1_ok : ∀ k, k < 5 → parseFieldDescriptor (TX1 k).2.2.1 = some (tyX1 k) := by decide +kernel
abbrev cX1_init : ByteArray := prog_3_method_1_code
def yX1_init : MethodName := ⟨RX1, "<init>", "()V"⟩
abbrev cX1_become : ByteArray := prog_3_method_2_code
def yX1_become : MethodName := ⟨RX1, "become", "(LHaloTrees$Field;)V"⟩
abbrev cX1_addPicture : ByteArray := prog_3_method_3_code
def yX1_addPicture : MethodName := ⟨RX1, "addPicture", "()I"⟩
abbrev cX1_lay : ByteArray := prog_3_method_4_code
def yX1_lay : MethodName := ⟨RX1, "lay", "(IIII)V"⟩
abbrev cX1_takeAway : ByteArray := prog_3_method_5_code
def yX1_takeAway : MethodName := ⟨RX1, "takeAway", "(II)V"⟩
abbrev cX1_isIn : ByteArray := prog_3_method_6_code
def yX1_isIn : MethodName := ⟨RX1, "isIn", "(II)Z"⟩
abbrev cX1_xOf : ByteArray := prog_3_method_7_code
def yX1_xOf : MethodName := ⟨RX1, "xOf", "(II)I"⟩
abbrev cX1_yOf : ByteArray := prog_3_method_8_code
def yX1_yOf : MethodName := ⟨RX1, "yOf", "(II)I"⟩
abbrev cX1_way : ByteArray := prog_3_method_9_code
def yX1_way : MethodName := ⟨RX1, "way", "(IIII)I"⟩
abbrev cX1_grainsOf : ByteArray := prog_3_method_10_code
def yX1_grainsOf : MethodName := ⟨RX1, "grainsOf", "(I)I"⟩
abbrev cX1_near : ByteArray := prog_3_method_11_code
def yX1_near : MethodName := ⟨RX1, "near", "(IIII)I"⟩
abbrev cX1_weightOf : ByteArray := prog_3_method_12_code
def yX1_weightOf : MethodName := ⟨RX1, "weightOf", "(I)I"⟩
def RX2 : String := "HaloTrees$Forest"
def TX2 : u_T := fun k => match k with
  | 0 => ("HaloTrees$Forest", "fresh", "Z", false)
  | 1 => ("HaloTrees$Forest", "pictures", "I", false)
  | 2 => ("HaloTrees$Forest", "clumpings", "[LHaloTrees$Clumping;", true)
  | _ => ("HaloTrees$Forest", "halos", "[LHaloTrees$Halos;", true)
def tyX2 : Nat → FieldType := fun k => match k with
  | 0 => .boolean
  | 1 => .int
  | 2 => .array (.object "HaloTrees$Clumping")
  | _ => .array (.object "HaloTrees$Halos")
theorem nmX2 : ∀ a, a < 4 → ∀ b, b < 4 → a ≠ b → (TX2 a).2.1 ≠ (TX2 b).2.1 := by decide +kernel
theorem tyX2_ok : ∀ k, k < 4 → parseFieldDescriptor (TX2 k).2.2.1 = some (tyX2 k) := by decide +kernel
abbrev cX2_init : ByteArray := prog_4_method_1_code
def yX2_init : MethodName := ⟨RX2, "<init>", "()V"⟩
abbrev cX2_surveyed : ByteArray := prog_4_method_2_code
def yX2_surveyed : MethodName := ⟨RX2, "surveyed", "(LHaloTrees$Field;)LHaloTrees$Forest;"⟩
abbrev cX2_branchBack : ByteArray := prog_4_method_3_code
def yX2_branchBack : MethodName := ⟨RX2, "branchBack", "(III)I"⟩
abbrev cX2_weightOfMain : ByteArray := prog_4_method_4_code
def yX2_weightOfMain : MethodName := ⟨RX2, "weightOfMain", "(II)I"⟩
abbrev cX2_countHalos : ByteArray := prog_4_method_5_code
def yX2_countHalos : MethodName := ⟨RX2, "countHalos", "()I"⟩
abbrev cX2_countEnding : ByteArray := prog_4_method_6_code
def yX2_countEnding : MethodName := ⟨RX2, "countEnding", "()I"⟩
abbrev cX2_countBeginning : ByteArray := prog_4_method_7_code
def yX2_countBeginning : MethodName := ⟨RX2, "countBeginning", "()I"⟩
abbrev cX2_longestBranch : ByteArray := prog_4_method_8_code
def yX2_longestBranch : MethodName := ⟨RX2, "longestBranch", "()I"⟩
def RX3 : String := "HaloTrees$Halos"
def TX3 : u_T := fun k => match k with
  | 0 => ("HaloTrees$Halos", "count", "I", false)
  | 1 => ("HaloTrees$Halos", "grains", "[I", true)
  | 2 => ("HaloTrees$Halos", "weight", "[I", true)
  | 3 => ("HaloTrees$Halos", "goesOn", "[I", true)
  | 4 => ("HaloTrees$Halos", "comesFrom", "[I", true)
  | 5 => ("HaloTrees$Halos", "main", "[I", true)
  | _ => ("HaloTrees$Halos", "branchLength", "[I", true)
def tyX3 : Nat → FieldType := fun k => match k with
  | 0 => .int
  | 1 => .array .int
  | 2 => .array .int
  | 3 => .array .int
  | 4 => .array .int
  | 5 => .array .int
  | _ => .array .int
theorem nmX3 : ∀ a, a < 7 → ∀ b, b < 7 → a ≠ b → (TX3 a).2.1 ≠ (TX3 b).2.1 := by decide +kernel
theorem tyX3_ok : ∀ k, k < 7 → parseFieldDescriptor (TX3 k).2.2.1 = some (tyX3 k) := by decide +kernel
abbrev cX3_init : ByteArray := prog_5_method_1_code
def yX3_init : MethodName := ⟨RX3, "<init>", "()V"⟩
abbrev cX3_gather : ByteArray := prog_5_method_2_code
def yX3_gather : MethodName := ⟨RX3, "gather", "(LHaloTrees$Field;LHaloTrees$Clumping;)V"⟩
abbrev cX3_insert : ByteArray := prog_5_method_3_code
def yX3_insert : MethodName := ⟨RX3, "insert", "(II)V"⟩
abbrev cX3_numberOf : ByteArray := prog_5_method_4_code
def yX3_numberOf : MethodName := ⟨RX3, "numberOf", "(I)I"⟩
abbrev cX3_goOnNowhere : ByteArray := prog_5_method_5_code
def yX3_goOnNowhere : MethodName := ⟨RX3, "goOnNowhere", "()V"⟩
abbrev cX3_goOnIn : ByteArray := prog_5_method_6_code
def yX3_goOnIn : MethodName := ⟨RX3, "goOnIn", "(LHaloTrees$Field;LHaloTrees$Halos;)V"⟩
abbrev cX3_withMostOf : ByteArray := prog_5_method_7_code
def yX3_withMostOf : MethodName := ⟨RX3, "withMostOf", "(LHaloTrees$Field;I)I"⟩
abbrev cX3_comeFromNowhere : ByteArray := prog_5_method_8_code
def yX3_comeFromNowhere : MethodName := ⟨RX3, "comeFromNowhere", "()V"⟩
abbrev cX3_comeFromThose : ByteArray := prog_5_method_9_code
def yX3_comeFromThose : MethodName := ⟨RX3, "comeFromThose", "(LHaloTrees$Halos;)V"⟩
def RX4 : String := "HaloTrees$Lots"
def TX4 : u_T := fun k => match k with
  | _ => ("HaloTrees$Lots", "latest", "J", false)
def tyX4 : Nat → FieldType := fun k => match k with
  | _ => .long
theorem nmX4 : ∀ a, a < 1 → ∀ b, b < 1 → a ≠ b → (TX4 a).2.1 ≠ (TX4 b).2.1 := by decide +kernel
theorem tyX4_ok : ∀ k, k < 1 → parseFieldDescriptor (TX4 k).2.2.1 = some (tyX4 k) := by decide +kernel
abbrev cX4_init : ByteArray := prog_6_method_1_code
def yX4_init : MethodName := ⟨RX4, "<init>", "()V"⟩
abbrev cX4_begin : ByteArray := prog_6_method_2_code
def yX4_begin : MethodName := ⟨RX4, "begin", "(I)V"⟩
abbrev cX4_draw : ByteArray := prog_6_method_3_code
def yX4_draw : MethodName := ⟨RX4, "draw", "()I"⟩
abbrev cX4_scatter : ByteArray := prog_6_method_4_code
def yX4_scatter : MethodName := ⟨RX4, "scatter", "(LHaloTrees$Field;II)V"⟩
abbrev cX4_carryOn : ByteArray := prog_6_method_5_code
def yX4_carryOn : MethodName := ⟨RX4, "carryOn", "(LHaloTrees$Field;II)V"⟩
abbrev cX4_layAnywhere : ByteArray := prog_6_method_6_code
def yX4_layAnywhere : MethodName := ⟨RX4, "layAnywhere", "(LHaloTrees$Field;II)V"⟩
abbrev cX4_shifted : ByteArray := prog_6_method_7_code
def yX4_shifted : MethodName := ⟨RX4, "shifted", "(I)I"⟩
def RX5 : String := "HaloTrees$Past"
def TX5 : u_T := fun k => match k with
  | 0 => ("HaloTrees$Past", "ring", "[LHaloTrees$Field;", true)
  | 1 => ("HaloTrees$Past", "oldest", "I", false)
  | _ => ("HaloTrees$Past", "count", "I", false)
def tyX5 : Nat → FieldType := fun k => match k with
  | 0 => .array (.object "HaloTrees$Field")
  | 1 => .int
  | _ => .int
theorem nmX5 : ∀ a, a < 3 → ∀ b, b < 3 → a ≠ b → (TX5 a).2.1 ≠ (TX5 b).2.1 := by decide +kernel
theorem tyX5_ok : ∀ k, k < 3 → parseFieldDescriptor (TX5 k).2.2.1 = some (tyX5 k) := by decide +kernel
abbrev cX5_init : ByteArray := prog_7_method_1_code
def yX5_init : MethodName := ⟨RX5, "<init>", "()V"⟩
abbrev cX5_take : ByteArray := prog_7_method_2_code
def yX5_take : MethodName := ⟨RX5, "take", "(LHaloTrees$Field;)V"⟩
abbrev cX5_bringBack : ByteArray := prog_7_method_3_code
def yX5_bringBack : MethodName := ⟨RX5, "bringBack", "(LHaloTrees$Field;)V"⟩
abbrev cX5_forget : ByteArray := prog_7_method_4_code
def yX5_forget : MethodName := ⟨RX5, "forget", "()V"⟩
def RX6 : String := "HaloTrees$SplittingTree"
def TX6 : u_T := fun k => match k with
  | 0 => ("HaloTrees$SplittingTree", "top", "I", false)
  | 1 => ("HaloTrees$SplittingTree", "height", "I", false)
  | 2 => ("HaloTrees$SplittingTree", "left", "[I", true)
  | 3 => ("HaloTrees$SplittingTree", "right", "[I", true)
  | 4 => ("HaloTrees$SplittingTree", "depthOf", "[I", true)
  | 5 => ("HaloTrees$SplittingTree", "order", "[I", true)
  | 6 => ("HaloTrees$SplittingTree", "x", "[I", true)
  | _ => ("HaloTrees$SplittingTree", "y", "[I", true)
def tyX6 : Nat → FieldType := fun k => match k with
  | 0 => .int
  | 1 => .int
  | 2 => .array .int
  | 3 => .array .int
  | 4 => .array .int
  | 5 => .array .int
  | 6 => .array .int
  | _ => .array .int
theorem nmX6 : ∀ a, a < 8 → ∀ b, b < 8 → a ≠ b → (TX6 a).2.1 ≠ (TX6 b).2.1 := by decide +kernel
theorem tyX6_ok : ∀ k, k < 8 → parseFieldDescriptor (TX6 k).2.2.1 = some (tyX6 k) := by decide +kernel
abbrev cX6_init : ByteArray := prog_8_method_1_code
def yX6_init : MethodName := ⟨RX6, "<init>", "()V"⟩
abbrev cX6_build : ByteArray := prog_8_method_2_code
def yX6_build : MethodName := ⟨RX6, "build", "(LHaloTrees$Field;I)V"⟩
abbrev cX6_split : ByteArray := prog_8_method_3_code
def yX6_split : MethodName := ⟨RX6, "split", "(III)I"⟩
abbrev cX6_sort : ByteArray := prog_8_method_4_code
def yX6_sort : MethodName := ⟨RX6, "sort", "(III)V"⟩
abbrev cX6_rankOf : ByteArray := prog_8_method_5_code
def yX6_rankOf : MethodName := ⟨RX6, "rankOf", "(II)I"⟩
abbrev cX6_countLookedAt : ByteArray := prog_8_method_6_code
def yX6_countLookedAt : MethodName := ⟨RX6, "countLookedAt", "(III)I"⟩
abbrev cX6_lookedAtFrom : ByteArray := prog_8_method_7_code
def yX6_lookedAtFrom : MethodName := ⟨RX6, "lookedAtFrom", "(IIIII)I"⟩
def RX7 : String := "HaloTrees"
def TX7 : u_T := fun k => match k with
  | 0 => ("HaloTrees", "now", "LHaloTrees$Field;", true)
  | 1 => ("HaloTrees", "past", "LHaloTrees$Past;", true)
  | 2 => ("HaloTrees", "images", "[LHaloTrees$Field;", true)
  | 3 => ("HaloTrees", "kept", "[Z", true)
  | 4 => ("HaloTrees", "forest", "LHaloTrees$Forest;", true)
  | 5 => ("HaloTrees", "trial", "LHaloTrees$Clumping;", true)
  | 6 => ("HaloTrees", "tree", "LHaloTrees$SplittingTree;", true)
  | _ => ("HaloTrees", "lots", "LHaloTrees$Lots;", true)
def tyX7 : Nat → FieldType := fun k => match k with
  | 0 => .object "HaloTrees$Field"
  | 1 => .object "HaloTrees$Past"
  | 2 => .array (.object "HaloTrees$Field")
  | 3 => .array .boolean
  | 4 => .object "HaloTrees$Forest"
  | 5 => .object "HaloTrees$Clumping"
  | 6 => .object "HaloTrees$SplittingTree"
  | _ => .object "HaloTrees$Lots"
theorem nmX7 : ∀ a, a < 8 → ∀ b, b < 8 → a ≠ b → (TX7 a).2.1 ≠ (TX7 b).2.1 := by decide +kernel
theorem tyX7_ok : ∀ k, k < 8 → parseFieldDescriptor (TX7 k).2.2.1 = some (tyX7 k) := by decide +kernel
abbrev cX7_init : ByteArray := prog_1_method_1_code
def yX7_init : MethodName := ⟨RX7, "<init>", "()V"⟩
abbrev cX7_picture : ByteArray := prog_1_method_2_code
def yX7_picture : MethodName := ⟨RX7, "picture", "()I"⟩
abbrev cX7_drop : ByteArray := prog_1_method_3_code
def yX7_drop : MethodName := ⟨RX7, "drop", "()I"⟩
abbrev cX7_put : ByteArray := prog_1_method_4_code
def yX7_put : MethodName := ⟨RX7, "put", "(IIII)I"⟩
abbrev cX7_lose : ByteArray := prog_1_method_5_code
def yX7_lose : MethodName := ⟨RX7, "lose", "(II)I"⟩
abbrev cX7_weigh : ByteArray := prog_1_method_6_code
def yX7_weigh : MethodName := ⟨RX7, "weigh", "(II)I"⟩
abbrev cX7_bound : ByteArray := prog_1_method_7_code
def yX7_bound : MethodName := ⟨RX7, "bound", "(II)I"⟩
abbrev cX7_drift : ByteArray := prog_1_method_8_code
def yX7_drift : MethodName := ⟨RX7, "drift", "(I)I"⟩
abbrev cX7_undo : ByteArray := prog_1_method_9_code
def yX7_undo : MethodName := ⟨RX7, "undo", "()I"⟩
abbrev cX7_told : ByteArray := prog_1_method_10_code
def yX7_told : MethodName := ⟨RX7, "told", "(I)I"⟩
abbrev cX7_ofPicture : ByteArray := prog_1_method_11_code
def yX7_ofPicture : MethodName := ⟨RX7, "ofPicture", "(II)I"⟩
abbrev cX7_grain : ByteArray := prog_1_method_12_code
def yX7_grain : MethodName := ⟨RX7, "grain", "(III)I"⟩
abbrev cX7_halo : ByteArray := prog_1_method_13_code
def yX7_halo : MethodName := ⟨RX7, "halo", "(III)I"⟩
abbrev cX7_from : ByteArray := prog_1_method_14_code
def yX7_from : MethodName := ⟨RX7, "from", "(II)I"⟩
abbrev cX7_branch : ByteArray := prog_1_method_15_code
def yX7_branch : MethodName := ⟨RX7, "branch", "(III)I"⟩
abbrev cX7_common : ByteArray := prog_1_method_16_code
def yX7_common : MethodName := ⟨RX7, "common", "(III)I"⟩
abbrev cX7_within : ByteArray := prog_1_method_17_code
def yX7_within : MethodName := ⟨RX7, "within", "(IIIII)I"⟩
abbrev cX7_nearest : ByteArray := prog_1_method_18_code
def yX7_nearest : MethodName := ⟨RX7, "nearest", "(III)I"⟩
abbrev cX7_below : ByteArray := prog_1_method_19_code
def yX7_below : MethodName := ⟨RX7, "below", "(III)I"⟩
abbrev cX7_steps : ByteArray := prog_1_method_20_code
def yX7_steps : MethodName := ⟨RX7, "steps", "(III)I"⟩
abbrev cX7_clumps : ByteArray := prog_1_method_21_code
def yX7_clumps : MethodName := ⟨RX7, "clumps", "(II)I"⟩
abbrev cX7_join : ByteArray := prog_1_method_22_code
def yX7_join : MethodName := ⟨RX7, "join", "(III)I"⟩
abbrev cX7_keep : ByteArray := prog_1_method_23_code
def yX7_keep : MethodName := ⟨RX7, "keep", "(I)I"⟩
abbrev cX7_goBack : ByteArray := prog_1_method_24_code
def yX7_goBack : MethodName := ⟨RX7, "goBack", "(I)I"⟩
abbrev cX7_isPicture : ByteArray := prog_1_method_25_code
def yX7_isPicture : MethodName := ⟨RX7, "isPicture", "(I)Z"⟩
abbrev cX7_isGrainOfPicture : ByteArray := prog_1_method_26_code
def yX7_isGrainOfPicture : MethodName := ⟨RX7, "isGrainOfPicture", "(II)Z"⟩
abbrev cX7_isHalo : ByteArray := prog_1_method_27_code
def yX7_isHalo : MethodName := ⟨RX7, "isHalo", "(II)Z"⟩
abbrev cX7_isGrain : ByteArray := prog_1_method_28_code
def yX7_isGrain : MethodName := ⟨RX7, "isGrain", "(I)Z"⟩
abbrev cX7_isImage : ByteArray := prog_1_method_29_code
def yX7_isImage : MethodName := ⟨RX7, "isImage", "(I)Z"⟩
abbrev cX7_isOnField : ByteArray := prog_1_method_30_code
def yX7_isOnField : MethodName := ⟨RX7, "isOnField", "(II)Z"⟩
abbrev cX7_isBetween : ByteArray := prog_1_method_31_code
def yX7_isBetween : MethodName := ⟨RX7, "isBetween", "(III)Z"⟩
abbrev cX7_has : ByteArray := prog_1_method_32_code
def yX7_has : MethodName := ⟨RX7, "has", "(II)Z"⟩
abbrev cX7_remember : ByteArray := prog_1_method_33_code
def yX7_remember : MethodName := ⟨RX7, "remember", "()V"⟩
abbrev cX7_clumpedBy : ByteArray := prog_1_method_34_code
def yX7_clumpedBy : MethodName := ⟨RX7, "clumpedBy", "(II)LHaloTrees$Clumping;"⟩
abbrev cX7_treeOf : ByteArray := prog_1_method_35_code
def yX7_treeOf : MethodName := ⟨RX7, "treeOf", "(I)LHaloTrees$SplittingTree;"⟩
abbrev cX7_strayed : ByteArray := prog_1_method_36_code
def yX7_strayed : MethodName := ⟨RX7, "strayed", "(II)I"⟩
def RX8 : String := "HaloTreesModel"
def TX8 : u_T := fun k => match k with
  | 0 => ("HaloTreesModel", "w", "[I", true)
  | 1 => ("HaloTreesModel", "isKept", "[Z", true)
  | 2 => ("HaloTreesModel", "undos", "I", false)
  | 3 => ("HaloTreesModel", "lot", "J", false)
  | 4 => ("HaloTreesModel", "halos", "[I", true)
  | 5 => ("HaloTreesModel", "haloMany", "[I", true)
  | 6 => ("HaloTreesModel", "top", "I", false)
  | 7 => ("HaloTreesModel", "left", "[I", true)
  | 8 => ("HaloTreesModel", "right", "[I", true)
  | 9 => ("HaloTreesModel", "depth", "[I", true)
  | 10 => ("HaloTreesModel", "line", "[I", true)
  | 11 => ("HaloTreesModel", "waits", "I", false)
  | 12 => ("HaloTreesModel", "waitFrom", "[I", true)
  | 13 => ("HaloTreesModel", "waitTo", "[I", true)
  | 14 => ("HaloTreesModel", "waitDepth", "[I", true)
  | _ => ("HaloTreesModel", "waitFor", "[I", true)
def tyX8 : Nat → FieldType := fun k => match k with
  | 0 => .array .int
  | 1 => .array .boolean
  | 2 => .int
  | 3 => .long
  | 4 => .array .int
  | 5 => .array .int
  | 6 => .int
  | 7 => .array .int
  | 8 => .array .int
  | 9 => .array .int
  | 10 => .array .int
  | 11 => .int
  | 12 => .array .int
  | 13 => .array .int
  | 14 => .array .int
  | _ => .array .int
theorem nmX8 : ∀ a, a < 16 → ∀ b, b < 16 → a ≠ b → (TX8 a).2.1 ≠ (TX8 b).2.1 := by decide +kernel
theorem tyX8_ok : ∀ k, k < 16 → parseFieldDescriptor (TX8 k).2.2.1 = some (tyX8 k) := by decide +kernel
abbrev cX8_init : ByteArray := prog_10_method_1_code
def yX8_init : MethodName := ⟨RX8, "<init>", "()V"⟩
abbrev cX8_in : ByteArray := prog_10_method_3_code
def yX8_in : MethodName := ⟨RX8, "in", "(JJJ)Z"⟩
abbrev cX8_has : ByteArray := prog_10_method_4_code
def yX8_has : MethodName := ⟨RX8, "has", "(II)Z"⟩
abbrev cX8_ones : ByteArray := prog_10_method_5_code
def yX8_ones : MethodName := ⟨RX8, "ones", "(I)I"⟩
abbrev cX8_isPicture : ByteArray := prog_10_method_6_code
def yX8_isPicture : MethodName := ⟨RX8, "isPicture", "(I)Z"⟩
abbrev cX8_isGrain : ByteArray := prog_10_method_7_code
def yX8_isGrain : MethodName := ⟨RX8, "isGrain", "(I)Z"⟩
abbrev cX8_isPlace : ByteArray := prog_10_method_8_code
def yX8_isPlace : MethodName := ⟨RX8, "isPlace", "(I)Z"⟩
abbrev cX8_copy : ByteArray := prog_10_method_9_code
def yX8_copy : MethodName := ⟨RX8, "copy", "(II)V"⟩
abbrev cX8_minds : ByteArray := prog_10_method_10_code
def yX8_minds : MethodName := ⟨RX8, "minds", "()V"⟩
abbrev cX8_of : ByteArray := prog_10_method_11_code
def yX8_of : MethodName := ⟨RX8, "of", "(I)I"⟩
abbrev cX8_setOf : ByteArray := prog_10_method_12_code
def yX8_setOf : MethodName := ⟨RX8, "setOf", "(I)I"⟩
abbrev cX8_x : ByteArray := prog_10_method_13_code
def yX8_x : MethodName := ⟨RX8, "x", "(II)I"⟩
abbrev cX8_y : ByteArray := prog_10_method_14_code
def yX8_y : MethodName := ⟨RX8, "y", "(II)I"⟩
abbrev cX8_lays : ByteArray := prog_10_method_15_code
def yX8_lays : MethodName := ⟨RX8, "lays", "(IIII)V"⟩
abbrev cX8_begins : ByteArray := prog_10_method_16_code
def yX8_begins : MethodName := ⟨RX8, "begins", "()I"⟩
abbrev cX8_picture : ByteArray := prog_10_method_17_code
def yX8_picture : MethodName := ⟨RX8, "picture", "()I"⟩
abbrev cX8_drop : ByteArray := prog_10_method_18_code
def yX8_drop : MethodName := ⟨RX8, "drop", "()I"⟩
abbrev cX8_put : ByteArray := prog_10_method_19_code
def yX8_put : MethodName := ⟨RX8, "put", "(IIII)I"⟩
abbrev cX8_lose : ByteArray := prog_10_method_20_code
def yX8_lose : MethodName := ⟨RX8, "lose", "(II)I"⟩
abbrev cX8_weigh : ByteArray := prog_10_method_21_code
def yX8_weigh : MethodName := ⟨RX8, "weigh", "(II)I"⟩
abbrev cX8_bound : ByteArray := prog_10_method_22_code
def yX8_bound : MethodName := ⟨RX8, "bound", "(II)I"⟩
abbrev cX8_draw : ByteArray := prog_10_method_23_code
def yX8_draw : MethodName := ⟨RX8, "draw", "(I)I"⟩
abbrev cX8_bounded : ByteArray := prog_10_method_24_code
def yX8_bounded : MethodName := ⟨RX8, "bounded", "(I)I"⟩
abbrev cX8_drift : ByteArray := prog_10_method_25_code
def yX8_drift : MethodName := ⟨RX8, "drift", "(I)I"⟩
abbrev cX8_undo : ByteArray := prog_10_method_26_code
def yX8_undo : MethodName := ⟨RX8, "undo", "()I"⟩
abbrev cX8_way : ByteArray := prog_10_method_27_code
def yX8_way : MethodName := ⟨RX8, "way", "(III)I"⟩
abbrev cX8_isLinked : ByteArray := prog_10_method_28_code
def yX8_isLinked : MethodName := ⟨RX8, "isLinked", "(IIII)Z"⟩
abbrev cX8_weight : ByteArray := prog_10_method_29_code
def yX8_weight : MethodName := ⟨RX8, "weight", "(I)I"⟩
abbrev cX8_clumpOf : ByteArray := prog_10_method_30_code
def yX8_clumpOf : MethodName := ⟨RX8, "clumpOf", "(IIII)I"⟩
abbrev cX8_clumpsOf : ByteArray := prog_10_method_31_code
def yX8_clumpsOf : MethodName := ⟨RX8, "clumpsOf", "(III)I"⟩
abbrev cX8_lowest : ByteArray := prog_10_method_32_code
def yX8_lowest : MethodName := ⟨RX8, "lowest", "(I)I"⟩
abbrev cX8_isAhead : ByteArray := prog_10_method_33_code
def yX8_isAhead : MethodName := ⟨RX8, "isAhead", "(II)Z"⟩
abbrev cX8_layHalos : ByteArray := prog_10_method_34_code
def yX8_layHalos : MethodName := ⟨RX8, "layHalos", "(I)V"⟩
abbrev cX8_layAll : ByteArray := prog_10_method_35_code
def yX8_layAll : MethodName := ⟨RX8, "layAll", "()V"⟩
abbrev cX8_isHalo : ByteArray := prog_10_method_36_code
def yX8_isHalo : MethodName := ⟨RX8, "isHalo", "(II)Z"⟩
abbrev cX8_haloSet : ByteArray := prog_10_method_37_code
def yX8_haloSet : MethodName := ⟨RX8, "haloSet", "(II)I"⟩
abbrev cX8_goesOn : ByteArray := prog_10_method_38_code
def yX8_goesOn : MethodName := ⟨RX8, "goesOn", "(II)I"⟩
abbrev cX8_comesFrom : ByteArray := prog_10_method_39_code
def yX8_comesFrom : MethodName := ⟨RX8, "comesFrom", "(II)I"⟩
abbrev cX8_mainOf : ByteArray := prog_10_method_40_code
def yX8_mainOf : MethodName := ⟨RX8, "mainOf", "(II)I"⟩
abbrev cX8_branchLong : ByteArray := prog_10_method_41_code
def yX8_branchLong : MethodName := ⟨RX8, "branchLong", "(II)I"⟩
abbrev cX8_strayed : ByteArray := prog_10_method_42_code
def yX8_strayed : MethodName := ⟨RX8, "strayed", "(II)I"⟩
abbrev cX8_countHalos : ByteArray := prog_10_method_43_code
def yX8_countHalos : MethodName := ⟨RX8, "countHalos", "(I)I"⟩
abbrev cX8_told : ByteArray := prog_10_method_44_code
def yX8_told : MethodName := ⟨RX8, "told", "(I)I"⟩
abbrev cX8_linksOf : ByteArray := prog_10_method_45_code
def yX8_linksOf : MethodName := ⟨RX8, "linksOf", "(II)I"⟩
abbrev cX8_links : ByteArray := prog_10_method_46_code
def yX8_links : MethodName := ⟨RX8, "links", "(I)I"⟩
abbrev cX8_halosOf : ByteArray := prog_10_method_47_code
def yX8_halosOf : MethodName := ⟨RX8, "halosOf", "(I)I"⟩
abbrev cX8_ofPicture : ByteArray := prog_10_method_48_code
def yX8_ofPicture : MethodName := ⟨RX8, "ofPicture", "(II)I"⟩
abbrev cX8_haloIn : ByteArray := prog_10_method_49_code
def yX8_haloIn : MethodName := ⟨RX8, "haloIn", "(II)I"⟩
abbrev cX8_holds : ByteArray := prog_10_method_50_code
def yX8_holds : MethodName := ⟨RX8, "holds", "(II)I"⟩
abbrev cX8_grain : ByteArray := prog_10_method_51_code
def yX8_grain : MethodName := ⟨RX8, "grain", "(III)I"⟩
abbrev cX8_grew : ByteArray := prog_10_method_52_code
def yX8_grew : MethodName := ⟨RX8, "grew", "(II)I"⟩
abbrev cX8_halo : ByteArray := prog_10_method_53_code
def yX8_halo : MethodName := ⟨RX8, "halo", "(III)I"⟩
abbrev cX8_from : ByteArray := prog_10_method_54_code
def yX8_from : MethodName := ⟨RX8, "from", "(II)I"⟩
abbrev cX8_branch : ByteArray := prog_10_method_55_code
def yX8_branch : MethodName := ⟨RX8, "branch", "(III)I"⟩
abbrev cX8_common : ByteArray := prog_10_method_56_code
def yX8_common : MethodName := ⟨RX8, "common", "(III)I"⟩
abbrev cX8_key : ByteArray := prog_10_method_57_code
def yX8_key : MethodName := ⟨RX8, "key", "(III)I"⟩
abbrev cX8_sorts : ByteArray := prog_10_method_58_code
def yX8_sorts : MethodName := ⟨RX8, "sorts", "(IIII)V"⟩
abbrev cX8_adds : ByteArray := prog_10_method_59_code
def yX8_adds : MethodName := ⟨RX8, "adds", "(IIII)V"⟩
abbrev cX8_layTree : ByteArray := prog_10_method_60_code
def yX8_layTree : MethodName := ⟨RX8, "layTree", "(I)V"⟩
abbrev cX8_longest : ByteArray := prog_10_method_61_code
def yX8_longest : MethodName := ⟨RX8, "longest", "(I)I"⟩
abbrev cX8_topOf : ByteArray := prog_10_method_62_code
def yX8_topOf : MethodName := ⟨RX8, "topOf", "(I)I"⟩
abbrev cX8_depthOf : ByteArray := prog_10_method_63_code
def yX8_depthOf : MethodName := ⟨RX8, "depthOf", "(II)I"⟩
abbrev cX8_farFrom : ByteArray := prog_10_method_64_code
def yX8_farFrom : MethodName := ⟨RX8, "farFrom", "(IIII)I"⟩
abbrev cX8_looked : ByteArray := prog_10_method_65_code
def yX8_looked : MethodName := ⟨RX8, "looked", "(IIII)I"⟩
abbrev cX8_within : ByteArray := prog_10_method_66_code
def yX8_within : MethodName := ⟨RX8, "within", "(IIIII)I"⟩
abbrev cX8_nearest : ByteArray := prog_10_method_67_code
def yX8_nearest : MethodName := ⟨RX8, "nearest", "(III)I"⟩
abbrev cX8_below : ByteArray := prog_10_method_68_code
def yX8_below : MethodName := ⟨RX8, "below", "(III)I"⟩
abbrev cX8_steps : ByteArray := prog_10_method_69_code
def yX8_steps : MethodName := ⟨RX8, "steps", "(III)I"⟩
abbrev cX8_clumps : ByteArray := prog_10_method_70_code
def yX8_clumps : MethodName := ⟨RX8, "clumps", "(II)I"⟩
abbrev cX8_join : ByteArray := prog_10_method_71_code
def yX8_join : MethodName := ⟨RX8, "join", "(III)I"⟩
abbrev cX8_keep : ByteArray := prog_10_method_72_code
def yX8_keep : MethodName := ⟨RX8, "keep", "(I)I"⟩
abbrev cX8_goBack : ByteArray := prog_10_method_73_code
def yX8_goBack : MethodName := ⟨RX8, "goBack", "(I)I"⟩
def RJ6 : String := "java/lang/Integer"
def TJ6 : u_T := fun k => match k with
  | _ => ("", "", "", false)
def tyJ6 : Nat → FieldType := fun k => match k with
  | _ => .int
theorem nmJ6 : ∀ a, a < 0 → ∀ b, b < 0 → a ≠ b → (TJ6 a).2.1 ≠ (TJ6 b).2.1 := by decide +kernel
theorem tyJ6_ok : ∀ k, k < 0 → parseFieldDescriptor (TJ6 k).2.2.1 = some (tyJ6 k) := by decide +kernel
abbrev cJ6_bitCount_0f7a4 : ByteArray := prog_11_method_49_code
def yJ6_bitCount_0f7a4 : MethodName := ⟨RJ6, "bitCount", "(I)I"⟩
def RJ9 : String := "java/lang/Math"
def TJ9 : u_T := fun k => match k with
  | _ => ("", "", "", false)
def tyJ9 : Nat → FieldType := fun k => match k with
  | _ => .int
theorem nmJ9 : ∀ a, a < 0 → ∀ b, b < 0 → a ≠ b → (TJ9 a).2.1 ≠ (TJ9 b).2.1 := by decide +kernel
theorem tyJ9_ok : ∀ k, k < 0 → parseFieldDescriptor (TJ9 k).2.2.1 = some (tyJ9 k) := by decide +kernel
abbrev cJ9_max_7cf53 : ByteArray := prog_12_method_65_code
def yJ9_max_7cf53 : MethodName := ⟨RJ9, "max", "(II)I"⟩
abbrev cJ9_min_7cf53 : ByteArray := prog_12_method_69_code
def yJ9_min_7cf53 : MethodName := ⟨RJ9, "min", "(II)I"⟩
def RJ10 : String := "java/lang/System"
def TJ10 : u_T := fun k => match k with
  | _ => ("", "", "", false)
def tyJ10 : Nat → FieldType := fun k => match k with
  | _ => .int
theorem nmJ10 : ∀ a, a < 0 → ∀ b, b < 0 → a ≠ b → (TJ10 a).2.1 ≠ (TJ10 b).2.1 := by decide +kernel
theorem tyJ10_ok : ∀ k, k < 0 → parseFieldDescriptor (TJ10 k).2.2.1 = some (tyJ10 k) := by decide +kernel
def RJ7 : String := "java/util/Arrays"
def TJ7 : u_T := fun k => match k with
  | _ => ("", "", "", false)
def tyJ7 : Nat → FieldType := fun k => match k with
  | _ => .int
theorem nmJ7 : ∀ a, a < 0 → ∀ b, b < 0 → a ≠ b → (TJ7 a).2.1 ≠ (TJ7 b).2.1 := by decide +kernel
theorem tyJ7_ok : ∀ k, k < 0 → parseFieldDescriptor (TJ7 k).2.2.1 = some (tyJ7 k) := by decide +kernel
abbrev cJ7_fill_53178 : ByteArray := prog_14_method_103_code
def yJ7_fill_53178 : MethodName := ⟨RJ7, "fill", "([II)V"⟩
def RL : String := "HaloTreesLaw"
abbrev cL_law : ByteArray := code
def yL_law : MethodName := ⟨RL, "law", "([I)Z"⟩
end
section
/-! THE SMALL MACHINE: a big-step reader of the same bytecode over a plain heap: what each cell holds is a function of its number.
    Cells are numbered 1, 2 .. as they are made; 0 is the law's script. -/
/-- cells made, slots made, the kind of each (0..8 an object of that class, 9 int[], 10 boolean[], 11.. rows of Clumping, Field, Halos), its length, what it refers to -/
abbrev jm_S : Type := Nat × Nat × (Nat → Nat) × (Nat → Nat) × (Nat → Nat → Option Nat)
/-- the shape, the ints (fields and elements), the longs -/
abbrev jm_T : Type := jm_S × (Nat → Nat → Int32) × (Nat → Nat → Int64)
abbrev jm_V : Type := List (Option Value)
abbrev jm_R : Type := Option Value × jm_T
/-- an instruction as it is read here: itself, its length, three numbers (jump, place, class, field, callee ..), an int, a long, a switch, the locals that are dead here -/
abbrev jm_I : Type := Instr × Nat × Nat × Nat × Nat × Int32 × Int64 × List (Int32 × Nat) × List Nat
/-- a method: its locals, what it gives back (0 nothing, 1 int, 2 boolean, 3 a reference), its code -/
abbrev jm_M : Type := Nat × Nat × List (Nat × jm_I)

def jm_fts : List (List Nat) := [[0, 0, 1, 1], [0, 0, 0, 1, 1], [3, 0, 1, 1], [0, 1, 1, 1, 1, 1, 1], [2], [1, 0, 0], [0, 0, 1, 1, 1, 1, 1, 1], [1, 1, 1, 1, 1, 1, 1, 1], [1, 1, 0, 2, 1, 1, 0, 1, 1, 1, 1, 0, 1, 1, 1, 1]]
def jm_ft (c k : Nat) : Nat := (jm_fts.getD c []).getD k 9
def jm_nf (c : Nat) : Nat := (jm_fts.getD c []).length
def jm_cn (c : Nat) : String := match c with
  | 0 => RX0 | 1 => RX1 | 2 => RX2 | 3 => RX3 | 4 => RX4 | 5 => RX5 | 6 => RX6 | 7 => RX7 | _ => RX8
def jm_cT (c : Nat) : u_T := match c with
  | 0 => TX0 | 1 => TX1 | 2 => TX2 | 3 => TX3 | 4 => TX4 | 5 => TX5 | 6 => TX6 | 7 => TX7 | _ => TX8
def jm_ty (c : Nat) : Nat → FieldType := match c with
  | 0 => tyX0 | 1 => tyX1 | 2 => tyX2 | 3 => tyX3 | 4 => tyX4 | 5 => tyX5 | 6 => tyX6 | 7 => tyX7 | _ => tyX8
def jm_cl : List vw_C := [(RX0, TX0, 4), (RX1, TX1, 5), (RX2, TX2, 4), (RX3, TX3, 7), (RX4, TX4, 1), (RX5, TX5, 3), (RX6, TX6, 8), (RX7, TX7, 8), (RX8, TX8, 16)]
/-- the class of the elements of a row of references -/
def jm_ec (k : Nat) : Nat := match k with
  | 11 => 0 | 12 => 1 | _ => 3

def jm_at : List (Nat × jm_I) → Nat → Option jm_I
  | [], _ => none
  | (k, i) :: r, pc => bif Nat.beq k pc then some i else jm_at r pc
def jm_lk (ls : jm_V) (i : Nat) : Option Value := match ls[i]? with
  | some (some v) => some v
  | _ => none
def jm_set : jm_V → Nat → Option Value → jm_V
  | [], _, _ => []
  | _ :: r, 0, v => v :: r
  | x :: r, i + 1, v => x :: jm_set r i v
/-- dead locals go -/
def jm_kl : List Nat → jm_V → jm_V
  | [], ls => ls
  | i :: r, ls => jm_kl r (jm_set ls i none)
/-- storing a value of one slot: a long that stood just ahead is broken -/
def jm_st1 (ls : jm_V) (i : Nat) (v : Value) : jm_V := match i with
  | 0 => jm_set ls 0 (some v)
  | j + 1 => match jm_lk ls j with
    | some (.long _) => jm_set (jm_set ls j none) (j + 1) (some v)
    | some (.double _) => jm_set (jm_set ls j none) (j + 1) (some v)
    | _ => jm_set ls (j + 1) (some v)
def jm_up (M : Nat → Nat → Int32) (a k : Nat) (v : Int32) : Nat → Nat → Int32 := va_up M a (upd (M a) k v)
def jm_upL (M : Nat → Nat → Int64) (a k : Nat) (v : Int64) : Nat → Nat → Int64 := va_up M a (vp_updL (M a) k v)
def jm_upR (M : Nat → Nat → Option Nat) (a k : Nat) (v : Option Nat) : Nat → Nat → Option Nat := va_up M a (va_up (M a) k v)
/-- cell a is there and is of this kind -/
def jm_is (S : jm_S) (a k : Nat) : Bool := Nat.blt 0 a && Nat.ble a S.1 && Nat.beq (S.2.2.1 a) k
/-- cell a is a row of references -/
def jm_ir (S : jm_S) (a : Nat) : Bool := Nat.blt 0 a && Nat.ble a S.1 && Nat.ble 11 (S.2.2.1 a) && Nat.ble (S.2.2.1 a) 13
def jm_inb (i : Int32) (n : Nat) : Bool := !(decide (i < 0)) && Nat.blt i.toNatClampNeg n
def jm_if (b : Bool) (x : Option jm_R) : Option jm_R := bif b then x else none
def jm_z1 (x : Int32) : Bool := decide (x = 0) || decide (x = 1)
def jm_c0 (c : Jvm.ClassFile.Cond) (x : Int32) : Bool := match c with
  | .eq => decide (x = 0) | .ne => !decide (x = 0) | .lt => decide (x < 0) | .ge => decide (0 ≤ x) | .gt => decide (0 < x) | .le => decide (x ≤ 0)
def jm_c2 (c : Jvm.ClassFile.Cond) (x y : Int32) : Bool := match c with
  | .eq => decide (x = y) | .ne => !decide (x = y) | .lt => decide (x < y) | .ge => decide (y ≤ x) | .gt => decide (y < x) | .le => decide (x ≤ y)
def jm_sw (k : Nat → Option jm_R) (x : Int32) (d : Nat) : List (Int32 × Nat) → Option jm_R
  | [] => k d
  | (c, q) :: r => bif decide (x = c) then k q else jm_sw k x d r
def jm_sum (st : List Value) : Nat := (st.map fun v => v.category).sum
/-- a new cell of a kind, of so many slots, of this length -/
def jm_nw (t : jm_T) (kind len slots : Nat) : jm_T := ((t.1.1 + 1, t.1.2.1 + slots, va_up t.1.2.2.1 (t.1.1 + 1) kind, va_up t.1.2.2.2.1 (t.1.1 + 1) len, va_up t.1.2.2.2.2 (t.1.1 + 1) (fun _ => none)), va_up t.2.1 (t.1.1 + 1) (fun _ => 0), va_up t.2.2 (t.1.1 + 1) (fun _ => 0))
def jm_en (n : Nat) (as : List Value) : jm_V := (as.flatMap fun v => match v.category with | 2 => [some v, none] | _ => [some v]) ++ List.replicate (n - (lg_sl as).length) none

/-- one instruction: k goes on in this method, C calls another -/
def jm_step (op : Instr) (u v w : Nat) (c : Int32) (cl : Int64) (ts : List (Int32 × Nat)) (d ret pc : Nat) (ls : jm_V) (st : List Value) (t : jm_T) (k : Nat → jm_V → List Value → jm_T → Option jm_R) (C : Nat → List Value → jm_T → Option jm_R) : Option jm_R := match op with
  | .iconst _ => k (pc + 1) ls (.int c :: st) t
  | .bipush _ => k (pc + 2) ls (.int c :: st) t
  | .sipush _ => k (pc + 3) ls (.int c :: st) t
  | .ldc _ => k (pc + 2) ls (.int c :: st) t
  | .ldc_w _ => k (pc + 3) ls (.int c :: st) t
  | .ldc2_w _ => k (pc + 3) ls (.long cl :: st) t
  | .lconst _ => k (pc + 1) ls (.long cl :: st) t
  | .iload _ => match jm_lk ls u with
    | some (.int x) => k (pc + 2) ls (.int x :: st) t
    | _ => none
  | .iload_n _ => match jm_lk ls u with
    | some (.int x) => k (pc + 1) ls (.int x :: st) t
    | _ => none
  | .lload _ => match jm_lk ls u with
    | some (.long x) => k (pc + 2) ls (.long x :: st) t
    | _ => none
  | .lload_n _ => match jm_lk ls u with
    | some (.long x) => k (pc + 1) ls (.long x :: st) t
    | _ => none
  | .aload _ => match jm_lk ls u with
    | some (.ref x) => k (pc + 2) ls (.ref x :: st) t
    | _ => none
  | .aload_n _ => match jm_lk ls u with
    | some (.ref x) => k (pc + 1) ls (.ref x :: st) t
    | _ => none
  | .istore _ => match st with
    | .int x :: st => k (pc + 2) (jm_st1 ls u (.int x)) st t
    | _ => none
  | .istore_n _ => match st with
    | .int x :: st => k (pc + 1) (jm_st1 ls u (.int x)) st t
    | _ => none
  | .astore _ => match st with
    | .ref x :: st => k (pc + 2) (jm_st1 ls u (.ref x)) st t
    | _ => none
  | .astore_n _ => match st with
    | .ref x :: st => k (pc + 1) (jm_st1 ls u (.ref x)) st t
    | _ => none
  | .iinc _ _ => match jm_lk ls u with
    | some (.int x) => k (pc + 3) (jm_st1 ls u (.int (x + c))) st t
    | _ => none
  | .iadd => match st with
    | .int y :: .int x :: st => k (pc + 1) ls (.int (x + y) :: st) t
    | _ => none
  | .isub => match st with
    | .int y :: .int x :: st => k (pc + 1) ls (.int (x - y) :: st) t
    | _ => none
  | .imul => match st with
    | .int y :: .int x :: st => k (pc + 1) ls (.int (x * y) :: st) t
    | _ => none
  | .iand => match st with
    | .int y :: .int x :: st => k (pc + 1) ls (.int (x &&& y) :: st) t
    | _ => none
  | .ior => match st with
    | .int y :: .int x :: st => k (pc + 1) ls (.int (x ||| y) :: st) t
    | _ => none
  | .ixor => match st with
    | .int y :: .int x :: st => k (pc + 1) ls (.int (x ^^^ y) :: st) t
    | _ => none
  | .ishl => match st with
    | .int y :: .int x :: st => k (pc + 1) ls (.int (x <<< (y &&& 31)) :: st) t
    | _ => none
  | .ishr => match st with
    | .int y :: .int x :: st => k (pc + 1) ls (.int (x >>> (y &&& 31)) :: st) t
    | _ => none
  | .iushr => match st with
    | .int y :: .int x :: st => k (pc + 1) ls (.int (x.toUInt32 >>> (y.toUInt32 &&& Int32.toUInt32 31)).toInt32 :: st) t
    | _ => none
  | .idiv => match st with
    | .int y :: .int x :: st => jm_if (!decide (y = 0)) (k (pc + 1) ls (.int (x / y) :: st) t)
    | _ => none
  | .irem => match st with
    | .int y :: .int x :: st => jm_if (!decide (y = 0)) (k (pc + 1) ls (.int (x - x / y * y) :: st) t)
    | _ => none
  | .lmul => match st with
    | .long y :: .long x :: st => k (pc + 1) ls (.long (x * y) :: st) t
    | _ => none
  | .lrem => match st with
    | .long y :: .long x :: st => jm_if (!decide (y = 0)) (k (pc + 1) ls (.long (x - x / y * y) :: st) t)
    | _ => none
  | .lcmp => match st with
    | .long y :: .long x :: st => k (pc + 1) ls (.int (lg_cmp x y) :: st) t
    | _ => none
  | .l2i => match st with
    | .long x :: st => k (pc + 1) ls (.int x.toInt32 :: st) t
    | _ => none
  | .i2l => match st with
    | .int x :: st => k (pc + 1) ls (.long x.toInt64 :: st) t
    | _ => none
  | .dup => match st with
    | x :: st => jm_if (Nat.beq x.category 1) (k (pc + 1) ls (x :: x :: st) t)
    | _ => none
  | .dup2 => match st with
    | x :: y :: st => jm_if (Nat.beq x.category 1 && Nat.beq y.category 1) (k (pc + 1) ls (x :: y :: x :: y :: st) t)
    | _ => none
  | .goto _ => k u ls st t
  | .ifCond q _ => match st with
    | .int x :: st => bif jm_c0 q x then k u ls st t else k (pc + 3) ls st t
    | _ => none
  | .if_icmp q _ => match st with
    | .int y :: .int x :: st => bif jm_c2 q x y then k u ls st t else k (pc + 3) ls st t
    | _ => none
  | .tableswitch _ _ _ _ => match st with
    | .int x :: st => jm_sw (fun q => k q ls st t) x u ts
    | _ => none
  | .lookupswitch _ _ => match st with
    | .int x :: st => jm_sw (fun q => k q ls st t) x u ts
    | _ => none
  | .getfield _ => match st with
    | .ref a :: st => jm_if (jm_is t.1 a u) (match jm_ft u v with
      | 1 => match t.1.2.2.2.2 a v with
        | some b => k (pc + 3) ls (.ref b :: st) t
        | none => none
      | 2 => k (pc + 3) ls (.long (t.2.2 a v) :: st) t
      | _ => k (pc + 3) ls (.int (t.2.1 a v) :: st) t)
    | _ => none
  | .putfield _ => match jm_ft u v with
    | 0 => match st with
      | .int x :: .ref a :: st => jm_if (jm_is t.1 a u) (k (pc + 3) ls st (t.1, jm_up t.2.1 a v x, t.2.2))
      | _ => none
    | 3 => match st with
      | .int x :: .ref a :: st => jm_if (jm_is t.1 a u && jm_z1 x) (k (pc + 3) ls st (t.1, jm_up t.2.1 a v x, t.2.2))
      | _ => none
    | 2 => match st with
      | .long x :: .ref a :: st => jm_if (jm_is t.1 a u) (k (pc + 3) ls st (t.1, t.2.1, jm_upL t.2.2 a v x))
      | _ => none
    | 1 => match st with
      | .ref x :: .ref a :: st => jm_if (jm_is t.1 a u) (k (pc + 3) ls st ((t.1.1, t.1.2.1, t.1.2.2.1, t.1.2.2.2.1, jm_upR t.1.2.2.2.2 a v (some x)), t.2.1, t.2.2))
      | _ => none
    | _ => none
  | .arraylength => match st with
    | .ref a :: st => jm_if ((Nat.beq w 1 && Nat.beq a 0) || (Nat.beq w 0 && jm_is t.1 a 9)) (k (pc + 1) ls (.int (Int32.ofNat (t.1.2.2.2.1 a)) :: st) t)
    | _ => none
  | .iaload => match st with
    | .int i :: .ref a :: st => jm_if (((Nat.beq w 1 && Nat.beq a 0) || (Nat.beq w 0 && jm_is t.1 a 9)) && jm_inb i (t.1.2.2.2.1 a)) (k (pc + 1) ls (.int (t.2.1 a i.toNatClampNeg) :: st) t)
    | _ => none
  | .baload => match st with
    | .int i :: .ref a :: st => jm_if (jm_is t.1 a 10 && jm_inb i (t.1.2.2.2.1 a)) (k (pc + 1) ls (.int (t.2.1 a i.toNatClampNeg) :: st) t)
    | _ => none
  | .iastore => match st with
    | .int x :: .int i :: .ref a :: st => jm_if (jm_is t.1 a 9 && jm_inb i (t.1.2.2.2.1 a)) (k (pc + 1) ls st (t.1, jm_up t.2.1 a i.toNatClampNeg x, t.2.2))
    | _ => none
  | .bastore => match st with
    | .int x :: .int i :: .ref a :: st => jm_if (jm_is t.1 a 10 && jm_inb i (t.1.2.2.2.1 a) && jm_z1 x) (k (pc + 1) ls st (t.1, jm_up t.2.1 a i.toNatClampNeg x, t.2.2))
    | _ => none
  | .aaload => match st with
    | .int i :: .ref a :: st => jm_if (jm_ir t.1 a && jm_inb i (t.1.2.2.2.1 a)) (match t.1.2.2.2.2 a i.toNatClampNeg with
      | some b => k (pc + 1) ls (.ref b :: st) t
      | none => none)
    | _ => none
  | .aastore => match st with
    | .ref b :: .int i :: .ref a :: st => jm_if (jm_ir t.1 a && jm_inb i (t.1.2.2.2.1 a) && jm_is t.1 b (jm_ec (t.1.2.2.1 a))) (k (pc + 1) ls st ((t.1.1, t.1.2.1, t.1.2.2.1, t.1.2.2.2.1, jm_upR t.1.2.2.2.2 a i.toNatClampNeg (some b)), t.2.1, t.2.2))
    | _ => none
  | .new _ => k (pc + 3) ls (.ref (t.1.1 + 1) :: st) (jm_nw t u 0 (jm_nf u))
  | .newarray _ => match st with
    | .int x :: st => jm_if (jm_inb x 10000) (k (pc + 2) ls (.ref (t.1.1 + 1) :: st) (jm_nw t u x.toNatClampNeg x.toNatClampNeg))
    | _ => none
  | .anewarray _ => match st with
    | .int x :: st => jm_if (jm_inb x 10000) (k (pc + 3) ls (.ref (t.1.1 + 1) :: st) (jm_nw t u x.toNatClampNeg x.toNatClampNeg))
    | _ => none
  | .invokevirtual _ => match (st.take v).reverse with
    | .ref a :: as => jm_if (Nat.ble (jm_sum (st.drop v)) 8 && Nat.beq as.length (v - 1) && jm_is t.1 a w) (match C u (.ref a :: as) t with
      | some r => k (pc + 3) ls (r.1.toList ++ st.drop v) r.2
      | none => none)
    | _ => none
  | .invokestatic _ => match w with
    | 7 => match st with
      | .int n :: .int dp :: .ref a :: .int sp :: .ref b :: st => jm_if (Nat.blt 0 d && Nat.ble (jm_sum st) 8 && jm_is t.1 a 9 && jm_is t.1 b 9 && !decide (n < 0) && !decide (dp < 0) && !decide (sp < 0) && Nat.ble (sp.toNatClampNeg + n.toNatClampNeg) (t.1.2.2.2.1 b) && Nat.ble (dp.toNatClampNeg + n.toNatClampNeg) (t.1.2.2.2.1 a))
        (k (pc + 3) ls st (t.1, va_up t.2.1 a (va_cpy (t.2.1 b) (t.2.1 a) sp.toNatClampNeg dp.toNatClampNeg n.toNatClampNeg), t.2.2))
      | _ => none
    | 8 => match st with
      | .int y :: .int x :: st => jm_if (Nat.blt 0 d && Nat.ble (jm_sum st) 8) (k (pc + 3) ls (.int (if x < y then y else x) :: st) t)
      | _ => none
    | 9 => match st with
      | .int y :: .int x :: st => jm_if (Nat.blt 0 d && Nat.ble (jm_sum st) 8) (k (pc + 3) ls (.int (if y < x then y else x) :: st) t)
      | _ => none
    | _ => jm_if (Nat.ble (jm_sum (st.drop v)) 8 && Nat.beq (st.take v).reverse.length v) (match C u (st.take v).reverse t with
      | some r => k (pc + 3) ls (r.1.toList ++ st.drop v) r.2
      | none => none)
  | .invokespecial _ => match w with
    | 7 => match st with
      | .ref _ :: st => jm_if (Nat.blt 0 d && Nat.ble (jm_sum st) 8) (k (pc + 3) ls st t)
      | _ => none
    | _ => match (st.take v).reverse with
      | .ref a :: as => jm_if (Nat.ble (jm_sum (st.drop v)) 8 && Nat.beq as.length (v - 1)) (match C u (.ref a :: as) t with
        | some r => k (pc + 3) ls (r.1.toList ++ st.drop v) r.2
        | none => none)
      | _ => none
  | .ireturn => match st with
    | [.int x] => match ret with
      | 1 => some (some (.int x), t)
      | 2 => jm_if (jm_z1 x) (some (some (.int x), t))
      | _ => none
    | _ => none
  | .areturn => match st with
    | [.ref a] => match ret with
      | 3 => some (some (.ref a), t)
      | _ => none
    | _ => none
  | .return_ => match st with
    | [] => match ret with
      | 0 => some (none, t)
      | _ => none
    | _ => none
  | _ => none

/-- a method's body from pc on, at most n instructions deep; d calls may stand open below it -/
def jm_run (G : Nat → jm_M) : Nat → Nat → jm_M → Nat → jm_V → List Value → jm_T → Option jm_R
  | 0, _, _, _, _, _, _ => none
  | n + 1, d, Y, pc, ls, st, t => match jm_at Y.2.2 pc with
    | none => none
    | some (op, _, u, v, w, c, cl, ts, kl) => jm_step op u v w c cl ts d Y.2.1 pc (jm_kl kl ls) st t (fun pc ls st t => jm_run G n d Y pc ls st t)
        (fun y as t => match d with
          | 0 => none
          | d + 1 => jm_if (Nat.ble (lg_sl as).length (G y).1) (jm_run G n d (G y) 0 (jm_en (G y).1 as) [] t))
end
section
/-! the words that pass from caller to callee, and the facts of the classes -/
def jm_tb : List Jvm.Cond := lw_tbl.filter goodWord
theorem jm_tb_in {w : Jvm.Cond} (h : w ∈ lw_tbl) (g : goodWord w = true) : w ∈ jm_tb := List.mem_filter.mpr ⟨h, g⟩
theorem jm_tb_of {w : Jvm.Cond} (h : w ∈ jm_tb) : w ∈ lw_tbl ∧ goodWord w = true := List.mem_filter.mp h
set_option maxRecDepth 20000 in
theorem jm_wu : ∀ c, c < 9 → ∀ w ∈ u_ws (jm_cn c) (jm_cT c) (jm_nf c), w ∈ jm_tb := by decide +kernel
theorem jm_cl_at : ∀ c, c < 9 → jm_cl[c]? = some (jm_cn c, jm_cT c, jm_nf c)
  | 0, _ => rfl | 1, _ => rfl | 2, _ => rfl | 3, _ => rfl | 4, _ => rfl | 5, _ => rfl | 6, _ => rfl | 7, _ => rfl | 8, _ => rfl
  | _ + 9, h => absurd h (by omega)
theorem jm_ty_ok : ∀ c, c < 9 → ∀ k, k < jm_nf c → parseFieldDescriptor (jm_cT c k).2.2.1 = some (jm_ty c k) := by decide +kernel
theorem jm_nm_ok : ∀ c, c < 9 → ∀ a, a < jm_nf c → ∀ b, b < jm_nf c → a ≠ b → (jm_cT c a).2.1 ≠ (jm_cT c b).2.1 := by decide +kernel
theorem jm_own_ok : ∀ c, c < 9 → ∀ k, k < jm_nf c → (jm_cT c k).1 = jm_cn c := by decide +kernel
theorem jm_fin_ok : ∀ c, c < 9 → ∀ k, k < jm_nf c → (jm_cT c k).2.2.2 = decide (jm_ft c k = 1) := by decide +kernel
theorem jm_ft_lt : ∀ c, c < 9 → ∀ k, k < jm_nf c → jm_ft c k < 4 := by decide +kernel
theorem jm_ty0 : ∀ c, c < 9 → ∀ k, k < jm_nf c → jm_ft c k = 0 → jm_ty c k = .int := by decide +kernel
theorem jm_ty2 : ∀ c, c < 9 → ∀ k, k < jm_nf c → jm_ft c k = 2 → jm_ty c k = .long := by decide +kernel
theorem jm_ty3 : ∀ c, c < 9 → ∀ k, k < jm_nf c → jm_ft c k = 3 → jm_ty c k = .boolean := by decide +kernel
def jm_isq (t : FieldType) : Bool := match t with
  | .object _ => true
  | .array _ => true
  | _ => false
theorem jm_ty1 : ∀ c, c < 9 → ∀ k, k < jm_nf c → jm_ft c k = 1 → jm_isq (jm_ty c k) = true := by decide +kernel
set_option maxRecDepth 20000 in
theorem jm_w_inst : ∀ c, c < 9 → Jvm.Cond.instantiable (jm_cn c) (jm_nf c) ∈ jm_tb := by decide +kernel
set_option maxRecDepth 20000 in
theorem jm_w_init : ∀ c, c < 9 → Jvm.Cond.initialized (jm_cn c) ∈ jm_tb := by decide +kernel
set_option maxRecDepth 20000 in
theorem jm_w_ai : Jvm.Cond.arrayClass FieldType.int ∈ jm_tb := by decide +kernel
set_option maxRecDepth 20000 in
theorem jm_w_az : Jvm.Cond.arrayClass FieldType.boolean ∈ jm_tb := by decide +kernel
set_option maxRecDepth 20000 in
theorem jm_w_o1 : Jvm.Cond.instanceMethod objectInit ∈ jm_tb := by decide +kernel
set_option maxRecDepth 20000 in
theorem jm_w_o2 : Jvm.Cond.code objectInit ⟨#[0xb1]⟩ 1 none ∈ jm_tb := by decide +kernel
set_option maxRecDepth 20000 in
theorem jm_w_c1 : Jvm.Cond.native arraycopyName ∈ jm_tb := by decide +kernel
set_option maxRecDepth 20000 in
theorem jm_w_c2 : Jvm.Cond.static arraycopyName ∈ jm_tb := by decide +kernel
set_option maxRecDepth 20000 in
theorem jm_w_c3 : Jvm.Cond.initialized "java/lang/System" ∈ jm_tb := by decide +kernel
set_option maxRecDepth 20000 in
theorem jm_w_m0 : Jvm.Cond.initialized "java/lang/Math" ∈ jm_tb := by decide +kernel
set_option maxRecDepth 20000 in
theorem jm_w_m1 : Jvm.Cond.static Lib.Math.max.name ∈ jm_tb := by decide +kernel
set_option maxRecDepth 20000 in
theorem jm_w_m2 : Jvm.Cond.code Lib.Math.max.name Lib.Math.max.code 2 (some .int) ∈ jm_tb := by decide +kernel
set_option maxRecDepth 20000 in
theorem jm_w_m3 : Jvm.Cond.static Lib.Math.min.name ∈ jm_tb := by decide +kernel
set_option maxRecDepth 20000 in
theorem jm_w_m4 : Jvm.Cond.code Lib.Math.min.name Lib.Math.min.code 2 (some .int) ∈ jm_tb := by decide +kernel
/-- links to private members of nest mates: these don't pass as words, they are carried -/
def jm_nst : List (String × Nat × MethodName × String) := [(RX2, 31, yX0_init, RX7), (RX2, 32, yX3_init, RX7), (RX7, 40, yX0_init, RX7), (RX7, 47, yX6_init, RX7), (RX7, 54, yX4_init, RX7), (RX0, 52, yX7_has, RX7), (RX3, 39, yX7_has, RX7), (RX1, 59, yX7_has, RX7)]
set_option maxRecDepth 20000 in
theorem jm_nst_in : ∀ q ∈ jm_nst, Jvm.Cond.methodLinkNest q.1 q.2.1 q.2.2.1 q.2.2.2 ∈ lw_tbl := by decide +kernel
set_option maxRecDepth 20000 in
theorem jm_ao_in : ∀ c, c ∈ [RX0, RX1, RX3] → Jvm.Cond.arrayOver (.object c) ∈ lw_tbl := by decide +kernel
def jm_N (U : State) : Prop := (∀ q ∈ jm_nst, va_Nw (.methodLinkNest q.1 q.2.1 q.2.2.1 q.2.2.2) U) ∧ ∀ c, c ∈ [RX0, RX1, RX3] → va_AO c U
theorem jm_N.warm {s U : State} (hW : s.WarmedH U.vm) (h : jm_N s) : jm_N U := ⟨fun q hq => (h.1 q hq).warmM hW, fun c hc => (h.2 c hc).moved hW.alike⟩
theorem jm_N.of {s : State} {args : Array Value} (h : ∀ w ∈ lw_tbl, w.before args s = true) : jm_N s := ⟨fun q hq => va_Nw.of rfl (h _ (jm_nst_in q hq)), fun c hc => va_AO.of (A := args) (h _ (jm_ao_in c hc))⟩
end
section
/-! the plain heap over the machine's heap -/
/-- the script's cell, the size of the heap at the law's entry, the slots of the classes, the array classes by their kinds, the script's length and ints -/
abbrev jm_Ev : Type := Nat × Nat × va_G × (Nat → ClassId) × Nat × (Nat → Int32)
def jm_ad (E : jm_Ev) : Nat → Nat
  | 0 => E.1
  | a + 1 => E.2.1 + a
def jm_mv (E : jm_Ev) : Value → Value
  | .ref a => .ref (jm_ad E a)
  | v => v
def jm_fv (E : jm_Ev) (t : jm_T) (c a k : Nat) : Value := match jm_ft c k with
  | 1 => va_rf ((t.1.2.2.2.2 a k).map (jm_ad E))
  | 2 => .long (t.2.2 a k)
  | _ => .int (t.2.1 a k)
def jm_fs (E : jm_Ev) (t : jm_T) (c a : Nat) : List Value := (List.range (jm_nf c)).map (jm_fv E t c a)
def jm_E (E : jm_Ev) (t : jm_T) (a : Nat) : va_E :=
  if t.1.2.2.1 a < 9 then .inr (t.1.2.2.1 a, jm_fs E t (t.1.2.2.1 a) a)
  else if t.1.2.2.1 a < 11 then .inl (E.2.2.2.1 (t.1.2.2.1 a), t.1.2.2.2.1 a, .inl (t.2.1 a))
  else .inl (E.2.2.2.1 (t.1.2.2.1 a), t.1.2.2.2.1 a, .inr (.inr (.inr (.inr (fun j => (t.1.2.2.2.2 a j).map (jm_ad E))))))
def jm_ws (E : jm_Ev) (t : jm_T) : va_W := (List.range t.1.1).map fun i => (E.2.1 + i, jm_E E t (i + 1))
def jm_A (E : jm_Ev) : Nat → Prop := fun q => E.2.1 ≤ q
def jm_tys (E : jm_Ev) : List (ClassId × FieldType) := [(E.2.2.2.1 9, .int), (E.2.2.2.1 10, .boolean), (E.2.2.2.1 11, .object RX0), (E.2.2.2.1 12, .object RX1), (E.2.2.2.1 13, .object RX3)]
def jm_P (E : jm_Ev) (t : jm_T) (H : Heap) : Prop := va_P E.2.2.1 jm_cl (jm_ws E t) H ∧ t.2.1 0 = E.2.2.2.2.2 ∧ t.1.2.2.2.1 0 = E.2.2.2.2.1

theorem jm_ws_at (E : jm_Ev) (t : jm_T) {j : Nat} (h : j < t.1.1) : (jm_ws E t)[j]? = some (E.2.1 + j, jm_E E t (j + 1)) := by
  simp [jm_ws, h]
theorem jm_D (E : jm_Ev) (t : jm_T) : va_D (jm_A E) (jm_ws E t) := by
  refine ⟨fun i j p q hp hq h => ?_, fun k q hk => ?_⟩
  · simp only [jm_ws, List.getElem?_map, Option.map_eq_some_iff] at hp hq
    obtain ⟨a, ha, rfl⟩ := hp
    obtain ⟨b, hb, rfl⟩ := hq
    have ha' := (List.getElem?_eq_some_iff.mp ha).2
    have hb' := (List.getElem?_eq_some_iff.mp hb).2
    simp only [List.getElem_range] at ha' hb'
    dsimp only at h
    omega
  · simp only [jm_ws, List.getElem?_map, Option.map_eq_some_iff] at hk
    obtain ⟨a, ha, rfl⟩ := hk
    exact Nat.le_add_right _ _
theorem jm_ws_set (E : jm_Ev) (t t' : jm_T) {j : Nat} {x : va_E} (hn : t'.1.1 = t.1.1) (h1 : jm_E E t' (j + 1) = x) (h2 : ∀ b, b ≠ j + 1 → jm_E E t' b = jm_E E t b) (hj : j < t.1.1) : jm_ws E t' = (jm_ws E t).set j (E.2.1 + j, x) := by
  apply List.ext_getElem?
  intro i
  by_cases hi : i = j
  · subst hi
    rw [jm_ws_at E t' (by omega), List.getElem?_set_self (by simp [jm_ws]; exact hj), h1]
  · rw [List.getElem?_set_ne (fun h => hi h.symm)]
    by_cases hb : i < t.1.1
    · rw [jm_ws_at E t' (by omega), jm_ws_at E t hb, h2 (i + 1) (by omega)]
    · rw [List.getElem?_eq_none (by simp [jm_ws]; omega), List.getElem?_eq_none (by simp [jm_ws]; omega)]
theorem jm_ws_push (E : jm_Ev) (t t' : jm_T) {x : va_E} (hn : t'.1.1 = t.1.1 + 1) (h1 : jm_E E t' (t.1.1 + 1) = x) (h2 : ∀ b, b ≠ t.1.1 + 1 → jm_E E t' b = jm_E E t b) : jm_ws E t' = jm_ws E t ++ [(E.2.1 + t.1.1, x)] := by
  apply List.ext_getElem?
  intro i
  by_cases hb : i < t.1.1
  · rw [jm_ws_at E t' (by omega), List.getElem?_append_left (by simp [jm_ws]; exact hb), jm_ws_at E t hb, h2 (i + 1) (by omega)]
  · by_cases hi : i = t.1.1
    · subst hi
      rw [jm_ws_at E t' (by omega), List.getElem?_append_right (by simp [jm_ws]), h1]
      simp [jm_ws]
    · rw [List.getElem?_eq_none (by simp [jm_ws]; omega), List.getElem?_eq_none (by simp [jm_ws]; omega)]
theorem jm_E_obj (E : jm_Ev) (t : jm_T) {a c : Nat} (h : t.1.2.2.1 a = c) (hc : c < 9) : jm_E E t a = .inr (c, jm_fs E t c a) := by
  subst h
  simp [jm_E, hc]
theorem jm_E_int (E : jm_Ev) (t : jm_T) {a c : Nat} (h : t.1.2.2.1 a = c) (h1 : 9 ≤ c) (h2 : c < 11) : jm_E E t a = .inl (E.2.2.2.1 c, t.1.2.2.2.1 a, .inl (t.2.1 a)) := by
  subst h
  simp [jm_E, h2, Nat.not_lt.mpr h1]
theorem jm_E_ref (E : jm_Ev) (t : jm_T) {a c : Nat} (h : t.1.2.2.1 a = c) (h1 : 11 ≤ c) : jm_E E t a = .inl (E.2.2.2.1 c, t.1.2.2.2.1 a, .inr (.inr (.inr (.inr (fun j => (t.1.2.2.2.2 a j).map (jm_ad E)))))) := by
  subst h
  simp [jm_E, Nat.not_lt.mpr h1, Nat.not_lt.mpr (show 9 ≤ t.1.2.2.1 a by omega)]
theorem jm_fs_at (E : jm_Ev) (t : jm_T) {c a k : Nat} (h : k < jm_nf c) : (jm_fs E t c a)[k]? = some (jm_fv E t c a k) := by
  simp [jm_fs, h]
theorem jm_fs_len (E : jm_Ev) (t : jm_T) (c a : Nat) : (jm_fs E t c a).length = jm_nf c := by simp [jm_fs]
theorem jm_fs_set (E : jm_Ev) (t t' : jm_T) {c a k : Nat} {x : Value} (h1 : jm_fv E t' c a k = x) (h2 : ∀ j, j ≠ k → jm_fv E t' c a j = jm_fv E t c a j) (hk : k < jm_nf c) : jm_fs E t' c a = (jm_fs E t c a).set k x := by
  apply List.ext_getElem?
  intro i
  by_cases hi : i = k
  · subst hi
    rw [jm_fs_at E t' hk, List.getElem?_set_self (by rw [jm_fs_len]; exact hk), h1]
  · rw [List.getElem?_set_ne (fun h => hi h.symm)]
    by_cases hb : i < jm_nf c
    · rw [jm_fs_at E t' hb, jm_fs_at E t hb, h2 i hi]
    · rw [List.getElem?_eq_none (by rw [jm_fs_len]; omega), List.getElem?_eq_none (by rw [jm_fs_len]; omega)]
theorem jm_is_of {S : jm_S} {a k : Nat} (h : jm_is S a k = true) : ∃ j, a = j + 1 ∧ j < S.1 ∧ S.2.2.1 a = k := by
  simp only [jm_is, Bool.and_eq_true, Nat.blt_eq, Nat.ble_eq] at h
  exact ⟨a - 1, by omega, by omega, Nat.eq_of_beq_eq_true h.2⟩
theorem jm_ir_of {S : jm_S} {a : Nat} (h : jm_ir S a = true) : ∃ j, a = j + 1 ∧ j < S.1 ∧ 11 ≤ S.2.2.1 a ∧ S.2.2.1 a ≤ 13 := by
  simp only [jm_ir, Bool.and_eq_true, Nat.blt_eq, Nat.ble_eq] at h
  exact ⟨a - 1, by omega, by omega, h.1.2, h.2⟩
theorem jm_inb_of {i : Int32} {n : Nat} (h : jm_inb i n = true) : vp_in i n := by
  simp only [jm_inb, Bool.and_eq_true, Bool.not_eq_true', decide_eq_false_iff_not, Nat.blt_eq] at h
  intro hq
  rcases hq with q | q
  · exact h.1 q
  · omega
theorem jm_z1_of {x : Int32} (h : jm_z1 x = true) : x = 0 ∨ x = 1 := by
  simpa [jm_z1] using h
theorem jm_if_some {b : Bool} {x : Option jm_R} {r : jm_R} (h : jm_if b x = some r) : b = true ∧ x = some r := by
  cases b
  · cases h
  · exact ⟨rfl, h⟩
theorem jm_mv_cat (E : jm_Ev) (v : Value) : (jm_mv E v).category = v.category := by cases v <;> rfl
theorem jm_sum_map (E : jm_Ev) (st : List Value) : ((st.map (jm_mv E)).map fun v => v.category).sum = jm_sum st := by
  simp [jm_sum, Function.comp_def, jm_mv_cat]
/-! locals -/
def jm_L (E : jm_Ev) (ls : jm_V) (nL : Nat) (lsA : Array Slot) : Prop := lsA.size = nL ∧ lv_wf lsA ∧ ∀ (i : Nat) (v : Value), jm_lk ls i = some v → lsA[i]? = some (.val (jm_mv E v))
def jm_al (E : jm_Ev) (ls : jm_V) : List (Nat × Value) := (List.range ls.length).filterMap fun i => (jm_lk ls i).map fun v => (i, jm_mv E v)
theorem jm_lk_lt {ls : jm_V} {i : Nat} {v : Value} (h : jm_lk ls i = some v) : i < ls.length := by
  unfold jm_lk at h
  split at h
  · rename_i w hw
    exact (List.getElem?_eq_some_iff.mp hw).1
  · cases h
theorem jm_al_mem (E : jm_Ev) {ls : jm_V} {i : Nat} {v : Value} (h : jm_lk ls i = some v) : (i, jm_mv E v) ∈ jm_al E ls :=
  List.mem_filterMap.mpr ⟨i, List.mem_range.mpr (jm_lk_lt h), by rw [h]; rfl⟩
theorem jm_L.has {E : jm_Ev} {ls : jm_V} {nL : Nat} {lsA : Array Slot} (h : jm_L E ls nL lsA) : lv_has lsA nL (jm_al E ls) := by
  refine ⟨h.1, h.2.1, fun q hq => ?_⟩
  obtain ⟨i, -, hi⟩ := List.mem_filterMap.mp hq
  obtain ⟨v, hv, rfl⟩ := Option.map_eq_some_iff.mp hi
  exact h.2.2 i v hv
theorem jm_lk_set {x : Option Value} {w : Value} : ∀ {ls : jm_V} {i j : Nat}, jm_lk (jm_set ls i x) j = some w → (j = i ∧ x = some w) ∨ (j ≠ i ∧ jm_lk ls j = some w)
  | [], i, j, h => by simp [jm_set, jm_lk] at h
  | y :: r, 0, 0, h => by
    left
    refine ⟨rfl, ?_⟩
    cases x with
    | none => simp [jm_set, jm_lk] at h
    | some v => simpa [jm_set, jm_lk] using h
  | y :: r, 0, j + 1, h => Or.inr ⟨by omega, by simpa [jm_set, jm_lk] using h⟩
  | y :: r, i + 1, 0, h => Or.inr ⟨by omega, by simpa [jm_set, jm_lk] using h⟩
  | y :: r, i + 1, j + 1, h => by
    have h' : jm_lk (jm_set r i x) j = some w := by simpa [jm_set, jm_lk] using h
    rcases jm_lk_set h' with ⟨a, b⟩ | ⟨a, b⟩
    · exact Or.inl ⟨by omega, b⟩
    · exact Or.inr ⟨by omega, by simpa [jm_lk] using b⟩
theorem jm_lk_kl : ∀ {kl : List Nat} {ls : jm_V} {j : Nat} {w : Value}, jm_lk (jm_kl kl ls) j = some w → jm_lk ls j = some w
  | [], _, _, _, h => h
  | i :: r, ls, j, w, h => by
    rcases jm_lk_set (jm_lk_kl (kl := r) h) with ⟨_, b⟩ | ⟨_, b⟩
    · cases b
    · exact b
theorem jm_L.kl {E : jm_Ev} {ls : jm_V} {nL : Nat} {lsA : Array Slot} {kl : List Nat} (h : jm_L E ls nL lsA) : jm_L E (jm_kl kl ls) nL lsA := ⟨h.1, h.2.1, fun i v hv => h.2.2 i v (jm_lk_kl hv)⟩
theorem jm_lk_st1 {ls : jm_V} {i j : Nat} {v w : Value} (h : jm_lk (jm_st1 ls i v) j = some w) : (j = i ∧ w = v) ∨ (j ≠ i ∧ jm_lk ls j = some w ∧ ¬ (j + 1 = i ∧ w.category = 2)) := by
  cases i with
  | zero =>
    rcases jm_lk_set (show jm_lk (jm_set ls 0 (some v)) j = some w from h) with ⟨a, b⟩ | ⟨a, b⟩
    · cases b; exact Or.inl ⟨a, rfl⟩
    · exact Or.inr ⟨a, b, fun q => by omega⟩
  | succ i =>
    by_cases hL : ∃ q, jm_lk ls i = some q ∧ q.category = 2
    · obtain ⟨q, hq, hc⟩ := hL
      have e : jm_st1 ls (i + 1) v = jm_set (jm_set ls i none) (i + 1) (some v) := by
        unfold jm_st1
        simp only [hq]
        cases q <;> first | rfl | (simp [Value.category] at hc)
      rw [e] at h
      rcases jm_lk_set h with ⟨a, b⟩ | ⟨a, b⟩
      · cases b; exact Or.inl ⟨a, rfl⟩
      · rcases jm_lk_set b with ⟨_, b⟩ | ⟨a2, b⟩
        · cases b
        · exact Or.inr ⟨a, b, fun z => a2 (by omega)⟩
    · have e : jm_st1 ls (i + 1) v = jm_set ls (i + 1) (some v) := by
        unfold jm_st1
        dsimp only
        split
        · rename_i z hz; exact absurd ⟨_, hz, rfl⟩ hL
        · rename_i z hz; exact absurd ⟨_, hz, rfl⟩ hL
        · rfl
      rw [e] at h
      rcases jm_lk_set h with ⟨a, b⟩ | ⟨a, b⟩
      · cases b; exact Or.inl ⟨a, rfl⟩
      · refine Or.inr ⟨a, b, fun z => hL ⟨w, ?_, z.2⟩⟩
        rw [show i = j by omega]
        exact b
theorem jm_L.st1 {E : jm_Ev} {ls : jm_V} {nL i : Nat} {v : Value} {lsA' : Array Slot} (h : lv_has lsA' nL ((i, jm_mv E v) :: (jm_al E ls).filter (fun q => !(q.1 == i) && !(q.1 + 1 == i && q.2.category == 2)))) : jm_L E (jm_st1 ls i v) nL lsA' := by
  refine ⟨h.1, h.2.1, fun j w hw => ?_⟩
  rcases jm_lk_st1 hw with ⟨rfl, rfl⟩ | ⟨a, b, c⟩
  · exact h.2.2 _ List.mem_cons_self
  · refine h.2.2 (j, jm_mv E w) (List.mem_cons_of_mem _ (List.mem_filter.mpr ⟨jm_al_mem E b, ?_⟩))
    simp only [Bool.and_eq_true, Bool.not_eq_true', beq_eq_false_iff_ne, ne_eq, Bool.and_eq_false_iff, jm_mv_cat]
    refine ⟨a, ?_⟩
    by_cases h1 : j + 1 = i
    · exact Or.inr (fun h2 => c ⟨h1, h2⟩)
    · exact Or.inl h1
theorem jm_lk_app {xs ys : jm_V} {j : Nat} {w : Value} (h : jm_lk (xs ++ ys) j = some w) : (j < xs.length ∧ jm_lk xs j = some w) ∨ (xs.length ≤ j ∧ jm_lk ys (j - xs.length) = some w) := by
  rcases Nat.lt_or_ge j xs.length with q | q
  · exact Or.inl ⟨q, by simpa [jm_lk, List.getElem?_append_left q] using h⟩
  · exact Or.inr ⟨q, by simpa [jm_lk, List.getElem?_append_right q] using h⟩
theorem jm_lk_rep {n j : Nat} {w : Value} (h : jm_lk (List.replicate n none) j = some w) : False := by
  unfold jm_lk at h
  split at h
  · rename_i v hv
    have := List.mem_of_getElem? hv
    simp at this
  · cases h
def jm_e1 (as : List Value) : jm_V := as.flatMap fun v => match v.category with | 2 => [some v, none] | _ => [some v]
theorem jm_e1_lk : ∀ (as : List Value) (i j : Nat) (w : Value), jm_lk (jm_e1 as) j = some w → (i + j, w) ∈ lv_args i as
  | [], i, j, w, h => by simp [jm_e1, jm_lk] at h
  | v :: as, i, j, w, h => by
    rcases lv_cat v with hc | hc
    · have e : jm_e1 (v :: as) = [some v] ++ jm_e1 as := by simp [jm_e1, hc]
      rw [e] at h
      rcases jm_lk_app h with ⟨a, b⟩ | ⟨a, b⟩
      · have : j = 0 := by simpa using a
        subst this
        have : v = w := by simpa [jm_lk] using b
        subst this
        exact List.mem_cons_self
      · simp only [List.length_singleton] at a b
        have := jm_e1_lk as (i + 1) (j - 1) w b
        rw [show i + 1 + (j - 1) = i + j by omega] at this
        refine List.mem_cons_of_mem _ ?_
        rw [if_neg (by omega)]
        exact this
    · have e : jm_e1 (v :: as) = [some v, none] ++ jm_e1 as := by simp [jm_e1, hc]
      rw [e] at h
      rcases jm_lk_app h with ⟨a, b⟩ | ⟨a, b⟩
      · have a' : j < 2 := by simpa using a
        rcases (show j = 0 ∨ j = 1 by omega) with rfl | rfl
        · have : v = w := by simpa [jm_lk] using b
          subst this
          exact List.mem_cons_self
        · simp [jm_lk] at b
      · simp only [List.length_cons, List.length_nil] at a b
        have := jm_e1_lk as (i + 2) (j - 2) w b
        rw [show i + 2 + (j - 2) = i + j by omega] at this
        refine List.mem_cons_of_mem _ ?_
        rw [if_pos hc]
        exact this
theorem jm_args_map (E : jm_Ev) : ∀ (as : List Value) (i : Nat), lv_args i (as.map (jm_mv E)) = (lv_args i as).map fun q => (q.1, jm_mv E q.2)
  | [], _ => rfl
  | v :: as, i => by
    simp only [List.map_cons, lv_args, jm_mv_cat, jm_args_map E as]
theorem jm_sl_len (E : jm_Ev) (as : List Value) : (lg_sl (as.map (jm_mv E))).length = (lg_sl as).length := by
  induction as with
  | nil => rfl
  | cons v as ih =>
    simp only [lg_sl, List.map_cons, List.flatMap_cons, List.length_append, jm_mv_cat] at ih ⊢
    rw [ih]
    congr 1
    split <;> rfl
theorem jm_L_entry (E : jm_Ev) (as : List Value) {n : Nat} (h : (lg_sl as).length ≤ n) : jm_L E (jm_en n as) n ((lg_sl (as.map (jm_mv E)) ++ List.replicate (n - (lg_sl (as.map (jm_mv E))).length) Slot.unset).toArray) := by
  have hl := lv_entry (as.map (jm_mv E)) (n := n) (by rw [jm_sl_len]; exact h)
  refine ⟨hl.1, hl.2.1, fun i v hv => ?_⟩
  rcases jm_lk_app (show jm_lk (jm_e1 as ++ List.replicate (n - (lg_sl as).length) none) i = some v from hv) with ⟨_, b⟩ | ⟨_, b⟩
  · have h1 := jm_e1_lk as 0 i v b
    rw [Nat.zero_add] at h1
    refine hl.2.2 (i, jm_mv E v) ?_
    rw [jm_args_map]
    exact List.mem_map.mpr ⟨(i, v), h1, rfl⟩
  · exact (jm_lk_rep b).elim
end
section
/-! WHAT THE SMALL MACHINE READS, THE MACHINE DOES -/
def jm_rk (k : Nat) (rt : Option FieldType) : Bool := match k with
  | 0 => match rt with | none => true | _ => false
  | 1 => match rt with | some .int => true | _ => false
  | 2 => match rt with | some .boolean => true | _ => false
  | 3 => match rt with | some (.object _) => true | _ => false
  | _ => false
def jm_mk (G : Nat → jm_M) (nm : Nat → MethodName) (cd : Nat → ByteArray) (rt : Nat → Option FieldType) (u n : Nat) : Prop :=
  Jvm.Cond.code (nm u) (cd u) (G u).1 (rt u) ∈ jm_tb ∧ Jvm.Cond.initialized (nm u).cls ∈ jm_tb ∧ ((nm u).cls ≠ "java/lang/invoke/MethodHandle" ∧ (nm u).cls ≠ "java/lang/invoke/VarHandle") ∧ plainName (nm u).cls = true ∧ (parseMethodDescriptor (nm u).desc).map (fun d => d.parameters.length) = some n ∧ jm_rk (G u).2.1 (rt u) = true ∧ (G u).1 ≤ 40
def jm_tsok (pc : Nat) : Int → List Int → List (Int32 × Nat) → Bool
  | _, [], [] => true
  | lo, o :: os, (c, q) :: ts => decide (c.toInt = lo) && decide ((pc : Int) + o = (q : Int)) && jm_tsok pc (lo + 1) os ts
  | _, _, _ => false
def jm_lsok (pc : Nat) : List (Int × Int) → List (Int32 × Nat) → Bool
  | [], [] => true
  | (a, o) :: os, (c, q) :: ts => decide (c.toInt = a) && decide ((pc : Int) + o = (q : Int)) && jm_lsok pc os ts
  | _, _ => false
/-- what must hold of an instruction of method y at pc; lw is the law's number -/
def jm_iok (G : Nat → jm_M) (nm : Nat → MethodName) (cd : Nat → ByteArray) (rt : Nat → Option FieldType) (lw y pc : Nat) (op : Instr) (len u v w : Nat) (c : Int32) (cl : Int64) (ts : List (Int32 × Nat)) : Prop := match op with
  | .iconst n => len = 1 ∧ Int32.ofInt n = c
  | .bipush n => len = 2 ∧ (Int8.ofInt n).toInt32 = c
  | .sipush n => len = 3 ∧ (Int16.ofInt n).toInt32 = c
  | .ldc i => len = 2 ∧ Jvm.Cond.constant (nm y).cls i c ∈ jm_tb
  | .ldc_w i => len = 3 ∧ Jvm.Cond.constant (nm y).cls i c ∈ jm_tb
  | .ldc2_w i => len = 3 ∧ Jvm.Cond.constantLong (nm y).cls i cl ∈ jm_tb
  | .lconst n => len = 1 ∧ Int64.ofNat (n : Nat) = cl
  | .iload i => len = 2 ∧ i = u
  | .lload i => len = 2 ∧ i = u
  | .aload i => len = 2 ∧ i = u
  | .iload_n i => len = 1 ∧ (i : Nat) = u
  | .lload_n i => len = 1 ∧ (i : Nat) = u
  | .aload_n i => len = 1 ∧ (i : Nat) = u
  | .istore i => len = 2 ∧ i = u ∧ u < (G y).1
  | .astore i => len = 2 ∧ i = u ∧ u < (G y).1
  | .istore_n i => len = 1 ∧ (i : Nat) = u ∧ u < (G y).1
  | .astore_n i => len = 1 ∧ (i : Nat) = u ∧ u < (G y).1
  | .iinc i n => len = 3 ∧ i = u ∧ Int32.ofInt n = c ∧ u < (G y).1
  | .goto o => len = 3 ∧ (pc : Int) + o = (u : Int)
  | .ifCond _ o => len = 3 ∧ (pc : Int) + o = (u : Int)
  | .if_icmp _ o => len = 3 ∧ (pc : Int) + o = (u : Int)
  | .tableswitch df lo hi offs => (pc : Int) + df = (u : Int) ∧ jm_tsok pc lo offs.toList ts = true ∧ hi + 1 = lo + offs.toList.length
  | .lookupswitch df ps => (pc : Int) + df = (u : Int) ∧ jm_lsok pc ps.toList ts = true ∧ (ps.toList.zip (ps.toList.drop 1)).all (fun (a, next) => a.1 < next.1) = true
  | .getfield i => len = 3 ∧ u < 9 ∧ v < jm_nf u ∧ Jvm.Cond.fieldLink (nm y).cls i (jm_cn u) (jm_cT u v).2.1 (jm_cT u v).2.2.1 ∈ jm_tb
  | .putfield i => len = 3 ∧ u < 9 ∧ v < jm_nf u ∧ Jvm.Cond.fieldLink (nm y).cls i (jm_cn u) (jm_cT u v).2.1 (jm_cT u v).2.2.1 ∈ jm_tb ∧ (jm_ft u v = 1 → (nm y).name = "<init>" ∧ (nm y).cls = jm_cn u)
  | .arraylength => len = 1 ∧ (w = 1 → y = lw)
  | .iaload => len = 1 ∧ (w = 1 → y = lw)
  | .newarray a => len = 2 ∧ ((a = .int ∧ u = 9) ∨ (a = .boolean ∧ u = 10))
  | .anewarray i => len = 3 ∧ (11 ≤ u ∧ u ≤ 13) ∧ Jvm.Cond.classLink (nm y).cls i (jm_cn (jm_ec u)) ∈ jm_tb
  | .new i => len = 3 ∧ u < 9 ∧ Jvm.Cond.classLink (nm y).cls i (jm_cn u) ∈ jm_tb
  | .invokevirtual i => len = 3 ∧ 0 < v ∧ w < 9 ∧ u ≠ lw ∧ (nm u).cls = jm_cn w ∧ Jvm.Cond.methodLink (nm y).cls i (nm u) ∈ jm_tb ∧ Jvm.Cond.instanceMethod (nm u) ∈ jm_tb ∧ Jvm.Cond.selects (jm_cn w) (nm u) (nm u) ∈ jm_tb ∧ jm_mk G nm cd rt u (v - 1)
  | .invokestatic i => len = 3 ∧ (w = 7 → Jvm.Cond.methodLink (nm y).cls i arraycopyName ∈ jm_tb) ∧ (w = 8 → Jvm.Cond.methodLink (nm y).cls i Lib.Math.max.name ∈ jm_tb) ∧ (w = 9 → Jvm.Cond.methodLink (nm y).cls i Lib.Math.min.name ∈ jm_tb) ∧ (w ≠ 7 → w ≠ 8 → w ≠ 9 → u ≠ lw ∧ Jvm.Cond.static (nm u) ∈ jm_tb ∧ (Jvm.Cond.methodLink (nm y).cls i (nm u) ∈ jm_tb ∨ ((nm y).cls, i, nm u, RX7) ∈ jm_nst) ∧ jm_mk G nm cd rt u v)
  | .invokespecial i => len = 3 ∧ (w = 7 → Jvm.Cond.methodLink (nm y).cls i objectInit ∈ jm_tb) ∧ (w ≠ 7 → 0 < v ∧ u ≠ lw ∧ (nm u).name = "<init>" ∧ Jvm.Cond.instanceMethod (nm u) ∈ jm_tb ∧ (Jvm.Cond.methodLink (nm y).cls i (nm u) ∈ jm_tb ∨ ((nm y).cls, i, nm u, RX7) ∈ jm_nst) ∧ (rt u = none) ∧ jm_mk G nm cd rt u (v - 1))
  | _ => len = 1
/-- what an activation of method y rests on -/
def jm_Cx (E : jm_Ev) (G : Nat → jm_M) (nm : Nat → MethodName) (cd : Nat → ByteArray) (lw y n0 : Nat) (p : Program) (s : State) (m : MethodId) (args : Array Value) (meth : Method) (c : Code) : Prop :=
  p.tables.exec = Jvm.exec ∧ c.code = cd y ∧ c.maxLocals = (G y).1 ∧ s.vm.findClass (nm y).cls = some m.cls ∧ (∀ w ∈ jm_tb, w.before args s = true) ∧ va_K E.2.2.1 jm_cl (jm_tys E) s ∧ jm_N s ∧ s.heap.size = E.2.1 + n0 ∧ ((nm y).name = "<init>" → meth.name = "<init>") ∧ (y = lw → va_X E.1 E.2.2.2.2.1 E.2.2.2.2.2 s s.heap ∧ E.1 < s.heap.size ∧ E.1 < E.2.1)
def jm_Wk (E : jm_Ev) (p : Program) (l : Launch) (e : Env) (R : Room) (s : State) (m : MethodId) (args : Array Value) (below : List Frame) (meth : Method) (c : Code) (Q : State → Prop) (nL n0 s0 pc : Nat) (ls : jm_V) (st : List Value) (t : jm_T) : Prop :=
  ∀ (H : Heap) (locs : List Loc) (lsA : Array Slot) (cells slots : Nat), jm_P E t H → va_S (jm_A E) s.heap H locs → jm_L E ls nL lsA → cells + n0 = t.1.1 → slots + s0 = t.1.2.1 → W p l e R s m args below meth c H locs cells slots Q (F0 m pc lsA (st.map (jm_mv E)))
/-- a return: its instruction, what it gives -/
def jm_rt (k : Nat) (op : Instr) (v : Option Value) : Prop :=
  (op = .ireturn ∧ ∃ x : Int32, v = some (.int x) ∧ (k = 1 ∨ (k = 2 ∧ (x = 0 ∨ x = 1)))) ∨ (op = .areturn ∧ k = 3 ∧ ∃ a : Nat, v = some (.ref a)) ∨ (op = .return_ ∧ k = 0 ∧ v = none)
section JS
variable {p : Program} {l : Launch} {e : Env} {R : Room} {s : State} {m : MethodId} {args : Array Value} {below : List Frame} {meth : Method} {c : Code} {H : Heap} {locs : List Loc} {cells slots : Nat} {Q : State → Prop}
theorem jm_sz {E : jm_Ev} {t : jm_T} {n0 : Nat} {g : JFrame} (hz : s.heap.size = E.2.1 + n0) (hP : jm_P E t H) (hS : va_S (jm_A E) s.heap H locs) (hc : cells + n0 = t.1.1) (k : H.size = E.2.1 + t.1.1 → W p l e R s m args below meth c H locs cells slots Q g) : W p l e R s m args below meth c H locs cells slots Q g := by
  intro T hT X
  have h1 := X.heapSize
  rw [hT] at h1
  have h2 : E.2.1 + t.1.1 ≤ H.size := by
    cases hn : t.1.1 with
    | zero =>
      have := hS.1
      omega
    | succ j =>
      have h3 := (hP.1 j _ (jm_ws_at E t (by omega))).lt
      dsimp only at h3
      omega
  exact k (by omega) T hT X
/-- a new cell's address -/
theorem jm_q {E : jm_Ev} {t : jm_T} {q : Nat} {x : va_E} {H1 : Heap} (hP : va_P E.2.2.1 jm_cl (jm_ws E t ++ [(q, x)]) H1) (hD : va_D (jm_A E) (jm_ws E t ++ [(q, x)])) (hz : H1.size ≤ E.2.1 + t.1.1 + 1) : q = E.2.1 + t.1.1 := by
  have hl : (jm_ws E t).length = t.1.1 := by simp [jm_ws]
  have hq : (jm_ws E t ++ [(q, x)])[t.1.1]? = some (q, x) := by
    rw [List.getElem?_append_right (by omega), hl, Nat.sub_self]; rfl
  have h1 := (hP _ _ hq).lt
  have h2 : E.2.1 ≤ q := hD.2 _ _ hq
  dsimp only at h1
  rcases Nat.lt_or_ge q (E.2.1 + t.1.1) with h | h
  · have hj : q - E.2.1 < t.1.1 := by omega
    have h3 : (jm_ws E t ++ [(q, x)])[q - E.2.1]? = some (E.2.1 + (q - E.2.1), jm_E E t (q - E.2.1 + 1)) := by
      rw [List.getElem?_append_left (by omega), jm_ws_at E t hj]
    have := hD.1 _ _ _ _ h3 hq (by dsimp only; omega)
    omega
  · omega
/-- the heap's size behind a new cell -/
theorem jm_sz1 {E : jm_Ev} {n0 k : Nat} {g : JFrame} (hz : s.heap.size = E.2.1 + n0) (hc : cells + n0 = k) (kk : H.size ≤ E.2.1 + k → W p l e R s m args below meth c H locs cells slots Q g) : W p l e R s m args below meth c H locs cells slots Q g := by
  intro T hT X
  have h1 := X.heapSize
  rw [hT] at h1
  exact kk (by omega) T hT X
theorem jm_E_off {E : jm_Ev} {t t' : jm_T} {b : Nat} (h1 : t'.1.2.2.1 b = t.1.2.2.1 b) (h2 : t'.1.2.2.2.1 b = t.1.2.2.2.1 b) (h3 : t'.1.2.2.2.2 b = t.1.2.2.2.2 b) (h4 : t'.2.1 b = t.2.1 b) (h5 : t'.2.2 b = t.2.2 b) : jm_E E t' b = jm_E E t b := by
  have hf : ∀ c, jm_fs E t' c b = jm_fs E t c b := fun c => by
    unfold jm_fs
    congr 1
    funext k
    simp only [jm_fv, h3, h4, h5]
  simp only [jm_E, h1, h2, h3, h4, hf]
theorem va_up_ne' {α : Type} {f : Nat → α} {k j : Nat} {v : α} (h : j ≠ k) : va_up f k v j = f j := by simp [va_up, h]
theorem va_up_eq' {α : Type} {f : Nat → α} {k : Nat} {v : α} : va_up f k v k = v := by simp [va_up]
end JS
end
section
/-! pieces of the one-step law -/
theorem jm_bt {b : Bool} {A B : Option jm_R} {r : jm_R} (hb : b = true) (h : (bif b then A else B) = some r) : A = some r := by subst hb; exact h
theorem jm_bf {b : Bool} {A B : Option jm_R} {r : jm_R} (hb : b = false) (h : (bif b then A else B) = some r) : B = some r := by subst hb; exact h
def jm_wm (G : Nat → jm_M) (nm : Nat → MethodName) (cd : Nat → ByteArray) (rt : Nat → Option FieldType) (u : Nat) : List Jvm.Cond := Jvm.Cond.code (nm u) (cd u) (G u).1 (rt u) :: jm_tb
def jm_pre (E : jm_Ev) (t : jm_T) (U : State) : Prop := U.heap.size = E.2.1 + t.1.1 ∧ jm_P E t U.heap ∧ va_K E.2.2.1 jm_cl (jm_tys E) U ∧ jm_N U
def jm_Q (E : jm_Ev) (r : jm_R) : Array Value → State → Outcome → State → Prop := fun _ st oc t => oc = .returned (r.1.map (jm_mv E)) ∧ jm_P E r.2 t.heap ∧ va_F (jm_A E) st t
def jm_rm (d mc ms : Nat) : Room := { frames := d, cells := mc, slots := ms, locals := 64 * d }
/-- the contract of a callee -/
def jm_Ct (l : Launch) (E : jm_Ev) (G : Nat → jm_M) (nm : Nat → MethodName) (cd : Nat → ByteArray) (rt : Nat → Option FieldType) (u d : Nat) (as : List Value) (t : jm_T) (r : jm_R) : Prop :=
  Met l (nm u) (jm_wm G nm cd rt u) (jm_rm d (r.2.1.1 - t.1.1) (r.2.1.2.1 - t.1.2.1)) (va_Pc (as.map (jm_mv E)) (jm_pre E t)) (jm_Q E r) (r.2.1.1 - t.1.1) (r.2.1.2.1 - t.1.2.1) (jm_A E)
theorem jm_N.vm {s U : State} (h : s.vm = U.vm) (hN : jm_N s) : jm_N U := ⟨fun q hq => (hN.1 q hq).same rfl h, fun c hc => (hN.2 c hc).moved (by rw [h]; exact Vm.Alike.refl U.vm)⟩
theorem jm_blind (E : jm_Ev) (t : jm_T) (av : List Value) : FrameBlind (va_Pc av (jm_pre E t)) := by
  intro a U g mk q
  obtain ⟨q0, q1, qP, qK, qN⟩ := q
  exact ⟨q0, q1, qP, va_K.moved (u := U) (U := U.calling g mk a) (Vm.Alike.refl U.vm) qK, jm_N.vm (s := U) (U := U.calling g mk a) rfl qN⟩
theorem jm_good (G : Nat → jm_M) (nm : Nat → MethodName) (cd : Nat → ByteArray) (rt : Nat → Option FieldType) (u : Nat) (h : Jvm.Cond.code (nm u) (cd u) (G u).1 (rt u) ∈ jm_tb) : GoodIn jm_tb (jm_wm G nm cd rt u) := by
  intro w hw
  have hm : w ∈ jm_tb := by
    rcases List.mem_cons.mp hw with rfl | hw
    · exact h
    · exact hw
  exact ⟨hm, good_of_word (jm_tb_of hm).2⟩
theorem jm_swt {k : Nat → Option jm_R} {x : Int32} {d pc : Nat} {r : jm_R} : ∀ {offs : List Int} {lo : Int} {ts : List (Int32 × Nat)}, jm_tsok pc lo offs ts = true → jm_sw k x d ts = some r → ((x.toInt < lo ∨ lo + offs.length ≤ x.toInt) ∧ k d = some r) ∨ ∃ (j : Nat) (o : Int) (q : Nat), x.toInt = lo + j ∧ offs[j]? = some o ∧ (pc : Int) + o = (q : Int) ∧ k q = some r
  | [], lo, [], _, h => Or.inl ⟨by simp; omega, h⟩
  | [], _, _ :: _, hk, _ => by simp [jm_tsok] at hk
  | _ :: _, _, [], hk, _ => by simp [jm_tsok] at hk
  | o :: os, lo, (c, q) :: ts, hk, h => by
    simp only [jm_tsok, Bool.and_eq_true, decide_eq_true_eq] at hk
    obtain ⟨⟨h1, h2⟩, h3⟩ := hk
    by_cases hx : x = c
    · subst hx
      exact Or.inr ⟨0, o, q, by omega, rfl, h2, jm_bt (decide_eq_true rfl) h⟩
    · have hne : x.toInt ≠ lo := fun e => hx (Int32.toInt_inj.mp (by rw [e, h1]))
      rcases jm_swt h3 (jm_bf (decide_eq_false hx) h) with ⟨a, b⟩ | ⟨j, o', q', a, b, c', e⟩
      · refine Or.inl ⟨?_, b⟩
        simp only [List.length_cons]
        omega
      · exact Or.inr ⟨j + 1, o', q', by omega, by simpa using b, c', e⟩
theorem jm_swl {k : Nat → Option jm_R} {x : Int32} {d pc : Nat} {df : Int} {r : jm_R} (hd : (pc : Int) + df = (d : Int)) : ∀ {ps : List (Int × Int)} {ts : List (Int32 × Nat)}, jm_lsok pc ps ts = true → jm_sw k x d ts = some r → ∃ q : Nat, (pc : Int) + Op.lookupswitch.offset ps df x.toInt = (q : Int) ∧ k q = some r
  | [], [], _, h => ⟨d, hd, h⟩
  | [], _ :: _, hk, _ => by simp [jm_lsok] at hk
  | _ :: _, [], hk, _ => by simp [jm_lsok] at hk
  | (a, o) :: os, (c, q) :: ts, hk, h => by
    simp only [jm_lsok, Bool.and_eq_true, decide_eq_true_eq] at hk
    obtain ⟨⟨h1, h2⟩, h3⟩ := hk
    by_cases hx : x = c
    · subst hx
      exact ⟨q, by rw [Op.lookupswitch.offset_cons, if_pos h1.symm]; exact h2, jm_bt (decide_eq_true rfl) h⟩
    · obtain ⟨q', e1, e2⟩ := jm_swl hd h3 (jm_bf (decide_eq_false hx) h)
      exact ⟨q', by rw [Op.lookupswitch.offset_cons, if_neg (fun e => hx (Int32.toInt_inj.mp (by rw [← e, h1])))]; exact e1, e2⟩
theorem jm_P_arr {E : jm_Ev} {t : jm_T} {H H1 : Heap} {j kd : Nat} {f : Nat → Int32} (hP : jm_P E t H) (hj : j < t.1.1) (hk : t.1.2.2.1 (j + 1) = kd) (h9 : 9 ≤ kd) (h11 : kd < 11)
    (hP1 : va_P E.2.2.1 jm_cl ((jm_ws E t).set j (E.2.1 + j, .inl (E.2.2.2.1 kd, t.1.2.2.2.1 (j + 1), .inl f))) H1) : jm_P E (t.1, va_up t.2.1 (j + 1) f, t.2.2) H1 := by
  refine ⟨?_, ?_, hP.2.2⟩
  · rw [jm_ws_set E t (t.1, va_up t.2.1 (j + 1) f, t.2.2) (j := j) (x := .inl (E.2.2.2.1 kd, t.1.2.2.2.1 (j + 1), .inl f)) rfl ?_ (fun b hb => jm_E_off rfl rfl rfl (va_up_ne' hb) rfl) hj]
    · exact hP1
    · rw [jm_E_int E (t.1, va_up t.2.1 (j + 1) f, t.2.2) hk h9 h11]
      dsimp only
      rw [va_up_eq']
  · show va_up t.2.1 (j + 1) f 0 = _
    rw [va_up_ne' (by omega)]
    exact hP.2.1
theorem jm_P_obj {E : jm_Ev} {t t' : jm_T} {H H1 : Heap} {j u k : Nat} {x : Value} (hP : jm_P E t H) (hj : j < t.1.1) (hk : t.1.2.2.1 (j + 1) = u) (hu : u < 9) (hkn : k < jm_nf u) (e1 : t'.1.1 = t.1.1) (e2 : t'.1.2.2.1 = t.1.2.2.1) (e3 : t'.1.2.2.2.1 = t.1.2.2.2.1)
    (o3 : ∀ b, b ≠ j + 1 → t'.1.2.2.2.2 b = t.1.2.2.2.2 b) (o4 : ∀ b, b ≠ j + 1 → t'.2.1 b = t.2.1 b) (o5 : ∀ b, b ≠ j + 1 → t'.2.2 b = t.2.2 b)
    (f1 : jm_fv E t' u (j + 1) k = x) (f2 : ∀ i, i ≠ k → jm_fv E t' u (j + 1) i = jm_fv E t u (j + 1) i)
    (hP1 : va_P E.2.2.1 jm_cl ((jm_ws E t).set j (E.2.1 + j, .inr (u, (jm_fs E t u (j + 1)).set k x))) H1) : jm_P E t' H1 := by
  refine ⟨?_, ?_, ?_⟩
  · rw [jm_ws_set E t t' (j := j) (x := .inr (u, (jm_fs E t u (j + 1)).set k x)) e1 ?_ (fun b hb => jm_E_off (by rw [e2]) (by rw [e3]) (o3 b hb) (o4 b hb) (o5 b hb)) hj]
    · exact hP1
    · rw [jm_E_obj E t' (show t'.1.2.2.1 (j + 1) = u by rw [e2]; exact hk) hu, jm_fs_set E t t' f1 f2 hkn]
  · rw [o4 0 (by omega)]
    exact hP.2.1
  · rw [e3]
    exact hP.2.2
theorem jm_P_ref {E : jm_Ev} {t : jm_T} {H H1 : Heap} {j kd i b : Nat} (hP : jm_P E t H) (hj : j < t.1.1) (hk : t.1.2.2.1 (j + 1) = kd) (h11 : 11 ≤ kd)
    (hP1 : va_P E.2.2.1 jm_cl ((jm_ws E t).set j (E.2.1 + j, .inl (E.2.2.2.1 kd, t.1.2.2.2.1 (j + 1), .inr (.inr (.inr (.inr (va_up (fun q => (t.1.2.2.2.2 (j + 1) q).map (jm_ad E)) i (some (jm_ad E b)))))))))  H1) : jm_P E ((t.1.1, t.1.2.1, t.1.2.2.1, t.1.2.2.2.1, jm_upR t.1.2.2.2.2 (j + 1) i (some b)), t.2.1, t.2.2) H1 := by
  refine ⟨?_, hP.2.1, hP.2.2⟩
  rw [jm_ws_set E t ((t.1.1, t.1.2.1, t.1.2.2.1, t.1.2.2.2.1, jm_upR t.1.2.2.2.2 (j + 1) i (some b)), t.2.1, t.2.2) (j := j) rfl rfl (fun b hb => jm_E_off rfl rfl (by show va_up _ _ _ b = _; rw [va_up_ne' hb]) rfl rfl) hj]
  rw [jm_E_ref E ((t.1.1, t.1.2.1, t.1.2.2.1, t.1.2.2.2.1, jm_upR t.1.2.2.2.2 (j + 1) i (some b)), t.2.1, t.2.2) (c := kd) hk h11]
  have e : (fun q => (jm_upR t.1.2.2.2.2 (j + 1) i (some b) (j + 1) q).map (jm_ad E)) = va_up (fun q => (t.1.2.2.2.2 (j + 1) q).map (jm_ad E)) i (some (jm_ad E b)) := by
    funext q
    unfold jm_upR
    rw [va_up_eq']
    by_cases hq : q = i
    · subst hq; rw [va_up_eq', va_up_eq']; rfl
    · rw [va_up_ne' hq, va_up_ne' hq]
  dsimp only
  rw [e]
  exact hP1
theorem jm_P_new {E : jm_Ev} {t : jm_T} {H H1 : Heap} {kd len slots : Nat} {x : va_E} (hP : jm_P E t H) (hx : jm_E E (jm_nw t kd len slots) (t.1.1 + 1) = x) (hP1 : va_P E.2.2.1 jm_cl (jm_ws E t ++ [(E.2.1 + t.1.1, x)]) H1) : jm_P E (jm_nw t kd len slots) H1 := by
  refine ⟨?_, ?_, ?_⟩
  · rw [jm_ws_push E t (jm_nw t kd len slots) rfl hx (fun b hb => jm_E_off (va_up_ne' hb) (va_up_ne' hb) (va_up_ne' hb) (va_up_ne' hb) (va_up_ne' hb))]
    exact hP1
  · show va_up t.2.1 (t.1.1 + 1) (fun _ => 0) 0 = _
    rw [va_up_ne' (by omega)]
    exact hP.2.1
  · show va_up t.1.2.2.2.1 (t.1.1 + 1) len 0 = _
    rw [va_up_ne' (by omega)]
    exact hP.2.2
theorem jm_tys_i {E : jm_Ev} {s : State} {D : va_G} {cl : List vw_C} {tys : List (ClassId × FieldType)} {a b : ClassId} {ty : FieldType} {i j : Nat} (hK : va_K D cl tys s) (hi : tys[i]? = some (a, ty)) (hj : tys[j]? = some (b, ty)) : a = b := by
  have h1 := (hK.2 i _ hi).2
  have h2 := (hK.2 j _ hj).2
  cases ty with
  | object C =>
    obtain ⟨_, _, _, _, _, f1⟩ := h1
    obtain ⟨_, _, _, _, _, f2⟩ := h2
    exact Option.some.inj (f1.symm.trans f2)
  | _ => exact Option.some.inj ((show s.vm.findClass _ = some a from h1).symm.trans (show s.vm.findClass _ = some b from h2))
theorem jm_nq {ty : FieldType} (h : jm_isq ty = true) (a : Nat) : narrow ty (.ref a) = .ref a ∧ fits ty (.ref a) = true := by
  cases ty <;> first | (simp [jm_isq] at h; done) | exact ⟨rfl, rfl⟩
theorem jm_tys_q (E : jm_Ev) {k : Nat} (h1 : 11 ≤ k) (h2 : k ≤ 13) : (jm_tys E)[k - 9]? = some (E.2.2.2.1 k, .object (jm_cn (jm_ec k))) := by
  rcases (show k = 11 ∨ k = 12 ∨ k = 13 by omega) with rfl | rfl | rfl <;> rfl
theorem jm_ec_lt (k : Nat) : jm_ec k < 9 := by
  unfold jm_ec
  split <;> omega
theorem jm_ec_in (k : Nat) : jm_cn (jm_ec k) ∈ [RX0, RX1, RX3] := by
  unfold jm_ec
  split <;> simp [jm_cn]
theorem jm_st_eq {st as : List Value} {v : Nat} {x : Value} (h : (st.take v).reverse = x :: as) : st = as.reverse ++ x :: st.drop v := by
  have h2 : st.take v = as.reverse ++ [x] := by
    have := congrArg List.reverse h
    simpa using this
  conv => lhs; rw [← List.take_append_drop v st, h2]
  simp
theorem jm_tl {f : Value → Value} (o : Option Value) (l : List Value) : (o.toList ++ l).map f = (o.map f).toList ++ l.map f := by
  cases o <;> simp
theorem jm_fs_new (E : jm_Ev) (t : jm_T) {u : Nat} (hu : u < 9) : ∀ j, j < jm_nf u → defaultValue (jm_ty u j) = vp_V (jm_fs E (jm_nw t u 0 (jm_nf u)) u (t.1.1 + 1)) j := by
  intro j hj
  have e : vp_V (jm_fs E (jm_nw t u 0 (jm_nf u)) u (t.1.1 + 1)) j = jm_fv E (jm_nw t u 0 (jm_nf u)) u (t.1.1 + 1) j := by
    unfold vp_V
    rw [List.getD_eq_getElem?_getD, jm_fs_at E _ hj]
    rfl
  rw [e]
  have hlt := jm_ft_lt u hu j hj
  rcases (show jm_ft u j = 0 ∨ jm_ft u j = 1 ∨ jm_ft u j = 2 ∨ jm_ft u j = 3 by omega) with h | h | h | h
  · rw [jm_ty0 u hu j hj h]
    simp [jm_fv, h, jm_nw, va_up, defaultValue]
  · have hq := jm_ty1 u hu j hj h
    cases hty : jm_ty u j <;> rw [hty] at hq <;> first | (simp [jm_isq] at hq; done) | simp [jm_fv, h, jm_nw, va_up, defaultValue, va_rf]
  · rw [jm_ty2 u hu j hj h]
    simp [jm_fv, h, jm_nw, va_up, defaultValue]
  · rw [jm_ty3 u hu j hj h]
    simp [jm_fv, h, jm_nw, va_up, defaultValue]
section JC
variable {p : Program} {l : Launch} {e : Env} {R : Room} {s : State} {m : MethodId} {args : Array Value} {below : List Frame} {meth : Method} {c : Code} {H : Heap} {locs : List Loc} {cells slots : Nat} {Q : State → Prop}
theorem jm_call {E : jm_Ev} {r : jm_R} {pc mc ms : Nat} {lsA : Array Slot} {st0 rest : List Value} {a : Array Value} (hr : va_Run p l e R s m args below meth c H locs cells slots mc ms (F0 m pc lsA st0) rest (jm_Q E r a) (jm_A E)) (hS : va_S (jm_A E) s.heap H locs)
    (kk : ∀ (H1 : Heap) (locs1 : List Loc), jm_P E r.2 H1 → va_S (jm_A E) s.heap H1 locs1 → W p l e R s m args below meth c H1 locs1 (cells + mc) (slots + ms) Q (F0 m (pc + 3) lsA ((r.1.map (jm_mv E)).toList ++ rest))) : W p l e R s m args below meth c H locs cells slots Q (F0 m pc lsA st0) := by
  intro T hT X
  obtain ⟨v, st₀, t, T', L, h0, X', hL, e1, e2, ⟨hv, hp, hz, hq⟩, st⟩ := hr T hT X
  have hv' : v = r.1.map (jm_mv E) := Outcome.returned.inj hv
  subst hv'
  rw [h0] at hz hq
  obtain ⟨t2, a1, b1⟩ := kk T'.heap (locs ++ L) (by rw [e1]; exact hp) ⟨Nat.le_trans hS.1 (by rw [e1]; exact hz), fun q h1 h2 => by rw [e1, hq q (Nat.lt_of_lt_of_le h1 hS.1) h2]; exact hS.2.1 q h1 h2, fun q hq => by
      rcases List.mem_append.mp hq with h | h
      · exact hS.2.2 q h
      · exact hL q h⟩ T' rfl X'
  exact ⟨t2, st t2 a1, b1⟩
end JC
end
section
/-! one instruction -/
section JO
variable {p : Program} {l : Launch} {e : Env} {R : Room} {s : State} {m : MethodId} {args : Array Value} {below : List Frame} {meth : Method} {c : Code} {Q : State → Prop}
set_option maxHeartbeats 4000000 in
set_option maxRecDepth 20000 in
theorem jm_one {E : jm_Ev} {G : Nat → jm_M} {nm : Nat → MethodName} {cd : Nat → ByteArray} {rt : Nat → Option FieldType} {lw y n0 s0 d pc len u v w : Nat} {op : Instr} {cc : Int32} {cl : Int64} {ts : List (Int32 × Nat)} {ls : jm_V} {st : List Value} {t : jm_T} {r : jm_R}
    (X : jm_Cx E G nm cd lw y n0 p s m args meth c) (hd : decode (cd y) pc = .ok (op, len)) (hi : jm_iok G nm cd rt lw y pc op len u v w cc cl ts)
    (hR : d ≤ R.frames ∧ 64 * d ≤ R.locals ∧ r.2.1.1 ≤ R.cells + n0 ∧ r.2.1.2.1 ≤ R.slots + s0)
    {k : Nat → jm_V → List Value → jm_T → Option jm_R} {C : Nat → List Value → jm_T → Option jm_R}
    (hk : ∀ pc' ls' st' t', k pc' ls' st' t' = some r → jm_Wk E p l e R s m args below meth c Q (G y).1 n0 s0 pc' ls' st' t' ∧ t'.1.1 ≤ r.2.1.1 ∧ t'.1.2.1 ≤ r.2.1.2.1)
    (hC : ∀ u' n as t' r', jm_mk G nm cd rt u' n → u' ≠ lw → C u' as t' = some r' → ∃ d', d = d' + 1 ∧ t'.1.1 ≤ r'.2.1.1 ∧ t'.1.2.1 ≤ r'.2.1.2.1 ∧ jm_Ct l E G nm cd rt u' d' as t' r')
    (hret : ∀ (pc : Nat) (op : Instr) (v : Option Value) (tt : jm_T), (v, tt) = r → decode (cd y) pc = .ok (op, 1) → jm_rt (G y).2.1 op v → ∀ (lsA : Array Slot) (H : Heap) (locs : List Loc) (cells slots : Nat), jm_P E tt H → va_S (jm_A E) s.heap H locs → cells + n0 = tt.1.1 → slots + s0 = tt.1.2.1 → W p l e R s m args below meth c H locs cells slots Q (F0 m pc lsA ((v.map (jm_mv E)).toList)))
    (h : jm_step op u v w cc cl ts d (G y).2.1 pc ls st t k C = some r) : jm_Wk E p l e R s m args below meth c Q (G y).1 n0 s0 pc ls st t := by
  obtain ⟨hx, hb, hml, hown, hts, hK, hN, hz, hname, hX⟩ := X
  intro H locs lsA cells slots hP hS hl hc hs
  cases op with
  | iconst n =>
    obtain ⟨rfl, hv⟩ := hi
    exact lv_iconst hx hb hd hv ((hk _ _ _ _ h).1 H locs lsA cells slots hP hS hl hc hs)
  | bipush n =>
    obtain ⟨rfl, hv⟩ := hi
    exact lv_bipush hx hb hd hv ((hk _ _ _ _ h).1 H locs lsA cells slots hP hS hl hc hs)
  | sipush n =>
    obtain ⟨rfl, hv⟩ := hi
    exact lv_sipush hx hb hd hv ((hk _ _ _ _ h).1 H locs lsA cells slots hP hS hl hc hs)
  | ldc i =>
    obtain ⟨rfl, hv⟩ := hi
    exact lv_ldc hx hb hown (hts _ hv) hd ((hk _ _ _ _ h).1 H locs lsA cells slots hP hS hl hc hs)
  | ldc_w i =>
    obtain ⟨rfl, hv⟩ := hi
    exact lv_ldcw hx hb hown (hts _ hv) hd ((hk _ _ _ _ h).1 H locs lsA cells slots hP hS hl hc hs)
  | ldc2_w i =>
    obtain ⟨rfl, hv⟩ := hi
    exact lv_ldc2 hx hb hown (hts _ hv) hd ((hk _ _ _ _ h).1 H locs lsA cells slots hP hS hl hc hs)
  | lconst n =>
    obtain ⟨rfl, hv⟩ := hi
    exact lv_lconst hx hb hd hv ((hk _ _ _ _ h).1 H locs lsA cells slots hP hS hl hc hs)
  | iload i =>
    obtain ⟨rfl, rfl⟩ := hi
    dsimp only [jm_step] at h
    split at h
    · rename_i x ex
      exact lv_iload hx hb hd (hl.2.2 _ _ ex) ((hk _ _ _ _ h).1 H locs lsA cells slots hP hS hl hc hs)
    · cases h
  | lload i =>
    obtain ⟨rfl, rfl⟩ := hi
    dsimp only [jm_step] at h
    split at h
    · rename_i x ex
      exact lv_lload hx hb hd (hl.2.2 _ _ ex) ((hk _ _ _ _ h).1 H locs lsA cells slots hP hS hl hc hs)
    · cases h
  | aload i =>
    obtain ⟨rfl, rfl⟩ := hi
    dsimp only [jm_step] at h
    split at h
    · rename_i x ex
      exact lv_aload hx hb hd (hl.2.2 _ _ ex) ((hk _ _ _ _ h).1 H locs lsA cells slots hP hS hl hc hs)
    · cases h
  | iload_n i =>
    obtain ⟨rfl, rfl⟩ := hi
    dsimp only [jm_step] at h
    split at h
    · rename_i x ex
      exact lv_iload_n hx hb hd rfl (hl.2.2 _ _ ex) ((hk _ _ _ _ h).1 H locs lsA cells slots hP hS hl hc hs)
    · cases h
  | lload_n i =>
    obtain ⟨rfl, rfl⟩ := hi
    dsimp only [jm_step] at h
    split at h
    · rename_i x ex
      exact lv_lload_n hx hb hd rfl (hl.2.2 _ _ ex) ((hk _ _ _ _ h).1 H locs lsA cells slots hP hS hl hc hs)
    · cases h
  | aload_n i =>
    obtain ⟨rfl, rfl⟩ := hi
    dsimp only [jm_step] at h
    split at h
    · rename_i x ex
      exact lv_aload_n hx hb hd rfl (hl.2.2 _ _ ex) ((hk _ _ _ _ h).1 H locs lsA cells slots hP hS hl hc hs)
    · cases h
  | istore i =>
    obtain ⟨rfl, rfl, hu⟩ := hi
    dsimp only [jm_step] at h
    split at h
    · rename_i x st1
      exact lv_istore hx hb hd hl.has hu rfl (fun ls' hl' => (hk _ _ _ _ h).1 H locs ls' cells slots hP hS (jm_L.st1 (v := .int x) hl') hc hs)
    · cases h
  | istore_n i =>
    obtain ⟨rfl, rfl, hu⟩ := hi
    dsimp only [jm_step] at h
    split at h
    · rename_i x st1
      exact lv_istore_n hx hb hd rfl hl.has hu rfl (fun ls' hl' => (hk _ _ _ _ h).1 H locs ls' cells slots hP hS (jm_L.st1 (v := .int x) hl') hc hs)
    · cases h
  | astore i =>
    obtain ⟨rfl, rfl, hu⟩ := hi
    dsimp only [jm_step] at h
    split at h
    · rename_i x st1
      exact lv_astore hx hb hd hl.has hu rfl (fun ls' hl' => (hk _ _ _ _ h).1 H locs ls' cells slots hP hS (jm_L.st1 (v := .ref x) hl') hc hs)
    · cases h
  | astore_n i =>
    obtain ⟨rfl, rfl, hu⟩ := hi
    dsimp only [jm_step] at h
    split at h
    · rename_i x st1
      exact lv_astore_n hx hb hd rfl hl.has hu rfl (fun ls' hl' => (hk _ _ _ _ h).1 H locs ls' cells slots hP hS (jm_L.st1 (v := .ref x) hl') hc hs)
    · cases h
  | iinc i n =>
    obtain ⟨rfl, rfl, hv, hu⟩ := hi
    dsimp only [jm_step] at h
    split at h
    · rename_i x ex
      obtain ⟨q, hq⟩ := List.getElem?_of_mem (jm_al_mem E ex)
      exact lv_iinc hx hb hd hl.has (k := q) hq (by rw [hv]) hu rfl (fun ls' hl' => (hk _ _ _ _ h).1 H locs ls' cells slots hP hS (jm_L.st1 (v := .int (x + cc)) hl') hc hs)
    · cases h
  | iadd =>
    have hi : len = 1 := hi
    subst hi
    dsimp only [jm_step] at h
    split at h
    · rename_i b a st1
      exact lv_iadd (x := a) (y := b) (rest := st1.map (jm_mv E)) hx hb hd ((hk _ _ _ _ h).1 H locs lsA cells slots hP hS hl hc hs)
    · cases h
  | isub =>
    have hi : len = 1 := hi
    subst hi
    dsimp only [jm_step] at h
    split at h
    · rename_i b a st1
      exact lv_isub (x := a) (y := b) (rest := st1.map (jm_mv E)) hx hb hd ((hk _ _ _ _ h).1 H locs lsA cells slots hP hS hl hc hs)
    · cases h
  | imul =>
    have hi : len = 1 := hi
    subst hi
    dsimp only [jm_step] at h
    split at h
    · rename_i b a st1
      exact lv_imul (x := a) (y := b) (rest := st1.map (jm_mv E)) hx hb hd ((hk _ _ _ _ h).1 H locs lsA cells slots hP hS hl hc hs)
    · cases h
  | iand =>
    have hi : len = 1 := hi
    subst hi
    dsimp only [jm_step] at h
    split at h
    · rename_i b a st1
      exact lv_iand (x := a) (y := b) (rest := st1.map (jm_mv E)) hx hb hd ((hk _ _ _ _ h).1 H locs lsA cells slots hP hS hl hc hs)
    · cases h
  | ior =>
    have hi : len = 1 := hi
    subst hi
    dsimp only [jm_step] at h
    split at h
    · rename_i b a st1
      exact lv_ior (x := a) (y := b) (rest := st1.map (jm_mv E)) hx hb hd ((hk _ _ _ _ h).1 H locs lsA cells slots hP hS hl hc hs)
    · cases h
  | ixor =>
    have hi : len = 1 := hi
    subst hi
    dsimp only [jm_step] at h
    split at h
    · rename_i b a st1
      exact lv_ixor (x := a) (y := b) (rest := st1.map (jm_mv E)) hx hb hd ((hk _ _ _ _ h).1 H locs lsA cells slots hP hS hl hc hs)
    · cases h
  | ishl =>
    have hi : len = 1 := hi
    subst hi
    dsimp only [jm_step] at h
    split at h
    · rename_i b a st1
      exact lv_ishl (x := a) (y := b) (rest := st1.map (jm_mv E)) hx hb hd ((hk _ _ _ _ h).1 H locs lsA cells slots hP hS hl hc hs)
    · cases h
  | ishr =>
    have hi : len = 1 := hi
    subst hi
    dsimp only [jm_step] at h
    split at h
    · rename_i b a st1
      exact lv_ishr (x := a) (y := b) (rest := st1.map (jm_mv E)) hx hb hd ((hk _ _ _ _ h).1 H locs lsA cells slots hP hS hl hc hs)
    · cases h
  | iushr =>
    have hi : len = 1 := hi
    subst hi
    dsimp only [jm_step] at h
    split at h
    · rename_i b a st1
      exact lv_iushr (x := a) (y := b) (rest := st1.map (jm_mv E)) hx hb hd rfl ((hk _ _ _ _ h).1 H locs lsA cells slots hP hS hl hc hs)
    · cases h
  | idiv =>
    have hi : len = 1 := hi
    subst hi
    dsimp only [jm_step] at h
    split at h
    · rename_i b a st1
      obtain ⟨h0, h⟩ := jm_if_some h
      exact lv_idiv (x := a) (y := b) (rest := st1.map (jm_mv E)) hx hb hd (by simpa using h0) ((hk _ _ _ _ h).1 H locs lsA cells slots hP hS hl hc hs)
    · cases h
  | irem =>
    have hi : len = 1 := hi
    subst hi
    dsimp only [jm_step] at h
    split at h
    · rename_i b a st1
      obtain ⟨h0, h⟩ := jm_if_some h
      exact lv_irem (x := a) (y := b) (rest := st1.map (jm_mv E)) hx hb hd (by simpa using h0) ((hk _ _ _ _ h).1 H locs lsA cells slots hP hS hl hc hs)
    · cases h
  | lmul =>
    have hi : len = 1 := hi
    subst hi
    dsimp only [jm_step] at h
    split at h
    · rename_i b a st1
      exact lv_lmul (x := a) (y := b) (rest := st1.map (jm_mv E)) hx hb hd ((hk _ _ _ _ h).1 H locs lsA cells slots hP hS hl hc hs)
    · cases h
  | lrem =>
    have hi : len = 1 := hi
    subst hi
    dsimp only [jm_step] at h
    split at h
    · rename_i b a st1
      obtain ⟨h0, h⟩ := jm_if_some h
      exact lv_lrem (x := a) (y := b) (rest := st1.map (jm_mv E)) hx hb hd (by simpa using h0) ((hk _ _ _ _ h).1 H locs lsA cells slots hP hS hl hc hs)
    · cases h
  | lcmp =>
    have hi : len = 1 := hi
    subst hi
    dsimp only [jm_step] at h
    split at h
    · rename_i b a st1
      exact W.lcmp (x := a) (y := b) (rest := st1.map (jm_mv E)) hx hb hd ((hk _ _ _ _ h).1 H locs lsA cells slots hP hS hl hc hs)
    · cases h
  | l2i =>
    have hi : len = 1 := hi
    subst hi
    dsimp only [jm_step] at h
    split at h
    · rename_i a st1
      exact lv_l2i (x := a) (rest := st1.map (jm_mv E)) hx hb hd rfl ((hk _ _ _ _ h).1 H locs lsA cells slots hP hS hl hc hs)
    · cases h
  | i2l =>
    have hi : len = 1 := hi
    subst hi
    dsimp only [jm_step] at h
    split at h
    · rename_i a st1
      exact lv_i2l (x := a) (rest := st1.map (jm_mv E)) hx hb hd rfl ((hk _ _ _ _ h).1 H locs lsA cells slots hP hS hl hc hs)
    · cases h
  | dup =>
    have hi : len = 1 := hi
    subst hi
    dsimp only [jm_step] at h
    split at h
    · rename_i a st1
      obtain ⟨h0, h⟩ := jm_if_some h
      exact lv_dup (va := jm_mv E a) (rest := st1.map (jm_mv E)) hx hb hd (by rw [jm_mv_cat]; exact Nat.eq_of_beq_eq_true h0) ((hk _ _ _ _ h).1 H locs lsA cells slots hP hS hl hc hs)
    · cases h
  | dup2 =>
    have hi : len = 1 := hi
    subst hi
    dsimp only [jm_step] at h
    split at h
    · rename_i a b st1
      obtain ⟨h0, h⟩ := jm_if_some h
      rw [Bool.and_eq_true] at h0
      exact lv_dup2_11 (va := jm_mv E a) (vb := jm_mv E b) (rest := st1.map (jm_mv E)) hx hb hd (by rw [jm_mv_cat]; exact Nat.eq_of_beq_eq_true h0.1) (by rw [jm_mv_cat]; exact Nat.eq_of_beq_eq_true h0.2) ((hk _ _ _ _ h).1 H locs lsA cells slots hP hS hl hc hs)
    · cases h
  | goto o =>
    obtain ⟨rfl, ho⟩ := hi
    exact lv_goto hx hb hd ho ((hk _ _ _ _ h).1 H locs lsA cells slots hP hS hl hc hs)
  | ifCond q o =>
    obtain ⟨rfl, ho⟩ := hi
    dsimp only [jm_step] at h
    split at h
    · rename_i a st1
      cases q with
      | eq => exact lv_if_eq (x := a) (rest := st1.map (jm_mv E)) hx hb hd ho (fun z => (hk _ _ _ _ (jm_bt (by simp [jm_c0, z]) h)).1 H locs lsA cells slots hP hS hl hc hs) (fun z => (hk _ _ _ _ (jm_bf (by simp [jm_c0, z]) h)).1 H locs lsA cells slots hP hS hl hc hs)
      | ne => exact lv_if_ne (x := a) (rest := st1.map (jm_mv E)) hx hb hd ho (fun z => (hk _ _ _ _ (jm_bt (by simp [jm_c0, z]) h)).1 H locs lsA cells slots hP hS hl hc hs) (fun z => (hk _ _ _ _ (jm_bf (by simp [jm_c0, z]) h)).1 H locs lsA cells slots hP hS hl hc hs)
      | lt => exact lv_if_lt (x := a) (rest := st1.map (jm_mv E)) hx hb hd ho (fun z => (hk _ _ _ _ (jm_bt (decide_eq_true z) h)).1 H locs lsA cells slots hP hS hl hc hs) (fun z => (hk _ _ _ _ (jm_bf (decide_eq_false z) h)).1 H locs lsA cells slots hP hS hl hc hs)
      | ge => exact lv_if_ge (x := a) (rest := st1.map (jm_mv E)) hx hb hd ho (fun z => (hk _ _ _ _ (jm_bt (decide_eq_true z) h)).1 H locs lsA cells slots hP hS hl hc hs) (fun z => (hk _ _ _ _ (jm_bf (decide_eq_false z) h)).1 H locs lsA cells slots hP hS hl hc hs)
      | gt => exact lv_if_gt (x := a) (rest := st1.map (jm_mv E)) hx hb hd ho (fun z => (hk _ _ _ _ (jm_bt (decide_eq_true z) h)).1 H locs lsA cells slots hP hS hl hc hs) (fun z => (hk _ _ _ _ (jm_bf (decide_eq_false z) h)).1 H locs lsA cells slots hP hS hl hc hs)
      | le => exact lv_if_le (x := a) (rest := st1.map (jm_mv E)) hx hb hd ho (fun z => (hk _ _ _ _ (jm_bt (decide_eq_true z) h)).1 H locs lsA cells slots hP hS hl hc hs) (fun z => (hk _ _ _ _ (jm_bf (decide_eq_false z) h)).1 H locs lsA cells slots hP hS hl hc hs)
    · cases h
  | if_icmp q o =>
    obtain ⟨rfl, ho⟩ := hi
    dsimp only [jm_step] at h
    split at h
    · rename_i b a st1
      cases q with
      | eq => exact lv_icmp_eq (x := a) (y := b) (rest := st1.map (jm_mv E)) hx hb hd ho (fun z => (hk _ _ _ _ (jm_bt (by simp [jm_c2, z]) h)).1 H locs lsA cells slots hP hS hl hc hs) (fun z => (hk _ _ _ _ (jm_bf (by simp [jm_c2, z]) h)).1 H locs lsA cells slots hP hS hl hc hs)
      | ne => exact lv_icmp_ne (x := a) (y := b) (rest := st1.map (jm_mv E)) hx hb hd ho (fun z => (hk _ _ _ _ (jm_bt (by simp [jm_c2, z]) h)).1 H locs lsA cells slots hP hS hl hc hs) (fun z => (hk _ _ _ _ (jm_bf (by simp [jm_c2, z]) h)).1 H locs lsA cells slots hP hS hl hc hs)
      | lt => exact lv_icmp_lt (x := a) (y := b) (rest := st1.map (jm_mv E)) hx hb hd ho (fun z => (hk _ _ _ _ (jm_bt (decide_eq_true z) h)).1 H locs lsA cells slots hP hS hl hc hs) (fun z => (hk _ _ _ _ (jm_bf (decide_eq_false z) h)).1 H locs lsA cells slots hP hS hl hc hs)
      | ge => exact lv_icmp_ge (x := a) (y := b) (rest := st1.map (jm_mv E)) hx hb hd ho (fun z => (hk _ _ _ _ (jm_bt (decide_eq_true z) h)).1 H locs lsA cells slots hP hS hl hc hs) (fun z => (hk _ _ _ _ (jm_bf (decide_eq_false z) h)).1 H locs lsA cells slots hP hS hl hc hs)
      | gt => exact lv_icmp_gt (x := a) (y := b) (rest := st1.map (jm_mv E)) hx hb hd ho (fun z => (hk _ _ _ _ (jm_bt (decide_eq_true z) h)).1 H locs lsA cells slots hP hS hl hc hs) (fun z => (hk _ _ _ _ (jm_bf (decide_eq_false z) h)).1 H locs lsA cells slots hP hS hl hc hs)
      | le => exact lv_icmp_le (x := a) (y := b) (rest := st1.map (jm_mv E)) hx hb hd ho (fun z => (hk _ _ _ _ (jm_bt (decide_eq_true z) h)).1 H locs lsA cells slots hP hS hl hc hs) (fun z => (hk _ _ _ _ (jm_bf (decide_eq_false z) h)).1 H locs lsA cells slots hP hS hl hc hs)
    · cases h
  | tableswitch df lo hi2 offs =>
    obtain ⟨h1, h2, h3⟩ := hi
    dsimp only [jm_step] at h
    split at h
    · rename_i a st1
      rcases jm_swt h2 h with ⟨ha, h⟩ | ⟨j, o, q, e1, e2, e3, h⟩
      · exact lv_tableOut (x := a) (rest := st1.map (jm_mv E)) hx hb hd (by omega) h1 ((hk _ _ _ _ h).1 H locs lsA cells slots hP hS hl hc hs)
      · have hj : j < offs.toList.length := (List.getElem?_eq_some_iff.mp e2).1
        exact lv_tableIn (x := a) (rest := st1.map (jm_mv E)) hx hb hd (by omega) (by omega) (by rw [show (a.toInt - lo).toNat = j by omega, ← Array.getElem?_toList]; exact e2) e3 ((hk _ _ _ _ h).1 H locs lsA cells slots hP hS hl hc hs)
    · cases h
  | lookupswitch df ps =>
    obtain ⟨h1, h2, h3⟩ := hi
    dsimp only [jm_step] at h
    split at h
    · rename_i a st1
      obtain ⟨q, e1, h⟩ := jm_swl h1 h2 h
      exact lv_lookup (x := a) (rest := st1.map (jm_mv E)) hx hb hd h3 rfl e1 ((hk _ _ _ _ h).1 H locs lsA cells slots hP hS hl hc hs)
    · cases h
  | getfield i =>
    obtain ⟨rfl, hu, hv, hlink⟩ := hi
    dsimp only [jm_step] at h
    split at h
    · rename_i a st1
      obtain ⟨h0, h⟩ := jm_if_some h
      obtain ⟨j, rfl, hj, hkd⟩ := jm_is_of h0
      obtain ⟨val, hval, h⟩ : ∃ val, jm_fv E t u (j + 1) v = jm_mv E val ∧ k (pc + 3) ls (val :: st1) t = some r := by
        unfold jm_fv
        split at h
        · rename_i hf
          rw [hf]
          split at h
          · rename_i b hb
            exact ⟨.ref b, by show va_rf ((t.1.2.2.2.2 (j + 1) v).map (jm_ad E)) = _; rw [hb]; rfl, h⟩
          · cases h
        · rename_i hf
          rw [hf]
          exact ⟨_, rfl, h⟩
        · rename_i n1 n2
          refine ⟨.int (t.2.1 (j + 1) v), ?_, h⟩
          split
          · rename_i hf; exact absurd hf n1
          · rename_i hf; exact absurd hf n2
          · rfl
      have hgo : W p l e R s m args below meth c H locs cells slots Q (F0 m (pc + 3) lsA (jm_fv E t u (j + 1) v :: st1.map (jm_mv E))) := by
        rw [hval]
        exact (hk _ _ _ _ h).1 H locs lsA cells slots hP hS hl hc hs
      exact va_get (D := E.2.2.1) (cl := jm_cl) (tys := jm_tys E) (ws := jm_ws E t) (a := E.2.1 + j) (rest := st1.map (jm_mv E)) (ci := u) (C := jm_cn u) (T := jm_cT u) (N := jm_nf u) (ref := jm_cn u) hx hb hts (jm_wu u hu) hown hK hP.1 j (fs := jm_fs E t u (j + 1)) (by rw [jm_ws_at E t hj, jm_E_obj E t hkd hu]) (jm_cl_at u hu) v hv (hts _ hlink) (fun z hzz => by rw [jm_own_ok u hu v hv] at hzz; exact hzz) (jm_fs_at E t hv) hd hgo
    · cases h
  | ireturn =>
    have hi : len = 1 := hi
    subst hi
    dsimp only [jm_step] at h
    split at h
    · rename_i a
      split at h
      · rename_i hr
        cases h
        exact hret pc .ireturn (some (.int a)) t rfl hd (Or.inl ⟨rfl, a, rfl, Or.inl hr⟩) lsA H locs cells slots hP hS hc hs
      · rename_i hr
        obtain ⟨h0, h⟩ := jm_if_some h
        cases h
        exact hret pc .ireturn (some (.int a)) t rfl hd (Or.inl ⟨rfl, a, rfl, Or.inr ⟨hr, jm_z1_of h0⟩⟩) lsA H locs cells slots hP hS hc hs
      · cases h
    · cases h
  | areturn =>
    have hi : len = 1 := hi
    subst hi
    dsimp only [jm_step] at h
    split at h
    · rename_i a
      split at h
      · rename_i hr
        cases h
        exact hret pc .areturn (some (.ref a)) t rfl hd (Or.inr (Or.inl ⟨rfl, hr, a, rfl⟩)) lsA H locs cells slots hP hS hc hs
      · cases h
    · cases h
  | return_ =>
    have hi : len = 1 := hi
    subst hi
    dsimp only [jm_step] at h
    split at h
    · split at h
      · rename_i hr
        cases h
        exact hret pc .return_ none t rfl hd (Or.inr (Or.inr ⟨rfl, hr, rfl⟩)) lsA H locs cells slots hP hS hc hs
      · cases h
    · cases h
  | putfield i =>
    obtain ⟨rfl, hu, hv, hlink, hfi⟩ := hi
    dsimp only [jm_step] at h
    split at h
    · rename_i hf
      split at h
      · rename_i x a st1
        obtain ⟨h0, h⟩ := jm_if_some h
        obtain ⟨j, rfl, hj, hkd⟩ := jm_is_of h0
        refine va_put (D := E.2.2.1) (cl := jm_cl) (tys := jm_tys E) (ws := jm_ws E t) (A := jm_A E) (H0 := s.heap) (a := E.2.1 + j) (rest := st1.map (jm_mv E)) (ci := u) (v := .int x) (C := jm_cn u) (T := jm_cT u) (N := jm_nf u) (ref := jm_cn u) hx hb hts (jm_wu u hu) (jm_ty u) (jm_ty_ok u hu) (jm_nm_ok u hu) hown hK hP.1 (jm_D E t) hS j (fs := jm_fs E t u (j + 1)) (by rw [jm_ws_at E t hj, jm_E_obj E t hkd hu]) (jm_cl_at u hu) v hv (hts _ hlink) (fun z hzz => by rw [jm_own_ok u hu v hv] at hzz; exact hzz) (by rw [jm_fin_ok u hu v hv, hf]; rfl) (jm_ty_ok u hu v hv) (by rw [jm_ty0 u hu v hv hf]; rfl) (by rw [jm_ty0 u hu v hv hf]; rfl) (by rw [jm_fs_len]; exact hv) hd (fun H1 locs1 hP1 _ hS1 => (hk _ _ _ _ h).1 H1 locs1 lsA cells slots (jm_P_obj hP hj hkd hu hv rfl rfl rfl (fun _ _ => rfl) (fun b hb => va_up_ne' hb) (fun _ _ => rfl) ?_ ?_ hP1) hS1 hl hc hs)
        · simp [jm_fv, hf, jm_up, va_up, upd]
        · intro i hiv
          have ee : jm_up t.2.1 (j + 1) v x (j + 1) i = t.2.1 (j + 1) i := by simp [jm_up, va_up, upd, hiv]
          simp only [jm_fv, ee]
      · cases h
    · rename_i hf
      split at h
      · rename_i x a st1
        obtain ⟨h0, h⟩ := jm_if_some h
        rw [Bool.and_eq_true] at h0
        obtain ⟨j, rfl, hj, hkd⟩ := jm_is_of h0.1
        have hz1 := jm_z1_of h0.2
        refine va_put (D := E.2.2.1) (cl := jm_cl) (tys := jm_tys E) (ws := jm_ws E t) (A := jm_A E) (H0 := s.heap) (a := E.2.1 + j) (rest := st1.map (jm_mv E)) (ci := u) (v := .int x) (C := jm_cn u) (T := jm_cT u) (N := jm_nf u) (ref := jm_cn u) hx hb hts (jm_wu u hu) (jm_ty u) (jm_ty_ok u hu) (jm_nm_ok u hu) hown hK hP.1 (jm_D E t) hS j (fs := jm_fs E t u (j + 1)) (by rw [jm_ws_at E t hj, jm_E_obj E t hkd hu]) (jm_cl_at u hu) v hv (hts _ hlink) (fun z hzz => by rw [jm_own_ok u hu v hv] at hzz; exact hzz) (by rw [jm_fin_ok u hu v hv, hf]; rfl) (jm_ty_ok u hu v hv) (by rw [jm_ty3 u hu v hv hf]; rcases hz1 with rfl | rfl <;> rfl) (by rw [jm_ty3 u hu v hv hf]; rcases hz1 with rfl | rfl <;> rfl) (by rw [jm_fs_len]; exact hv) hd (fun H1 locs1 hP1 _ hS1 => (hk _ _ _ _ h).1 H1 locs1 lsA cells slots (jm_P_obj hP hj hkd hu hv rfl rfl rfl (fun _ _ => rfl) (fun b hb => va_up_ne' hb) (fun _ _ => rfl) ?_ ?_ hP1) hS1 hl hc hs)
        · simp [jm_fv, hf, jm_up, va_up, upd]
        · intro i hiv
          have ee : jm_up t.2.1 (j + 1) v x (j + 1) i = t.2.1 (j + 1) i := by simp [jm_up, va_up, upd, hiv]
          simp only [jm_fv, ee]
      · cases h
    · rename_i hf
      split at h
      · rename_i x a st1
        obtain ⟨h0, h⟩ := jm_if_some h
        obtain ⟨j, rfl, hj, hkd⟩ := jm_is_of h0
        refine va_put (D := E.2.2.1) (cl := jm_cl) (tys := jm_tys E) (ws := jm_ws E t) (A := jm_A E) (H0 := s.heap) (a := E.2.1 + j) (rest := st1.map (jm_mv E)) (ci := u) (v := .long x) (C := jm_cn u) (T := jm_cT u) (N := jm_nf u) (ref := jm_cn u) hx hb hts (jm_wu u hu) (jm_ty u) (jm_ty_ok u hu) (jm_nm_ok u hu) hown hK hP.1 (jm_D E t) hS j (fs := jm_fs E t u (j + 1)) (by rw [jm_ws_at E t hj, jm_E_obj E t hkd hu]) (jm_cl_at u hu) v hv (hts _ hlink) (fun z hzz => by rw [jm_own_ok u hu v hv] at hzz; exact hzz) (by rw [jm_fin_ok u hu v hv, hf]; rfl) (jm_ty_ok u hu v hv) (by rw [jm_ty2 u hu v hv hf]; rfl) (by rw [jm_ty2 u hu v hv hf]; rfl) (by rw [jm_fs_len]; exact hv) hd (fun H1 locs1 hP1 _ hS1 => (hk _ _ _ _ h).1 H1 locs1 lsA cells slots (jm_P_obj hP hj hkd hu hv rfl rfl rfl (fun _ _ => rfl) (fun _ _ => rfl) (fun b hb => va_up_ne' hb) ?_ ?_ hP1) hS1 hl hc hs)
        · simp [jm_fv, hf, jm_upL, va_up, vp_updL]
        · intro i hiv
          have ee : jm_upL t.2.2 (j + 1) v x (j + 1) i = t.2.2 (j + 1) i := by simp [jm_upL, va_up, vp_updL, hiv]
          simp only [jm_fv, ee]
      · cases h
    · rename_i hf
      split at h
      · rename_i x a st1
        obtain ⟨h0, h⟩ := jm_if_some h
        obtain ⟨j, rfl, hj, hkd⟩ := jm_is_of h0
        have hq := jm_nq (jm_ty1 u hu v hv hf) (jm_ad E x)
        refine va_putF (D := E.2.2.1) (cl := jm_cl) (tys := jm_tys E) (ws := jm_ws E t) (A := jm_A E) (H0 := s.heap) (a := E.2.1 + j) (rest := st1.map (jm_mv E)) (ci := u) (v := .ref (jm_ad E x)) (C := jm_cn u) (T := jm_cT u) (N := jm_nf u) (ref := jm_cn u) hx hb hts (jm_wu u hu) (jm_ty u) (jm_ty_ok u hu) (jm_nm_ok u hu) hown hK hP.1 (jm_D E t) hS j (fs := jm_fs E t u (j + 1)) (by rw [jm_ws_at E t hj, jm_E_obj E t hkd hu]) (jm_cl_at u hu) v hv (hts _ hlink) (fun z hzz => by rw [jm_own_ok u hu v hv] at hzz; exact hzz) (by rw [jm_fin_ok u hu v hv, hf]; rfl) (hname (hfi hf).1) (by rw [jm_own_ok u hu v hv]; exact (hfi hf).2.symm) (jm_ty_ok u hu v hv) hq.1 hq.2 (by rw [jm_fs_len]; exact hv) hd (fun H1 locs1 hP1 _ hS1 => (hk _ _ _ _ h).1 H1 locs1 lsA cells slots (jm_P_obj hP hj hkd hu hv rfl rfl rfl (fun b hb => va_up_ne' hb) (fun _ _ => rfl) (fun _ _ => rfl) ?_ ?_ hP1) hS1 hl hc hs)
        · simp [jm_fv, hf, jm_upR, va_up, va_rf]
        · intro i hiv
          have ee : jm_upR t.1.2.2.2.2 (j + 1) v (some x) (j + 1) i = t.1.2.2.2.2 (j + 1) i := by simp [jm_upR, va_up, hiv]
          simp only [jm_fv, ee]
      · cases h
    · cases h
  | arraylength =>
    obtain ⟨rfl, hlw⟩ := hi
    dsimp only [jm_step] at h
    split at h
    · rename_i a st1
      obtain ⟨h0, h⟩ := jm_if_some h
      simp only [Bool.or_eq_true, Bool.and_eq_true] at h0
      rcases h0 with ⟨h1, h2⟩ | ⟨h1, h2⟩
      · have h1 := Nat.eq_of_beq_eq_true h1
        have h2 := Nat.eq_of_beq_eq_true h2
        subst h2
        obtain ⟨hX1, hX2, hX3⟩ := hX (hlw h1)
        have hgo := (hk _ _ _ _ h).1 H locs lsA cells slots hP hS hl hc hs
        rw [hP.2.2] at hgo
        exact va_slen (b := E.1) (rest := st1.map (jm_mv E)) hx hb hX1 hX2 (Nat.not_le.mpr hX3) hS hd hgo
      · obtain ⟨j, rfl, hj, hkd⟩ := jm_is_of h2
        exact va_alen (x := (t.1.2.2.2.1 (j + 1), .inl (t.2.1 (j + 1)))) (D := E.2.2.1) (cl := jm_cl) (tys := jm_tys E) (ws := jm_ws E t) (a := E.2.1 + j) (rest := st1.map (jm_mv E)) hx hb hK hP.1 j 0 (by rw [jm_ws_at E t hj, jm_E_int E t hkd (by omega) (by omega)]) rfl rfl hd ((hk _ _ _ _ h).1 H locs lsA cells slots hP hS hl hc hs)
    · cases h
  | iaload =>
    obtain ⟨rfl, hlw⟩ := hi
    dsimp only [jm_step] at h
    split at h
    · rename_i i a st1
      obtain ⟨h0, h⟩ := jm_if_some h
      simp only [Bool.or_eq_true, Bool.and_eq_true] at h0
      obtain ⟨h0, hin⟩ := h0
      have hin := jm_inb_of hin
      rcases h0 with ⟨h1, h2⟩ | ⟨h1, h2⟩
      · have h1 := Nat.eq_of_beq_eq_true h1
        have h2 := Nat.eq_of_beq_eq_true h2
        subst h2
        obtain ⟨hX1, hX2, hX3⟩ := hX (hlw h1)
        have hgo := (hk _ _ _ _ h).1 H locs lsA cells slots hP hS hl hc hs
        rw [hP.2.1] at hgo
        rw [hP.2.2] at hin
        exact va_sld (b := E.1) (i := i) (rest := st1.map (jm_mv E)) hx hb hX1 hX2 (Nat.not_le.mpr hX3) hS hin hd hgo
      · obtain ⟨j, rfl, hj, hkd⟩ := jm_is_of h2
        exact va_iald (D := E.2.2.1) (cl := jm_cl) (tys := jm_tys E) (ws := jm_ws E t) (a := E.2.1 + j) (i := i) (rest := st1.map (jm_mv E)) hx hb hK hP.1 j 0 (by rw [jm_ws_at E t hj, jm_E_int E t hkd (by omega) (by omega)]) rfl hin hd ((hk _ _ _ _ h).1 H locs lsA cells slots hP hS hl hc hs)
    · cases h
  | baload =>
    have hi : len = 1 := hi
    subst hi
    dsimp only [jm_step] at h
    split at h
    · rename_i i a st1
      obtain ⟨h0, h⟩ := jm_if_some h
      rw [Bool.and_eq_true] at h0
      have hin := jm_inb_of h0.2
      obtain ⟨j, rfl, hj, hkd⟩ := jm_is_of h0.1
      exact va_zald (D := E.2.2.1) (cl := jm_cl) (tys := jm_tys E) (ws := jm_ws E t) (a := E.2.1 + j) (i := i) (rest := st1.map (jm_mv E)) hx hb hK hP.1 j 1 (by rw [jm_ws_at E t hj, jm_E_int E t hkd (by omega) (by omega)]) rfl hin hd ((hk _ _ _ _ h).1 H locs lsA cells slots hP hS hl hc hs)
    · cases h
  | iastore =>
    have hi : len = 1 := hi
    subst hi
    dsimp only [jm_step] at h
    split at h
    · rename_i x i a st1
      obtain ⟨h0, h⟩ := jm_if_some h
      rw [Bool.and_eq_true] at h0
      have hin := jm_inb_of h0.2
      obtain ⟨j, rfl, hj, hkd⟩ := jm_is_of h0.1
      exact va_iast (D := E.2.2.1) (cl := jm_cl) (tys := jm_tys E) (ws := jm_ws E t) (A := jm_A E) (H0 := s.heap) (a := E.2.1 + j) (i := i) (x := x) (rest := st1.map (jm_mv E)) hx hb hK hP.1 (jm_D E t) hS j 0 (by rw [jm_ws_at E t hj, jm_E_int E t hkd (by omega) (by omega)]) rfl hin hd (fun H1 locs1 hP1 _ hS1 => (hk _ _ _ _ h).1 H1 locs1 lsA cells slots (jm_P_arr hP hj hkd (by omega) (by omega) hP1) hS1 hl hc hs)
    · cases h
  | bastore =>
    have hi : len = 1 := hi
    subst hi
    dsimp only [jm_step] at h
    split at h
    · rename_i x i a st1
      obtain ⟨h0, h⟩ := jm_if_some h
      rw [Bool.and_eq_true, Bool.and_eq_true] at h0
      have hin := jm_inb_of h0.1.2
      have hxn : vp_nar .boolean x = x := by rcases jm_z1_of h0.2 with rfl | rfl <;> rfl
      obtain ⟨j, rfl, hj, hkd⟩ := jm_is_of h0.1.1
      exact va_zast (D := E.2.2.1) (cl := jm_cl) (tys := jm_tys E) (ws := jm_ws E t) (A := jm_A E) (H0 := s.heap) (a := E.2.1 + j) (i := i) (x := x) (rest := st1.map (jm_mv E)) hx hb hK hP.1 (jm_D E t) hS j 1 (by rw [jm_ws_at E t hj, jm_E_int E t hkd (by omega) (by omega)]) rfl hin hd (fun H1 locs1 hP1 _ hS1 => (hk _ _ _ _ h).1 H1 locs1 lsA cells slots (jm_P_arr hP hj hkd (by omega) (by omega) (by rw [hxn] at hP1; exact hP1)) hS1 hl hc hs)
    · cases h
  | aaload =>
    have hi : len = 1 := hi
    subst hi
    dsimp only [jm_step] at h
    split at h
    · rename_i i a st1
      obtain ⟨h0, h⟩ := jm_if_some h
      rw [Bool.and_eq_true] at h0
      have hin := jm_inb_of h0.2
      obtain ⟨j, rfl, hj, hk11, hk13⟩ := jm_ir_of h0.1
      split at h
      · rename_i b hb2
        have hgo : W p l e R s m args below meth c H locs cells slots Q (F0 m (pc + 1) lsA (va_rf ((t.1.2.2.2.2 (j + 1) i.toNatClampNeg).map (jm_ad E)) :: st1.map (jm_mv E))) := by
          rw [hb2]
          exact (hk _ _ _ _ h).1 H locs lsA cells slots hP hS hl hc hs
        have htt : (jm_tys E)[t.1.2.2.1 (j + 1) - 9]? = some (E.2.2.2.1 (t.1.2.2.1 (j + 1)), .object (jm_cn (jm_ec (t.1.2.2.1 (j + 1))))) := jm_tys_q E hk11 hk13
        exact va_aldq (D := E.2.2.1) (cl := jm_cl) (tys := jm_tys E) (ws := jm_ws E t) (a := E.2.1 + j) (i := i) (rest := st1.map (jm_mv E)) (f := fun q => (t.1.2.2.2.2 (j + 1) q).map (jm_ad E)) hx hb hK hP.1 j _ (by rw [jm_ws_at E t hj, jm_E_ref E t rfl hk11]) htt hin hd hgo
      · cases h
    · cases h
  | aastore =>
    have hi : len = 1 := hi
    subst hi
    dsimp only [jm_step] at h
    split at h
    · rename_i b i a st1
      obtain ⟨h0, h⟩ := jm_if_some h
      rw [Bool.and_eq_true, Bool.and_eq_true] at h0
      have hin := jm_inb_of h0.1.2
      obtain ⟨j, rfl, hj, hk11, hk13⟩ := jm_ir_of h0.1.1
      obtain ⟨jb, rfl, hjb, hkb⟩ := jm_is_of h0.2
      have hec : jm_ec (t.1.2.2.1 (j + 1)) < 9 := jm_ec_lt _
      have htt : (jm_tys E)[t.1.2.2.1 (j + 1) - 9]? = some (E.2.2.2.1 (t.1.2.2.1 (j + 1)), .object (jm_cn (jm_ec (t.1.2.2.1 (j + 1))))) := jm_tys_q E hk11 hk13
      exact va_astq (D := E.2.2.1) (cl := jm_cl) (tys := jm_tys E) (ws := jm_ws E t) (A := jm_A E) (H0 := s.heap) (a := E.2.1 + j) (v := E.2.1 + jb) (i := i) (rest := st1.map (jm_mv E)) (r := (jm_cn (jm_ec (t.1.2.2.1 (j + 1))), jm_cT (jm_ec (t.1.2.2.1 (j + 1))), jm_nf (jm_ec (t.1.2.2.1 (j + 1))))) (f := fun q => (t.1.2.2.2.2 (j + 1) q).map (jm_ad E)) hx hb hK hP.1 (jm_D E t) hS j _ jb (jm_ec (t.1.2.2.1 (j + 1))) (by rw [jm_ws_at E t hj, jm_E_ref E t rfl hk11]) htt (by rw [jm_ws_at E t hjb, jm_E_obj E t hkb hec]) (jm_cl_at _ hec) hin hd (fun H1 locs1 hP1 _ hS1 => (hk _ _ _ _ h).1 H1 locs1 lsA cells slots (jm_P_ref (b := jb + 1) hP hj rfl hk11 hP1) hS1 hl hc hs)
    · cases h
  | new i =>
    obtain ⟨rfl, hu, hlink⟩ := hi
    have hk' := hk _ _ _ _ (show k (pc + 3) ls (.ref (t.1.1 + 1) :: st) (jm_nw t u 0 (jm_nf u)) = some r from h)
    have m1 : t.1.1 + 1 ≤ r.2.1.1 := hk'.2.1
    have m2 : t.1.2.1 + jm_nf u ≤ r.2.1.2.1 := hk'.2.2
    refine va_new (D := E.2.2.1) (cl := jm_cl) (tys := jm_tys E) (ws := jm_ws E t) (A := jm_A E) (H0 := s.heap) (rest := st.map (jm_mv E)) (ci := u) (fs := jm_fs E (jm_nw t u 0 (jm_nf u)) u (t.1.1 + 1)) (C := jm_cn u) (T := jm_cT u) (N := jm_nf u) hx hb hts (jm_wu u hu) (jm_ty u) (jm_ty_ok u hu) hown (hts _ hlink) (hts _ (jm_w_inst u hu)) (hts _ (jm_w_init u hu)) hK hP.1 (jm_D E t) hS (fun q hq => by show E.2.1 ≤ q; omega) (jm_cl_at u hu) (jm_fs_new E t hu) (by omega) (by omega) hd (fun q H1 hP1 hD1 hS1 => ?_)
    refine jm_sz1 (E := E) (n0 := n0) (k := t.1.1 + 1) hz (by omega) (fun hz1 => ?_)
    have hq := jm_q hP1 hD1 (by omega)
    subst hq
    exact hk'.1 H1 locs lsA (cells + 1) (slots + jm_nf u) (jm_P_new hP (jm_E_obj E (jm_nw t u 0 (jm_nf u)) va_up_eq' hu) hP1) hS1 hl (by show cells + 1 + n0 = t.1.1 + 1; omega) (by show slots + jm_nf u + s0 = t.1.2.1 + jm_nf u; omega)
  | newarray a =>
    obtain ⟨rfl, hau⟩ := hi
    dsimp only [jm_step] at h
    split at h
    · rename_i x st1
      obtain ⟨h0, h⟩ := jm_if_some h
      have hin := jm_inb_of h0
      have hn0 : ¬ x < 0 := fun z => hin (Or.inl z)
      have hn1 : x.toNatClampNeg < 10000 := Nat.not_le.mp fun z => hin (Or.inr z)
      have hk' := hk _ _ _ _ h
      have m1 : t.1.1 + 1 ≤ r.2.1.1 := hk'.2.1
      have m2 : t.1.2.1 + x.toNatClampNeg ≤ r.2.1.2.1 := hk'.2.2
      rcases hau with ⟨rfl, rfl⟩ | ⟨rfl, rfl⟩
      · refine va_newa (D := E.2.2.1) (cl := jm_cl) (tys := jm_tys E) (ws := jm_ws E t) (A := jm_A E) (H0 := s.heap) (rest := st1.map (jm_mv E)) (atype := .int) (ty := .int) (n := x) (N' := x.toNatClampNeg) (a0 := (x.toNatClampNeg, .inl (fun _ => 0))) hx hb (hts _ jm_w_ai) rfl hK hP.1 (jm_D E t) hS (fun q hq => by show E.2.1 ≤ q; omega) (fun _ => rfl) hn0 rfl (by show _ * 4 ≤ _; omega) (by omega) (by omega) hd (fun q cA H1 hK1 hP1 hD1 hS1 => ?_)
        have hcA : cA = E.2.2.2.1 9 := jm_tys_i (E := E) (i := 5) (j := 0) hK1 rfl rfl
        subst hcA
        refine jm_sz1 (E := E) (n0 := n0) (k := t.1.1 + 1) hz (by omega) (fun hz1 => ?_)
        have hq := jm_q hP1 hD1 (by omega)
        subst hq
        exact hk'.1 H1 locs lsA (cells + 1) (slots + x.toNatClampNeg) (jm_P_new hP (by rw [jm_E_int E _ (c := 9) va_up_eq' (by omega) (by omega)]; simp [jm_nw, va_up]) hP1) hS1 hl (by show cells + 1 + n0 = t.1.1 + 1; omega) (by show slots + x.toNatClampNeg + s0 = t.1.2.1 + x.toNatClampNeg; omega)
      · refine va_newa (D := E.2.2.1) (cl := jm_cl) (tys := jm_tys E) (ws := jm_ws E t) (A := jm_A E) (H0 := s.heap) (rest := st1.map (jm_mv E)) (atype := .boolean) (ty := .boolean) (n := x) (N' := x.toNatClampNeg) (a0 := (x.toNatClampNeg, .inl (fun _ => 0))) hx hb (hts _ jm_w_az) rfl hK hP.1 (jm_D E t) hS (fun q hq => by show E.2.1 ≤ q; omega) (fun _ => rfl) hn0 rfl (by show _ * 1 ≤ _; omega) (by omega) (by omega) hd (fun q cA H1 hK1 hP1 hD1 hS1 => ?_)
        have hcA : cA = E.2.2.2.1 10 := jm_tys_i (E := E) (i := 5) (j := 1) hK1 rfl rfl
        subst hcA
        refine jm_sz1 (E := E) (n0 := n0) (k := t.1.1 + 1) hz (by omega) (fun hz1 => ?_)
        have hq := jm_q hP1 hD1 (by omega)
        subst hq
        exact hk'.1 H1 locs lsA (cells + 1) (slots + x.toNatClampNeg) (jm_P_new hP (by rw [jm_E_int E _ (c := 10) va_up_eq' (by omega) (by omega)]; simp [jm_nw, va_up]) hP1) hS1 hl (by show cells + 1 + n0 = t.1.1 + 1; omega) (by show slots + x.toNatClampNeg + s0 = t.1.2.1 + x.toNatClampNeg; omega)
    · cases h
  | anewarray i =>
    obtain ⟨rfl, ⟨hu1, hu2⟩, hlink⟩ := hi
    dsimp only [jm_step] at h
    split at h
    · rename_i x st1
      obtain ⟨h0, h⟩ := jm_if_some h
      have hin := jm_inb_of h0
      have hn0 : ¬ x < 0 := fun z => hin (Or.inl z)
      have hn1 : x.toNatClampNeg < 10000 := Nat.not_le.mp fun z => hin (Or.inr z)
      have hk' := hk _ _ _ _ h
      have m1 : t.1.1 + 1 ≤ r.2.1.1 := hk'.2.1
      have m2 : t.1.2.1 + x.toNatClampNeg ≤ r.2.1.2.1 := hk'.2.2
      refine va_newq (D := E.2.2.1) (cl := jm_cl) (tys := jm_tys E) (ws := jm_ws E t) (A := jm_A E) (H0 := s.heap) (rest := st1.map (jm_mv E)) (C := jm_cn (jm_ec u)) (n := x) (N' := x.toNatClampNeg) hx hb hown (hts _ hlink) (hN.2 _ (jm_ec_in u)) hK hP.1 (jm_D E t) hS (fun q hq => by show E.2.1 ≤ q; omega) hn0 rfl (by omega) (by omega) (by omega) hd (fun q cA H1 hK1 hP1 hD1 hS1 => ?_)
      have hcA : cA = E.2.2.2.1 u := jm_tys_i (E := E) (i := 5) (j := u - 9) hK1 rfl (by rw [List.getElem?_append_left (by simp [jm_tys]; omega)]; exact jm_tys_q E hu1 hu2)
      subst hcA
      refine jm_sz1 (E := E) (n0 := n0) (k := t.1.1 + 1) hz (by omega) (fun hz1 => ?_)
      have hq := jm_q hP1 hD1 (by omega)
      subst hq
      exact hk'.1 H1 locs lsA (cells + 1) (slots + x.toNatClampNeg) (jm_P_new hP (by rw [jm_E_ref E _ (c := u) va_up_eq' hu1]; simp [jm_nw, va_up]) hP1) hS1 hl (by show cells + 1 + n0 = t.1.1 + 1; omega) (by show slots + x.toNatClampNeg + s0 = t.1.2.1 + x.toNatClampNeg; omega)
    · cases h
  | invokevirtual i =>
    obtain ⟨rfl, hv0, hw, hne, hcls, hl1, hl2, hl3, hmk⟩ := hi
    dsimp only [jm_step] at h
    split at h
    · rename_i a as heq
      have hh := jm_if_some h
      clear h
      obtain ⟨h0, h⟩ := hh
      simp only [Bool.and_eq_true, Nat.ble_eq] at h0
      obtain ⟨⟨h8, hal⟩, his⟩ := h0
      have hal := Nat.eq_of_beq_eq_true hal
      split at h
      · rename_i r' hC'
        obtain ⟨j, rfl, hj, hkd⟩ := jm_is_of his
        obtain ⟨d', rfl, m1, m2, hM⟩ := hC _ _ _ _ _ hmk hne hC'
        obtain ⟨k1, k2, k3, k4, k5, k6, k7⟩ := hmk
        have hk' := hk _ _ _ _ h
        refine jm_sz hz hP hS hc (fun hsz => ?_)
        have est : st = as.reverse ++ .ref (j + 1) :: st.drop v := jm_st_eq heq
        have hstack : st.map (jm_mv E) = (as.map (jm_mv E)).reverse ++ .ref (E.2.1 + j) :: (st.drop v).map (jm_mv E) := by
          conv => lhs; rw [est]
          simp [jm_mv, jm_ad]
        refine jm_call (r := r') (mc := r'.2.1.1 - t.1.1) (ms := r'.2.1.2.1 - t.1.2.1) (rest := (st.drop v).map (jm_mv E)) (va_runV (C := jm_cn w) (own := (nm y).cls) (Ts := jm_tb) (n := v - 1) (bytes := cd u) (maxL := (G u).1) (ret := rt u) (b := E.2.1 + j) (As := as.map (jm_mv E)) ⟨hx, hb, hml, hown, hts⟩ hM ⟨callB_of (v - 1) hts (jm_good G nm cd rt u k1) rfl rfl rfl (hts _ k2) (hts _ hl1) ⟨k3.1, k3.2, k5⟩ ⟨by show d' + 1 ≤ _; omega, by show 8 + _ + 64 * d' ≤ _; omega⟩, hts _ hl2, hts _ hl3⟩ ⟨jm_blind E t _, va_recv (q := (jm_cn w, jm_cT w, jm_nf w)) hK hP.1 (jm_cl_at w hw) (q0 := j) (by rw [jm_ws_at E t hj, jm_E_obj E t hkd hw]), fun U hU hW => ⟨rfl, by rw [hU]; exact hsz, by rw [hU]; exact hP, va_K.moved hW.alike hK, hN.warm hW⟩⟩ rfl (by simp [hal]) hl.1 hstack (lv_room (by rw [jm_sum_map]; exact h8)) hd ⟨by omega, by omega⟩) hS (fun H1 locs1 hP1 hS1 => ?_)
        have hgo := hk'.1 H1 locs1 lsA (cells + (r'.2.1.1 - t.1.1)) (slots + (r'.2.1.2.1 - t.1.2.1)) hP1 hS1 hl (by omega) (by omega)
        rw [jm_tl] at hgo
        exact hgo
      · cases h
    · cases h
  | invokestatic i =>
    obtain ⟨rfl, hw7, hw8, hw9, hwn⟩ := hi
    dsimp only [jm_step] at h
    split at h
    · split at h
      · rename_i n dp a sp b st1
        obtain ⟨h0, h⟩ := jm_if_some h
        simp only [Bool.and_eq_true, Nat.ble_eq, Nat.blt_eq, Bool.not_eq_true', decide_eq_false_iff_not] at h0
        obtain ⟨⟨⟨⟨⟨⟨⟨⟨g1, g2⟩, g3⟩, g4⟩, g5⟩, g6⟩, g7⟩, g8⟩, g9⟩ := h0
        obtain ⟨j, rfl, hj, hkd⟩ := jm_is_of g3
        obtain ⟨jb, rfl, hjb, hkb⟩ := jm_is_of g4
        have hnat : nativeFrameWords "java/lang/System" "arraycopy" 5 + 11 ≤ 50 := by decide +kernel
        exact va_copyi (D := E.2.2.1) (cl := jm_cl) (tys := jm_tys E) (ws := jm_ws E t) (A := jm_A E) (H0 := s.heap) (a := E.2.1 + j) (a0 := E.2.1 + jb) (rest := st1.map (jm_mv E)) (sp := sp) (dp := dp) (n := n) (ty := .int) hx hb (by rw [hml]; exact hl.1.symm) hown (hts _ (hw7 rfl)) (hts _ jm_w_c1) (hts _ jm_w_c2) (hts _ jm_w_c3) hK hP.1 (jm_D E t) hS jb j 0 0 (by rw [jm_ws_at E t hjb, jm_E_int E t hkb (by omega) (by omega)]) (by rw [jm_ws_at E t hj, jm_E_int E t hkd (by omega) (by omega)]) rfl rfl rfl g7 g6 g5 g8 g9 (fun _ _ => rfl) (by omega) (by rw [jm_sum_map]; omega) hd (fun H1 locs1 hP1 _ hS1 => (hk _ _ _ _ h).1 H1 locs1 lsA cells slots (jm_P_arr hP hj hkd (by omega) (by omega) hP1) hS1 hl hc hs)
      · cases h
    · split at h
      · rename_i b a st1
        obtain ⟨h0, h⟩ := jm_if_some h
        simp only [Bool.and_eq_true, Nat.ble_eq, Nat.blt_eq] at h0
        have hk' := hk _ _ _ _ h
        exact va_mmax (x := a) (y := b) (rest := st1.map (jm_mv E)) hx hb (by rw [hml]; exact hl.1.symm) hown (hts _ (hw8 rfl)) (hts _ jm_w_m1) (hts _ jm_w_m0) (hts _ jm_w_m2) (by omega) (by rw [jm_sum_map]; omega) (by omega) (by omega) hd (hk'.1 H locs lsA cells slots hP hS hl hc hs)
      · cases h
    · split at h
      · rename_i b a st1
        obtain ⟨h0, h⟩ := jm_if_some h
        simp only [Bool.and_eq_true, Nat.ble_eq, Nat.blt_eq] at h0
        have hk' := hk _ _ _ _ h
        exact va_mmin (x := a) (y := b) (rest := st1.map (jm_mv E)) hx hb (by rw [hml]; exact hl.1.symm) hown (hts _ (hw9 rfl)) (hts _ jm_w_m3) (hts _ jm_w_m0) (hts _ jm_w_m4) (by omega) (by rw [jm_sum_map]; omega) (by omega) (by omega) hd (hk'.1 H locs lsA cells slots hP hS hl hc hs)
      · cases h
    · rename_i hw78 hw79 hw
      obtain ⟨hne, hst, hlk, hmk⟩ := hwn hw78 hw79 hw
      obtain ⟨h0, h⟩ := jm_if_some h
      simp only [Bool.and_eq_true, Nat.ble_eq] at h0
      obtain ⟨h8, hal⟩ := h0
      have hal := Nat.eq_of_beq_eq_true hal
      split at h
      · rename_i r' hC'
        obtain ⟨d', rfl, m1, m2, hM⟩ := hC _ _ _ _ _ hmk hne hC'
        obtain ⟨k1, k2, k3, k4, k5, k6, k7⟩ := hmk
        have hk' := hk _ _ _ _ h
        refine jm_sz hz hP hS hc (fun hsz => ?_)
        have hstack : st.map (jm_mv E) = ((st.take v).reverse.map (jm_mv E)).reverse ++ (st.drop v).map (jm_mv E) := by
          conv => lhs; rw [← List.take_append_drop v st]
          simp
        have hpre : PreS s H (va_Pc ((st.take v).reverse.map (jm_mv E)) (jm_pre E t)) ((st.take v).reverse.map (jm_mv E)) := ⟨jm_blind E t _, fun U hU hW => ⟨rfl, by rw [hU]; exact hsz, by rw [hU]; exact hP, va_K.moved hW.alike hK, hN.warm hW⟩⟩
        have hrm : (jm_rm d' (r'.2.1.1 - t.1.1) (r'.2.1.2.1 - t.1.2.1)).frames + 1 ≤ R.frames ∧ 8 + ((G u).1 + 11) + (jm_rm d' (r'.2.1.1 - t.1.1) (r'.2.1.2.1 - t.1.2.1)).locals ≤ R.locals := ⟨by show d' + 1 ≤ _; omega, by show 8 + _ + 64 * d' ≤ _; omega⟩
        have hrun : va_Run p l e R s m args below meth c H locs cells slots (r'.2.1.1 - t.1.1) (r'.2.1.2.1 - t.1.2.1) (F0 m pc lsA (st.map (jm_mv E))) ((st.drop v).map (jm_mv E)) (jm_Q E r' ((st.take v).reverse.map (jm_mv E)).toArray) (jm_A E) := by
          rcases hlk with hlk | hlk
          · exact va_runS (own := (nm y).cls) (Ts := jm_tb) (n := v) (bytes := cd u) (maxL := (G u).1) (ret := rt u) (As := (st.take v).reverse.map (jm_mv E)) ⟨hx, hb, hml, hown, hts⟩ hM ⟨callB_of v hts (jm_good G nm cd rt u k1) rfl rfl rfl (hts _ k2) (hts _ hlk) ⟨k3.1, k3.2, k5⟩ hrm, hts _ hst⟩ hpre rfl (by simpa using hal) hl.1 hstack (lv_room (by rw [jm_sum_map]; exact h8)) hd ⟨by omega, by omega⟩
          · exact va_runSN (own := (nm y).cls) (host := RX7) (Ts := jm_tb) (n := v) (bytes := cd u) (maxL := (G u).1) (ret := rt u) (As := (st.take v).reverse.map (jm_mv E)) ⟨hx, hb, hml, hown, hts⟩ hM ⟨va_cnB v hts (jm_good G nm cd rt u k1) rfl rfl rfl (hN.1 _ hlk) (hts _ k2) ⟨k3.1, k3.2, k5⟩ hrm, hts _ hst, trivial⟩ hpre rfl (by simpa using hal) hl.1 hstack (lv_room (by rw [jm_sum_map]; exact h8)) hd ⟨by omega, by omega⟩
        refine jm_call (r := r') hrun hS (fun H1 locs1 hP1 hS1 => ?_)
        have hgo := hk'.1 H1 locs1 lsA (cells + (r'.2.1.1 - t.1.1)) (slots + (r'.2.1.2.1 - t.1.2.1)) hP1 hS1 hl (by omega) (by omega)
        rw [jm_tl] at hgo
        exact hgo
      · cases h
  | invokespecial i =>
    obtain ⟨rfl, hw7, hwn⟩ := hi
    dsimp only [jm_step] at h
    split at h
    · split at h
      · rename_i a st1
        obtain ⟨h0, h⟩ := jm_if_some h
        simp only [Bool.and_eq_true, Nat.ble_eq, Nat.blt_eq] at h0
        have hroom := lv_room (m := m) (pc := pc) (ls := lsA) (rest := .ref (jm_ad E a) :: st1.map (jm_mv E)) (st := st1.map (jm_mv E)) (by rw [jm_sum_map]; exact h0.2)
        exact W.objInit (a := jm_ad E a) (rest := st1.map (jm_mv E)) (g := F0 m pc lsA (.ref (jm_ad E a) :: st1.map (jm_mv E))) hx hb hown (hts _ (hw7 rfl)) (hts _ jm_w_o1) (hts _ jm_w_o2) rfl (by rw [hml]; exact hl.1) rfl hd (by omega) (Nat.le_trans (Nat.add_le_add_right hroom 12) (by omega)) ((hk _ _ _ _ h).1 H locs lsA cells slots hP hS hl hc hs)
      · cases h
    · rename_i hw
      obtain ⟨hv0, hne, hin, hst, hlk, hrt, hmk⟩ := hwn hw
      split at h
      · rename_i a as heq
        obtain ⟨h0, h⟩ := jm_if_some h
        simp only [Bool.and_eq_true, Nat.ble_eq] at h0
        obtain ⟨h8, hal⟩ := h0
        have hal := Nat.eq_of_beq_eq_true hal
        split at h
        · rename_i r' hC'
          obtain ⟨d', rfl, m1, m2, hM⟩ := hC _ _ _ _ _ hmk hne hC'
          obtain ⟨k1, k2, k3, k4, k5, k6, k7⟩ := hmk
          have hk' := hk _ _ _ _ h
          refine jm_sz hz hP hS hc (fun hsz => ?_)
          have est : st = as.reverse ++ .ref a :: st.drop v := jm_st_eq heq
          have hstack : st.map (jm_mv E) = (as.map (jm_mv E)).reverse ++ .ref (jm_ad E a) :: (st.drop v).map (jm_mv E) := by
            conv => lhs; rw [est]
            simp [jm_mv]
          have hpre : PreS s H (va_Pc ((.ref a :: as : List Value).map (jm_mv E)) (jm_pre E t)) (.ref (jm_ad E a) :: as.map (jm_mv E)) := ⟨jm_blind E t _, fun U hU hW => ⟨rfl, by rw [hU]; exact hsz, by rw [hU]; exact hP, va_K.moved hW.alike hK, hN.warm hW⟩⟩
          have hrm : (jm_rm d' (r'.2.1.1 - t.1.1) (r'.2.1.2.1 - t.1.2.1)).frames + 1 ≤ R.frames ∧ 8 + ((G u).1 + 11) + (jm_rm d' (r'.2.1.1 - t.1.1) (r'.2.1.2.1 - t.1.2.1)).locals ≤ R.locals := ⟨by show d' + 1 ≤ _; omega, by show 8 + _ + 64 * d' ≤ _; omega⟩
          have hM : Met l (nm u) (Jvm.Cond.code (nm u) (cd u) (G u).1 none :: jm_tb) (jm_rm d' (r'.2.1.1 - t.1.1) (r'.2.1.2.1 - t.1.2.1)) (va_Pc ((.ref a :: as : List Value).map (jm_mv E)) (jm_pre E t)) (jm_Q E r') (r'.2.1.1 - t.1.1) (r'.2.1.2.1 - t.1.2.1) (jm_A E) := by
            rw [← hrt]; exact hM
          have hG : GoodIn jm_tb (Jvm.Cond.code (nm u) (cd u) (G u).1 none :: jm_tb) := by
            rw [← hrt]; exact jm_good G nm cd rt u k1
          have hrun : va_Run p l e R s m args below meth c H locs cells slots (r'.2.1.1 - t.1.1) (r'.2.1.2.1 - t.1.2.1) (F0 m pc lsA (st.map (jm_mv E))) ((st.drop v).map (jm_mv E)) (jm_Q E r' (Value.ref (jm_ad E a) :: as.map (jm_mv E)).toArray) (jm_A E) := by
            rcases hlk with hlk | hlk
            · exact va_runI (own := (nm y).cls) (Ts := jm_tb) (n := v - 1) (bytes := cd u) (maxL := (G u).1) (b := jm_ad E a) (As := as.map (jm_mv E)) ⟨hx, hb, hml, hown, hts⟩ hM ⟨callB_of (v - 1) hts hG rfl rfl rfl (hts _ k2) (hts _ hlk) ⟨k3.1, k3.2, k5⟩ hrm, hin, hts _ hst⟩ hpre rfl (by simp [hal]) hl.1 hstack (lv_room (by rw [jm_sum_map]; exact h8)) hd ⟨by omega, by omega⟩
            · exact va_runIN (own := (nm y).cls) (host := RX7) (Ts := jm_tb) (n := v - 1) (bytes := cd u) (maxL := (G u).1) (b := jm_ad E a) (As := as.map (jm_mv E)) ⟨hx, hb, hml, hown, hts⟩ hM ⟨va_cnB (v - 1) hts hG rfl rfl rfl (hN.1 _ hlk) (hts _ k2) ⟨k3.1, k3.2, k5⟩ hrm, hin, hts _ hst⟩ hpre rfl (by simp [hal]) hl.1 hstack (lv_room (by rw [jm_sum_map]; exact h8)) hd ⟨by omega, by omega⟩
          refine jm_call (r := r') hrun hS (fun H1 locs1 hP1 hS1 => ?_)
          have hgo := hk'.1 H1 locs1 lsA (cells + (r'.2.1.1 - t.1.1)) (slots + (r'.2.1.2.1 - t.1.2.1)) hP1 hS1 hl (by omega) (by omega)
          rw [jm_tl] at hgo
          exact hgo
        · cases h
      · cases h
  | _ => cases h
end JO
end
section
/-! the small machine never unmakes a cell -/
theorem jm_bor {b : Bool} {A B : Option jm_R} {r : jm_R} (h : (bif b then A else B) = some r) : A = some r ∨ B = some r := by
  cases b
  · exact Or.inr h
  · exact Or.inl h
theorem jm_swo {k : Nat → Option jm_R} {x : Int32} {d : Nat} {r : jm_R} : ∀ {ts : List (Int32 × Nat)}, jm_sw k x d ts = some r → ∃ q, k q = some r
  | [], h => ⟨d, h⟩
  | (c, q) :: ts, h => by
    rcases jm_bor (show (bif decide (x = c) then k q else jm_sw k x d ts) = some r from h) with h | h
    · exact ⟨q, h⟩
    · exact jm_swo h
set_option maxHeartbeats 4000000 in
theorem jm_smono {op : Instr} {u v w : Nat} {cc : Int32} {cl : Int64} {ts : List (Int32 × Nat)} {d ret pc : Nat} {ls : jm_V} {st : List Value} {t : jm_T} {r : jm_R} {k : Nat → jm_V → List Value → jm_T → Option jm_R} {C : Nat → List Value → jm_T → Option jm_R}
    (hk : ∀ pc' ls' st' t', k pc' ls' st' t' = some r → t'.1.1 ≤ r.2.1.1 ∧ t'.1.2.1 ≤ r.2.1.2.1)
    (hC : ∀ u' as t' r', C u' as t' = some r' → t'.1.1 ≤ r'.2.1.1 ∧ t'.1.2.1 ≤ r'.2.1.2.1)
    (h : jm_step op u v w cc cl ts d ret pc ls st t k C = some r) : t.1.1 ≤ r.2.1.1 ∧ t.1.2.1 ≤ r.2.1.2.1 := by
  cases op with
  | new i =>
    have h2 := hk _ _ _ _ (show k (pc + 3) ls (.ref (t.1.1 + 1) :: st) (jm_nw t u 0 (jm_nf u)) = some r from h)
    exact ⟨Nat.le_trans (Nat.le_add_right _ _) h2.1, Nat.le_trans (Nat.le_add_right _ _) h2.2⟩
  | newarray a =>
    dsimp only [jm_step] at h
    split at h
    · have h2 := hk _ _ _ _ (jm_if_some h).2
      exact ⟨Nat.le_trans (Nat.le_add_right _ _) h2.1, Nat.le_trans (Nat.le_add_right _ _) h2.2⟩
    · cases h
  | anewarray i =>
    dsimp only [jm_step] at h
    split at h
    · have h2 := hk _ _ _ _ (jm_if_some h).2
      exact ⟨Nat.le_trans (Nat.le_add_right _ _) h2.1, Nat.le_trans (Nat.le_add_right _ _) h2.2⟩
    · cases h
  | ifCond q o =>
    dsimp only [jm_step] at h
    split at h
    · rcases jm_bor h with h | h <;> exact hk _ _ _ _ h
    · cases h
  | if_icmp q o =>
    dsimp only [jm_step] at h
    split at h
    · rcases jm_bor h with h | h <;> exact hk _ _ _ _ h
    · cases h
  | tableswitch a b e f =>
    dsimp only [jm_step] at h
    split at h
    · obtain ⟨q, h⟩ := jm_swo h
      exact hk _ _ _ _ h
    · cases h
  | lookupswitch a b =>
    dsimp only [jm_step] at h
    split at h
    · obtain ⟨q, h⟩ := jm_swo h
      exact hk _ _ _ _ h
    · cases h
  | getfield i =>
    dsimp only [jm_step] at h
    split at h
    · have h := (jm_if_some h).2
      split at h
      · split at h
        · exact hk _ _ _ _ h
        · cases h
      · exact hk _ _ _ _ h
      · exact hk _ _ _ _ h
    · cases h
  | putfield i =>
    dsimp only [jm_step] at h
    split at h
    · split at h
      · have h2 := hk _ _ _ _ (jm_if_some h).2; exact h2
      · cases h
    · split at h
      · have h2 := hk _ _ _ _ (jm_if_some h).2; exact h2
      · cases h
    · split at h
      · have h2 := hk _ _ _ _ (jm_if_some h).2; exact h2
      · cases h
    · split at h
      · have h2 := hk _ _ _ _ (jm_if_some h).2; exact h2
      · cases h
    · cases h
  | aastore =>
    dsimp only [jm_step] at h
    split at h
    · have h2 := hk _ _ _ _ (jm_if_some h).2; exact h2
    · cases h
  | iastore =>
    dsimp only [jm_step] at h
    split at h
    · have h2 := hk _ _ _ _ (jm_if_some h).2; exact h2
    · cases h
  | bastore =>
    dsimp only [jm_step] at h
    split at h
    · have h2 := hk _ _ _ _ (jm_if_some h).2; exact h2
    · cases h
  | aaload =>
    dsimp only [jm_step] at h
    split at h
    · have h := (jm_if_some h).2
      split at h
      · exact hk _ _ _ _ h
      · cases h
    · cases h
  | invokevirtual i =>
    dsimp only [jm_step] at h
    split at h
    · have h := (jm_if_some h).2
      split at h
      · rename_i r' e
        have h1 := hC _ _ _ _ e
        have h2 := hk _ _ _ _ h
        exact ⟨Nat.le_trans h1.1 h2.1, Nat.le_trans h1.2 h2.2⟩
      · cases h
    · cases h
  | invokestatic i =>
    dsimp only [jm_step] at h
    split at h
    · split at h
      · have h2 := hk _ _ _ _ (jm_if_some h).2; exact h2
      · cases h
    · split at h
      · have h2 := hk _ _ _ _ (jm_if_some h).2; exact h2
      · cases h
    · split at h
      · have h2 := hk _ _ _ _ (jm_if_some h).2; exact h2
      · cases h
    · have h := (jm_if_some h).2
      split at h
      · rename_i r' e
        have h1 := hC _ _ _ _ e
        have h2 := hk _ _ _ _ h
        exact ⟨Nat.le_trans h1.1 h2.1, Nat.le_trans h1.2 h2.2⟩
      · cases h
  | invokespecial i =>
    dsimp only [jm_step] at h
    split at h
    · split at h
      · exact hk _ _ _ _ (jm_if_some h).2
      · cases h
    · split at h
      · have h := (jm_if_some h).2
        split at h
        · rename_i r' e
          have h1 := hC _ _ _ _ e
          have h2 := hk _ _ _ _ h
          exact ⟨Nat.le_trans h1.1 h2.1, Nat.le_trans h1.2 h2.2⟩
        · cases h
      · cases h
  | ireturn =>
    dsimp only [jm_step] at h
    split at h
    · split at h
      · cases h; exact ⟨Nat.le_refl _, Nat.le_refl _⟩
      · have h := (jm_if_some h).2
        cases h; exact ⟨Nat.le_refl _, Nat.le_refl _⟩
      · cases h
    · cases h
  | areturn =>
    dsimp only [jm_step] at h
    split at h
    · split at h
      · cases h; exact ⟨Nat.le_refl _, Nat.le_refl _⟩
      · cases h
    · cases h
  | return_ =>
    dsimp only [jm_step] at h
    split at h
    · split at h
      · cases h; exact ⟨Nat.le_refl _, Nat.le_refl _⟩
      · cases h
    · cases h
  | _ => first
    | (cases h; done)
    | exact hk _ _ _ _ h
    | (dsimp only [jm_step] at h
       split at h
       · first
         | exact hk _ _ _ _ h
         | exact hk _ _ _ _ (jm_if_some h).2
       · cases h)
theorem jm_mono {G : Nat → jm_M} : ∀ (n d : Nat) (Y : jm_M) (pc : Nat) (ls : jm_V) (st : List Value) (t : jm_T) (r : jm_R), jm_run G n d Y pc ls st t = some r → t.1.1 ≤ r.2.1.1 ∧ t.1.2.1 ≤ r.2.1.2.1
  | 0, _, _, _, _, _, _, _, h => by cases h
  | n + 1, d, Y, pc, ls, st, t, r, h => by
    unfold jm_run at h
    split at h
    · cases h
    · refine jm_smono (fun pc' ls' st' t' h' => jm_mono n d Y pc' ls' st' t' r h') (fun u as t' r' h' => ?_) h
      split at h'
      · cases h'
      · exact jm_mono n _ _ _ _ _ _ _ (jm_if_some h').2
/-! soundness of a whole run -/
def jm_Ok (G : Nat → jm_M) (nm : Nat → MethodName) (cd : Nat → ByteArray) (rt : Nat → Option FieldType) (lw : Nat) : Prop :=
  ∀ (y pc : Nat) (op : Instr) (len u v w : Nat) (c : Int32) (cl : Int64) (ts : List (Int32 × Nat)) (kl : List Nat), jm_at (G y).2.2 pc = some (op, len, u, v, w, c, cl, ts, kl) → decode (cd y) pc = .ok (op, len) ∧ jm_iok G nm cd rt lw y pc op len u v w c cl ts
def jm_Snd (l : Launch) (E : jm_Ev) (G : Nat → jm_M) (nm : Nat → MethodName) (cd : Nat → ByteArray) (lw n : Nat) : Prop :=
  ∀ (y d pc : Nat) (ls : jm_V) (st : List Value) (t : jm_T) (r : jm_R), jm_run G n d (G y) pc ls st t = some r →
    ∀ {p : Program} {e : Env} {R : Room} {s : State} {m : MethodId} {args : Array Value} {below : List Frame} {meth : Method} {c : Code} {Q : State → Prop} {n0 s0 : Nat},
      jm_Cx E G nm cd lw y n0 p s m args meth c → (d ≤ R.frames ∧ 64 * d ≤ R.locals ∧ r.2.1.1 ≤ R.cells + n0 ∧ r.2.1.2.1 ≤ R.slots + s0) →
      (∀ (pc : Nat) (op : Instr) (v : Option Value) (tt : jm_T), (v, tt) = r → decode (cd y) pc = .ok (op, 1) → jm_rt (G y).2.1 op v → ∀ (lsA : Array Slot) (H : Heap) (locs : List Loc) (cells slots : Nat), jm_P E tt H → va_S (jm_A E) s.heap H locs → cells + n0 = tt.1.1 → slots + s0 = tt.1.2.1 → W p l e R s m args below meth c H locs cells slots Q (F0 m pc lsA ((v.map (jm_mv E)).toList))) →
      jm_Wk E p l e R s m args below meth c Q (G y).1 n0 s0 pc ls st t
theorem jm_rk0 {rt : Option FieldType} (h : jm_rk 0 rt = true) : rt = none := by
  cases rt with
  | none => rfl
  | some ty => simp [jm_rk] at h
theorem jm_rk1 {rt : Option FieldType} (h : jm_rk 1 rt = true) : rt = some .int := by
  cases rt with
  | none => simp [jm_rk] at h
  | some ty => cases ty <;> first | rfl | (simp [jm_rk] at h; done)
theorem jm_rk2 {rt : Option FieldType} (h : jm_rk 2 rt = true) : rt = some .boolean := by
  cases rt with
  | none => simp [jm_rk] at h
  | some ty => cases ty <;> first | rfl | (simp [jm_rk] at h; done)
theorem jm_rk3 {rt : Option FieldType} (h : jm_rk 3 rt = true) : ∃ C, rt = some (.object C) := by
  cases rt with
  | none => simp [jm_rk] at h
  | some ty => cases ty <;> first | exact ⟨_, rfl⟩ | (simp [jm_rk] at h; done)
theorem jm_met {l : Launch} {E : jm_Ev} {G : Nat → jm_M} {nm : Nat → MethodName} {cd : Nat → ByteArray} {rt : Nat → Option FieldType} {lw n u k d : Nat} {as : List Value} {t : jm_T} {r : jm_R} (IH : jm_Snd l E G nm cd lw n) (hmk : jm_mk G nm cd rt u k) (hne : u ≠ lw)
    (h : jm_run G n d (G u) 0 (jm_en (G u).1 as) [] t = some r) (hlen : (lg_sl as).length ≤ (G u).1) : jm_Ct l E G nm cd rt u d as t r := by
  obtain ⟨k1, k2, k3, k4, k5, k6, k7⟩ := hmk
  have hm := jm_mono _ _ _ _ _ _ _ _ h
  refine Met.ofW (cc := cd u) (maxL := (G u).1) (ret := rt u) k4 rfl ?_
  intro p e s m args below meth c s₁ B hml hv
  obtain ⟨rfl, hsz, hP, hK, hN⟩ := hv
  have hts := atoms_spec (ws := jm_wm G nm cd rt u) B.pre
  have hlocks := B.notSynchronized
  have hr := B.returns
  rw [lg_entry_eq]
  refine IH u d 0 _ [] t r h (n0 := t.1.1) (s0 := t.1.2.1) ⟨B.exec, B.bytes, hml, findClass_of_methodNamed B.named, fun w hw => hts w (List.mem_cons_of_mem _ hw), hK, hN, hsz, fun hq => (name_of_methodNamed B.named B.method).1.trans hq, fun q => absurd q hne⟩ ⟨Nat.le_refl _, Nat.le_refl _, by show _ ≤ r.2.1.1 - t.1.1 + t.1.1; omega, by show _ ≤ r.2.1.2.1 - t.1.2.1 + t.1.2.1; omega⟩ ?_ s.heap [] _ 0 0 hP va_S.rf (jm_L_entry E as hlen) (Nat.zero_add _) (Nat.zero_add _)
  intro pc op v tt hvr hdc hrt lsA H locs cells slots hP' hS' hc' hs'
  subst hvr
  have hq : ∀ o : State, o.heap = H → s.WarmedH o.vm → jm_Q E (v, tt) (as.map (jm_mv E)).toArray s (.returned (v.map (jm_mv E))) o := fun o ho _ => ⟨rfl, by rw [ho]; exact hP', hS'.F ho⟩
  have e1 : tt.1.1 - t.1.1 = cells := by omega
  have e2 : tt.1.2.1 - t.1.2.1 = slots := by omega
  show W p l e _ s m _ below meth c H locs cells slots (MQ below (jm_Q E (v, tt)) (as.map (jm_mv E)).toArray s (tt.1.1 - t.1.1) (tt.1.2.1 - t.1.2.1) (jm_A E)) _
  rw [e1, e2]
  rcases hrt with ⟨rfl, x, rfl, hkk⟩ | ⟨rfl, hkk, a, rfl⟩ | ⟨rfl, hkk, rfl⟩
  · rcases hkk with hkk | ⟨hkk, hx⟩
    · have hri : rt u = some .int := jm_rk1 (by rw [hkk] at k6; exact k6)
      exact W.iret B.exec B.bytes (by rw [hr, hri]) hq hS'.2.2 hdc
    · have hri : rt u = some .boolean := jm_rk2 (by rw [hkk] at k6; exact k6)
      exact W.zret (ty := .boolean) B.exec B.bytes (by rw [hr, hri]) (by rcases hx with rfl | rfl <;> rfl) hq hS'.2.2 hdc
  · obtain ⟨C, hri⟩ : ∃ C, rt u = some (.object C) := jm_rk3 (by rw [hkk] at k6; exact k6)
    exact W.aret (rt := .object C) B.exec B.bytes (by rw [hr, hri]) (Or.inl ⟨C, rfl⟩) (Or.inr ⟨_, rfl⟩) hq hS'.2.2 hdc
  · have hri : rt u = none := jm_rk0 (by rw [hkk] at k6; exact k6)
    exact W.vret B.exec B.bytes (by rw [hr, hri]) hq hS'.2.2 hdc
theorem jm_snd {l : Launch} {E : jm_Ev} {G : Nat → jm_M} {nm : Nat → MethodName} {cd : Nat → ByteArray} {rt : Nat → Option FieldType} {lw : Nat} (hok : jm_Ok G nm cd rt lw) : ∀ n, jm_Snd l E G nm cd lw n
  | 0 => fun _ _ _ _ _ _ _ h => by cases h
  | n + 1 => by
    intro y d pc ls st t r h p e R s m args below meth c Q n0 s0 X hR hret
    have IH := jm_snd (l := l) (E := E) hok n
    unfold jm_run at h
    split at h
    · cases h
    · rename_i op len u v w cc cl ts kl hat
      obtain ⟨hd, hi⟩ := hok y pc op len u v w cc cl ts kl hat
      have hW := jm_one X hd hi hR (fun pc' ls' st' t' h' => ⟨IH y d pc' ls' st' t' r h' X hR hret, jm_mono _ _ _ _ _ _ _ _ h'⟩) (fun u' k as t' r' hmk hne h' => by
        split at h'
        · cases h'
        · rename_i d'
          obtain ⟨hle, h'⟩ := jm_if_some h'
          have hm := jm_mono _ _ _ _ _ _ _ _ h'
          exact ⟨d', rfl, hm.1, hm.2, jm_met IH hmk hne h' (Nat.le_of_ble_eq_true hle)⟩) hret h
      intro H locs lsA cells slots hP hS hl hc hs
      exact hW H locs lsA cells slots hP hS hl.kl hc hs
end
section
/-! the program as the small machine reads it: printed by wip/whole/gen/tables.py -/
def tbX0_init : List (Nat × jm_I) := [
  (0, (.aload_n 0, 1, 0, 0, 0, 0, 0, [], [])),
  (1, (.invokespecial 3, 3, 0, 0, 7, 0, 0, [], [])),
  (4, (.aload_n 0, 1, 0, 0, 0, 0, 0, [], [])),
  (5, (.iconst 0, 1, 0, 0, 0, 0, 0, [], [])),
  (6, (.putfield 9, 3, 0, 0, 0, 0, 0, [], [])),
  (9, (.aload_n 0, 1, 0, 0, 0, 0, 0, [], [])),
  (10, (.iconst 0, 1, 0, 0, 0, 0, 0, [], [])),
  (11, (.putfield 15, 3, 0, 1, 0, 0, 0, [], [])),
  (14, (.aload_n 0, 1, 0, 0, 0, 0, 0, [], [])),
  (15, (.bipush 24, 2, 0, 0, 0, 24, 0, [], [])),
  (17, (.newarray .int, 2, 9, 0, 0, 0, 0, [], [])),
  (19, (.putfield 18, 3, 0, 2, 0, 0, 0, [], [])),
  (22, (.aload_n 0, 1, 0, 0, 0, 0, 0, [], [])),
  (23, (.bipush 24, 2, 0, 0, 0, 24, 0, [], [])),
  (25, (.newarray .int, 2, 9, 0, 0, 0, 0, [], [])),
  (27, (.putfield 22, 3, 0, 3, 0, 0, 0, [], [])),
  (30, (.return_, 1, 0, 0, 0, 0, 0, [], []))
  ]
def tbX0_link : List (Nat × jm_I) := [
  (0, (.aload_n 0, 1, 0, 0, 0, 0, 0, [], [])),
  (1, (.iconst 0, 1, 0, 0, 0, 0, 0, [], [])),
  (2, (.putfield 9, 3, 0, 0, 0, 0, 0, [], [])),
  (5, (.aload_n 0, 1, 0, 0, 0, 0, 0, [], [])),
  (6, (.getfield 18, 3, 0, 2, 0, 0, 0, [], [])),
  (9, (.iconst 0, 1, 0, 0, 0, 0, 0, [], [])),
  (10, (.invokestatic 25, 3, 165, 2, 0, 0, 0, [], [])),
  (13, (.iconst 0, 1, 0, 0, 0, 0, 0, [], [])),
  (14, (.istore 4, 2, 4, 0, 0, 0, 0, [], [])),
  (16, (.iload 4, 2, 4, 0, 0, 0, 0, [], [])),
  (18, (.bipush 24, 2, 0, 0, 0, 24, 0, [], [])),
  (20, (.if_icmp .ge 30, 3, 50, 0, 0, 0, 0, [], [])),
  (23, (.aload_n 1, 1, 1, 0, 0, 0, 0, [], [])),
  (24, (.iload_n 2, 1, 2, 0, 0, 0, 0, [], [])),
  (25, (.iload 4, 2, 4, 0, 0, 0, 0, [], [])),
  (27, (.invokevirtual 31, 3, 14, 3, 1, 0, 0, [], [])),
  (30, (.ifCond .eq 14, 3, 44, 0, 0, 0, 0, [], [])),
  (33, (.aload_n 0, 1, 0, 0, 0, 0, 0, [], [])),
  (34, (.aload_n 1, 1, 1, 0, 0, 0, 0, [], [])),
  (35, (.iload_n 2, 1, 2, 0, 0, 0, 0, [], [])),
  (36, (.iload 4, 2, 4, 0, 0, 0, 0, [], [])),
  (38, (.iload_n 3, 1, 3, 0, 0, 0, 0, [], [])),
  (39, (.iload_n 3, 1, 3, 0, 0, 0, 0, [], [])),
  (40, (.imul, 1, 0, 0, 0, 0, 0, [], [])),
  (41, (.invokevirtual 37, 3, 2, 5, 0, 0, 0, [], [])),
  (44, (.iinc 4 1, 3, 4, 0, 0, 1, 0, [], [])),
  (47, (.goto (-31), 3, 16, 0, 0, 0, 0, [], [])),
  (50, (.return_, 1, 0, 0, 0, 0, 0, [], [0, 1, 2, 3, 4]))
  ]
def tbX0_linkToLesser : List (Nat × jm_I) := [
  (0, (.aload_n 1, 1, 1, 0, 0, 0, 0, [], [])),
  (1, (.iload_n 2, 1, 2, 0, 0, 0, 0, [], [])),
  (2, (.iload_n 3, 1, 3, 0, 0, 0, 0, [], [])),
  (3, (.invokevirtual 41, 3, 15, 3, 1, 0, 0, [], [])),
  (6, (.istore 5, 2, 5, 0, 0, 0, 0, [], [])),
  (8, (.aload_n 1, 1, 1, 0, 0, 0, 0, [], [])),
  (9, (.iload_n 2, 1, 2, 0, 0, 0, 0, [], [])),
  (10, (.iload_n 3, 1, 3, 0, 0, 0, 0, [], [])),
  (11, (.invokevirtual 45, 3, 16, 3, 1, 0, 0, [], [])),
  (14, (.istore 6, 2, 6, 0, 0, 0, 0, [], [])),
  (16, (.iconst 0, 1, 0, 0, 0, 0, 0, [], [])),
  (17, (.istore 7, 2, 7, 0, 0, 0, 0, [], [])),
  (19, (.iload 7, 2, 7, 0, 0, 0, 0, [], [])),
  (21, (.iload_n 3, 1, 3, 0, 0, 0, 0, [], [])),
  (22, (.if_icmp .ge 71, 3, 93, 0, 0, 0, 0, [], [])),
  (25, (.aload_n 1, 1, 1, 0, 0, 0, 0, [], [])),
  (26, (.iload_n 2, 1, 2, 0, 0, 0, 0, [], [])),
  (27, (.iload 7, 2, 7, 0, 0, 0, 0, [], [])),
  (29, (.invokevirtual 31, 3, 14, 3, 1, 0, 0, [], [])),
  (32, (.ifCond .eq 55, 3, 87, 0, 0, 0, 0, [], [])),
  (35, (.aload_n 1, 1, 1, 0, 0, 0, 0, [], [])),
  (36, (.iload_n 2, 1, 2, 0, 0, 0, 0, [], [])),
  (37, (.iload 7, 2, 7, 0, 0, 0, 0, [], [])),
  (39, (.iload 5, 2, 5, 0, 0, 0, 0, [], [])),
  (41, (.iload 6, 2, 6, 0, 0, 0, 0, [], [])),
  (43, (.invokevirtual 48, 3, 17, 5, 1, 0, 0, [], [])),
  (46, (.iload 4, 2, 4, 0, 0, 0, 0, [], [])),
  (48, (.if_icmp .gt 39, 3, 87, 0, 0, 0, 0, [], [])),
  (51, (.aload_n 0, 1, 0, 0, 0, 0, 0, [], [])),
  (52, (.getfield 18, 3, 0, 2, 0, 0, 0, [], [])),
  (55, (.iload_n 3, 1, 3, 0, 0, 0, 0, [], [])),
  (56, (.dup2, 1, 0, 0, 0, 0, 0, [], [])),
  (57, (.iaload, 1, 0, 0, 0, 0, 0, [], [])),
  (58, (.iconst 1, 1, 0, 0, 0, 1, 0, [], [])),
  (59, (.iload 7, 2, 7, 0, 0, 0, 0, [], [])),
  (61, (.ishl, 1, 0, 0, 0, 0, 0, [], [])),
  (62, (.ior, 1, 0, 0, 0, 0, 0, [], [])),
  (63, (.iastore, 1, 0, 0, 0, 0, 0, [], [])),
  (64, (.aload_n 0, 1, 0, 0, 0, 0, 0, [], [])),
  (65, (.getfield 18, 3, 0, 2, 0, 0, 0, [], [])),
  (68, (.iload 7, 2, 7, 0, 0, 0, 0, [], [])),
  (70, (.dup2, 1, 0, 0, 0, 0, 0, [], [])),
  (71, (.iaload, 1, 0, 0, 0, 0, 0, [], [])),
  (72, (.iconst 1, 1, 0, 0, 0, 1, 0, [], [])),
  (73, (.iload_n 3, 1, 3, 0, 0, 0, 0, [], [])),
  (74, (.ishl, 1, 0, 0, 0, 0, 0, [], [])),
  (75, (.ior, 1, 0, 0, 0, 0, 0, [], [])),
  (76, (.iastore, 1, 0, 0, 0, 0, 0, [], [])),
  (77, (.aload_n 0, 1, 0, 0, 0, 0, 0, [], [])),
  (78, (.dup, 1, 0, 0, 0, 0, 0, [], [])),
  (79, (.getfield 9, 3, 0, 0, 0, 0, 0, [], [])),
  (82, (.iconst 1, 1, 0, 0, 0, 1, 0, [], [])),
  (83, (.iadd, 1, 0, 0, 0, 0, 0, [], [])),
  (84, (.putfield 9, 3, 0, 0, 0, 0, 0, [], [])),
  (87, (.iinc 7 1, 3, 7, 0, 0, 1, 0, [], [])),
  (90, (.goto (-71), 3, 19, 0, 0, 0, 0, [], [])),
  (93, (.return_, 1, 0, 0, 0, 0, 0, [], [0, 1, 2, 3, 4, 5, 6, 7]))
  ]
def tbX0_gatherClumps : List (Nat × jm_I) := [
  (0, (.aload_n 0, 1, 0, 0, 0, 0, 0, [], [])),
  (1, (.iconst 0, 1, 0, 0, 0, 0, 0, [], [])),
  (2, (.putfield 15, 3, 0, 1, 0, 0, 0, [], [])),
  (5, (.aload_n 0, 1, 0, 0, 0, 0, 0, [], [])),
  (6, (.getfield 22, 3, 0, 3, 0, 0, 0, [], [])),
  (9, (.iconst 0, 1, 0, 0, 0, 0, 0, [], [])),
  (10, (.invokestatic 25, 3, 165, 2, 0, 0, 0, [], [])),
  (13, (.iconst 0, 1, 0, 0, 0, 0, 0, [], [])),
  (14, (.istore_n 2, 1, 2, 0, 0, 0, 0, [], [])),
  (15, (.iload_n 2, 1, 2, 0, 0, 0, 0, [], [])),
  (16, (.bipush 24, 2, 0, 0, 0, 24, 0, [], [])),
  (18, (.if_icmp .ge 46, 3, 64, 0, 0, 0, 0, [], [])),
  (21, (.iload_n 1, 1, 1, 0, 0, 0, 0, [], [])),
  (22, (.iload_n 2, 1, 2, 0, 0, 0, 0, [], [])),
  (23, (.invokestatic 52, 3, 87, 2, 0, 0, 0, [], [])),
  (26, (.ifCond .eq 32, 3, 58, 0, 0, 0, 0, [], [])),
  (29, (.aload_n 0, 1, 0, 0, 0, 0, 0, [], [])),
  (30, (.getfield 22, 3, 0, 3, 0, 0, 0, [], [])),
  (33, (.iload_n 2, 1, 2, 0, 0, 0, 0, [], [])),
  (34, (.iaload, 1, 0, 0, 0, 0, 0, [], [])),
  (35, (.ifCond .ne 23, 3, 58, 0, 0, 0, 0, [], [])),
  (38, (.aload_n 0, 1, 0, 0, 0, 0, 0, [], [])),
  (39, (.aload_n 0, 1, 0, 0, 0, 0, 0, [], [])),
  (40, (.iload_n 2, 1, 2, 0, 0, 0, 0, [], [])),
  (41, (.iload_n 1, 1, 1, 0, 0, 0, 0, [], [])),
  (42, (.invokevirtual 55, 3, 5, 3, 0, 0, 0, [], [])),
  (45, (.invokevirtual 58, 3, 4, 2, 0, 0, 0, [], [])),
  (48, (.aload_n 0, 1, 0, 0, 0, 0, 0, [], [])),
  (49, (.dup, 1, 0, 0, 0, 0, 0, [], [])),
  (50, (.getfield 15, 3, 0, 1, 0, 0, 0, [], [])),
  (53, (.iconst 1, 1, 0, 0, 0, 1, 0, [], [])),
  (54, (.iadd, 1, 0, 0, 0, 0, 0, [], [])),
  (55, (.putfield 15, 3, 0, 1, 0, 0, 0, [], [])),
  (58, (.iinc 2 1, 3, 2, 0, 0, 1, 0, [], [])),
  (61, (.goto (-46), 3, 15, 0, 0, 0, 0, [], [])),
  (64, (.return_, 1, 0, 0, 0, 0, 0, [], [0, 1, 2]))
  ]
def tbX0_tellMembers : List (Nat × jm_I) := [
  (0, (.iconst 0, 1, 0, 0, 0, 0, 0, [], [])),
  (1, (.istore_n 2, 1, 2, 0, 0, 0, 0, [], [])),
  (2, (.iload_n 2, 1, 2, 0, 0, 0, 0, [], [])),
  (3, (.bipush 24, 2, 0, 0, 0, 24, 0, [], [])),
  (5, (.if_icmp .ge 24, 3, 29, 0, 0, 0, 0, [], [])),
  (8, (.iload_n 1, 1, 1, 0, 0, 0, 0, [], [])),
  (9, (.iload_n 2, 1, 2, 0, 0, 0, 0, [], [])),
  (10, (.invokestatic 52, 3, 87, 2, 0, 0, 0, [], [])),
  (13, (.ifCond .eq 10, 3, 23, 0, 0, 0, 0, [], [])),
  (16, (.aload_n 0, 1, 0, 0, 0, 0, 0, [], [])),
  (17, (.getfield 22, 3, 0, 3, 0, 0, 0, [], [])),
  (20, (.iload_n 2, 1, 2, 0, 0, 0, 0, [], [])),
  (21, (.iload_n 1, 1, 1, 0, 0, 0, 0, [], [])),
  (22, (.iastore, 1, 0, 0, 0, 0, 0, [], [])),
  (23, (.iinc 2 1, 3, 2, 0, 0, 1, 0, [], [])),
  (26, (.goto (-24), 3, 2, 0, 0, 0, 0, [], [])),
  (29, (.return_, 1, 0, 0, 0, 0, 0, [], [0, 1, 2]))
  ]
def tbX0_reachedFrom : List (Nat × jm_I) := [
  (0, (.iconst 1, 1, 0, 0, 0, 1, 0, [], [])),
  (1, (.iload_n 1, 1, 1, 0, 0, 0, 0, [], [])),
  (2, (.ishl, 1, 0, 0, 0, 0, 0, [], [])),
  (3, (.istore_n 3, 1, 3, 0, 0, 0, 0, [], [])),
  (4, (.iload_n 3, 1, 3, 0, 0, 0, 0, [], [])),
  (5, (.istore 4, 2, 4, 0, 0, 0, 0, [], [])),
  (7, (.iconst 0, 1, 0, 0, 0, 0, 0, [], [])),
  (8, (.istore 5, 2, 5, 0, 0, 0, 0, [], [])),
  (10, (.iload 5, 2, 5, 0, 0, 0, 0, [], [1])),
  (12, (.bipush 24, 2, 0, 0, 0, 24, 0, [], [])),
  (14, (.if_icmp .ge 33, 3, 47, 0, 0, 0, 0, [], [])),
  (17, (.iload 4, 2, 4, 0, 0, 0, 0, [], [])),
  (19, (.ifCond .eq 28, 3, 47, 0, 0, 0, 0, [], [])),
  (22, (.aload_n 0, 1, 0, 0, 0, 0, 0, [], [])),
  (23, (.iload 4, 2, 4, 0, 0, 0, 0, [], [])),
  (25, (.invokevirtual 62, 3, 6, 2, 0, 0, 0, [], [])),
  (28, (.iload_n 2, 1, 2, 0, 0, 0, 0, [], [])),
  (29, (.iand, 1, 0, 0, 0, 0, 0, [], [])),
  (30, (.iload_n 3, 1, 3, 0, 0, 0, 0, [], [])),
  (31, (.iconst (-1), 1, 0, 0, 0, (-1), 0, [], [])),
  (32, (.ixor, 1, 0, 0, 0, 0, 0, [], [])),
  (33, (.iand, 1, 0, 0, 0, 0, 0, [], [])),
  (34, (.istore 4, 2, 4, 0, 0, 0, 0, [], [])),
  (36, (.iload_n 3, 1, 3, 0, 0, 0, 0, [], [])),
  (37, (.iload 4, 2, 4, 0, 0, 0, 0, [], [])),
  (39, (.ior, 1, 0, 0, 0, 0, 0, [], [])),
  (40, (.istore_n 3, 1, 3, 0, 0, 0, 0, [], [])),
  (41, (.iinc 5 1, 3, 5, 0, 0, 1, 0, [], [])),
  (44, (.goto (-34), 3, 10, 0, 0, 0, 0, [], [])),
  (47, (.iload_n 3, 1, 3, 0, 0, 0, 0, [], [0, 1, 2, 4, 5])),
  (48, (.ireturn, 1, 0, 0, 0, 0, 0, [], []))
  ]
def tbX0_linkedToAny : List (Nat × jm_I) := [
  (0, (.iconst 0, 1, 0, 0, 0, 0, 0, [], [])),
  (1, (.istore_n 2, 1, 2, 0, 0, 0, 0, [], [])),
  (2, (.iconst 0, 1, 0, 0, 0, 0, 0, [], [])),
  (3, (.istore_n 3, 1, 3, 0, 0, 0, 0, [], [])),
  (4, (.iload_n 3, 1, 3, 0, 0, 0, 0, [], [])),
  (5, (.bipush 24, 2, 0, 0, 0, 24, 0, [], [])),
  (7, (.if_icmp .ge 26, 3, 33, 0, 0, 0, 0, [], [])),
  (10, (.iload_n 1, 1, 1, 0, 0, 0, 0, [], [])),
  (11, (.iload_n 3, 1, 3, 0, 0, 0, 0, [], [])),
  (12, (.invokestatic 52, 3, 87, 2, 0, 0, 0, [], [])),
  (15, (.ifCond .eq 12, 3, 27, 0, 0, 0, 0, [], [])),
  (18, (.iload_n 2, 1, 2, 0, 0, 0, 0, [], [])),
  (19, (.aload_n 0, 1, 0, 0, 0, 0, 0, [], [])),
  (20, (.getfield 18, 3, 0, 2, 0, 0, 0, [], [])),
  (23, (.iload_n 3, 1, 3, 0, 0, 0, 0, [], [])),
  (24, (.iaload, 1, 0, 0, 0, 0, 0, [], [])),
  (25, (.ior, 1, 0, 0, 0, 0, 0, [], [])),
  (26, (.istore_n 2, 1, 2, 0, 0, 0, 0, [], [])),
  (27, (.iinc 3 1, 3, 3, 0, 0, 1, 0, [], [])),
  (30, (.goto (-26), 3, 4, 0, 0, 0, 0, [], [])),
  (33, (.iload_n 2, 1, 2, 0, 0, 0, 0, [], [0, 1, 3])),
  (34, (.ireturn, 1, 0, 0, 0, 0, 0, [], []))
  ]
def tbX0_countSteps : List (Nat × jm_I) := [
  (0, (.aload_n 0, 1, 0, 0, 0, 0, 0, [], [])),
  (1, (.getfield 22, 3, 0, 3, 0, 0, 0, [], [])),
  (4, (.iload_n 1, 1, 1, 0, 0, 0, 0, [], [])),
  (5, (.iaload, 1, 0, 0, 0, 0, 0, [], [])),
  (6, (.iload_n 2, 1, 2, 0, 0, 0, 0, [], [])),
  (7, (.invokestatic 52, 3, 87, 2, 0, 0, 0, [], [])),
  (10, (.ifCond .ne 5, 3, 15, 0, 0, 0, 0, [], [])),
  (13, (.iconst (-1), 1, 0, 0, 0, (-1), 0, [], [])),
  (14, (.ireturn, 1, 0, 0, 0, 0, 0, [], [])),
  (15, (.iconst 1, 1, 0, 0, 0, 1, 0, [], [3, 4])),
  (16, (.iload_n 1, 1, 1, 0, 0, 0, 0, [], [])),
  (17, (.ishl, 1, 0, 0, 0, 0, 0, [], [])),
  (18, (.istore_n 3, 1, 3, 0, 0, 0, 0, [], [])),
  (19, (.iconst 0, 1, 0, 0, 0, 0, 0, [], [])),
  (20, (.istore 4, 2, 4, 0, 0, 0, 0, [], [])),
  (22, (.iload 4, 2, 4, 0, 0, 0, 0, [], [1])),
  (24, (.bipush 24, 2, 0, 0, 0, 24, 0, [], [])),
  (26, (.if_icmp .ge 25, 3, 51, 0, 0, 0, 0, [], [])),
  (29, (.iload_n 3, 1, 3, 0, 0, 0, 0, [], [])),
  (30, (.iload_n 2, 1, 2, 0, 0, 0, 0, [], [])),
  (31, (.invokestatic 52, 3, 87, 2, 0, 0, 0, [], [])),
  (34, (.ifCond .ne 17, 3, 51, 0, 0, 0, 0, [], [])),
  (37, (.iload_n 3, 1, 3, 0, 0, 0, 0, [], [])),
  (38, (.aload_n 0, 1, 0, 0, 0, 0, 0, [], [])),
  (39, (.iload_n 3, 1, 3, 0, 0, 0, 0, [], [])),
  (40, (.invokevirtual 62, 3, 6, 2, 0, 0, 0, [], [])),
  (43, (.ior, 1, 0, 0, 0, 0, 0, [], [])),
  (44, (.istore_n 3, 1, 3, 0, 0, 0, 0, [], [])),
  (45, (.iinc 4 1, 3, 4, 0, 0, 1, 0, [], [])),
  (48, (.goto (-26), 3, 22, 0, 0, 0, 0, [], [])),
  (51, (.iload 4, 2, 4, 0, 0, 0, 0, [], [0, 1, 2, 3])),
  (53, (.ireturn, 1, 0, 0, 0, 0, 0, [], []))
  ]
def tbX0_isHolding : List (Nat × jm_I) := [
  (0, (.aload_n 0, 1, 0, 0, 0, 0, 0, [], [])),
  (1, (.getfield 22, 3, 0, 3, 0, 0, 0, [], [])),
  (4, (.iload_n 1, 1, 1, 0, 0, 0, 0, [], [])),
  (5, (.iaload, 1, 0, 0, 0, 0, 0, [], [])),
  (6, (.iconst 1, 1, 0, 0, 0, 1, 0, [], [])),
  (7, (.iload_n 1, 1, 1, 0, 0, 0, 0, [], [])),
  (8, (.ishl, 1, 0, 0, 0, 0, 0, [], [])),
  (9, (.iconst (-1), 1, 0, 0, 0, (-1), 0, [], [])),
  (10, (.ixor, 1, 0, 0, 0, 0, 0, [], [])),
  (11, (.iand, 1, 0, 0, 0, 0, 0, [], [])),
  (12, (.istore_n 2, 1, 2, 0, 0, 0, 0, [], [])),
  (13, (.iconst 0, 1, 0, 0, 0, 0, 0, [], [])),
  (14, (.istore_n 3, 1, 3, 0, 0, 0, 0, [], [])),
  (15, (.iload_n 3, 1, 3, 0, 0, 0, 0, [], [1])),
  (16, (.bipush 24, 2, 0, 0, 0, 24, 0, [], [])),
  (18, (.if_icmp .ge 33, 3, 51, 0, 0, 0, 0, [], [])),
  (21, (.iload_n 2, 1, 2, 0, 0, 0, 0, [], [])),
  (22, (.iload_n 3, 1, 3, 0, 0, 0, 0, [], [])),
  (23, (.invokestatic 52, 3, 87, 2, 0, 0, 0, [], [])),
  (26, (.ifCond .eq 19, 3, 45, 0, 0, 0, 0, [], [])),
  (29, (.aload_n 0, 1, 0, 0, 0, 0, 0, [], [])),
  (30, (.iload_n 3, 1, 3, 0, 0, 0, 0, [], [])),
  (31, (.iload_n 2, 1, 2, 0, 0, 0, 0, [], [])),
  (32, (.invokevirtual 55, 3, 5, 3, 0, 0, 0, [], [])),
  (35, (.iload_n 2, 1, 2, 0, 0, 0, 0, [], [])),
  (36, (.if_icmp .eq 7, 3, 43, 0, 0, 0, 0, [], [])),
  (39, (.iconst 1, 1, 0, 0, 0, 1, 0, [], [])),
  (40, (.goto 4, 3, 44, 0, 0, 0, 0, [], [])),
  (43, (.iconst 0, 1, 0, 0, 0, 0, 0, [], [0, 1, 2, 3])),
  (44, (.ireturn, 1, 0, 0, 0, 0, 0, [], [0, 1, 2, 3])),
  (45, (.iinc 3 1, 3, 3, 0, 0, 1, 0, [], [1])),
  (48, (.goto (-33), 3, 15, 0, 0, 0, 0, [], [])),
  (51, (.iconst 0, 1, 0, 0, 0, 0, 0, [], [0, 1, 2, 3])),
  (52, (.ireturn, 1, 0, 0, 0, 0, 0, [], []))
  ]
def tbX1_init : List (Nat × jm_I) := [
  (0, (.aload_n 0, 1, 0, 0, 0, 0, 0, [], [])),
  (1, (.invokespecial 3, 3, 0, 0, 7, 0, 0, [], [])),
  (4, (.aload_n 0, 1, 0, 0, 0, 0, 0, [], [])),
  (5, (.iconst 0, 1, 0, 0, 0, 0, 0, [], [])),
  (6, (.putfield 9, 3, 1, 0, 0, 0, 0, [], [])),
  (9, (.aload_n 0, 1, 0, 0, 0, 0, 0, [], [])),
  (10, (.bipush 8, 2, 0, 0, 0, 8, 0, [], [])),
  (12, (.putfield 15, 3, 1, 1, 0, 0, 0, [], [])),
  (15, (.aload_n 0, 1, 0, 0, 0, 0, 0, [], [])),
  (16, (.iconst 2, 1, 0, 0, 0, 2, 0, [], [])),
  (17, (.putfield 18, 3, 1, 2, 0, 0, 0, [], [])),
  (20, (.aload_n 0, 1, 0, 0, 0, 0, 0, [], [])),
  (21, (.bipush 24, 2, 0, 0, 0, 24, 0, [], [])),
  (23, (.newarray .int, 2, 9, 0, 0, 0, 0, [], [])),
  (25, (.putfield 21, 3, 1, 3, 0, 0, 0, [], [])),
  (28, (.aload_n 0, 1, 0, 0, 0, 0, 0, [], [])),
  (29, (.sipush 144, 3, 0, 0, 0, 144, 0, [], [])),
  (32, (.newarray .int, 2, 9, 0, 0, 0, 0, [], [])),
  (34, (.putfield 25, 3, 1, 4, 0, 0, 0, [], [])),
  (37, (.aload_n 0, 1, 0, 0, 0, 0, 0, [], [])),
  (38, (.getfield 21, 3, 1, 3, 0, 0, 0, [], [])),
  (41, (.iconst 1, 1, 0, 0, 0, 1, 0, [], [])),
  (42, (.invokestatic 28, 3, 165, 2, 0, 0, 0, [], [])),
  (45, (.aload_n 0, 1, 0, 0, 0, 0, 0, [], [])),
  (46, (.getfield 25, 3, 1, 4, 0, 0, 0, [], [])),
  (49, (.iconst (-1), 1, 0, 0, 0, (-1), 0, [], [])),
  (50, (.invokestatic 28, 3, 165, 2, 0, 0, 0, [], [])),
  (53, (.return_, 1, 0, 0, 0, 0, 0, [], []))
  ]
def tbX1_become : List (Nat × jm_I) := [
  (0, (.aload_n 0, 1, 0, 0, 0, 0, 0, [], [])),
  (1, (.aload_n 1, 1, 1, 0, 0, 0, 0, [], [])),
  (2, (.getfield 9, 3, 1, 0, 0, 0, 0, [], [])),
  (5, (.putfield 9, 3, 1, 0, 0, 0, 0, [], [])),
  (8, (.aload_n 0, 1, 0, 0, 0, 0, 0, [], [])),
  (9, (.aload_n 1, 1, 1, 0, 0, 0, 0, [], [])),
  (10, (.getfield 15, 3, 1, 1, 0, 0, 0, [], [])),
  (13, (.putfield 15, 3, 1, 1, 0, 0, 0, [], [])),
  (16, (.aload_n 0, 1, 0, 0, 0, 0, 0, [], [])),
  (17, (.aload_n 1, 1, 1, 0, 0, 0, 0, [], [])),
  (18, (.getfield 18, 3, 1, 2, 0, 0, 0, [], [])),
  (21, (.putfield 18, 3, 1, 2, 0, 0, 0, [], [])),
  (24, (.aload_n 1, 1, 1, 0, 0, 0, 0, [], [])),
  (25, (.getfield 21, 3, 1, 3, 0, 0, 0, [], [])),
  (28, (.iconst 0, 1, 0, 0, 0, 0, 0, [], [])),
  (29, (.aload_n 0, 1, 0, 0, 0, 0, 0, [], [])),
  (30, (.getfield 21, 3, 1, 3, 0, 0, 0, [], [])),
  (33, (.iconst 0, 1, 0, 0, 0, 0, 0, [], [])),
  (34, (.bipush 24, 2, 0, 0, 0, 24, 0, [], [])),
  (36, (.invokestatic 34, 3, 0, 0, 7, 0, 0, [], [])),
  (39, (.aload_n 1, 1, 1, 0, 0, 0, 0, [], [])),
  (40, (.getfield 25, 3, 1, 4, 0, 0, 0, [], [])),
  (43, (.iconst 0, 1, 0, 0, 0, 0, 0, [], [])),
  (44, (.aload_n 0, 1, 0, 0, 0, 0, 0, [], [])),
  (45, (.getfield 25, 3, 1, 4, 0, 0, 0, [], [])),
  (48, (.iconst 0, 1, 0, 0, 0, 0, 0, [], [])),
  (49, (.sipush 144, 3, 0, 0, 0, 144, 0, [], [])),
  (52, (.invokestatic 34, 3, 0, 0, 7, 0, 0, [], [])),
  (55, (.return_, 1, 0, 0, 0, 0, 0, [], []))
  ]
def tbX1_addPicture : List (Nat × jm_I) := [
  (0, (.aload_n 0, 1, 0, 0, 0, 0, 0, [], [])),
  (1, (.getfield 9, 3, 1, 0, 0, 0, 0, [], [])),
  (4, (.istore_n 1, 1, 1, 0, 0, 0, 0, [], [])),
  (5, (.iconst 0, 1, 0, 0, 0, 0, 0, [], [])),
  (6, (.istore_n 2, 1, 2, 0, 0, 0, 0, [], [])),
  (7, (.iload_n 2, 1, 2, 0, 0, 0, 0, [], [])),
  (8, (.bipush 24, 2, 0, 0, 0, 24, 0, [], [])),
  (10, (.if_icmp .ge 15, 3, 25, 0, 0, 0, 0, [], [])),
  (13, (.aload_n 0, 1, 0, 0, 0, 0, 0, [], [])),
  (14, (.iload_n 1, 1, 1, 0, 0, 0, 0, [], [])),
  (15, (.iload_n 2, 1, 2, 0, 0, 0, 0, [], [])),
  (16, (.invokevirtual 40, 3, 13, 3, 1, 0, 0, [], [])),
  (19, (.iinc 2 1, 3, 2, 0, 0, 1, 0, [], [])),
  (22, (.goto (-15), 3, 7, 0, 0, 0, 0, [], [])),
  (25, (.aload_n 0, 1, 0, 0, 0, 0, 0, [], [2])),
  (26, (.dup, 1, 0, 0, 0, 0, 0, [], [])),
  (27, (.getfield 9, 3, 1, 0, 0, 0, 0, [], [])),
  (30, (.iconst 1, 1, 0, 0, 0, 1, 0, [], [])),
  (31, (.iadd, 1, 0, 0, 0, 0, 0, [], [])),
  (32, (.putfield 9, 3, 1, 0, 0, 0, 0, [], [])),
  (35, (.iload_n 1, 1, 1, 0, 0, 0, 0, [], [])),
  (36, (.ireturn, 1, 0, 0, 0, 0, 0, [], []))
  ]
def tbX1_lay : List (Nat × jm_I) := [
  (0, (.aload_n 0, 1, 0, 0, 0, 0, 0, [], [])),
  (1, (.getfield 25, 3, 1, 4, 0, 0, 0, [], [])),
  (4, (.iload_n 1, 1, 1, 0, 0, 0, 0, [], [])),
  (5, (.bipush 24, 2, 0, 0, 0, 24, 0, [], [])),
  (7, (.imul, 1, 0, 0, 0, 0, 0, [], [])),
  (8, (.iload_n 2, 1, 2, 0, 0, 0, 0, [], [])),
  (9, (.iadd, 1, 0, 0, 0, 0, 0, [], [])),
  (10, (.iload_n 3, 1, 3, 0, 0, 0, 0, [], [])),
  (11, (.bipush 64, 2, 0, 0, 0, 64, 0, [], [])),
  (13, (.imul, 1, 0, 0, 0, 0, 0, [], [])),
  (14, (.iload 4, 2, 4, 0, 0, 0, 0, [], [])),
  (16, (.iadd, 1, 0, 0, 0, 0, 0, [], [])),
  (17, (.iastore, 1, 0, 0, 0, 0, 0, [], [])),
  (18, (.return_, 1, 0, 0, 0, 0, 0, [], []))
  ]
def tbX1_takeAway : List (Nat × jm_I) := [
  (0, (.aload_n 0, 1, 0, 0, 0, 0, 0, [], [])),
  (1, (.getfield 25, 3, 1, 4, 0, 0, 0, [], [])),
  (4, (.iload_n 1, 1, 1, 0, 0, 0, 0, [], [])),
  (5, (.bipush 24, 2, 0, 0, 0, 24, 0, [], [])),
  (7, (.imul, 1, 0, 0, 0, 0, 0, [], [])),
  (8, (.iload_n 2, 1, 2, 0, 0, 0, 0, [], [])),
  (9, (.iadd, 1, 0, 0, 0, 0, 0, [], [])),
  (10, (.iconst (-1), 1, 0, 0, 0, (-1), 0, [], [])),
  (11, (.iastore, 1, 0, 0, 0, 0, 0, [], [])),
  (12, (.return_, 1, 0, 0, 0, 0, 0, [], []))
  ]
def tbX1_isIn : List (Nat × jm_I) := [
  (0, (.aload_n 0, 1, 0, 0, 0, 0, 0, [], [])),
  (1, (.getfield 25, 3, 1, 4, 0, 0, 0, [], [])),
  (4, (.iload_n 1, 1, 1, 0, 0, 0, 0, [], [])),
  (5, (.bipush 24, 2, 0, 0, 0, 24, 0, [], [])),
  (7, (.imul, 1, 0, 0, 0, 0, 0, [], [])),
  (8, (.iload_n 2, 1, 2, 0, 0, 0, 0, [], [])),
  (9, (.iadd, 1, 0, 0, 0, 0, 0, [], [])),
  (10, (.iaload, 1, 0, 0, 0, 0, 0, [], [])),
  (11, (.iconst (-1), 1, 0, 0, 0, (-1), 0, [], [])),
  (12, (.if_icmp .eq 7, 3, 19, 0, 0, 0, 0, [], [])),
  (15, (.iconst 1, 1, 0, 0, 0, 1, 0, [], [])),
  (16, (.goto 4, 3, 20, 0, 0, 0, 0, [], [])),
  (19, (.iconst 0, 1, 0, 0, 0, 0, 0, [], [0, 1, 2])),
  (20, (.ireturn, 1, 0, 0, 0, 0, 0, [], [0, 1, 2]))
  ]
def tbX1_xOf : List (Nat × jm_I) := [
  (0, (.aload_n 0, 1, 0, 0, 0, 0, 0, [], [])),
  (1, (.getfield 25, 3, 1, 4, 0, 0, 0, [], [])),
  (4, (.iload_n 1, 1, 1, 0, 0, 0, 0, [], [])),
  (5, (.bipush 24, 2, 0, 0, 0, 24, 0, [], [])),
  (7, (.imul, 1, 0, 0, 0, 0, 0, [], [])),
  (8, (.iload_n 2, 1, 2, 0, 0, 0, 0, [], [])),
  (9, (.iadd, 1, 0, 0, 0, 0, 0, [], [])),
  (10, (.iaload, 1, 0, 0, 0, 0, 0, [], [])),
  (11, (.bipush 64, 2, 0, 0, 0, 64, 0, [], [])),
  (13, (.idiv, 1, 0, 0, 0, 0, 0, [], [])),
  (14, (.ireturn, 1, 0, 0, 0, 0, 0, [], []))
  ]
def tbX1_yOf : List (Nat × jm_I) := [
  (0, (.aload_n 0, 1, 0, 0, 0, 0, 0, [], [])),
  (1, (.getfield 25, 3, 1, 4, 0, 0, 0, [], [])),
  (4, (.iload_n 1, 1, 1, 0, 0, 0, 0, [], [])),
  (5, (.bipush 24, 2, 0, 0, 0, 24, 0, [], [])),
  (7, (.imul, 1, 0, 0, 0, 0, 0, [], [])),
  (8, (.iload_n 2, 1, 2, 0, 0, 0, 0, [], [])),
  (9, (.iadd, 1, 0, 0, 0, 0, 0, [], [])),
  (10, (.iaload, 1, 0, 0, 0, 0, 0, [], [])),
  (11, (.bipush 64, 2, 0, 0, 0, 64, 0, [], [])),
  (13, (.irem, 1, 0, 0, 0, 0, 0, [], [])),
  (14, (.ireturn, 1, 0, 0, 0, 0, 0, [], []))
  ]
def tbX1_way : List (Nat × jm_I) := [
  (0, (.aload_n 0, 1, 0, 0, 0, 0, 0, [], [])),
  (1, (.iload_n 1, 1, 1, 0, 0, 0, 0, [], [])),
  (2, (.iload_n 2, 1, 2, 0, 0, 0, 0, [], [])),
  (3, (.invokevirtual 44, 3, 15, 3, 1, 0, 0, [], [])),
  (6, (.iload_n 3, 1, 3, 0, 0, 0, 0, [], [])),
  (7, (.isub, 1, 0, 0, 0, 0, 0, [], [])),
  (8, (.istore 5, 2, 5, 0, 0, 0, 0, [], [])),
  (10, (.aload_n 0, 1, 0, 0, 0, 0, 0, [], [])),
  (11, (.iload_n 1, 1, 1, 0, 0, 0, 0, [], [])),
  (12, (.iload_n 2, 1, 2, 0, 0, 0, 0, [], [])),
  (13, (.invokevirtual 48, 3, 16, 3, 1, 0, 0, [], [])),
  (16, (.iload 4, 2, 4, 0, 0, 0, 0, [], [])),
  (18, (.isub, 1, 0, 0, 0, 0, 0, [], [])),
  (19, (.istore 6, 2, 6, 0, 0, 0, 0, [], [])),
  (21, (.iload 5, 2, 5, 0, 0, 0, 0, [], [])),
  (23, (.iload 5, 2, 5, 0, 0, 0, 0, [], [])),
  (25, (.imul, 1, 0, 0, 0, 0, 0, [], [])),
  (26, (.iload 6, 2, 6, 0, 0, 0, 0, [], [])),
  (28, (.iload 6, 2, 6, 0, 0, 0, 0, [], [])),
  (30, (.imul, 1, 0, 0, 0, 0, 0, [], [])),
  (31, (.iadd, 1, 0, 0, 0, 0, 0, [], [])),
  (32, (.ireturn, 1, 0, 0, 0, 0, 0, [], []))
  ]
def tbX1_grainsOf : List (Nat × jm_I) := [
  (0, (.iconst 0, 1, 0, 0, 0, 0, 0, [], [])),
  (1, (.istore_n 2, 1, 2, 0, 0, 0, 0, [], [])),
  (2, (.iconst 0, 1, 0, 0, 0, 0, 0, [], [])),
  (3, (.istore_n 3, 1, 3, 0, 0, 0, 0, [], [])),
  (4, (.iload_n 3, 1, 3, 0, 0, 0, 0, [], [])),
  (5, (.bipush 24, 2, 0, 0, 0, 24, 0, [], [])),
  (7, (.if_icmp .ge 24, 3, 31, 0, 0, 0, 0, [], [])),
  (10, (.aload_n 0, 1, 0, 0, 0, 0, 0, [], [])),
  (11, (.iload_n 1, 1, 1, 0, 0, 0, 0, [], [])),
  (12, (.iload_n 3, 1, 3, 0, 0, 0, 0, [], [])),
  (13, (.invokevirtual 51, 3, 14, 3, 1, 0, 0, [], [])),
  (16, (.ifCond .eq 9, 3, 25, 0, 0, 0, 0, [], [])),
  (19, (.iload_n 2, 1, 2, 0, 0, 0, 0, [], [])),
  (20, (.iconst 1, 1, 0, 0, 0, 1, 0, [], [])),
  (21, (.iload_n 3, 1, 3, 0, 0, 0, 0, [], [])),
  (22, (.ishl, 1, 0, 0, 0, 0, 0, [], [])),
  (23, (.ior, 1, 0, 0, 0, 0, 0, [], [])),
  (24, (.istore_n 2, 1, 2, 0, 0, 0, 0, [], [])),
  (25, (.iinc 3 1, 3, 3, 0, 0, 1, 0, [], [])),
  (28, (.goto (-24), 3, 4, 0, 0, 0, 0, [], [])),
  (31, (.iload_n 2, 1, 2, 0, 0, 0, 0, [], [0, 1, 3])),
  (32, (.ireturn, 1, 0, 0, 0, 0, 0, [], []))
  ]
def tbX1_near : List (Nat × jm_I) := [
  (0, (.iconst 0, 1, 0, 0, 0, 0, 0, [], [])),
  (1, (.istore 5, 2, 5, 0, 0, 0, 0, [], [])),
  (3, (.iconst 0, 1, 0, 0, 0, 0, 0, [], [])),
  (4, (.istore 6, 2, 6, 0, 0, 0, 0, [], [])),
  (6, (.iload 6, 2, 6, 0, 0, 0, 0, [], [])),
  (8, (.bipush 24, 2, 0, 0, 0, 24, 0, [], [])),
  (10, (.if_icmp .ge 42, 3, 52, 0, 0, 0, 0, [], [])),
  (13, (.aload_n 0, 1, 0, 0, 0, 0, 0, [], [])),
  (14, (.iload_n 1, 1, 1, 0, 0, 0, 0, [], [])),
  (15, (.iload 6, 2, 6, 0, 0, 0, 0, [], [])),
  (17, (.invokevirtual 51, 3, 14, 3, 1, 0, 0, [], [])),
  (20, (.ifCond .eq 26, 3, 46, 0, 0, 0, 0, [], [])),
  (23, (.aload_n 0, 1, 0, 0, 0, 0, 0, [], [])),
  (24, (.iload_n 1, 1, 1, 0, 0, 0, 0, [], [])),
  (25, (.iload 6, 2, 6, 0, 0, 0, 0, [], [])),
  (27, (.iload_n 2, 1, 2, 0, 0, 0, 0, [], [])),
  (28, (.iload_n 3, 1, 3, 0, 0, 0, 0, [], [])),
  (29, (.invokevirtual 55, 3, 17, 5, 1, 0, 0, [], [])),
  (32, (.iload 4, 2, 4, 0, 0, 0, 0, [], [])),
  (34, (.if_icmp .gt 12, 3, 46, 0, 0, 0, 0, [], [])),
  (37, (.iload 5, 2, 5, 0, 0, 0, 0, [], [])),
  (39, (.iconst 1, 1, 0, 0, 0, 1, 0, [], [])),
  (40, (.iload 6, 2, 6, 0, 0, 0, 0, [], [])),
  (42, (.ishl, 1, 0, 0, 0, 0, 0, [], [])),
  (43, (.ior, 1, 0, 0, 0, 0, 0, [], [])),
  (44, (.istore 5, 2, 5, 0, 0, 0, 0, [], [])),
  (46, (.iinc 6 1, 3, 6, 0, 0, 1, 0, [], [])),
  (49, (.goto (-43), 3, 6, 0, 0, 0, 0, [], [])),
  (52, (.iload 5, 2, 5, 0, 0, 0, 0, [], [0, 1, 2, 3, 4, 6])),
  (54, (.ireturn, 1, 0, 0, 0, 0, 0, [], []))
  ]
def tbX1_weightOf : List (Nat × jm_I) := [
  (0, (.iconst 0, 1, 0, 0, 0, 0, 0, [], [])),
  (1, (.istore_n 2, 1, 2, 0, 0, 0, 0, [], [])),
  (2, (.iconst 0, 1, 0, 0, 0, 0, 0, [], [])),
  (3, (.istore_n 3, 1, 3, 0, 0, 0, 0, [], [])),
  (4, (.iload_n 3, 1, 3, 0, 0, 0, 0, [], [])),
  (5, (.bipush 24, 2, 0, 0, 0, 24, 0, [], [])),
  (7, (.if_icmp .ge 26, 3, 33, 0, 0, 0, 0, [], [])),
  (10, (.iload_n 1, 1, 1, 0, 0, 0, 0, [], [])),
  (11, (.iload_n 3, 1, 3, 0, 0, 0, 0, [], [])),
  (12, (.invokestatic 59, 3, 87, 2, 0, 0, 0, [], [])),
  (15, (.ifCond .eq 12, 3, 27, 0, 0, 0, 0, [], [])),
  (18, (.iload_n 2, 1, 2, 0, 0, 0, 0, [], [])),
  (19, (.aload_n 0, 1, 0, 0, 0, 0, 0, [], [])),
  (20, (.getfield 21, 3, 1, 3, 0, 0, 0, [], [])),
  (23, (.iload_n 3, 1, 3, 0, 0, 0, 0, [], [])),
  (24, (.iaload, 1, 0, 0, 0, 0, 0, [], [])),
  (25, (.iadd, 1, 0, 0, 0, 0, 0, [], [])),
  (26, (.istore_n 2, 1, 2, 0, 0, 0, 0, [], [])),
  (27, (.iinc 3 1, 3, 3, 0, 0, 1, 0, [], [])),
  (30, (.goto (-26), 3, 4, 0, 0, 0, 0, [], [])),
  (33, (.iload_n 2, 1, 2, 0, 0, 0, 0, [], [0, 1, 3])),
  (34, (.ireturn, 1, 0, 0, 0, 0, 0, [], []))
  ]
def tbX2_init : List (Nat × jm_I) := [
  (0, (.aload_n 0, 1, 0, 0, 0, 0, 0, [], [])),
  (1, (.invokespecial 3, 3, 0, 0, 7, 0, 0, [], [])),
  (4, (.aload_n 0, 1, 0, 0, 0, 0, 0, [], [])),
  (5, (.iconst 0, 1, 0, 0, 0, 0, 0, [], [])),
  (6, (.putfield 9, 3, 2, 0, 0, 0, 0, [], [])),
  (9, (.aload_n 0, 1, 0, 0, 0, 0, 0, [], [])),
  (10, (.iconst 0, 1, 0, 0, 0, 0, 0, [], [])),
  (11, (.putfield 15, 3, 2, 1, 0, 0, 0, [], [])),
  (14, (.aload_n 0, 1, 0, 0, 0, 0, 0, [], [])),
  (15, (.bipush 6, 2, 0, 0, 0, 6, 0, [], [])),
  (17, (.anewarray 19, 3, 11, 0, 0, 0, 0, [], [])),
  (20, (.putfield 21, 3, 2, 2, 0, 0, 0, [], [])),
  (23, (.aload_n 0, 1, 0, 0, 0, 0, 0, [], [])),
  (24, (.bipush 6, 2, 0, 0, 0, 6, 0, [], [])),
  (26, (.anewarray 25, 3, 13, 0, 0, 0, 0, [], [])),
  (29, (.putfield 27, 3, 2, 3, 0, 0, 0, [], [])),
  (32, (.iconst 0, 1, 0, 0, 0, 0, 0, [], [])),
  (33, (.istore_n 1, 1, 1, 0, 0, 0, 0, [], [])),
  (34, (.iload_n 1, 1, 1, 0, 0, 0, 0, [], [])),
  (35, (.bipush 6, 2, 0, 0, 0, 6, 0, [], [])),
  (37, (.if_icmp .ge 35, 3, 72, 0, 0, 0, 0, [], [])),
  (40, (.aload_n 0, 1, 0, 0, 0, 0, 0, [], [])),
  (41, (.getfield 21, 3, 2, 2, 0, 0, 0, [], [])),
  (44, (.iload_n 1, 1, 1, 0, 0, 0, 0, [], [])),
  (45, (.new 19, 3, 0, 0, 0, 0, 0, [], [])),
  (48, (.dup, 1, 0, 0, 0, 0, 0, [], [])),
  (49, (.invokespecial 31, 3, 0, 1, 0, 0, 0, [], [])),
  (52, (.aastore, 1, 0, 0, 0, 0, 0, [], [])),
  (53, (.aload_n 0, 1, 0, 0, 0, 0, 0, [], [])),
  (54, (.getfield 27, 3, 2, 3, 0, 0, 0, [], [])),
  (57, (.iload_n 1, 1, 1, 0, 0, 0, 0, [], [])),
  (58, (.new 25, 3, 3, 0, 0, 0, 0, [], [])),
  (61, (.dup, 1, 0, 0, 0, 0, 0, [], [])),
  (62, (.invokespecial 32, 3, 29, 1, 0, 0, 0, [], [])),
  (65, (.aastore, 1, 0, 0, 0, 0, 0, [], [])),
  (66, (.iinc 1 1, 3, 1, 0, 0, 1, 0, [], [])),
  (69, (.goto (-35), 3, 34, 0, 0, 0, 0, [], [])),
  (72, (.return_, 1, 0, 0, 0, 0, 0, [], [0, 1]))
  ]
def tbX2_surveyed : List (Nat × jm_I) := [
  (0, (.aload_n 0, 1, 0, 0, 0, 0, 0, [], [])),
  (1, (.getfield 9, 3, 2, 0, 0, 0, 0, [], [])),
  (4, (.ifCond .eq 5, 3, 9, 0, 0, 0, 0, [], [])),
  (7, (.aload_n 0, 1, 0, 0, 0, 0, 0, [], [])),
  (8, (.areturn, 1, 0, 0, 0, 0, 0, [], [])),
  (9, (.aload_n 0, 1, 0, 0, 0, 0, 0, [], [2])),
  (10, (.aload_n 1, 1, 1, 0, 0, 0, 0, [], [])),
  (11, (.getfield 33, 3, 1, 0, 0, 0, 0, [], [])),
  (14, (.putfield 15, 3, 2, 1, 0, 0, 0, [], [])),
  (17, (.iconst 0, 1, 0, 0, 0, 0, 0, [], [])),
  (18, (.istore_n 2, 1, 2, 0, 0, 0, 0, [], [])),
  (19, (.iload_n 2, 1, 2, 0, 0, 0, 0, [], [])),
  (20, (.aload_n 0, 1, 0, 0, 0, 0, 0, [], [])),
  (21, (.getfield 15, 3, 2, 1, 0, 0, 0, [], [])),
  (24, (.if_icmp .ge 72, 3, 96, 0, 0, 0, 0, [], [])),
  (27, (.aload_n 0, 1, 0, 0, 0, 0, 0, [], [])),
  (28, (.getfield 21, 3, 2, 2, 0, 0, 0, [], [])),
  (31, (.iload_n 2, 1, 2, 0, 0, 0, 0, [], [])),
  (32, (.aaload, 1, 0, 0, 0, 0, 0, [], [])),
  (33, (.aload_n 1, 1, 1, 0, 0, 0, 0, [], [])),
  (34, (.iload_n 2, 1, 2, 0, 0, 0, 0, [], [])),
  (35, (.aload_n 1, 1, 1, 0, 0, 0, 0, [], [])),
  (36, (.getfield 36, 3, 1, 1, 0, 0, 0, [], [])),
  (39, (.invokevirtual 39, 3, 1, 4, 0, 0, 0, [], [])),
  (42, (.aload_n 0, 1, 0, 0, 0, 0, 0, [], [])),
  (43, (.getfield 21, 3, 2, 2, 0, 0, 0, [], [])),
  (46, (.iload_n 2, 1, 2, 0, 0, 0, 0, [], [])),
  (47, (.aaload, 1, 0, 0, 0, 0, 0, [], [])),
  (48, (.aload_n 1, 1, 1, 0, 0, 0, 0, [], [])),
  (49, (.iload_n 2, 1, 2, 0, 0, 0, 0, [], [])),
  (50, (.invokevirtual 43, 3, 18, 2, 1, 0, 0, [], [])),
  (53, (.invokevirtual 47, 3, 3, 2, 0, 0, 0, [], [])),
  (56, (.aload_n 0, 1, 0, 0, 0, 0, 0, [], [])),
  (57, (.getfield 27, 3, 2, 3, 0, 0, 0, [], [])),
  (60, (.iload_n 2, 1, 2, 0, 0, 0, 0, [], [])),
  (61, (.aaload, 1, 0, 0, 0, 0, 0, [], [])),
  (62, (.aload_n 1, 1, 1, 0, 0, 0, 0, [], [])),
  (63, (.aload_n 0, 1, 0, 0, 0, 0, 0, [], [])),
  (64, (.getfield 21, 3, 2, 2, 0, 0, 0, [], [])),
  (67, (.iload_n 2, 1, 2, 0, 0, 0, 0, [], [])),
  (68, (.aaload, 1, 0, 0, 0, 0, 0, [], [])),
  (69, (.invokevirtual 51, 3, 30, 3, 3, 0, 0, [], [])),
  (72, (.aload_n 0, 1, 0, 0, 0, 0, 0, [], [])),
  (73, (.getfield 27, 3, 2, 3, 0, 0, 0, [], [])),
  (76, (.iload_n 2, 1, 2, 0, 0, 0, 0, [], [])),
  (77, (.aaload, 1, 0, 0, 0, 0, 0, [], [])),
  (78, (.invokevirtual 55, 3, 33, 1, 3, 0, 0, [], [])),
  (81, (.aload_n 0, 1, 0, 0, 0, 0, 0, [], [])),
  (82, (.getfield 27, 3, 2, 3, 0, 0, 0, [], [])),
  (85, (.iload_n 2, 1, 2, 0, 0, 0, 0, [], [])),
  (86, (.aaload, 1, 0, 0, 0, 0, 0, [], [])),
  (87, (.invokevirtual 58, 3, 36, 1, 3, 0, 0, [], [])),
  (90, (.iinc 2 1, 3, 2, 0, 0, 1, 0, [], [])),
  (93, (.goto (-74), 3, 19, 0, 0, 0, 0, [], [])),
  (96, (.iconst 1, 1, 0, 0, 0, 1, 0, [], [2])),
  (97, (.istore_n 2, 1, 2, 0, 0, 0, 0, [], [])),
  (98, (.iload_n 2, 1, 2, 0, 0, 0, 0, [], [])),
  (99, (.aload_n 0, 1, 0, 0, 0, 0, 0, [], [])),
  (100, (.getfield 15, 3, 2, 1, 0, 0, 0, [], [])),
  (103, (.if_icmp .ge 44, 3, 147, 0, 0, 0, 0, [], [])),
  (106, (.aload_n 0, 1, 0, 0, 0, 0, 0, [], [])),
  (107, (.getfield 27, 3, 2, 3, 0, 0, 0, [], [])),
  (110, (.iload_n 2, 1, 2, 0, 0, 0, 0, [], [])),
  (111, (.iconst 1, 1, 0, 0, 0, 1, 0, [], [])),
  (112, (.isub, 1, 0, 0, 0, 0, 0, [], [])),
  (113, (.aaload, 1, 0, 0, 0, 0, 0, [], [])),
  (114, (.aload_n 1, 1, 1, 0, 0, 0, 0, [], [])),
  (115, (.aload_n 0, 1, 0, 0, 0, 0, 0, [], [])),
  (116, (.getfield 27, 3, 2, 3, 0, 0, 0, [], [])),
  (119, (.iload_n 2, 1, 2, 0, 0, 0, 0, [], [])),
  (120, (.aaload, 1, 0, 0, 0, 0, 0, [], [])),
  (121, (.invokevirtual 61, 3, 34, 3, 3, 0, 0, [], [])),
  (124, (.aload_n 0, 1, 0, 0, 0, 0, 0, [], [])),
  (125, (.getfield 27, 3, 2, 3, 0, 0, 0, [], [])),
  (128, (.iload_n 2, 1, 2, 0, 0, 0, 0, [], [])),
  (129, (.aaload, 1, 0, 0, 0, 0, 0, [], [])),
  (130, (.aload_n 0, 1, 0, 0, 0, 0, 0, [], [])),
  (131, (.getfield 27, 3, 2, 3, 0, 0, 0, [], [])),
  (134, (.iload_n 2, 1, 2, 0, 0, 0, 0, [], [])),
  (135, (.iconst 1, 1, 0, 0, 0, 1, 0, [], [])),
  (136, (.isub, 1, 0, 0, 0, 0, 0, [], [])),
  (137, (.aaload, 1, 0, 0, 0, 0, 0, [], [])),
  (138, (.invokevirtual 65, 3, 37, 2, 3, 0, 0, [], [])),
  (141, (.iinc 2 1, 3, 2, 0, 0, 1, 0, [], [])),
  (144, (.goto (-46), 3, 98, 0, 0, 0, 0, [], [])),
  (147, (.aload_n 0, 1, 0, 0, 0, 0, 0, [], [1, 2])),
  (148, (.iconst 1, 1, 0, 0, 0, 1, 0, [], [])),
  (149, (.putfield 9, 3, 2, 0, 0, 0, 0, [], [])),
  (152, (.aload_n 0, 1, 0, 0, 0, 0, 0, [], [])),
  (153, (.areturn, 1, 0, 0, 0, 0, 0, [], []))
  ]
def tbX2_branchBack : List (Nat × jm_I) := [
  (0, (.iload_n 3, 1, 3, 0, 0, 0, 0, [], [])),
  (1, (.aload_n 0, 1, 0, 0, 0, 0, 0, [], [])),
  (2, (.getfield 27, 3, 2, 3, 0, 0, 0, [], [])),
  (5, (.iload_n 1, 1, 1, 0, 0, 0, 0, [], [])),
  (6, (.aaload, 1, 0, 0, 0, 0, 0, [], [])),
  (7, (.getfield 69, 3, 3, 6, 0, 0, 0, [], [])),
  (10, (.iload_n 2, 1, 2, 0, 0, 0, 0, [], [])),
  (11, (.iaload, 1, 0, 0, 0, 0, 0, [], [])),
  (12, (.if_icmp .lt 5, 3, 17, 0, 0, 0, 0, [], [])),
  (15, (.iconst (-1), 1, 0, 0, 0, (-1), 0, [], [])),
  (16, (.ireturn, 1, 0, 0, 0, 0, 0, [], [])),
  (17, (.iload_n 2, 1, 2, 0, 0, 0, 0, [], [4, 5])),
  (18, (.istore 4, 2, 4, 0, 0, 0, 0, [], [])),
  (20, (.iconst 0, 1, 0, 0, 0, 0, 0, [], [])),
  (21, (.istore 5, 2, 5, 0, 0, 0, 0, [], [])),
  (23, (.iload 5, 2, 5, 0, 0, 0, 0, [], [2])),
  (25, (.iload_n 3, 1, 3, 0, 0, 0, 0, [], [])),
  (26, (.if_icmp .ge 38, 3, 64, 0, 0, 0, 0, [], [])),
  (29, (.iload 5, 2, 5, 0, 0, 0, 0, [], [])),
  (31, (.iload_n 1, 1, 1, 0, 0, 0, 0, [], [])),
  (32, (.if_icmp .ge 32, 3, 64, 0, 0, 0, 0, [], [])),
  (35, (.iload 4, 2, 4, 0, 0, 0, 0, [], [])),
  (37, (.iconst (-1), 1, 0, 0, 0, (-1), 0, [], [])),
  (38, (.if_icmp .eq 26, 3, 64, 0, 0, 0, 0, [], [])),
  (41, (.aload_n 0, 1, 0, 0, 0, 0, 0, [], [])),
  (42, (.getfield 27, 3, 2, 3, 0, 0, 0, [], [])),
  (45, (.iload_n 1, 1, 1, 0, 0, 0, 0, [], [])),
  (46, (.iload 5, 2, 5, 0, 0, 0, 0, [], [])),
  (48, (.isub, 1, 0, 0, 0, 0, 0, [], [])),
  (49, (.aaload, 1, 0, 0, 0, 0, 0, [], [])),
  (50, (.getfield 73, 3, 3, 5, 0, 0, 0, [], [])),
  (53, (.iload 4, 2, 4, 0, 0, 0, 0, [], [])),
  (55, (.iaload, 1, 0, 0, 0, 0, 0, [], [])),
  (56, (.istore 4, 2, 4, 0, 0, 0, 0, [], [])),
  (58, (.iinc 5 1, 3, 5, 0, 0, 1, 0, [], [])),
  (61, (.goto (-38), 3, 23, 0, 0, 0, 0, [], [])),
  (64, (.iload 4, 2, 4, 0, 0, 0, 0, [], [0, 1, 2, 3, 5])),
  (66, (.ireturn, 1, 0, 0, 0, 0, 0, [], []))
  ]
def tbX2_weightOfMain : List (Nat × jm_I) := [
  (0, (.aload_n 0, 1, 0, 0, 0, 0, 0, [], [])),
  (1, (.getfield 27, 3, 2, 3, 0, 0, 0, [], [])),
  (4, (.iload_n 1, 1, 1, 0, 0, 0, 0, [], [])),
  (5, (.aaload, 1, 0, 0, 0, 0, 0, [], [])),
  (6, (.getfield 73, 3, 3, 5, 0, 0, 0, [], [])),
  (9, (.iload_n 2, 1, 2, 0, 0, 0, 0, [], [])),
  (10, (.iaload, 1, 0, 0, 0, 0, 0, [], [])),
  (11, (.istore_n 3, 1, 3, 0, 0, 0, 0, [], [])),
  (12, (.iload_n 3, 1, 3, 0, 0, 0, 0, [], [])),
  (13, (.iconst (-1), 1, 0, 0, 0, (-1), 0, [], [])),
  (14, (.if_icmp .eq 8, 3, 22, 0, 0, 0, 0, [], [])),
  (17, (.iload_n 1, 1, 1, 0, 0, 0, 0, [], [])),
  (18, (.iconst 1, 1, 0, 0, 0, 1, 0, [], [])),
  (19, (.if_icmp .ge 7, 3, 26, 0, 0, 0, 0, [], [])),
  (22, (.iconst 0, 1, 0, 0, 0, 0, 0, [], [0, 1, 2, 3])),
  (23, (.goto 16, 3, 39, 0, 0, 0, 0, [], [])),
  (26, (.aload_n 0, 1, 0, 0, 0, 0, 0, [], [2])),
  (27, (.getfield 27, 3, 2, 3, 0, 0, 0, [], [])),
  (30, (.iload_n 1, 1, 1, 0, 0, 0, 0, [], [])),
  (31, (.iconst 1, 1, 0, 0, 0, 1, 0, [], [])),
  (32, (.isub, 1, 0, 0, 0, 0, 0, [], [])),
  (33, (.aaload, 1, 0, 0, 0, 0, 0, [], [])),
  (34, (.getfield 76, 3, 3, 2, 0, 0, 0, [], [])),
  (37, (.iload_n 3, 1, 3, 0, 0, 0, 0, [], [])),
  (38, (.iaload, 1, 0, 0, 0, 0, 0, [], [])),
  (39, (.ireturn, 1, 0, 0, 0, 0, 0, [], [0, 1, 2, 3]))
  ]
def tbX2_countHalos : List (Nat × jm_I) := [
  (0, (.iconst 0, 1, 0, 0, 0, 0, 0, [], [])),
  (1, (.istore_n 1, 1, 1, 0, 0, 0, 0, [], [])),
  (2, (.iconst 0, 1, 0, 0, 0, 0, 0, [], [])),
  (3, (.istore_n 2, 1, 2, 0, 0, 0, 0, [], [])),
  (4, (.iload_n 2, 1, 2, 0, 0, 0, 0, [], [])),
  (5, (.aload_n 0, 1, 0, 0, 0, 0, 0, [], [])),
  (6, (.getfield 15, 3, 2, 1, 0, 0, 0, [], [])),
  (9, (.if_icmp .ge 21, 3, 30, 0, 0, 0, 0, [], [])),
  (12, (.iload_n 1, 1, 1, 0, 0, 0, 0, [], [])),
  (13, (.aload_n 0, 1, 0, 0, 0, 0, 0, [], [])),
  (14, (.getfield 27, 3, 2, 3, 0, 0, 0, [], [])),
  (17, (.iload_n 2, 1, 2, 0, 0, 0, 0, [], [])),
  (18, (.aaload, 1, 0, 0, 0, 0, 0, [], [])),
  (19, (.getfield 79, 3, 3, 0, 0, 0, 0, [], [])),
  (22, (.iadd, 1, 0, 0, 0, 0, 0, [], [])),
  (23, (.istore_n 1, 1, 1, 0, 0, 0, 0, [], [])),
  (24, (.iinc 2 1, 3, 2, 0, 0, 1, 0, [], [])),
  (27, (.goto (-23), 3, 4, 0, 0, 0, 0, [], [])),
  (30, (.iload_n 1, 1, 1, 0, 0, 0, 0, [], [0, 2])),
  (31, (.ireturn, 1, 0, 0, 0, 0, 0, [], []))
  ]
def tbX2_countEnding : List (Nat × jm_I) := [
  (0, (.iconst 0, 1, 0, 0, 0, 0, 0, [], [])),
  (1, (.istore_n 1, 1, 1, 0, 0, 0, 0, [], [])),
  (2, (.iconst 0, 1, 0, 0, 0, 0, 0, [], [])),
  (3, (.istore_n 2, 1, 2, 0, 0, 0, 0, [], [])),
  (4, (.iload_n 2, 1, 2, 0, 0, 0, 0, [], [3])),
  (5, (.aload_n 0, 1, 0, 0, 0, 0, 0, [], [])),
  (6, (.getfield 15, 3, 2, 1, 0, 0, 0, [], [])),
  (9, (.iconst 1, 1, 0, 0, 0, 1, 0, [], [])),
  (10, (.isub, 1, 0, 0, 0, 0, 0, [], [])),
  (11, (.if_icmp .ge 53, 3, 64, 0, 0, 0, 0, [], [])),
  (14, (.iconst 0, 1, 0, 0, 0, 0, 0, [], [])),
  (15, (.istore_n 3, 1, 3, 0, 0, 0, 0, [], [])),
  (16, (.iload_n 3, 1, 3, 0, 0, 0, 0, [], [])),
  (17, (.aload_n 0, 1, 0, 0, 0, 0, 0, [], [])),
  (18, (.getfield 27, 3, 2, 3, 0, 0, 0, [], [])),
  (21, (.iload_n 2, 1, 2, 0, 0, 0, 0, [], [])),
  (22, (.aaload, 1, 0, 0, 0, 0, 0, [], [])),
  (23, (.getfield 79, 3, 3, 0, 0, 0, 0, [], [])),
  (26, (.if_icmp .ge 32, 3, 58, 0, 0, 0, 0, [], [])),
  (29, (.iload_n 1, 1, 1, 0, 0, 0, 0, [], [])),
  (30, (.aload_n 0, 1, 0, 0, 0, 0, 0, [], [])),
  (31, (.getfield 27, 3, 2, 3, 0, 0, 0, [], [])),
  (34, (.iload_n 2, 1, 2, 0, 0, 0, 0, [], [])),
  (35, (.aaload, 1, 0, 0, 0, 0, 0, [], [])),
  (36, (.getfield 82, 3, 3, 3, 0, 0, 0, [], [])),
  (39, (.iload_n 3, 1, 3, 0, 0, 0, 0, [], [])),
  (40, (.iaload, 1, 0, 0, 0, 0, 0, [], [])),
  (41, (.iconst (-1), 1, 0, 0, 0, (-1), 0, [], [])),
  (42, (.if_icmp .ne 7, 3, 49, 0, 0, 0, 0, [], [])),
  (45, (.iconst 1, 1, 0, 0, 0, 1, 0, [], [])),
  (46, (.goto 4, 3, 50, 0, 0, 0, 0, [], [])),
  (49, (.iconst 0, 1, 0, 0, 0, 0, 0, [], [1])),
  (50, (.iadd, 1, 0, 0, 0, 0, 0, [], [1])),
  (51, (.istore_n 1, 1, 1, 0, 0, 0, 0, [], [])),
  (52, (.iinc 3 1, 3, 3, 0, 0, 1, 0, [], [])),
  (55, (.goto (-39), 3, 16, 0, 0, 0, 0, [], [])),
  (58, (.iinc 2 1, 3, 2, 0, 0, 1, 0, [], [3])),
  (61, (.goto (-57), 3, 4, 0, 0, 0, 0, [], [])),
  (64, (.iload_n 1, 1, 1, 0, 0, 0, 0, [], [0, 2, 3])),
  (65, (.ireturn, 1, 0, 0, 0, 0, 0, [], []))
  ]
def tbX2_countBeginning : List (Nat × jm_I) := [
  (0, (.iconst 0, 1, 0, 0, 0, 0, 0, [], [])),
  (1, (.istore_n 1, 1, 1, 0, 0, 0, 0, [], [])),
  (2, (.iconst 1, 1, 0, 0, 0, 1, 0, [], [])),
  (3, (.istore_n 2, 1, 2, 0, 0, 0, 0, [], [])),
  (4, (.iload_n 2, 1, 2, 0, 0, 0, 0, [], [3])),
  (5, (.aload_n 0, 1, 0, 0, 0, 0, 0, [], [])),
  (6, (.getfield 15, 3, 2, 1, 0, 0, 0, [], [])),
  (9, (.if_icmp .ge 52, 3, 61, 0, 0, 0, 0, [], [])),
  (12, (.iconst 0, 1, 0, 0, 0, 0, 0, [], [])),
  (13, (.istore_n 3, 1, 3, 0, 0, 0, 0, [], [])),
  (14, (.iload_n 3, 1, 3, 0, 0, 0, 0, [], [])),
  (15, (.aload_n 0, 1, 0, 0, 0, 0, 0, [], [])),
  (16, (.getfield 27, 3, 2, 3, 0, 0, 0, [], [])),
  (19, (.iload_n 2, 1, 2, 0, 0, 0, 0, [], [])),
  (20, (.aaload, 1, 0, 0, 0, 0, 0, [], [])),
  (21, (.getfield 79, 3, 3, 0, 0, 0, 0, [], [])),
  (24, (.if_icmp .ge 31, 3, 55, 0, 0, 0, 0, [], [])),
  (27, (.iload_n 1, 1, 1, 0, 0, 0, 0, [], [])),
  (28, (.aload_n 0, 1, 0, 0, 0, 0, 0, [], [])),
  (29, (.getfield 27, 3, 2, 3, 0, 0, 0, [], [])),
  (32, (.iload_n 2, 1, 2, 0, 0, 0, 0, [], [])),
  (33, (.aaload, 1, 0, 0, 0, 0, 0, [], [])),
  (34, (.getfield 85, 3, 3, 4, 0, 0, 0, [], [])),
  (37, (.iload_n 3, 1, 3, 0, 0, 0, 0, [], [])),
  (38, (.iaload, 1, 0, 0, 0, 0, 0, [], [])),
  (39, (.ifCond .ne 7, 3, 46, 0, 0, 0, 0, [], [])),
  (42, (.iconst 1, 1, 0, 0, 0, 1, 0, [], [])),
  (43, (.goto 4, 3, 47, 0, 0, 0, 0, [], [])),
  (46, (.iconst 0, 1, 0, 0, 0, 0, 0, [], [1])),
  (47, (.iadd, 1, 0, 0, 0, 0, 0, [], [1])),
  (48, (.istore_n 1, 1, 1, 0, 0, 0, 0, [], [])),
  (49, (.iinc 3 1, 3, 3, 0, 0, 1, 0, [], [])),
  (52, (.goto (-38), 3, 14, 0, 0, 0, 0, [], [])),
  (55, (.iinc 2 1, 3, 2, 0, 0, 1, 0, [], [3])),
  (58, (.goto (-54), 3, 4, 0, 0, 0, 0, [], [])),
  (61, (.iload_n 1, 1, 1, 0, 0, 0, 0, [], [0, 2, 3])),
  (62, (.ireturn, 1, 0, 0, 0, 0, 0, [], []))
  ]
def tbX2_longestBranch : List (Nat × jm_I) := [
  (0, (.iconst 0, 1, 0, 0, 0, 0, 0, [], [])),
  (1, (.istore_n 1, 1, 1, 0, 0, 0, 0, [], [])),
  (2, (.iconst 0, 1, 0, 0, 0, 0, 0, [], [])),
  (3, (.istore_n 2, 1, 2, 0, 0, 0, 0, [], [])),
  (4, (.iload_n 2, 1, 2, 0, 0, 0, 0, [], [3])),
  (5, (.aload_n 0, 1, 0, 0, 0, 0, 0, [], [])),
  (6, (.getfield 15, 3, 2, 1, 0, 0, 0, [], [])),
  (9, (.if_icmp .ge 46, 3, 55, 0, 0, 0, 0, [], [])),
  (12, (.iconst 0, 1, 0, 0, 0, 0, 0, [], [])),
  (13, (.istore_n 3, 1, 3, 0, 0, 0, 0, [], [])),
  (14, (.iload_n 3, 1, 3, 0, 0, 0, 0, [], [])),
  (15, (.aload_n 0, 1, 0, 0, 0, 0, 0, [], [])),
  (16, (.getfield 27, 3, 2, 3, 0, 0, 0, [], [])),
  (19, (.iload_n 2, 1, 2, 0, 0, 0, 0, [], [])),
  (20, (.aaload, 1, 0, 0, 0, 0, 0, [], [])),
  (21, (.getfield 79, 3, 3, 0, 0, 0, 0, [], [])),
  (24, (.if_icmp .ge 25, 3, 49, 0, 0, 0, 0, [], [])),
  (27, (.iload_n 1, 1, 1, 0, 0, 0, 0, [], [])),
  (28, (.aload_n 0, 1, 0, 0, 0, 0, 0, [], [])),
  (29, (.getfield 27, 3, 2, 3, 0, 0, 0, [], [])),
  (32, (.iload_n 2, 1, 2, 0, 0, 0, 0, [], [])),
  (33, (.aaload, 1, 0, 0, 0, 0, 0, [], [])),
  (34, (.getfield 69, 3, 3, 6, 0, 0, 0, [], [])),
  (37, (.iload_n 3, 1, 3, 0, 0, 0, 0, [], [])),
  (38, (.iaload, 1, 0, 0, 0, 0, 0, [], [])),
  (39, (.invokestatic 88, 3, 0, 0, 8, 0, 0, [], [])),
  (42, (.istore_n 1, 1, 1, 0, 0, 0, 0, [], [])),
  (43, (.iinc 3 1, 3, 3, 0, 0, 1, 0, [], [])),
  (46, (.goto (-32), 3, 14, 0, 0, 0, 0, [], [])),
  (49, (.iinc 2 1, 3, 2, 0, 0, 1, 0, [], [3])),
  (52, (.goto (-48), 3, 4, 0, 0, 0, 0, [], [])),
  (55, (.iload_n 1, 1, 1, 0, 0, 0, 0, [], [0, 2, 3])),
  (56, (.ireturn, 1, 0, 0, 0, 0, 0, [], []))
  ]
def tbX3_init : List (Nat × jm_I) := [
  (0, (.aload_n 0, 1, 0, 0, 0, 0, 0, [], [])),
  (1, (.invokespecial 3, 3, 0, 0, 7, 0, 0, [], [])),
  (4, (.aload_n 0, 1, 0, 0, 0, 0, 0, [], [])),
  (5, (.iconst 0, 1, 0, 0, 0, 0, 0, [], [])),
  (6, (.putfield 9, 3, 3, 0, 0, 0, 0, [], [])),
  (9, (.aload_n 0, 1, 0, 0, 0, 0, 0, [], [])),
  (10, (.bipush 24, 2, 0, 0, 0, 24, 0, [], [])),
  (12, (.newarray .int, 2, 9, 0, 0, 0, 0, [], [])),
  (14, (.putfield 15, 3, 3, 1, 0, 0, 0, [], [])),
  (17, (.aload_n 0, 1, 0, 0, 0, 0, 0, [], [])),
  (18, (.bipush 24, 2, 0, 0, 0, 24, 0, [], [])),
  (20, (.newarray .int, 2, 9, 0, 0, 0, 0, [], [])),
  (22, (.putfield 19, 3, 3, 2, 0, 0, 0, [], [])),
  (25, (.aload_n 0, 1, 0, 0, 0, 0, 0, [], [])),
  (26, (.bipush 24, 2, 0, 0, 0, 24, 0, [], [])),
  (28, (.newarray .int, 2, 9, 0, 0, 0, 0, [], [])),
  (30, (.putfield 22, 3, 3, 3, 0, 0, 0, [], [])),
  (33, (.aload_n 0, 1, 0, 0, 0, 0, 0, [], [])),
  (34, (.bipush 24, 2, 0, 0, 0, 24, 0, [], [])),
  (36, (.newarray .int, 2, 9, 0, 0, 0, 0, [], [])),
  (38, (.putfield 25, 3, 3, 4, 0, 0, 0, [], [])),
  (41, (.aload_n 0, 1, 0, 0, 0, 0, 0, [], [])),
  (42, (.bipush 24, 2, 0, 0, 0, 24, 0, [], [])),
  (44, (.newarray .int, 2, 9, 0, 0, 0, 0, [], [])),
  (46, (.putfield 28, 3, 3, 5, 0, 0, 0, [], [])),
  (49, (.aload_n 0, 1, 0, 0, 0, 0, 0, [], [])),
  (50, (.bipush 24, 2, 0, 0, 0, 24, 0, [], [])),
  (52, (.newarray .int, 2, 9, 0, 0, 0, 0, [], [])),
  (54, (.putfield 31, 3, 3, 6, 0, 0, 0, [], [])),
  (57, (.return_, 1, 0, 0, 0, 0, 0, [], []))
  ]
def tbX3_gather : List (Nat × jm_I) := [
  (0, (.aload_n 0, 1, 0, 0, 0, 0, 0, [], [])),
  (1, (.iconst 0, 1, 0, 0, 0, 0, 0, [], [])),
  (2, (.putfield 9, 3, 3, 0, 0, 0, 0, [], [])),
  (5, (.iconst 0, 1, 0, 0, 0, 0, 0, [], [])),
  (6, (.istore_n 3, 1, 3, 0, 0, 0, 0, [], [])),
  (7, (.iload_n 3, 1, 3, 0, 0, 0, 0, [], [4, 5, 6])),
  (8, (.bipush 24, 2, 0, 0, 0, 24, 0, [], [])),
  (10, (.if_icmp .ge 74, 3, 84, 0, 0, 0, 0, [], [])),
  (13, (.aload_n 2, 1, 2, 0, 0, 0, 0, [], [])),
  (14, (.getfield 34, 3, 0, 3, 0, 0, 0, [], [])),
  (17, (.iload_n 3, 1, 3, 0, 0, 0, 0, [], [])),
  (18, (.iaload, 1, 0, 0, 0, 0, 0, [], [])),
  (19, (.istore 4, 2, 4, 0, 0, 0, 0, [], [])),
  (21, (.iload 4, 2, 4, 0, 0, 0, 0, [], [])),
  (23, (.iload_n 3, 1, 3, 0, 0, 0, 0, [], [])),
  (24, (.invokestatic 39, 3, 87, 2, 0, 0, 0, [], [])),
  (27, (.ifCond .eq 18, 3, 45, 0, 0, 0, 0, [], [])),
  (30, (.iload 4, 2, 4, 0, 0, 0, 0, [], [])),
  (32, (.iconst 1, 1, 0, 0, 0, 1, 0, [], [])),
  (33, (.iload_n 3, 1, 3, 0, 0, 0, 0, [], [])),
  (34, (.ishl, 1, 0, 0, 0, 0, 0, [], [])),
  (35, (.iconst 1, 1, 0, 0, 0, 1, 0, [], [])),
  (36, (.isub, 1, 0, 0, 0, 0, 0, [], [])),
  (37, (.iand, 1, 0, 0, 0, 0, 0, [], [])),
  (38, (.ifCond .ne 7, 3, 45, 0, 0, 0, 0, [], [])),
  (41, (.iconst 1, 1, 0, 0, 0, 1, 0, [], [])),
  (42, (.goto 4, 3, 46, 0, 0, 0, 0, [], [])),
  (45, (.iconst 0, 1, 0, 0, 0, 0, 0, [], [5, 6])),
  (46, (.istore 5, 2, 5, 0, 0, 0, 0, [], [5, 6])),
  (48, (.iload 5, 2, 5, 0, 0, 0, 0, [], [])),
  (50, (.ifCond .eq 28, 3, 78, 0, 0, 0, 0, [], [])),
  (53, (.aload_n 1, 1, 1, 0, 0, 0, 0, [], [])),
  (54, (.iload 4, 2, 4, 0, 0, 0, 0, [], [])),
  (56, (.invokevirtual 43, 3, 20, 2, 1, 0, 0, [], [])),
  (59, (.istore 6, 2, 6, 0, 0, 0, 0, [], [])),
  (61, (.iload 6, 2, 6, 0, 0, 0, 0, [], [])),
  (63, (.aload_n 1, 1, 1, 0, 0, 0, 0, [], [])),
  (64, (.getfield 49, 3, 1, 2, 0, 0, 0, [], [])),
  (67, (.if_icmp .lt 11, 3, 78, 0, 0, 0, 0, [], [])),
  (70, (.aload_n 0, 1, 0, 0, 0, 0, 0, [], [])),
  (71, (.iload 4, 2, 4, 0, 0, 0, 0, [], [])),
  (73, (.iload 6, 2, 6, 0, 0, 0, 0, [], [])),
  (75, (.invokevirtual 52, 3, 31, 3, 3, 0, 0, [], [])),
  (78, (.iinc 3 1, 3, 3, 0, 0, 1, 0, [], [4, 5, 6])),
  (81, (.goto (-74), 3, 7, 0, 0, 0, 0, [], [])),
  (84, (.return_, 1, 0, 0, 0, 0, 0, [], [0, 1, 2, 3, 4, 5, 6]))
  ]
def tbX3_insert : List (Nat × jm_I) := [
  (0, (.aload_n 0, 1, 0, 0, 0, 0, 0, [], [])),
  (1, (.getfield 9, 3, 3, 0, 0, 0, 0, [], [])),
  (4, (.bipush 24, 2, 0, 0, 0, 24, 0, [], [])),
  (6, (.if_icmp .lt 4, 3, 10, 0, 0, 0, 0, [], [])),
  (9, (.return_, 1, 0, 0, 0, 0, 0, [], [])),
  (10, (.aload_n 0, 1, 0, 0, 0, 0, 0, [], [3])),
  (11, (.getfield 9, 3, 3, 0, 0, 0, 0, [], [])),
  (14, (.istore_n 3, 1, 3, 0, 0, 0, 0, [], [])),
  (15, (.iload_n 3, 1, 3, 0, 0, 0, 0, [], [])),
  (16, (.ifCond .le 49, 3, 65, 0, 0, 0, 0, [], [])),
  (19, (.aload_n 0, 1, 0, 0, 0, 0, 0, [], [])),
  (20, (.getfield 19, 3, 3, 2, 0, 0, 0, [], [])),
  (23, (.iload_n 3, 1, 3, 0, 0, 0, 0, [], [])),
  (24, (.iconst 1, 1, 0, 0, 0, 1, 0, [], [])),
  (25, (.isub, 1, 0, 0, 0, 0, 0, [], [])),
  (26, (.iaload, 1, 0, 0, 0, 0, 0, [], [])),
  (27, (.iload_n 2, 1, 2, 0, 0, 0, 0, [], [])),
  (28, (.if_icmp .ge 37, 3, 65, 0, 0, 0, 0, [], [])),
  (31, (.aload_n 0, 1, 0, 0, 0, 0, 0, [], [])),
  (32, (.getfield 15, 3, 3, 1, 0, 0, 0, [], [])),
  (35, (.iload_n 3, 1, 3, 0, 0, 0, 0, [], [])),
  (36, (.aload_n 0, 1, 0, 0, 0, 0, 0, [], [])),
  (37, (.getfield 15, 3, 3, 1, 0, 0, 0, [], [])),
  (40, (.iload_n 3, 1, 3, 0, 0, 0, 0, [], [])),
  (41, (.iconst 1, 1, 0, 0, 0, 1, 0, [], [])),
  (42, (.isub, 1, 0, 0, 0, 0, 0, [], [])),
  (43, (.iaload, 1, 0, 0, 0, 0, 0, [], [])),
  (44, (.iastore, 1, 0, 0, 0, 0, 0, [], [])),
  (45, (.aload_n 0, 1, 0, 0, 0, 0, 0, [], [])),
  (46, (.getfield 19, 3, 3, 2, 0, 0, 0, [], [])),
  (49, (.iload_n 3, 1, 3, 0, 0, 0, 0, [], [])),
  (50, (.aload_n 0, 1, 0, 0, 0, 0, 0, [], [])),
  (51, (.getfield 19, 3, 3, 2, 0, 0, 0, [], [])),
  (54, (.iload_n 3, 1, 3, 0, 0, 0, 0, [], [])),
  (55, (.iconst 1, 1, 0, 0, 0, 1, 0, [], [])),
  (56, (.isub, 1, 0, 0, 0, 0, 0, [], [])),
  (57, (.iaload, 1, 0, 0, 0, 0, 0, [], [])),
  (58, (.iastore, 1, 0, 0, 0, 0, 0, [], [])),
  (59, (.iinc 3 (-1), 3, 3, 0, 0, (-1), 0, [], [])),
  (62, (.goto (-47), 3, 15, 0, 0, 0, 0, [], [])),
  (65, (.aload_n 0, 1, 0, 0, 0, 0, 0, [], [])),
  (66, (.getfield 15, 3, 3, 1, 0, 0, 0, [], [])),
  (69, (.iload_n 3, 1, 3, 0, 0, 0, 0, [], [])),
  (70, (.iload_n 1, 1, 1, 0, 0, 0, 0, [], [])),
  (71, (.iastore, 1, 0, 0, 0, 0, 0, [], [])),
  (72, (.aload_n 0, 1, 0, 0, 0, 0, 0, [], [])),
  (73, (.getfield 19, 3, 3, 2, 0, 0, 0, [], [])),
  (76, (.iload_n 3, 1, 3, 0, 0, 0, 0, [], [])),
  (77, (.iload_n 2, 1, 2, 0, 0, 0, 0, [], [])),
  (78, (.iastore, 1, 0, 0, 0, 0, 0, [], [])),
  (79, (.aload_n 0, 1, 0, 0, 0, 0, 0, [], [])),
  (80, (.dup, 1, 0, 0, 0, 0, 0, [], [])),
  (81, (.getfield 9, 3, 3, 0, 0, 0, 0, [], [])),
  (84, (.iconst 1, 1, 0, 0, 0, 1, 0, [], [])),
  (85, (.iadd, 1, 0, 0, 0, 0, 0, [], [])),
  (86, (.putfield 9, 3, 3, 0, 0, 0, 0, [], [])),
  (89, (.return_, 1, 0, 0, 0, 0, 0, [], []))
  ]
def tbX3_numberOf : List (Nat × jm_I) := [
  (0, (.iconst 0, 1, 0, 0, 0, 0, 0, [], [])),
  (1, (.istore_n 2, 1, 2, 0, 0, 0, 0, [], [])),
  (2, (.iload_n 2, 1, 2, 0, 0, 0, 0, [], [])),
  (3, (.aload_n 0, 1, 0, 0, 0, 0, 0, [], [])),
  (4, (.getfield 9, 3, 3, 0, 0, 0, 0, [], [])),
  (7, (.if_icmp .ge 24, 3, 31, 0, 0, 0, 0, [], [])),
  (10, (.aload_n 0, 1, 0, 0, 0, 0, 0, [], [])),
  (11, (.getfield 15, 3, 3, 1, 0, 0, 0, [], [])),
  (14, (.iload_n 2, 1, 2, 0, 0, 0, 0, [], [])),
  (15, (.iaload, 1, 0, 0, 0, 0, 0, [], [])),
  (16, (.iload_n 1, 1, 1, 0, 0, 0, 0, [], [])),
  (17, (.invokestatic 39, 3, 87, 2, 0, 0, 0, [], [])),
  (20, (.ifCond .eq 5, 3, 25, 0, 0, 0, 0, [], [])),
  (23, (.iload_n 2, 1, 2, 0, 0, 0, 0, [], [])),
  (24, (.ireturn, 1, 0, 0, 0, 0, 0, [], [])),
  (25, (.iinc 2 1, 3, 2, 0, 0, 1, 0, [], [])),
  (28, (.goto (-26), 3, 2, 0, 0, 0, 0, [], [])),
  (31, (.iconst (-1), 1, 0, 0, 0, (-1), 0, [], [0, 1, 2])),
  (32, (.ireturn, 1, 0, 0, 0, 0, 0, [], []))
  ]
def tbX3_goOnNowhere : List (Nat × jm_I) := [
  (0, (.aload_n 0, 1, 0, 0, 0, 0, 0, [], [])),
  (1, (.getfield 22, 3, 3, 3, 0, 0, 0, [], [])),
  (4, (.iconst (-1), 1, 0, 0, 0, (-1), 0, [], [])),
  (5, (.invokestatic 56, 3, 165, 2, 0, 0, 0, [], [])),
  (8, (.return_, 1, 0, 0, 0, 0, 0, [], []))
  ]
def tbX3_goOnIn : List (Nat × jm_I) := [
  (0, (.iconst 0, 1, 0, 0, 0, 0, 0, [], [])),
  (1, (.istore_n 3, 1, 3, 0, 0, 0, 0, [], [])),
  (2, (.iload_n 3, 1, 3, 0, 0, 0, 0, [], [])),
  (3, (.aload_n 0, 1, 0, 0, 0, 0, 0, [], [])),
  (4, (.getfield 9, 3, 3, 0, 0, 0, 0, [], [])),
  (7, (.if_icmp .ge 26, 3, 33, 0, 0, 0, 0, [], [])),
  (10, (.aload_n 0, 1, 0, 0, 0, 0, 0, [], [])),
  (11, (.getfield 22, 3, 3, 3, 0, 0, 0, [], [])),
  (14, (.iload_n 3, 1, 3, 0, 0, 0, 0, [], [])),
  (15, (.aload_n 2, 1, 2, 0, 0, 0, 0, [], [])),
  (16, (.aload_n 1, 1, 1, 0, 0, 0, 0, [], [])),
  (17, (.aload_n 0, 1, 0, 0, 0, 0, 0, [], [])),
  (18, (.getfield 15, 3, 3, 1, 0, 0, 0, [], [])),
  (21, (.iload_n 3, 1, 3, 0, 0, 0, 0, [], [])),
  (22, (.iaload, 1, 0, 0, 0, 0, 0, [], [])),
  (23, (.invokevirtual 62, 3, 35, 3, 3, 0, 0, [], [])),
  (26, (.iastore, 1, 0, 0, 0, 0, 0, [], [])),
  (27, (.iinc 3 1, 3, 3, 0, 0, 1, 0, [], [])),
  (30, (.goto (-28), 3, 2, 0, 0, 0, 0, [], [])),
  (33, (.return_, 1, 0, 0, 0, 0, 0, [], [0, 1, 2, 3]))
  ]
def tbX3_withMostOf : List (Nat × jm_I) := [
  (0, (.iconst (-1), 1, 0, 0, 0, (-1), 0, [], [])),
  (1, (.istore_n 3, 1, 3, 0, 0, 0, 0, [], [])),
  (2, (.iconst 0, 1, 0, 0, 0, 0, 0, [], [])),
  (3, (.istore 4, 2, 4, 0, 0, 0, 0, [], [])),
  (5, (.iconst 0, 1, 0, 0, 0, 0, 0, [], [])),
  (6, (.istore 5, 2, 5, 0, 0, 0, 0, [], [])),
  (8, (.iload 5, 2, 5, 0, 0, 0, 0, [], [6, 7])),
  (10, (.aload_n 0, 1, 0, 0, 0, 0, 0, [], [])),
  (11, (.getfield 9, 3, 3, 0, 0, 0, 0, [], [])),
  (14, (.if_icmp .ge 51, 3, 65, 0, 0, 0, 0, [], [])),
  (17, (.aload_n 0, 1, 0, 0, 0, 0, 0, [], [])),
  (18, (.getfield 15, 3, 3, 1, 0, 0, 0, [], [])),
  (21, (.iload 5, 2, 5, 0, 0, 0, 0, [], [])),
  (23, (.iaload, 1, 0, 0, 0, 0, 0, [], [])),
  (24, (.iload_n 2, 1, 2, 0, 0, 0, 0, [], [])),
  (25, (.iand, 1, 0, 0, 0, 0, 0, [], [])),
  (26, (.istore 6, 2, 6, 0, 0, 0, 0, [], [])),
  (28, (.iload 6, 2, 6, 0, 0, 0, 0, [], [])),
  (30, (.ifCond .ne 7, 3, 37, 0, 0, 0, 0, [], [])),
  (33, (.iconst 0, 1, 0, 0, 0, 0, 0, [], [])),
  (34, (.goto 9, 3, 43, 0, 0, 0, 0, [], [])),
  (37, (.aload_n 1, 1, 1, 0, 0, 0, 0, [], [7])),
  (38, (.iload 6, 2, 6, 0, 0, 0, 0, [], [])),
  (40, (.invokevirtual 43, 3, 20, 2, 1, 0, 0, [], [])),
  (43, (.istore 7, 2, 7, 0, 0, 0, 0, [], [6, 7])),
  (45, (.iload 7, 2, 7, 0, 0, 0, 0, [], [])),
  (47, (.iload 4, 2, 4, 0, 0, 0, 0, [], [])),
  (49, (.if_icmp .le 10, 3, 59, 0, 0, 0, 0, [], [])),
  (52, (.iload 5, 2, 5, 0, 0, 0, 0, [], [])),
  (54, (.istore_n 3, 1, 3, 0, 0, 0, 0, [], [])),
  (55, (.iload 7, 2, 7, 0, 0, 0, 0, [], [])),
  (57, (.istore 4, 2, 4, 0, 0, 0, 0, [], [])),
  (59, (.iinc 5 1, 3, 5, 0, 0, 1, 0, [], [6, 7])),
  (62, (.goto (-54), 3, 8, 0, 0, 0, 0, [], [])),
  (65, (.iload_n 3, 1, 3, 0, 0, 0, 0, [], [0, 1, 2, 4, 5, 6, 7])),
  (66, (.ireturn, 1, 0, 0, 0, 0, 0, [], []))
  ]
def tbX3_comeFromNowhere : List (Nat × jm_I) := [
  (0, (.aload_n 0, 1, 0, 0, 0, 0, 0, [], [])),
  (1, (.getfield 25, 3, 3, 4, 0, 0, 0, [], [])),
  (4, (.iconst 0, 1, 0, 0, 0, 0, 0, [], [])),
  (5, (.invokestatic 56, 3, 165, 2, 0, 0, 0, [], [])),
  (8, (.aload_n 0, 1, 0, 0, 0, 0, 0, [], [])),
  (9, (.getfield 28, 3, 3, 5, 0, 0, 0, [], [])),
  (12, (.iconst (-1), 1, 0, 0, 0, (-1), 0, [], [])),
  (13, (.invokestatic 56, 3, 165, 2, 0, 0, 0, [], [])),
  (16, (.aload_n 0, 1, 0, 0, 0, 0, 0, [], [])),
  (17, (.getfield 31, 3, 3, 6, 0, 0, 0, [], [])),
  (20, (.iconst 1, 1, 0, 0, 0, 1, 0, [], [])),
  (21, (.invokestatic 56, 3, 165, 2, 0, 0, 0, [], [])),
  (24, (.return_, 1, 0, 0, 0, 0, 0, [], []))
  ]
def tbX3_comeFromThose : List (Nat × jm_I) := [
  (0, (.aload_n 0, 1, 0, 0, 0, 0, 0, [], [])),
  (1, (.invokevirtual 66, 3, 36, 1, 3, 0, 0, [], [])),
  (4, (.iconst 0, 1, 0, 0, 0, 0, 0, [], [])),
  (5, (.istore_n 2, 1, 2, 0, 0, 0, 0, [], [])),
  (6, (.iload_n 2, 1, 2, 0, 0, 0, 0, [], [3])),
  (7, (.aload_n 1, 1, 1, 0, 0, 0, 0, [], [])),
  (8, (.getfield 9, 3, 3, 0, 0, 0, 0, [], [])),
  (11, (.if_icmp .ge 64, 3, 75, 0, 0, 0, 0, [], [])),
  (14, (.aload_n 1, 1, 1, 0, 0, 0, 0, [], [])),
  (15, (.getfield 22, 3, 3, 3, 0, 0, 0, [], [])),
  (18, (.iload_n 2, 1, 2, 0, 0, 0, 0, [], [])),
  (19, (.iaload, 1, 0, 0, 0, 0, 0, [], [])),
  (20, (.istore_n 3, 1, 3, 0, 0, 0, 0, [], [])),
  (21, (.iload_n 3, 1, 3, 0, 0, 0, 0, [], [])),
  (22, (.iconst (-1), 1, 0, 0, 0, (-1), 0, [], [])),
  (23, (.if_icmp .eq 46, 3, 69, 0, 0, 0, 0, [], [])),
  (26, (.aload_n 0, 1, 0, 0, 0, 0, 0, [], [])),
  (27, (.getfield 28, 3, 3, 5, 0, 0, 0, [], [])),
  (30, (.iload_n 3, 1, 3, 0, 0, 0, 0, [], [])),
  (31, (.iaload, 1, 0, 0, 0, 0, 0, [], [])),
  (32, (.iconst (-1), 1, 0, 0, 0, (-1), 0, [], [])),
  (33, (.if_icmp .ne 24, 3, 57, 0, 0, 0, 0, [], [])),
  (36, (.aload_n 0, 1, 0, 0, 0, 0, 0, [], [])),
  (37, (.getfield 28, 3, 3, 5, 0, 0, 0, [], [])),
  (40, (.iload_n 3, 1, 3, 0, 0, 0, 0, [], [])),
  (41, (.iload_n 2, 1, 2, 0, 0, 0, 0, [], [])),
  (42, (.iastore, 1, 0, 0, 0, 0, 0, [], [])),
  (43, (.aload_n 0, 1, 0, 0, 0, 0, 0, [], [])),
  (44, (.getfield 31, 3, 3, 6, 0, 0, 0, [], [])),
  (47, (.iload_n 3, 1, 3, 0, 0, 0, 0, [], [])),
  (48, (.aload_n 1, 1, 1, 0, 0, 0, 0, [], [])),
  (49, (.getfield 31, 3, 3, 6, 0, 0, 0, [], [])),
  (52, (.iload_n 2, 1, 2, 0, 0, 0, 0, [], [])),
  (53, (.iaload, 1, 0, 0, 0, 0, 0, [], [])),
  (54, (.iconst 1, 1, 0, 0, 0, 1, 0, [], [])),
  (55, (.iadd, 1, 0, 0, 0, 0, 0, [], [])),
  (56, (.iastore, 1, 0, 0, 0, 0, 0, [], [])),
  (57, (.aload_n 0, 1, 0, 0, 0, 0, 0, [], [])),
  (58, (.getfield 25, 3, 3, 4, 0, 0, 0, [], [])),
  (61, (.iload_n 3, 1, 3, 0, 0, 0, 0, [], [])),
  (62, (.dup2, 1, 0, 0, 0, 0, 0, [], [])),
  (63, (.iaload, 1, 0, 0, 0, 0, 0, [], [])),
  (64, (.iconst 1, 1, 0, 0, 0, 1, 0, [], [])),
  (65, (.iload_n 2, 1, 2, 0, 0, 0, 0, [], [])),
  (66, (.ishl, 1, 0, 0, 0, 0, 0, [], [])),
  (67, (.ior, 1, 0, 0, 0, 0, 0, [], [])),
  (68, (.iastore, 1, 0, 0, 0, 0, 0, [], [])),
  (69, (.iinc 2 1, 3, 2, 0, 0, 1, 0, [], [3])),
  (72, (.goto (-66), 3, 6, 0, 0, 0, 0, [], [])),
  (75, (.return_, 1, 0, 0, 0, 0, 0, [], [0, 1, 2, 3]))
  ]
def tbX4_init : List (Nat × jm_I) := [
  (0, (.aload_n 0, 1, 0, 0, 0, 0, 0, [], [])),
  (1, (.invokespecial 3, 3, 0, 0, 7, 0, 0, [], [])),
  (4, (.aload_n 0, 1, 0, 0, 0, 0, 0, [], [])),
  (5, (.lconst 1, 1, 0, 0, 0, 0, 1, [], [])),
  (6, (.putfield 9, 3, 4, 0, 0, 0, 0, [], [])),
  (9, (.return_, 1, 0, 0, 0, 0, 0, [], []))
  ]
def tbX4_begin : List (Nat × jm_I) := [
  (0, (.aload_n 0, 1, 0, 0, 0, 0, 0, [], [])),
  (1, (.iload_n 1, 1, 1, 0, 0, 0, 0, [], [])),
  (2, (.i2l, 1, 0, 0, 0, 0, 0, [], [])),
  (3, (.putfield 9, 3, 4, 0, 0, 0, 0, [], [])),
  (6, (.return_, 1, 0, 0, 0, 0, 0, [], []))
  ]
def tbX4_draw : List (Nat × jm_I) := [
  (0, (.aload_n 0, 1, 0, 0, 0, 0, 0, [], [])),
  (1, (.aload_n 0, 1, 0, 0, 0, 0, 0, [], [])),
  (2, (.getfield 9, 3, 4, 0, 0, 0, 0, [], [])),
  (5, (.ldc2_w 15, 3, 0, 0, 0, 0, 16807, [], [])),
  (8, (.lmul, 1, 0, 0, 0, 0, 0, [], [])),
  (9, (.ldc2_w 17, 3, 0, 0, 0, 0, 2147483647, [], [])),
  (12, (.lrem, 1, 0, 0, 0, 0, 0, [], [])),
  (13, (.putfield 9, 3, 4, 0, 0, 0, 0, [], [])),
  (16, (.aload_n 0, 1, 0, 0, 0, 0, 0, [], [])),
  (17, (.getfield 9, 3, 4, 0, 0, 0, 0, [], [])),
  (20, (.l2i, 1, 0, 0, 0, 0, 0, [], [])),
  (21, (.ireturn, 1, 0, 0, 0, 0, 0, [], []))
  ]
def tbX4_scatter : List (Nat × jm_I) := [
  (0, (.aload_n 0, 1, 0, 0, 0, 0, 0, [], [])),
  (1, (.invokevirtual 19, 3, 40, 1, 4, 0, 0, [], [])),
  (4, (.iconst 4, 1, 0, 0, 0, 4, 0, [], [])),
  (5, (.irem, 1, 0, 0, 0, 0, 0, [], [])),
  (6, (.ifCond .eq 10, 3, 16, 0, 0, 0, 0, [], [])),
  (9, (.aload_n 0, 1, 0, 0, 0, 0, 0, [], [])),
  (10, (.aload_n 1, 1, 1, 0, 0, 0, 0, [], [])),
  (11, (.iload_n 2, 1, 2, 0, 0, 0, 0, [], [])),
  (12, (.iload_n 3, 1, 3, 0, 0, 0, 0, [], [])),
  (13, (.invokevirtual 23, 3, 43, 4, 4, 0, 0, [], [])),
  (16, (.return_, 1, 0, 0, 0, 0, 0, [], [0, 1, 2, 3]))
  ]
def tbX4_carryOn : List (Nat × jm_I) := [
  (0, (.aload_n 1, 1, 1, 0, 0, 0, 0, [], [])),
  (1, (.iload_n 2, 1, 2, 0, 0, 0, 0, [], [])),
  (2, (.iconst 1, 1, 0, 0, 0, 1, 0, [], [])),
  (3, (.isub, 1, 0, 0, 0, 0, 0, [], [])),
  (4, (.iload_n 3, 1, 3, 0, 0, 0, 0, [], [])),
  (5, (.invokevirtual 27, 3, 14, 3, 1, 0, 0, [], [])),
  (8, (.istore 4, 2, 4, 0, 0, 0, 0, [], [])),
  (10, (.aload_n 0, 1, 0, 0, 0, 0, 0, [], [])),
  (11, (.invokevirtual 19, 3, 40, 1, 4, 0, 0, [], [])),
  (14, (.bipush 16, 2, 0, 0, 0, 16, 0, [], [])),
  (16, (.irem, 1, 0, 0, 0, 0, 0, [], [])),
  (17, (.ifCond .ne 7, 3, 24, 0, 0, 0, 0, [], [])),
  (20, (.iconst 1, 1, 0, 0, 0, 1, 0, [], [])),
  (21, (.goto 4, 3, 25, 0, 0, 0, 0, [], [])),
  (24, (.iconst 0, 1, 0, 0, 0, 0, 0, [], [5, 6, 7])),
  (25, (.istore 5, 2, 5, 0, 0, 0, 0, [], [5, 6, 7])),
  (27, (.iload 4, 2, 4, 0, 0, 0, 0, [], [])),
  (29, (.ifCond .eq 46, 3, 75, 0, 0, 0, 0, [], [])),
  (32, (.iload 5, 2, 5, 0, 0, 0, 0, [], [])),
  (34, (.ifCond .ne 41, 3, 75, 0, 0, 0, 0, [], [])),
  (37, (.aload_n 0, 1, 0, 0, 0, 0, 0, [], [])),
  (38, (.aload_n 1, 1, 1, 0, 0, 0, 0, [], [])),
  (39, (.iload_n 2, 1, 2, 0, 0, 0, 0, [], [])),
  (40, (.iconst 1, 1, 0, 0, 0, 1, 0, [], [])),
  (41, (.isub, 1, 0, 0, 0, 0, 0, [], [])),
  (42, (.iload_n 3, 1, 3, 0, 0, 0, 0, [], [])),
  (43, (.invokevirtual 33, 3, 15, 3, 1, 0, 0, [], [])),
  (46, (.invokevirtual 37, 3, 44, 2, 4, 0, 0, [], [])),
  (49, (.istore 6, 2, 6, 0, 0, 0, 0, [], [])),
  (51, (.aload_n 0, 1, 0, 0, 0, 0, 0, [], [])),
  (52, (.aload_n 1, 1, 1, 0, 0, 0, 0, [], [])),
  (53, (.iload_n 2, 1, 2, 0, 0, 0, 0, [], [])),
  (54, (.iconst 1, 1, 0, 0, 0, 1, 0, [], [])),
  (55, (.isub, 1, 0, 0, 0, 0, 0, [], [])),
  (56, (.iload_n 3, 1, 3, 0, 0, 0, 0, [], [])),
  (57, (.invokevirtual 41, 3, 16, 3, 1, 0, 0, [], [])),
  (60, (.invokevirtual 37, 3, 44, 2, 4, 0, 0, [], [])),
  (63, (.istore 7, 2, 7, 0, 0, 0, 0, [], [])),
  (65, (.aload_n 1, 1, 1, 0, 0, 0, 0, [], [])),
  (66, (.iload_n 2, 1, 2, 0, 0, 0, 0, [], [])),
  (67, (.iload_n 3, 1, 3, 0, 0, 0, 0, [], [])),
  (68, (.iload 6, 2, 6, 0, 0, 0, 0, [], [])),
  (70, (.iload 7, 2, 7, 0, 0, 0, 0, [], [])),
  (72, (.invokevirtual 44, 3, 12, 5, 1, 0, 0, [], [])),
  (75, (.iload 4, 2, 4, 0, 0, 0, 0, [], [6, 7])),
  (77, (.ifCond .ne 15, 3, 92, 0, 0, 0, 0, [], [])),
  (80, (.iload 5, 2, 5, 0, 0, 0, 0, [], [])),
  (82, (.ifCond .eq 10, 3, 92, 0, 0, 0, 0, [], [])),
  (85, (.aload_n 0, 1, 0, 0, 0, 0, 0, [], [])),
  (86, (.aload_n 1, 1, 1, 0, 0, 0, 0, [], [])),
  (87, (.iload_n 2, 1, 2, 0, 0, 0, 0, [], [])),
  (88, (.iload_n 3, 1, 3, 0, 0, 0, 0, [], [])),
  (89, (.invokevirtual 23, 3, 43, 4, 4, 0, 0, [], [])),
  (92, (.return_, 1, 0, 0, 0, 0, 0, [], [0, 1, 2, 3, 4, 5, 6, 7]))
  ]
def tbX4_layAnywhere : List (Nat × jm_I) := [
  (0, (.aload_n 0, 1, 0, 0, 0, 0, 0, [], [])),
  (1, (.invokevirtual 19, 3, 40, 1, 4, 0, 0, [], [])),
  (4, (.bipush 64, 2, 0, 0, 0, 64, 0, [], [])),
  (6, (.irem, 1, 0, 0, 0, 0, 0, [], [])),
  (7, (.istore 4, 2, 4, 0, 0, 0, 0, [], [])),
  (9, (.aload_n 0, 1, 0, 0, 0, 0, 0, [], [])),
  (10, (.invokevirtual 19, 3, 40, 1, 4, 0, 0, [], [])),
  (13, (.bipush 64, 2, 0, 0, 0, 64, 0, [], [])),
  (15, (.irem, 1, 0, 0, 0, 0, 0, [], [])),
  (16, (.istore 5, 2, 5, 0, 0, 0, 0, [], [])),
  (18, (.aload_n 1, 1, 1, 0, 0, 0, 0, [], [])),
  (19, (.iload_n 2, 1, 2, 0, 0, 0, 0, [], [])),
  (20, (.iload_n 3, 1, 3, 0, 0, 0, 0, [], [])),
  (21, (.iload 4, 2, 4, 0, 0, 0, 0, [], [])),
  (23, (.iload 5, 2, 5, 0, 0, 0, 0, [], [])),
  (25, (.invokevirtual 44, 3, 12, 5, 1, 0, 0, [], [])),
  (28, (.return_, 1, 0, 0, 0, 0, 0, [], []))
  ]
def tbX4_shifted : List (Nat × jm_I) := [
  (0, (.iconst 0, 1, 0, 0, 0, 0, 0, [], [])),
  (1, (.bipush 63, 2, 0, 0, 0, 63, 0, [], [])),
  (3, (.iload_n 1, 1, 1, 0, 0, 0, 0, [], [])),
  (4, (.aload_n 0, 1, 0, 0, 0, 0, 0, [], [])),
  (5, (.invokevirtual 19, 3, 40, 1, 4, 0, 0, [], [])),
  (8, (.bipush 7, 2, 0, 0, 0, 7, 0, [], [])),
  (10, (.irem, 1, 0, 0, 0, 0, 0, [], [])),
  (11, (.iadd, 1, 0, 0, 0, 0, 0, [], [])),
  (12, (.iconst 3, 1, 0, 0, 0, 3, 0, [], [])),
  (13, (.isub, 1, 0, 0, 0, 0, 0, [], [])),
  (14, (.invokestatic 48, 3, 0, 0, 9, 0, 0, [], [])),
  (17, (.invokestatic 53, 3, 0, 0, 8, 0, 0, [], [])),
  (20, (.ireturn, 1, 0, 0, 0, 0, 0, [], []))
  ]
def tbX5_init : List (Nat × jm_I) := [
  (0, (.aload_n 0, 1, 0, 0, 0, 0, 0, [], [])),
  (1, (.invokespecial 3, 3, 0, 0, 7, 0, 0, [], [])),
  (4, (.aload_n 0, 1, 0, 0, 0, 0, 0, [], [])),
  (5, (.bipush 8, 2, 0, 0, 0, 8, 0, [], [])),
  (7, (.anewarray 9, 3, 12, 0, 0, 0, 0, [], [])),
  (10, (.putfield 11, 3, 5, 0, 0, 0, 0, [], [])),
  (13, (.aload_n 0, 1, 0, 0, 0, 0, 0, [], [])),
  (14, (.iconst 0, 1, 0, 0, 0, 0, 0, [], [])),
  (15, (.putfield 17, 3, 5, 1, 0, 0, 0, [], [])),
  (18, (.aload_n 0, 1, 0, 0, 0, 0, 0, [], [])),
  (19, (.iconst 0, 1, 0, 0, 0, 0, 0, [], [])),
  (20, (.putfield 21, 3, 5, 2, 0, 0, 0, [], [])),
  (23, (.iconst 0, 1, 0, 0, 0, 0, 0, [], [])),
  (24, (.istore_n 1, 1, 1, 0, 0, 0, 0, [], [])),
  (25, (.iload_n 1, 1, 1, 0, 0, 0, 0, [], [])),
  (26, (.bipush 8, 2, 0, 0, 0, 8, 0, [], [])),
  (28, (.if_icmp .ge 22, 3, 50, 0, 0, 0, 0, [], [])),
  (31, (.aload_n 0, 1, 0, 0, 0, 0, 0, [], [])),
  (32, (.getfield 11, 3, 5, 0, 0, 0, 0, [], [])),
  (35, (.iload_n 1, 1, 1, 0, 0, 0, 0, [], [])),
  (36, (.new 9, 3, 1, 0, 0, 0, 0, [], [])),
  (39, (.dup, 1, 0, 0, 0, 0, 0, [], [])),
  (40, (.invokespecial 24, 3, 9, 1, 0, 0, 0, [], [])),
  (43, (.aastore, 1, 0, 0, 0, 0, 0, [], [])),
  (44, (.iinc 1 1, 3, 1, 0, 0, 1, 0, [], [])),
  (47, (.goto (-22), 3, 25, 0, 0, 0, 0, [], [])),
  (50, (.return_, 1, 0, 0, 0, 0, 0, [], [0, 1]))
  ]
def tbX5_take : List (Nat × jm_I) := [
  (0, (.aload_n 0, 1, 0, 0, 0, 0, 0, [], [])),
  (1, (.getfield 21, 3, 5, 2, 0, 0, 0, [], [])),
  (4, (.bipush 8, 2, 0, 0, 0, 8, 0, [], [])),
  (6, (.if_icmp .ne 26, 3, 32, 0, 0, 0, 0, [], [])),
  (9, (.aload_n 0, 1, 0, 0, 0, 0, 0, [], [])),
  (10, (.aload_n 0, 1, 0, 0, 0, 0, 0, [], [])),
  (11, (.getfield 17, 3, 5, 1, 0, 0, 0, [], [])),
  (14, (.iconst 1, 1, 0, 0, 0, 1, 0, [], [])),
  (15, (.iadd, 1, 0, 0, 0, 0, 0, [], [])),
  (16, (.bipush 8, 2, 0, 0, 0, 8, 0, [], [])),
  (18, (.irem, 1, 0, 0, 0, 0, 0, [], [])),
  (19, (.putfield 17, 3, 5, 1, 0, 0, 0, [], [])),
  (22, (.aload_n 0, 1, 0, 0, 0, 0, 0, [], [])),
  (23, (.dup, 1, 0, 0, 0, 0, 0, [], [])),
  (24, (.getfield 21, 3, 5, 2, 0, 0, 0, [], [])),
  (27, (.iconst 1, 1, 0, 0, 0, 1, 0, [], [])),
  (28, (.isub, 1, 0, 0, 0, 0, 0, [], [])),
  (29, (.putfield 21, 3, 5, 2, 0, 0, 0, [], [])),
  (32, (.aload_n 0, 1, 0, 0, 0, 0, 0, [], [])),
  (33, (.getfield 11, 3, 5, 0, 0, 0, 0, [], [])),
  (36, (.aload_n 0, 1, 0, 0, 0, 0, 0, [], [])),
  (37, (.getfield 17, 3, 5, 1, 0, 0, 0, [], [])),
  (40, (.aload_n 0, 1, 0, 0, 0, 0, 0, [], [])),
  (41, (.getfield 21, 3, 5, 2, 0, 0, 0, [], [])),
  (44, (.iadd, 1, 0, 0, 0, 0, 0, [], [])),
  (45, (.bipush 8, 2, 0, 0, 0, 8, 0, [], [])),
  (47, (.irem, 1, 0, 0, 0, 0, 0, [], [])),
  (48, (.aaload, 1, 0, 0, 0, 0, 0, [], [])),
  (49, (.aload_n 1, 1, 1, 0, 0, 0, 0, [], [])),
  (50, (.invokevirtual 25, 3, 10, 2, 1, 0, 0, [], [])),
  (53, (.aload_n 0, 1, 0, 0, 0, 0, 0, [], [])),
  (54, (.dup, 1, 0, 0, 0, 0, 0, [], [])),
  (55, (.getfield 21, 3, 5, 2, 0, 0, 0, [], [])),
  (58, (.iconst 1, 1, 0, 0, 0, 1, 0, [], [])),
  (59, (.iadd, 1, 0, 0, 0, 0, 0, [], [])),
  (60, (.putfield 21, 3, 5, 2, 0, 0, 0, [], [])),
  (63, (.return_, 1, 0, 0, 0, 0, 0, [], []))
  ]
def tbX5_bringBack : List (Nat × jm_I) := [
  (0, (.aload_n 0, 1, 0, 0, 0, 0, 0, [], [])),
  (1, (.getfield 21, 3, 5, 2, 0, 0, 0, [], [])),
  (4, (.ifCond .le 34, 3, 38, 0, 0, 0, 0, [], [])),
  (7, (.aload_n 0, 1, 0, 0, 0, 0, 0, [], [])),
  (8, (.dup, 1, 0, 0, 0, 0, 0, [], [])),
  (9, (.getfield 21, 3, 5, 2, 0, 0, 0, [], [])),
  (12, (.iconst 1, 1, 0, 0, 0, 1, 0, [], [])),
  (13, (.isub, 1, 0, 0, 0, 0, 0, [], [])),
  (14, (.putfield 21, 3, 5, 2, 0, 0, 0, [], [])),
  (17, (.aload_n 1, 1, 1, 0, 0, 0, 0, [], [])),
  (18, (.aload_n 0, 1, 0, 0, 0, 0, 0, [], [])),
  (19, (.getfield 11, 3, 5, 0, 0, 0, 0, [], [])),
  (22, (.aload_n 0, 1, 0, 0, 0, 0, 0, [], [])),
  (23, (.getfield 17, 3, 5, 1, 0, 0, 0, [], [])),
  (26, (.aload_n 0, 1, 0, 0, 0, 0, 0, [], [])),
  (27, (.getfield 21, 3, 5, 2, 0, 0, 0, [], [])),
  (30, (.iadd, 1, 0, 0, 0, 0, 0, [], [])),
  (31, (.bipush 8, 2, 0, 0, 0, 8, 0, [], [])),
  (33, (.irem, 1, 0, 0, 0, 0, 0, [], [])),
  (34, (.aaload, 1, 0, 0, 0, 0, 0, [], [])),
  (35, (.invokevirtual 25, 3, 10, 2, 1, 0, 0, [], [])),
  (38, (.return_, 1, 0, 0, 0, 0, 0, [], [0, 1]))
  ]
def tbX5_forget : List (Nat × jm_I) := [
  (0, (.aload_n 0, 1, 0, 0, 0, 0, 0, [], [])),
  (1, (.iconst 0, 1, 0, 0, 0, 0, 0, [], [])),
  (2, (.putfield 21, 3, 5, 2, 0, 0, 0, [], [])),
  (5, (.return_, 1, 0, 0, 0, 0, 0, [], []))
  ]
def tbX6_init : List (Nat × jm_I) := [
  (0, (.aload_n 0, 1, 0, 0, 0, 0, 0, [], [])),
  (1, (.invokespecial 3, 3, 0, 0, 7, 0, 0, [], [])),
  (4, (.aload_n 0, 1, 0, 0, 0, 0, 0, [], [])),
  (5, (.iconst (-1), 1, 0, 0, 0, (-1), 0, [], [])),
  (6, (.putfield 9, 3, 6, 0, 0, 0, 0, [], [])),
  (9, (.aload_n 0, 1, 0, 0, 0, 0, 0, [], [])),
  (10, (.iconst 0, 1, 0, 0, 0, 0, 0, [], [])),
  (11, (.putfield 15, 3, 6, 1, 0, 0, 0, [], [])),
  (14, (.aload_n 0, 1, 0, 0, 0, 0, 0, [], [])),
  (15, (.bipush 24, 2, 0, 0, 0, 24, 0, [], [])),
  (17, (.newarray .int, 2, 9, 0, 0, 0, 0, [], [])),
  (19, (.putfield 18, 3, 6, 2, 0, 0, 0, [], [])),
  (22, (.aload_n 0, 1, 0, 0, 0, 0, 0, [], [])),
  (23, (.bipush 24, 2, 0, 0, 0, 24, 0, [], [])),
  (25, (.newarray .int, 2, 9, 0, 0, 0, 0, [], [])),
  (27, (.putfield 22, 3, 6, 3, 0, 0, 0, [], [])),
  (30, (.aload_n 0, 1, 0, 0, 0, 0, 0, [], [])),
  (31, (.bipush 24, 2, 0, 0, 0, 24, 0, [], [])),
  (33, (.newarray .int, 2, 9, 0, 0, 0, 0, [], [])),
  (35, (.putfield 25, 3, 6, 4, 0, 0, 0, [], [])),
  (38, (.aload_n 0, 1, 0, 0, 0, 0, 0, [], [])),
  (39, (.bipush 24, 2, 0, 0, 0, 24, 0, [], [])),
  (41, (.newarray .int, 2, 9, 0, 0, 0, 0, [], [])),
  (43, (.putfield 28, 3, 6, 5, 0, 0, 0, [], [])),
  (46, (.aload_n 0, 1, 0, 0, 0, 0, 0, [], [])),
  (47, (.bipush 24, 2, 0, 0, 0, 24, 0, [], [])),
  (49, (.newarray .int, 2, 9, 0, 0, 0, 0, [], [])),
  (51, (.putfield 31, 3, 6, 6, 0, 0, 0, [], [])),
  (54, (.aload_n 0, 1, 0, 0, 0, 0, 0, [], [])),
  (55, (.bipush 24, 2, 0, 0, 0, 24, 0, [], [])),
  (57, (.newarray .int, 2, 9, 0, 0, 0, 0, [], [])),
  (59, (.putfield 34, 3, 6, 7, 0, 0, 0, [], [])),
  (62, (.return_, 1, 0, 0, 0, 0, 0, [], []))
  ]
def tbX6_build : List (Nat × jm_I) := [
  (0, (.aload_n 0, 1, 0, 0, 0, 0, 0, [], [])),
  (1, (.getfield 18, 3, 6, 2, 0, 0, 0, [], [])),
  (4, (.iconst (-1), 1, 0, 0, 0, (-1), 0, [], [])),
  (5, (.invokestatic 37, 3, 165, 2, 0, 0, 0, [], [])),
  (8, (.aload_n 0, 1, 0, 0, 0, 0, 0, [], [])),
  (9, (.getfield 22, 3, 6, 3, 0, 0, 0, [], [])),
  (12, (.iconst (-1), 1, 0, 0, 0, (-1), 0, [], [])),
  (13, (.invokestatic 37, 3, 165, 2, 0, 0, 0, [], [])),
  (16, (.aload_n 0, 1, 0, 0, 0, 0, 0, [], [])),
  (17, (.getfield 25, 3, 6, 4, 0, 0, 0, [], [])),
  (20, (.iconst (-1), 1, 0, 0, 0, (-1), 0, [], [])),
  (21, (.invokestatic 37, 3, 165, 2, 0, 0, 0, [], [])),
  (24, (.aload_n 0, 1, 0, 0, 0, 0, 0, [], [])),
  (25, (.iconst 0, 1, 0, 0, 0, 0, 0, [], [])),
  (26, (.putfield 15, 3, 6, 1, 0, 0, 0, [], [])),
  (29, (.iconst 0, 1, 0, 0, 0, 0, 0, [], [])),
  (30, (.istore_n 3, 1, 3, 0, 0, 0, 0, [], [])),
  (31, (.iconst 0, 1, 0, 0, 0, 0, 0, [], [])),
  (32, (.istore 4, 2, 4, 0, 0, 0, 0, [], [])),
  (34, (.iload 4, 2, 4, 0, 0, 0, 0, [], [])),
  (36, (.bipush 24, 2, 0, 0, 0, 24, 0, [], [])),
  (38, (.if_icmp .ge 58, 3, 96, 0, 0, 0, 0, [], [])),
  (41, (.aload_n 1, 1, 1, 0, 0, 0, 0, [], [])),
  (42, (.iload_n 2, 1, 2, 0, 0, 0, 0, [], [])),
  (43, (.iload 4, 2, 4, 0, 0, 0, 0, [], [])),
  (45, (.invokevirtual 43, 3, 14, 3, 1, 0, 0, [], [])),
  (48, (.ifCond .eq 42, 3, 90, 0, 0, 0, 0, [], [])),
  (51, (.aload_n 0, 1, 0, 0, 0, 0, 0, [], [])),
  (52, (.getfield 31, 3, 6, 6, 0, 0, 0, [], [])),
  (55, (.iload 4, 2, 4, 0, 0, 0, 0, [], [])),
  (57, (.aload_n 1, 1, 1, 0, 0, 0, 0, [], [])),
  (58, (.iload_n 2, 1, 2, 0, 0, 0, 0, [], [])),
  (59, (.iload 4, 2, 4, 0, 0, 0, 0, [], [])),
  (61, (.invokevirtual 49, 3, 15, 3, 1, 0, 0, [], [])),
  (64, (.iastore, 1, 0, 0, 0, 0, 0, [], [])),
  (65, (.aload_n 0, 1, 0, 0, 0, 0, 0, [], [])),
  (66, (.getfield 34, 3, 6, 7, 0, 0, 0, [], [])),
  (69, (.iload 4, 2, 4, 0, 0, 0, 0, [], [])),
  (71, (.aload_n 1, 1, 1, 0, 0, 0, 0, [], [])),
  (72, (.iload_n 2, 1, 2, 0, 0, 0, 0, [], [])),
  (73, (.iload 4, 2, 4, 0, 0, 0, 0, [], [])),
  (75, (.invokevirtual 53, 3, 16, 3, 1, 0, 0, [], [])),
  (78, (.iastore, 1, 0, 0, 0, 0, 0, [], [])),
  (79, (.aload_n 0, 1, 0, 0, 0, 0, 0, [], [])),
  (80, (.getfield 28, 3, 6, 5, 0, 0, 0, [], [])),
  (83, (.iload_n 3, 1, 3, 0, 0, 0, 0, [], [])),
  (84, (.iload 4, 2, 4, 0, 0, 0, 0, [], [])),
  (86, (.iastore, 1, 0, 0, 0, 0, 0, [], [])),
  (87, (.iinc 3 1, 3, 3, 0, 0, 1, 0, [], [])),
  (90, (.iinc 4 1, 3, 4, 0, 0, 1, 0, [], [])),
  (93, (.goto (-59), 3, 34, 0, 0, 0, 0, [], [])),
  (96, (.aload_n 0, 1, 0, 0, 0, 0, 0, [], [1, 2, 4])),
  (97, (.aload_n 0, 1, 0, 0, 0, 0, 0, [], [])),
  (98, (.iconst 0, 1, 0, 0, 0, 0, 0, [], [])),
  (99, (.iload_n 3, 1, 3, 0, 0, 0, 0, [], [])),
  (100, (.iconst 0, 1, 0, 0, 0, 0, 0, [], [])),
  (101, (.invokevirtual 56, 3, 51, 4, 6, 0, 0, [], [])),
  (104, (.putfield 9, 3, 6, 0, 0, 0, 0, [], [])),
  (107, (.return_, 1, 0, 0, 0, 0, 0, [], []))
  ]
def tbX6_split : List (Nat × jm_I) := [
  (0, (.iload_n 1, 1, 1, 0, 0, 0, 0, [], [])),
  (1, (.iload_n 2, 1, 2, 0, 0, 0, 0, [], [])),
  (2, (.if_icmp .ge 9, 3, 11, 0, 0, 0, 0, [], [])),
  (5, (.iload_n 3, 1, 3, 0, 0, 0, 0, [], [])),
  (6, (.bipush 24, 2, 0, 0, 0, 24, 0, [], [])),
  (8, (.if_icmp .lt 5, 3, 13, 0, 0, 0, 0, [], [])),
  (11, (.iconst (-1), 1, 0, 0, 0, (-1), 0, [], [0, 1, 2, 3, 4, 5])),
  (12, (.ireturn, 1, 0, 0, 0, 0, 0, [], [])),
  (13, (.aload_n 0, 1, 0, 0, 0, 0, 0, [], [4, 5])),
  (14, (.iload_n 1, 1, 1, 0, 0, 0, 0, [], [])),
  (15, (.iload_n 2, 1, 2, 0, 0, 0, 0, [], [])),
  (16, (.iload_n 3, 1, 3, 0, 0, 0, 0, [], [])),
  (17, (.invokevirtual 60, 3, 52, 4, 6, 0, 0, [], [])),
  (20, (.iload_n 1, 1, 1, 0, 0, 0, 0, [], [])),
  (21, (.iload_n 2, 1, 2, 0, 0, 0, 0, [], [])),
  (22, (.iload_n 1, 1, 1, 0, 0, 0, 0, [], [])),
  (23, (.isub, 1, 0, 0, 0, 0, 0, [], [])),
  (24, (.iconst 2, 1, 0, 0, 0, 2, 0, [], [])),
  (25, (.idiv, 1, 0, 0, 0, 0, 0, [], [])),
  (26, (.iadd, 1, 0, 0, 0, 0, 0, [], [])),
  (27, (.istore 4, 2, 4, 0, 0, 0, 0, [], [])),
  (29, (.aload_n 0, 1, 0, 0, 0, 0, 0, [], [])),
  (30, (.getfield 28, 3, 6, 5, 0, 0, 0, [], [])),
  (33, (.iload 4, 2, 4, 0, 0, 0, 0, [], [])),
  (35, (.iaload, 1, 0, 0, 0, 0, 0, [], [])),
  (36, (.istore 5, 2, 5, 0, 0, 0, 0, [], [])),
  (38, (.aload_n 0, 1, 0, 0, 0, 0, 0, [], [])),
  (39, (.getfield 25, 3, 6, 4, 0, 0, 0, [], [])),
  (42, (.iload 5, 2, 5, 0, 0, 0, 0, [], [])),
  (44, (.iload_n 3, 1, 3, 0, 0, 0, 0, [], [])),
  (45, (.iastore, 1, 0, 0, 0, 0, 0, [], [])),
  (46, (.aload_n 0, 1, 0, 0, 0, 0, 0, [], [])),
  (47, (.aload_n 0, 1, 0, 0, 0, 0, 0, [], [])),
  (48, (.getfield 15, 3, 6, 1, 0, 0, 0, [], [])),
  (51, (.iload_n 3, 1, 3, 0, 0, 0, 0, [], [])),
  (52, (.iconst 1, 1, 0, 0, 0, 1, 0, [], [])),
  (53, (.iadd, 1, 0, 0, 0, 0, 0, [], [])),
  (54, (.invokestatic 64, 3, 0, 0, 8, 0, 0, [], [])),
  (57, (.putfield 15, 3, 6, 1, 0, 0, 0, [], [])),
  (60, (.aload_n 0, 1, 0, 0, 0, 0, 0, [], [])),
  (61, (.getfield 18, 3, 6, 2, 0, 0, 0, [], [])),
  (64, (.iload 5, 2, 5, 0, 0, 0, 0, [], [])),
  (66, (.aload_n 0, 1, 0, 0, 0, 0, 0, [], [])),
  (67, (.iload_n 1, 1, 1, 0, 0, 0, 0, [], [])),
  (68, (.iload 4, 2, 4, 0, 0, 0, 0, [], [])),
  (70, (.iload_n 3, 1, 3, 0, 0, 0, 0, [], [])),
  (71, (.iconst 1, 1, 0, 0, 0, 1, 0, [], [])),
  (72, (.iadd, 1, 0, 0, 0, 0, 0, [], [])),
  (73, (.invokevirtual 56, 3, 51, 4, 6, 0, 0, [], [])),
  (76, (.iastore, 1, 0, 0, 0, 0, 0, [], [])),
  (77, (.aload_n 0, 1, 0, 0, 0, 0, 0, [], [])),
  (78, (.getfield 22, 3, 6, 3, 0, 0, 0, [], [])),
  (81, (.iload 5, 2, 5, 0, 0, 0, 0, [], [])),
  (83, (.aload_n 0, 1, 0, 0, 0, 0, 0, [], [])),
  (84, (.iload 4, 2, 4, 0, 0, 0, 0, [], [])),
  (86, (.iconst 1, 1, 0, 0, 0, 1, 0, [], [])),
  (87, (.iadd, 1, 0, 0, 0, 0, 0, [], [])),
  (88, (.iload_n 2, 1, 2, 0, 0, 0, 0, [], [])),
  (89, (.iload_n 3, 1, 3, 0, 0, 0, 0, [], [])),
  (90, (.iconst 1, 1, 0, 0, 0, 1, 0, [], [])),
  (91, (.iadd, 1, 0, 0, 0, 0, 0, [], [])),
  (92, (.invokevirtual 56, 3, 51, 4, 6, 0, 0, [], [])),
  (95, (.iastore, 1, 0, 0, 0, 0, 0, [], [])),
  (96, (.iload 5, 2, 5, 0, 0, 0, 0, [], [])),
  (98, (.ireturn, 1, 0, 0, 0, 0, 0, [], []))
  ]
def tbX6_sort : List (Nat × jm_I) := [
  (0, (.iload_n 1, 1, 1, 0, 0, 0, 0, [], [])),
  (1, (.iconst 1, 1, 0, 0, 0, 1, 0, [], [])),
  (2, (.iadd, 1, 0, 0, 0, 0, 0, [], [])),
  (3, (.istore 4, 2, 4, 0, 0, 0, 0, [], [])),
  (5, (.iload 4, 2, 4, 0, 0, 0, 0, [], [5, 6, 7])),
  (7, (.iload_n 2, 1, 2, 0, 0, 0, 0, [], [])),
  (8, (.if_icmp .ge 87, 3, 95, 0, 0, 0, 0, [], [])),
  (11, (.aload_n 0, 1, 0, 0, 0, 0, 0, [], [])),
  (12, (.getfield 28, 3, 6, 5, 0, 0, 0, [], [])),
  (15, (.iload 4, 2, 4, 0, 0, 0, 0, [], [])),
  (17, (.iaload, 1, 0, 0, 0, 0, 0, [], [])),
  (18, (.istore 5, 2, 5, 0, 0, 0, 0, [], [])),
  (20, (.aload_n 0, 1, 0, 0, 0, 0, 0, [], [])),
  (21, (.iload 5, 2, 5, 0, 0, 0, 0, [], [])),
  (23, (.iload_n 3, 1, 3, 0, 0, 0, 0, [], [])),
  (24, (.invokevirtual 69, 3, 53, 3, 6, 0, 0, [], [])),
  (27, (.istore 6, 2, 6, 0, 0, 0, 0, [], [])),
  (29, (.iload 4, 2, 4, 0, 0, 0, 0, [], [])),
  (31, (.istore 7, 2, 7, 0, 0, 0, 0, [], [])),
  (33, (.iload 7, 2, 7, 0, 0, 0, 0, [], [])),
  (35, (.iload_n 1, 1, 1, 0, 0, 0, 0, [], [])),
  (36, (.if_icmp .le 44, 3, 80, 0, 0, 0, 0, [], [])),
  (39, (.aload_n 0, 1, 0, 0, 0, 0, 0, [], [])),
  (40, (.aload_n 0, 1, 0, 0, 0, 0, 0, [], [])),
  (41, (.getfield 28, 3, 6, 5, 0, 0, 0, [], [])),
  (44, (.iload 7, 2, 7, 0, 0, 0, 0, [], [])),
  (46, (.iconst 1, 1, 0, 0, 0, 1, 0, [], [])),
  (47, (.isub, 1, 0, 0, 0, 0, 0, [], [])),
  (48, (.iaload, 1, 0, 0, 0, 0, 0, [], [])),
  (49, (.iload_n 3, 1, 3, 0, 0, 0, 0, [], [])),
  (50, (.invokevirtual 69, 3, 53, 3, 6, 0, 0, [], [])),
  (53, (.iload 6, 2, 6, 0, 0, 0, 0, [], [])),
  (55, (.if_icmp .le 25, 3, 80, 0, 0, 0, 0, [], [])),
  (58, (.aload_n 0, 1, 0, 0, 0, 0, 0, [], [])),
  (59, (.getfield 28, 3, 6, 5, 0, 0, 0, [], [])),
  (62, (.iload 7, 2, 7, 0, 0, 0, 0, [], [])),
  (64, (.aload_n 0, 1, 0, 0, 0, 0, 0, [], [])),
  (65, (.getfield 28, 3, 6, 5, 0, 0, 0, [], [])),
  (68, (.iload 7, 2, 7, 0, 0, 0, 0, [], [])),
  (70, (.iconst 1, 1, 0, 0, 0, 1, 0, [], [])),
  (71, (.isub, 1, 0, 0, 0, 0, 0, [], [])),
  (72, (.iaload, 1, 0, 0, 0, 0, 0, [], [])),
  (73, (.iastore, 1, 0, 0, 0, 0, 0, [], [])),
  (74, (.iinc 7 (-1), 3, 7, 0, 0, (-1), 0, [], [])),
  (77, (.goto (-44), 3, 33, 0, 0, 0, 0, [], [])),
  (80, (.aload_n 0, 1, 0, 0, 0, 0, 0, [], [6])),
  (81, (.getfield 28, 3, 6, 5, 0, 0, 0, [], [])),
  (84, (.iload 7, 2, 7, 0, 0, 0, 0, [], [])),
  (86, (.iload 5, 2, 5, 0, 0, 0, 0, [], [])),
  (88, (.iastore, 1, 0, 0, 0, 0, 0, [], [])),
  (89, (.iinc 4 1, 3, 4, 0, 0, 1, 0, [], [])),
  (92, (.goto (-87), 3, 5, 0, 0, 0, 0, [], [])),
  (95, (.return_, 1, 0, 0, 0, 0, 0, [], [0, 1, 2, 3, 4, 5, 6, 7]))
  ]
def tbX6_rankOf : List (Nat × jm_I) := [
  (0, (.iload_n 2, 1, 2, 0, 0, 0, 0, [], [])),
  (1, (.iconst 2, 1, 0, 0, 0, 2, 0, [], [])),
  (2, (.irem, 1, 0, 0, 0, 0, 0, [], [])),
  (3, (.ifCond .ne 7, 3, 10, 0, 0, 0, 0, [], [])),
  (6, (.iconst 1, 1, 0, 0, 0, 1, 0, [], [])),
  (7, (.goto 4, 3, 11, 0, 0, 0, 0, [], [])),
  (10, (.iconst 0, 1, 0, 0, 0, 0, 0, [], [2, 3, 4, 5])),
  (11, (.istore_n 3, 1, 3, 0, 0, 0, 0, [], [2, 3, 4, 5])),
  (12, (.iload_n 3, 1, 3, 0, 0, 0, 0, [], [])),
  (13, (.ifCond .eq 12, 3, 25, 0, 0, 0, 0, [], [])),
  (16, (.aload_n 0, 1, 0, 0, 0, 0, 0, [], [])),
  (17, (.getfield 31, 3, 6, 6, 0, 0, 0, [], [])),
  (20, (.iload_n 1, 1, 1, 0, 0, 0, 0, [], [])),
  (21, (.iaload, 1, 0, 0, 0, 0, 0, [], [])),
  (22, (.goto 9, 3, 31, 0, 0, 0, 0, [], [])),
  (25, (.aload_n 0, 1, 0, 0, 0, 0, 0, [], [2, 4, 5])),
  (26, (.getfield 34, 3, 6, 7, 0, 0, 0, [], [])),
  (29, (.iload_n 1, 1, 1, 0, 0, 0, 0, [], [])),
  (30, (.iaload, 1, 0, 0, 0, 0, 0, [], [])),
  (31, (.istore 4, 2, 4, 0, 0, 0, 0, [], [2, 4, 5])),
  (33, (.iload_n 3, 1, 3, 0, 0, 0, 0, [], [])),
  (34, (.ifCond .eq 12, 3, 46, 0, 0, 0, 0, [], [])),
  (37, (.aload_n 0, 1, 0, 0, 0, 0, 0, [], [])),
  (38, (.getfield 34, 3, 6, 7, 0, 0, 0, [], [])),
  (41, (.iload_n 1, 1, 1, 0, 0, 0, 0, [], [])),
  (42, (.iaload, 1, 0, 0, 0, 0, 0, [], [])),
  (43, (.goto 9, 3, 52, 0, 0, 0, 0, [], [])),
  (46, (.aload_n 0, 1, 0, 0, 0, 0, 0, [], [2, 3, 5])),
  (47, (.getfield 31, 3, 6, 6, 0, 0, 0, [], [])),
  (50, (.iload_n 1, 1, 1, 0, 0, 0, 0, [], [])),
  (51, (.iaload, 1, 0, 0, 0, 0, 0, [], [])),
  (52, (.istore 5, 2, 5, 0, 0, 0, 0, [], [0, 2, 3, 5])),
  (54, (.iload 4, 2, 4, 0, 0, 0, 0, [], [])),
  (56, (.bipush 64, 2, 0, 0, 0, 64, 0, [], [])),
  (58, (.imul, 1, 0, 0, 0, 0, 0, [], [])),
  (59, (.iload 5, 2, 5, 0, 0, 0, 0, [], [])),
  (61, (.iadd, 1, 0, 0, 0, 0, 0, [], [])),
  (62, (.bipush 24, 2, 0, 0, 0, 24, 0, [], [])),
  (64, (.imul, 1, 0, 0, 0, 0, 0, [], [])),
  (65, (.iload_n 1, 1, 1, 0, 0, 0, 0, [], [])),
  (66, (.iadd, 1, 0, 0, 0, 0, 0, [], [])),
  (67, (.ireturn, 1, 0, 0, 0, 0, 0, [], []))
  ]
def tbX6_countLookedAt : List (Nat × jm_I) := [
  (0, (.aload_n 0, 1, 0, 0, 0, 0, 0, [], [])),
  (1, (.aload_n 0, 1, 0, 0, 0, 0, 0, [], [])),
  (2, (.getfield 9, 3, 6, 0, 0, 0, 0, [], [])),
  (5, (.iload_n 1, 1, 1, 0, 0, 0, 0, [], [])),
  (6, (.iload_n 2, 1, 2, 0, 0, 0, 0, [], [])),
  (7, (.iload_n 3, 1, 3, 0, 0, 0, 0, [], [])),
  (8, (.iconst 0, 1, 0, 0, 0, 0, 0, [], [])),
  (9, (.invokevirtual 72, 3, 55, 6, 6, 0, 0, [], [])),
  (12, (.ireturn, 1, 0, 0, 0, 0, 0, [], []))
  ]
def tbX6_lookedAtFrom : List (Nat × jm_I) := [
  (0, (.iload_n 1, 1, 1, 0, 0, 0, 0, [], [])),
  (1, (.iconst (-1), 1, 0, 0, 0, (-1), 0, [], [])),
  (2, (.if_icmp .eq 10, 3, 12, 0, 0, 0, 0, [], [])),
  (5, (.iload 5, 2, 5, 0, 0, 0, 0, [], [])),
  (7, (.bipush 24, 2, 0, 0, 0, 24, 0, [], [])),
  (9, (.if_icmp .lt 5, 3, 14, 0, 0, 0, 0, [], [])),
  (12, (.iconst 0, 1, 0, 0, 0, 0, 0, [], [0, 1, 2, 3, 4, 5, 6, 7, 8])),
  (13, (.ireturn, 1, 0, 0, 0, 0, 0, [], [])),
  (14, (.iload 5, 2, 5, 0, 0, 0, 0, [], [6, 7, 8])),
  (16, (.iconst 2, 1, 0, 0, 0, 2, 0, [], [])),
  (17, (.irem, 1, 0, 0, 0, 0, 0, [], [])),
  (18, (.ifCond .ne 14, 3, 32, 0, 0, 0, 0, [], [])),
  (21, (.iload_n 2, 1, 2, 0, 0, 0, 0, [], [])),
  (22, (.aload_n 0, 1, 0, 0, 0, 0, 0, [], [])),
  (23, (.getfield 31, 3, 6, 6, 0, 0, 0, [], [])),
  (26, (.iload_n 1, 1, 1, 0, 0, 0, 0, [], [])),
  (27, (.iaload, 1, 0, 0, 0, 0, 0, [], [])),
  (28, (.isub, 1, 0, 0, 0, 0, 0, [], [])),
  (29, (.goto 11, 3, 40, 0, 0, 0, 0, [], [])),
  (32, (.iload_n 3, 1, 3, 0, 0, 0, 0, [], [6, 7, 8])),
  (33, (.aload_n 0, 1, 0, 0, 0, 0, 0, [], [])),
  (34, (.getfield 34, 3, 6, 7, 0, 0, 0, [], [])),
  (37, (.iload_n 1, 1, 1, 0, 0, 0, 0, [], [])),
  (38, (.iaload, 1, 0, 0, 0, 0, 0, [], [])),
  (39, (.isub, 1, 0, 0, 0, 0, 0, [], [])),
  (40, (.istore 6, 2, 6, 0, 0, 0, 0, [], [6, 7, 8])),
  (42, (.iload 6, 2, 6, 0, 0, 0, 0, [], [])),
  (44, (.iload 6, 2, 6, 0, 0, 0, 0, [], [])),
  (46, (.imul, 1, 0, 0, 0, 0, 0, [], [])),
  (47, (.iload 4, 2, 4, 0, 0, 0, 0, [], [])),
  (49, (.if_icmp .gt 7, 3, 56, 0, 0, 0, 0, [], [])),
  (52, (.iconst 1, 1, 0, 0, 0, 1, 0, [], [])),
  (53, (.goto 4, 3, 57, 0, 0, 0, 0, [], [])),
  (56, (.iconst 0, 1, 0, 0, 0, 0, 0, [], [7, 8])),
  (57, (.istore 7, 2, 7, 0, 0, 0, 0, [], [7, 8])),
  (59, (.iconst 1, 1, 0, 0, 0, 1, 0, [], [])),
  (60, (.istore 8, 2, 8, 0, 0, 0, 0, [], [])),
  (62, (.iload 6, 2, 6, 0, 0, 0, 0, [], [])),
  (64, (.ifCond .le 8, 3, 72, 0, 0, 0, 0, [], [])),
  (67, (.iload 7, 2, 7, 0, 0, 0, 0, [], [])),
  (69, (.ifCond .eq 26, 3, 95, 0, 0, 0, 0, [], [])),
  (72, (.iload 8, 2, 8, 0, 0, 0, 0, [], [])),
  (74, (.aload_n 0, 1, 0, 0, 0, 0, 0, [], [])),
  (75, (.aload_n 0, 1, 0, 0, 0, 0, 0, [], [])),
  (76, (.getfield 18, 3, 6, 2, 0, 0, 0, [], [])),
  (79, (.iload_n 1, 1, 1, 0, 0, 0, 0, [], [])),
  (80, (.iaload, 1, 0, 0, 0, 0, 0, [], [])),
  (81, (.iload_n 2, 1, 2, 0, 0, 0, 0, [], [])),
  (82, (.iload_n 3, 1, 3, 0, 0, 0, 0, [], [])),
  (83, (.iload 4, 2, 4, 0, 0, 0, 0, [], [])),
  (85, (.iload 5, 2, 5, 0, 0, 0, 0, [], [])),
  (87, (.iconst 1, 1, 0, 0, 0, 1, 0, [], [])),
  (88, (.iadd, 1, 0, 0, 0, 0, 0, [], [])),
  (89, (.invokevirtual 72, 3, 55, 6, 6, 0, 0, [], [])),
  (92, (.iadd, 1, 0, 0, 0, 0, 0, [], [])),
  (93, (.istore 8, 2, 8, 0, 0, 0, 0, [], [])),
  (95, (.iload 6, 2, 6, 0, 0, 0, 0, [], [])),
  (97, (.ifCond .ge 8, 3, 105, 0, 0, 0, 0, [], [])),
  (100, (.iload 7, 2, 7, 0, 0, 0, 0, [], [])),
  (102, (.ifCond .eq 26, 3, 128, 0, 0, 0, 0, [], [])),
  (105, (.iload 8, 2, 8, 0, 0, 0, 0, [], [6, 7])),
  (107, (.aload_n 0, 1, 0, 0, 0, 0, 0, [], [])),
  (108, (.aload_n 0, 1, 0, 0, 0, 0, 0, [], [])),
  (109, (.getfield 22, 3, 6, 3, 0, 0, 0, [], [])),
  (112, (.iload_n 1, 1, 1, 0, 0, 0, 0, [], [])),
  (113, (.iaload, 1, 0, 0, 0, 0, 0, [], [])),
  (114, (.iload_n 2, 1, 2, 0, 0, 0, 0, [], [])),
  (115, (.iload_n 3, 1, 3, 0, 0, 0, 0, [], [])),
  (116, (.iload 4, 2, 4, 0, 0, 0, 0, [], [])),
  (118, (.iload 5, 2, 5, 0, 0, 0, 0, [], [])),
  (120, (.iconst 1, 1, 0, 0, 0, 1, 0, [], [])),
  (121, (.iadd, 1, 0, 0, 0, 0, 0, [], [])),
  (122, (.invokevirtual 72, 3, 55, 6, 6, 0, 0, [], [])),
  (125, (.iadd, 1, 0, 0, 0, 0, 0, [], [])),
  (126, (.istore 8, 2, 8, 0, 0, 0, 0, [], [])),
  (128, (.iload 8, 2, 8, 0, 0, 0, 0, [], [0, 1, 2, 3, 4, 5, 6, 7])),
  (130, (.ireturn, 1, 0, 0, 0, 0, 0, [], []))
  ]
end
section
/-! the program as the small machine reads it: printed by wip/whole/gen/tables.py -/
def tbX7_init : List (Nat × jm_I) := [
  (0, (.aload_n 0, 1, 0, 0, 0, 0, 0, [], [])),
  (1, (.invokespecial 1, 3, 0, 0, 7, 0, 0, [], [])),
  (4, (.aload_n 0, 1, 0, 0, 0, 0, 0, [], [])),
  (5, (.new 7, 3, 1, 0, 0, 0, 0, [], [])),
  (8, (.dup, 1, 0, 0, 0, 0, 0, [], [])),
  (9, (.invokespecial 9, 3, 9, 1, 0, 0, 0, [], [])),
  (12, (.putfield 10, 3, 7, 0, 0, 0, 0, [], [])),
  (15, (.aload_n 0, 1, 0, 0, 0, 0, 0, [], [])),
  (16, (.new 16, 3, 5, 0, 0, 0, 0, [], [])),
  (19, (.dup, 1, 0, 0, 0, 0, 0, [], [])),
  (20, (.invokespecial 18, 3, 45, 1, 0, 0, 0, [], [])),
  (23, (.putfield 19, 3, 7, 1, 0, 0, 0, [], [])),
  (26, (.aload_n 0, 1, 0, 0, 0, 0, 0, [], [])),
  (27, (.iconst 2, 1, 0, 0, 0, 2, 0, [], [])),
  (28, (.anewarray 7, 3, 12, 0, 0, 0, 0, [], [])),
  (31, (.putfield 23, 3, 7, 2, 0, 0, 0, [], [])),
  (34, (.iconst 0, 1, 0, 0, 0, 0, 0, [], [])),
  (35, (.istore_n 1, 1, 1, 0, 0, 0, 0, [], [])),
  (36, (.iload_n 1, 1, 1, 0, 0, 0, 0, [], [])),
  (37, (.iconst 2, 1, 0, 0, 0, 2, 0, [], [])),
  (38, (.if_icmp .ge 22, 3, 60, 0, 0, 0, 0, [], [])),
  (41, (.aload_n 0, 1, 0, 0, 0, 0, 0, [], [])),
  (42, (.getfield 23, 3, 7, 2, 0, 0, 0, [], [])),
  (45, (.iload_n 1, 1, 1, 0, 0, 0, 0, [], [])),
  (46, (.new 7, 3, 1, 0, 0, 0, 0, [], [])),
  (49, (.dup, 1, 0, 0, 0, 0, 0, [], [])),
  (50, (.invokespecial 9, 3, 9, 1, 0, 0, 0, [], [])),
  (53, (.aastore, 1, 0, 0, 0, 0, 0, [], [])),
  (54, (.iinc 1 1, 3, 1, 0, 0, 1, 0, [], [])),
  (57, (.goto (-21), 3, 36, 0, 0, 0, 0, [], [])),
  (60, (.aload_n 0, 1, 0, 0, 0, 0, 0, [], [1])),
  (61, (.iconst 2, 1, 0, 0, 0, 2, 0, [], [])),
  (62, (.newarray .boolean, 2, 10, 0, 0, 0, 0, [], [])),
  (64, (.putfield 27, 3, 7, 3, 0, 0, 0, [], [])),
  (67, (.aload_n 0, 1, 0, 0, 0, 0, 0, [], [])),
  (68, (.new 31, 3, 2, 0, 0, 0, 0, [], [])),
  (71, (.dup, 1, 0, 0, 0, 0, 0, [], [])),
  (72, (.invokespecial 33, 3, 21, 1, 0, 0, 0, [], [])),
  (75, (.putfield 34, 3, 7, 4, 0, 0, 0, [], [])),
  (78, (.aload_n 0, 1, 0, 0, 0, 0, 0, [], [])),
  (79, (.new 38, 3, 0, 0, 0, 0, 0, [], [])),
  (82, (.dup, 1, 0, 0, 0, 0, 0, [], [])),
  (83, (.invokespecial 40, 3, 0, 1, 0, 0, 0, [], [])),
  (86, (.putfield 41, 3, 7, 5, 0, 0, 0, [], [])),
  (89, (.aload_n 0, 1, 0, 0, 0, 0, 0, [], [])),
  (90, (.new 45, 3, 6, 0, 0, 0, 0, [], [])),
  (93, (.dup, 1, 0, 0, 0, 0, 0, [], [])),
  (94, (.invokespecial 47, 3, 49, 1, 0, 0, 0, [], [])),
  (97, (.putfield 48, 3, 7, 6, 0, 0, 0, [], [])),
  (100, (.aload_n 0, 1, 0, 0, 0, 0, 0, [], [])),
  (101, (.new 52, 3, 4, 0, 0, 0, 0, [], [])),
  (104, (.dup, 1, 0, 0, 0, 0, 0, [], [])),
  (105, (.invokespecial 54, 3, 38, 1, 0, 0, 0, [], [])),
  (108, (.putfield 55, 3, 7, 7, 0, 0, 0, [], [])),
  (111, (.return_, 1, 0, 0, 0, 0, 0, [], []))
  ]
def tbX7_picture : List (Nat × jm_I) := [
  (0, (.aload_n 0, 1, 0, 0, 0, 0, 0, [], [])),
  (1, (.getfield 10, 3, 7, 0, 0, 0, 0, [], [])),
  (4, (.getfield 59, 3, 1, 0, 0, 0, 0, [], [])),
  (7, (.bipush 6, 2, 0, 0, 0, 6, 0, [], [])),
  (9, (.if_icmp .lt 6, 3, 15, 0, 0, 0, 0, [], [])),
  (12, (.ldc 63, 2, 0, 0, 0, (-1000000004), 0, [], [])),
  (14, (.ireturn, 1, 0, 0, 0, 0, 0, [], [])),
  (15, (.aload_n 0, 1, 0, 0, 0, 0, 0, [], [])),
  (16, (.invokevirtual 64, 3, 88, 1, 7, 0, 0, [], [])),
  (19, (.aload_n 0, 1, 0, 0, 0, 0, 0, [], [])),
  (20, (.getfield 10, 3, 7, 0, 0, 0, 0, [], [])),
  (23, (.invokevirtual 67, 3, 11, 1, 1, 0, 0, [], [])),
  (26, (.ireturn, 1, 0, 0, 0, 0, 0, [], []))
  ]
def tbX7_drop : List (Nat × jm_I) := [
  (0, (.aload_n 0, 1, 0, 0, 0, 0, 0, [], [])),
  (1, (.getfield 10, 3, 7, 0, 0, 0, 0, [], [])),
  (4, (.getfield 59, 3, 1, 0, 0, 0, 0, [], [])),
  (7, (.iconst 1, 1, 0, 0, 0, 1, 0, [], [])),
  (8, (.if_icmp .ge 6, 3, 14, 0, 0, 0, 0, [], [])),
  (11, (.ldc 71, 2, 0, 0, 0, (-1000000003), 0, [], [])),
  (13, (.ireturn, 1, 0, 0, 0, 0, 0, [], [])),
  (14, (.aload_n 0, 1, 0, 0, 0, 0, 0, [], [])),
  (15, (.invokevirtual 64, 3, 88, 1, 7, 0, 0, [], [])),
  (18, (.aload_n 0, 1, 0, 0, 0, 0, 0, [], [])),
  (19, (.getfield 10, 3, 7, 0, 0, 0, 0, [], [])),
  (22, (.dup, 1, 0, 0, 0, 0, 0, [], [])),
  (23, (.getfield 59, 3, 1, 0, 0, 0, 0, [], [])),
  (26, (.iconst 1, 1, 0, 0, 0, 1, 0, [], [])),
  (27, (.isub, 1, 0, 0, 0, 0, 0, [], [])),
  (28, (.putfield 59, 3, 1, 0, 0, 0, 0, [], [])),
  (31, (.aload_n 0, 1, 0, 0, 0, 0, 0, [], [])),
  (32, (.getfield 10, 3, 7, 0, 0, 0, 0, [], [])),
  (35, (.getfield 59, 3, 1, 0, 0, 0, 0, [], [])),
  (38, (.ireturn, 1, 0, 0, 0, 0, 0, [], []))
  ]
def tbX7_put : List (Nat × jm_I) := [
  (0, (.aload_n 0, 1, 0, 0, 0, 0, 0, [], [])),
  (1, (.iload_n 1, 1, 1, 0, 0, 0, 0, [], [])),
  (2, (.iload_n 2, 1, 2, 0, 0, 0, 0, [], [])),
  (3, (.invokevirtual 72, 3, 81, 3, 7, 0, 0, [], [])),
  (6, (.ifCond .ne 6, 3, 12, 0, 0, 0, 0, [], [])),
  (9, (.ldc 76, 2, 0, 0, 0, (-1000000001), 0, [], [])),
  (11, (.ireturn, 1, 0, 0, 0, 0, 0, [], [])),
  (12, (.iload_n 3, 1, 3, 0, 0, 0, 0, [], [5])),
  (13, (.iload 4, 2, 4, 0, 0, 0, 0, [], [])),
  (15, (.invokestatic 77, 3, 85, 2, 0, 0, 0, [], [])),
  (18, (.ifCond .ne 6, 3, 24, 0, 0, 0, 0, [], [])),
  (21, (.ldc 80, 2, 0, 0, 0, (-1000000002), 0, [], [])),
  (23, (.ireturn, 1, 0, 0, 0, 0, 0, [], [])),
  (24, (.aload_n 0, 1, 0, 0, 0, 0, 0, [], [5])),
  (25, (.invokevirtual 64, 3, 88, 1, 7, 0, 0, [], [])),
  (28, (.aload_n 0, 1, 0, 0, 0, 0, 0, [], [])),
  (29, (.getfield 10, 3, 7, 0, 0, 0, 0, [], [])),
  (32, (.iload_n 1, 1, 1, 0, 0, 0, 0, [], [])),
  (33, (.iload_n 2, 1, 2, 0, 0, 0, 0, [], [])),
  (34, (.invokevirtual 81, 3, 14, 3, 1, 0, 0, [], [])),
  (37, (.ifCond .eq 7, 3, 44, 0, 0, 0, 0, [], [])),
  (40, (.iconst 1, 1, 0, 0, 0, 1, 0, [], [])),
  (41, (.goto 4, 3, 45, 0, 0, 0, 0, [], [])),
  (44, (.iconst 0, 1, 0, 0, 0, 0, 0, [], [5])),
  (45, (.istore 5, 2, 5, 0, 0, 0, 0, [], [5])),
  (47, (.aload_n 0, 1, 0, 0, 0, 0, 0, [], [])),
  (48, (.getfield 10, 3, 7, 0, 0, 0, 0, [], [])),
  (51, (.iload_n 1, 1, 1, 0, 0, 0, 0, [], [])),
  (52, (.iload_n 2, 1, 2, 0, 0, 0, 0, [], [])),
  (53, (.iload_n 3, 1, 3, 0, 0, 0, 0, [], [])),
  (54, (.iload 4, 2, 4, 0, 0, 0, 0, [], [])),
  (56, (.invokevirtual 84, 3, 12, 5, 1, 0, 0, [], [])),
  (59, (.iload 5, 2, 5, 0, 0, 0, 0, [], [])),
  (61, (.ireturn, 1, 0, 0, 0, 0, 0, [], []))
  ]
def tbX7_lose : List (Nat × jm_I) := [
  (0, (.aload_n 0, 1, 0, 0, 0, 0, 0, [], [])),
  (1, (.iload_n 1, 1, 1, 0, 0, 0, 0, [], [])),
  (2, (.iload_n 2, 1, 2, 0, 0, 0, 0, [], [])),
  (3, (.invokevirtual 72, 3, 81, 3, 7, 0, 0, [], [])),
  (6, (.ifCond .ne 6, 3, 12, 0, 0, 0, 0, [], [])),
  (9, (.ldc 76, 2, 0, 0, 0, (-1000000001), 0, [], [])),
  (11, (.ireturn, 1, 0, 0, 0, 0, 0, [], [])),
  (12, (.aload_n 0, 1, 0, 0, 0, 0, 0, [], [])),
  (13, (.getfield 10, 3, 7, 0, 0, 0, 0, [], [])),
  (16, (.iload_n 1, 1, 1, 0, 0, 0, 0, [], [])),
  (17, (.iload_n 2, 1, 2, 0, 0, 0, 0, [], [])),
  (18, (.invokevirtual 81, 3, 14, 3, 1, 0, 0, [], [])),
  (21, (.ifCond .ne 6, 3, 27, 0, 0, 0, 0, [], [])),
  (24, (.ldc 71, 2, 0, 0, 0, (-1000000003), 0, [], [])),
  (26, (.ireturn, 1, 0, 0, 0, 0, 0, [], [])),
  (27, (.aload_n 0, 1, 0, 0, 0, 0, 0, [], [])),
  (28, (.invokevirtual 64, 3, 88, 1, 7, 0, 0, [], [])),
  (31, (.aload_n 0, 1, 0, 0, 0, 0, 0, [], [])),
  (32, (.getfield 10, 3, 7, 0, 0, 0, 0, [], [])),
  (35, (.iload_n 1, 1, 1, 0, 0, 0, 0, [], [])),
  (36, (.iload_n 2, 1, 2, 0, 0, 0, 0, [], [])),
  (37, (.invokevirtual 88, 3, 13, 3, 1, 0, 0, [], [])),
  (40, (.aload_n 0, 1, 0, 0, 0, 0, 0, [], [])),
  (41, (.getfield 10, 3, 7, 0, 0, 0, 0, [], [])),
  (44, (.iload_n 1, 1, 1, 0, 0, 0, 0, [], [])),
  (45, (.invokevirtual 92, 3, 18, 2, 1, 0, 0, [], [])),
  (48, (.invokestatic 96, 3, 164, 1, 0, 0, 0, [], [])),
  (51, (.ireturn, 1, 0, 0, 0, 0, 0, [], []))
  ]
def tbX7_weigh : List (Nat × jm_I) := [
  (0, (.iload_n 1, 1, 1, 0, 0, 0, 0, [], [])),
  (1, (.invokestatic 101, 3, 83, 1, 0, 0, 0, [], [])),
  (4, (.ifCond .ne 6, 3, 10, 0, 0, 0, 0, [], [])),
  (7, (.ldc 76, 2, 0, 0, 0, (-1000000001), 0, [], [])),
  (9, (.ireturn, 1, 0, 0, 0, 0, 0, [], [])),
  (10, (.iload_n 2, 1, 2, 0, 0, 0, 0, [], [3])),
  (11, (.iconst 1, 1, 0, 0, 0, 1, 0, [], [])),
  (12, (.bipush 9, 2, 0, 0, 0, 9, 0, [], [])),
  (14, (.invokestatic 105, 3, 86, 3, 0, 0, 0, [], [])),
  (17, (.ifCond .ne 6, 3, 23, 0, 0, 0, 0, [], [])),
  (20, (.ldc 80, 2, 0, 0, 0, (-1000000002), 0, [], [])),
  (22, (.ireturn, 1, 0, 0, 0, 0, 0, [], [])),
  (23, (.aload_n 0, 1, 0, 0, 0, 0, 0, [], [3])),
  (24, (.invokevirtual 64, 3, 88, 1, 7, 0, 0, [], [])),
  (27, (.aload_n 0, 1, 0, 0, 0, 0, 0, [], [])),
  (28, (.getfield 10, 3, 7, 0, 0, 0, 0, [], [])),
  (31, (.getfield 109, 3, 1, 3, 0, 0, 0, [], [])),
  (34, (.iload_n 1, 1, 1, 0, 0, 0, 0, [], [])),
  (35, (.iaload, 1, 0, 0, 0, 0, 0, [], [])),
  (36, (.istore_n 3, 1, 3, 0, 0, 0, 0, [], [])),
  (37, (.aload_n 0, 1, 0, 0, 0, 0, 0, [], [])),
  (38, (.getfield 10, 3, 7, 0, 0, 0, 0, [], [])),
  (41, (.getfield 109, 3, 1, 3, 0, 0, 0, [], [])),
  (44, (.iload_n 1, 1, 1, 0, 0, 0, 0, [], [])),
  (45, (.iload_n 2, 1, 2, 0, 0, 0, 0, [], [])),
  (46, (.iastore, 1, 0, 0, 0, 0, 0, [], [])),
  (47, (.iload_n 3, 1, 3, 0, 0, 0, 0, [], [])),
  (48, (.ireturn, 1, 0, 0, 0, 0, 0, [], []))
  ]
def tbX7_bound : List (Nat × jm_I) := [
  (0, (.iload_n 1, 1, 1, 0, 0, 0, 0, [], [])),
  (1, (.ifCond .ne 13, 3, 14, 0, 0, 0, 0, [], [])),
  (4, (.iload_n 2, 1, 2, 0, 0, 0, 0, [], [])),
  (5, (.iconst 0, 1, 0, 0, 0, 0, 0, [], [])),
  (6, (.bipush 40, 2, 0, 0, 0, 40, 0, [], [])),
  (8, (.invokestatic 105, 3, 86, 3, 0, 0, 0, [], [])),
  (11, (.ifCond .ne 18, 3, 29, 0, 0, 0, 0, [], [])),
  (14, (.iload_n 1, 1, 1, 0, 0, 0, 0, [], [3, 4])),
  (15, (.iconst 1, 1, 0, 0, 0, 1, 0, [], [])),
  (16, (.if_icmp .ne 17, 3, 33, 0, 0, 0, 0, [], [])),
  (19, (.iload_n 2, 1, 2, 0, 0, 0, 0, [], [])),
  (20, (.iconst 1, 1, 0, 0, 0, 1, 0, [], [])),
  (21, (.bipush 99, 2, 0, 0, 0, 99, 0, [], [])),
  (23, (.invokestatic 105, 3, 86, 3, 0, 0, 0, [], [])),
  (26, (.ifCond .eq 7, 3, 33, 0, 0, 0, 0, [], [])),
  (29, (.iconst 1, 1, 0, 0, 0, 1, 0, [], [3, 4])),
  (30, (.goto 4, 3, 34, 0, 0, 0, 0, [], [])),
  (33, (.iconst 0, 1, 0, 0, 0, 0, 0, [], [3, 4])),
  (34, (.istore_n 3, 1, 3, 0, 0, 0, 0, [], [3, 4])),
  (35, (.iload_n 3, 1, 3, 0, 0, 0, 0, [], [])),
  (36, (.ifCond .ne 6, 3, 42, 0, 0, 0, 0, [], [])),
  (39, (.ldc 80, 2, 0, 0, 0, (-1000000002), 0, [], [])),
  (41, (.ireturn, 1, 0, 0, 0, 0, 0, [], [])),
  (42, (.aload_n 0, 1, 0, 0, 0, 0, 0, [], [3, 4])),
  (43, (.invokevirtual 64, 3, 88, 1, 7, 0, 0, [], [])),
  (46, (.iload_n 1, 1, 1, 0, 0, 0, 0, [], [])),
  (47, (.ifCond .ne 13, 3, 60, 0, 0, 0, 0, [], [])),
  (50, (.aload_n 0, 1, 0, 0, 0, 0, 0, [], [])),
  (51, (.getfield 10, 3, 7, 0, 0, 0, 0, [], [])),
  (54, (.getfield 113, 3, 1, 1, 0, 0, 0, [], [])),
  (57, (.goto 10, 3, 67, 0, 0, 0, 0, [], [])),
  (60, (.aload_n 0, 1, 0, 0, 0, 0, 0, [], [3, 4])),
  (61, (.getfield 10, 3, 7, 0, 0, 0, 0, [], [])),
  (64, (.getfield 116, 3, 1, 2, 0, 0, 0, [], [])),
  (67, (.istore 4, 2, 4, 0, 0, 0, 0, [], [3, 4])),
  (69, (.iload_n 1, 1, 1, 0, 0, 0, 0, [], [])),
  (70, (.ifCond .ne 14, 3, 84, 0, 0, 0, 0, [], [])),
  (73, (.aload_n 0, 1, 0, 0, 0, 0, 0, [], [])),
  (74, (.getfield 10, 3, 7, 0, 0, 0, 0, [], [])),
  (77, (.iload_n 2, 1, 2, 0, 0, 0, 0, [], [])),
  (78, (.putfield 113, 3, 1, 1, 0, 0, 0, [], [])),
  (81, (.goto 11, 3, 92, 0, 0, 0, 0, [], [])),
  (84, (.aload_n 0, 1, 0, 0, 0, 0, 0, [], [1, 3])),
  (85, (.getfield 10, 3, 7, 0, 0, 0, 0, [], [])),
  (88, (.iload_n 2, 1, 2, 0, 0, 0, 0, [], [])),
  (89, (.putfield 116, 3, 1, 2, 0, 0, 0, [], [])),
  (92, (.iload 4, 2, 4, 0, 0, 0, 0, [], [0, 1, 2, 3])),
  (94, (.ireturn, 1, 0, 0, 0, 0, 0, [], []))
  ]
def tbX7_drift : List (Nat × jm_I) := [
  (0, (.iload_n 1, 1, 1, 0, 0, 0, 0, [], [])),
  (1, (.iconst 1, 1, 0, 0, 0, 1, 0, [], [])),
  (2, (.ldc 119, 2, 0, 0, 0, 999999, 0, [], [])),
  (4, (.invokestatic 105, 3, 86, 3, 0, 0, 0, [], [])),
  (7, (.ifCond .ne 6, 3, 13, 0, 0, 0, 0, [], [])),
  (10, (.ldc 80, 2, 0, 0, 0, (-1000000002), 0, [], [])),
  (12, (.ireturn, 1, 0, 0, 0, 0, 0, [], [])),
  (13, (.aload_n 0, 1, 0, 0, 0, 0, 0, [], [2, 3])),
  (14, (.getfield 10, 3, 7, 0, 0, 0, 0, [], [])),
  (17, (.getfield 59, 3, 1, 0, 0, 0, 0, [], [])),
  (20, (.bipush 6, 2, 0, 0, 0, 6, 0, [], [])),
  (22, (.if_icmp .lt 6, 3, 28, 0, 0, 0, 0, [], [])),
  (25, (.ldc 63, 2, 0, 0, 0, (-1000000004), 0, [], [])),
  (27, (.ireturn, 1, 0, 0, 0, 0, 0, [], [])),
  (28, (.aload_n 0, 1, 0, 0, 0, 0, 0, [], [2, 3])),
  (29, (.invokevirtual 64, 3, 88, 1, 7, 0, 0, [], [])),
  (32, (.aload_n 0, 1, 0, 0, 0, 0, 0, [], [])),
  (33, (.getfield 10, 3, 7, 0, 0, 0, 0, [], [])),
  (36, (.invokevirtual 67, 3, 11, 1, 1, 0, 0, [], [])),
  (39, (.istore_n 2, 1, 2, 0, 0, 0, 0, [], [])),
  (40, (.aload_n 0, 1, 0, 0, 0, 0, 0, [], [])),
  (41, (.getfield 55, 3, 7, 7, 0, 0, 0, [], [])),
  (44, (.iload_n 1, 1, 1, 0, 0, 0, 0, [], [])),
  (45, (.invokevirtual 120, 3, 39, 2, 4, 0, 0, [], [])),
  (48, (.iconst 0, 1, 0, 0, 0, 0, 0, [], [])),
  (49, (.istore_n 3, 1, 3, 0, 0, 0, 0, [], [])),
  (50, (.iload_n 3, 1, 3, 0, 0, 0, 0, [], [1])),
  (51, (.bipush 24, 2, 0, 0, 0, 24, 0, [], [])),
  (53, (.if_icmp .ge 42, 3, 95, 0, 0, 0, 0, [], [])),
  (56, (.iload_n 2, 1, 2, 0, 0, 0, 0, [], [])),
  (57, (.ifCond .ne 19, 3, 76, 0, 0, 0, 0, [], [])),
  (60, (.aload_n 0, 1, 0, 0, 0, 0, 0, [], [])),
  (61, (.getfield 55, 3, 7, 7, 0, 0, 0, [], [])),
  (64, (.aload_n 0, 1, 0, 0, 0, 0, 0, [], [])),
  (65, (.getfield 10, 3, 7, 0, 0, 0, 0, [], [])),
  (68, (.iload_n 2, 1, 2, 0, 0, 0, 0, [], [])),
  (69, (.iload_n 3, 1, 3, 0, 0, 0, 0, [], [])),
  (70, (.invokevirtual 124, 3, 41, 4, 4, 0, 0, [], [])),
  (73, (.goto 16, 3, 89, 0, 0, 0, 0, [], [])),
  (76, (.aload_n 0, 1, 0, 0, 0, 0, 0, [], [1])),
  (77, (.getfield 55, 3, 7, 7, 0, 0, 0, [], [])),
  (80, (.aload_n 0, 1, 0, 0, 0, 0, 0, [], [])),
  (81, (.getfield 10, 3, 7, 0, 0, 0, 0, [], [])),
  (84, (.iload_n 2, 1, 2, 0, 0, 0, 0, [], [])),
  (85, (.iload_n 3, 1, 3, 0, 0, 0, 0, [], [])),
  (86, (.invokevirtual 128, 3, 42, 4, 4, 0, 0, [], [])),
  (89, (.iinc 3 1, 3, 3, 0, 0, 1, 0, [], [1])),
  (92, (.goto (-42), 3, 50, 0, 0, 0, 0, [], [])),
  (95, (.aload_n 0, 1, 0, 0, 0, 0, 0, [], [1, 3])),
  (96, (.getfield 10, 3, 7, 0, 0, 0, 0, [], [])),
  (99, (.iload_n 2, 1, 2, 0, 0, 0, 0, [], [])),
  (100, (.invokevirtual 92, 3, 18, 2, 1, 0, 0, [], [])),
  (103, (.invokestatic 96, 3, 164, 1, 0, 0, 0, [], [])),
  (106, (.ireturn, 1, 0, 0, 0, 0, 0, [], []))
  ]
def tbX7_undo : List (Nat × jm_I) := [
  (0, (.aload_n 0, 1, 0, 0, 0, 0, 0, [], [])),
  (1, (.getfield 19, 3, 7, 1, 0, 0, 0, [], [])),
  (4, (.getfield 131, 3, 5, 2, 0, 0, 0, [], [])),
  (7, (.iconst 1, 1, 0, 0, 0, 1, 0, [], [])),
  (8, (.if_icmp .ge 6, 3, 14, 0, 0, 0, 0, [], [])),
  (11, (.ldc 71, 2, 0, 0, 0, (-1000000003), 0, [], [])),
  (13, (.ireturn, 1, 0, 0, 0, 0, 0, [], [])),
  (14, (.aload_n 0, 1, 0, 0, 0, 0, 0, [], [])),
  (15, (.getfield 19, 3, 7, 1, 0, 0, 0, [], [])),
  (18, (.aload_n 0, 1, 0, 0, 0, 0, 0, [], [])),
  (19, (.getfield 10, 3, 7, 0, 0, 0, 0, [], [])),
  (22, (.invokevirtual 134, 3, 47, 2, 5, 0, 0, [], [])),
  (25, (.aload_n 0, 1, 0, 0, 0, 0, 0, [], [])),
  (26, (.getfield 34, 3, 7, 4, 0, 0, 0, [], [])),
  (29, (.iconst 0, 1, 0, 0, 0, 0, 0, [], [])),
  (30, (.putfield 138, 3, 2, 0, 0, 0, 0, [], [])),
  (33, (.aload_n 0, 1, 0, 0, 0, 0, 0, [], [])),
  (34, (.getfield 19, 3, 7, 1, 0, 0, 0, [], [])),
  (37, (.getfield 131, 3, 5, 2, 0, 0, 0, [], [])),
  (40, (.ireturn, 1, 0, 0, 0, 0, 0, [], []))
  ]
def tbX7_told : List (Nat × jm_I) := [
  (0, (.iload_n 1, 1, 1, 0, 0, 0, 0, [], [])),
  (1, (.tableswitch 139 0 7 #[47, 55, 63, 71, 86, 101, 116, 131], 47, 140, 0, 0, 0, 0, [(0, 48), (1, 56), (2, 64), (3, 72), (4, 87), (5, 102), (6, 117), (7, 132)], [])),
  (48, (.aload_n 0, 1, 0, 0, 0, 0, 0, [], [1])),
  (49, (.getfield 10, 3, 7, 0, 0, 0, 0, [], [])),
  (52, (.getfield 59, 3, 1, 0, 0, 0, 0, [], [])),
  (55, (.ireturn, 1, 0, 0, 0, 0, 0, [], [])),
  (56, (.aload_n 0, 1, 0, 0, 0, 0, 0, [], [1])),
  (57, (.getfield 10, 3, 7, 0, 0, 0, 0, [], [])),
  (60, (.getfield 113, 3, 1, 1, 0, 0, 0, [], [])),
  (63, (.ireturn, 1, 0, 0, 0, 0, 0, [], [])),
  (64, (.aload_n 0, 1, 0, 0, 0, 0, 0, [], [1])),
  (65, (.getfield 10, 3, 7, 0, 0, 0, 0, [], [])),
  (68, (.getfield 116, 3, 1, 2, 0, 0, 0, [], [])),
  (71, (.ireturn, 1, 0, 0, 0, 0, 0, [], [])),
  (72, (.aload_n 0, 1, 0, 0, 0, 0, 0, [], [1])),
  (73, (.getfield 34, 3, 7, 4, 0, 0, 0, [], [])),
  (76, (.aload_n 0, 1, 0, 0, 0, 0, 0, [], [])),
  (77, (.getfield 10, 3, 7, 0, 0, 0, 0, [], [])),
  (80, (.invokevirtual 142, 3, 22, 2, 2, 0, 0, [], [])),
  (83, (.invokevirtual 146, 3, 25, 1, 2, 0, 0, [], [])),
  (86, (.ireturn, 1, 0, 0, 0, 0, 0, [], [])),
  (87, (.aload_n 0, 1, 0, 0, 0, 0, 0, [], [1])),
  (88, (.getfield 34, 3, 7, 4, 0, 0, 0, [], [])),
  (91, (.aload_n 0, 1, 0, 0, 0, 0, 0, [], [])),
  (92, (.getfield 10, 3, 7, 0, 0, 0, 0, [], [])),
  (95, (.invokevirtual 142, 3, 22, 2, 2, 0, 0, [], [])),
  (98, (.invokevirtual 149, 3, 26, 1, 2, 0, 0, [], [])),
  (101, (.ireturn, 1, 0, 0, 0, 0, 0, [], [])),
  (102, (.aload_n 0, 1, 0, 0, 0, 0, 0, [], [1])),
  (103, (.getfield 34, 3, 7, 4, 0, 0, 0, [], [])),
  (106, (.aload_n 0, 1, 0, 0, 0, 0, 0, [], [])),
  (107, (.getfield 10, 3, 7, 0, 0, 0, 0, [], [])),
  (110, (.invokevirtual 142, 3, 22, 2, 2, 0, 0, [], [])),
  (113, (.invokevirtual 152, 3, 27, 1, 2, 0, 0, [], [])),
  (116, (.ireturn, 1, 0, 0, 0, 0, 0, [], [])),
  (117, (.aload_n 0, 1, 0, 0, 0, 0, 0, [], [1])),
  (118, (.getfield 34, 3, 7, 4, 0, 0, 0, [], [])),
  (121, (.aload_n 0, 1, 0, 0, 0, 0, 0, [], [])),
  (122, (.getfield 10, 3, 7, 0, 0, 0, 0, [], [])),
  (125, (.invokevirtual 142, 3, 22, 2, 2, 0, 0, [], [])),
  (128, (.invokevirtual 155, 3, 28, 1, 2, 0, 0, [], [])),
  (131, (.ireturn, 1, 0, 0, 0, 0, 0, [], [])),
  (132, (.aload_n 0, 1, 0, 0, 0, 0, 0, [], [1])),
  (133, (.getfield 19, 3, 7, 1, 0, 0, 0, [], [])),
  (136, (.getfield 131, 3, 5, 2, 0, 0, 0, [], [])),
  (139, (.ireturn, 1, 0, 0, 0, 0, 0, [], [])),
  (140, (.ldc 80, 2, 0, 0, 0, (-1000000002), 0, [], [0, 1])),
  (142, (.ireturn, 1, 0, 0, 0, 0, 0, [], []))
  ]
def tbX7_ofPicture : List (Nat × jm_I) := [
  (0, (.aload_n 0, 1, 0, 0, 0, 0, 0, [], [])),
  (1, (.iload_n 1, 1, 1, 0, 0, 0, 0, [], [])),
  (2, (.invokevirtual 158, 3, 80, 2, 7, 0, 0, [], [])),
  (5, (.ifCond .ne 6, 3, 11, 0, 0, 0, 0, [], [])),
  (8, (.ldc 76, 2, 0, 0, 0, (-1000000001), 0, [], [])),
  (10, (.ireturn, 1, 0, 0, 0, 0, 0, [], [])),
  (11, (.iload_n 2, 1, 2, 0, 0, 0, 0, [], [])),
  (12, (.tableswitch 163 0 7 #[48, 60, 69, 89, 109, 129, 138, 147], 48, 175, 0, 0, 0, 0, [(0, 60), (1, 72), (2, 81), (3, 101), (4, 121), (5, 141), (6, 150), (7, 159)], [])),
  (60, (.aload_n 0, 1, 0, 0, 0, 0, 0, [], [2])),
  (61, (.getfield 10, 3, 7, 0, 0, 0, 0, [], [])),
  (64, (.iload_n 1, 1, 1, 0, 0, 0, 0, [], [])),
  (65, (.invokevirtual 92, 3, 18, 2, 1, 0, 0, [], [])),
  (68, (.invokestatic 96, 3, 164, 1, 0, 0, 0, [], [])),
  (71, (.ireturn, 1, 0, 0, 0, 0, 0, [], [])),
  (72, (.aload_n 0, 1, 0, 0, 0, 0, 0, [], [2])),
  (73, (.getfield 10, 3, 7, 0, 0, 0, 0, [], [])),
  (76, (.iload_n 1, 1, 1, 0, 0, 0, 0, [], [])),
  (77, (.invokevirtual 92, 3, 18, 2, 1, 0, 0, [], [])),
  (80, (.ireturn, 1, 0, 0, 0, 0, 0, [], [])),
  (81, (.aload_n 0, 1, 0, 0, 0, 0, 0, [], [2])),
  (82, (.getfield 34, 3, 7, 4, 0, 0, 0, [], [])),
  (85, (.aload_n 0, 1, 0, 0, 0, 0, 0, [], [])),
  (86, (.getfield 10, 3, 7, 0, 0, 0, 0, [], [])),
  (89, (.invokevirtual 142, 3, 22, 2, 2, 0, 0, [], [])),
  (92, (.getfield 161, 3, 2, 2, 0, 0, 0, [], [])),
  (95, (.iload_n 1, 1, 1, 0, 0, 0, 0, [], [])),
  (96, (.aaload, 1, 0, 0, 0, 0, 0, [], [])),
  (97, (.getfield 165, 3, 0, 0, 0, 0, 0, [], [])),
  (100, (.ireturn, 1, 0, 0, 0, 0, 0, [], [])),
  (101, (.aload_n 0, 1, 0, 0, 0, 0, 0, [], [2])),
  (102, (.getfield 34, 3, 7, 4, 0, 0, 0, [], [])),
  (105, (.aload_n 0, 1, 0, 0, 0, 0, 0, [], [])),
  (106, (.getfield 10, 3, 7, 0, 0, 0, 0, [], [])),
  (109, (.invokevirtual 142, 3, 22, 2, 2, 0, 0, [], [])),
  (112, (.getfield 161, 3, 2, 2, 0, 0, 0, [], [])),
  (115, (.iload_n 1, 1, 1, 0, 0, 0, 0, [], [])),
  (116, (.aaload, 1, 0, 0, 0, 0, 0, [], [])),
  (117, (.getfield 168, 3, 0, 1, 0, 0, 0, [], [])),
  (120, (.ireturn, 1, 0, 0, 0, 0, 0, [], [])),
  (121, (.aload_n 0, 1, 0, 0, 0, 0, 0, [], [2])),
  (122, (.getfield 34, 3, 7, 4, 0, 0, 0, [], [])),
  (125, (.aload_n 0, 1, 0, 0, 0, 0, 0, [], [])),
  (126, (.getfield 10, 3, 7, 0, 0, 0, 0, [], [])),
  (129, (.invokevirtual 142, 3, 22, 2, 2, 0, 0, [], [])),
  (132, (.getfield 169, 3, 2, 3, 0, 0, 0, [], [])),
  (135, (.iload_n 1, 1, 1, 0, 0, 0, 0, [], [])),
  (136, (.aaload, 1, 0, 0, 0, 0, 0, [], [])),
  (137, (.getfield 173, 3, 3, 0, 0, 0, 0, [], [])),
  (140, (.ireturn, 1, 0, 0, 0, 0, 0, [], [])),
  (141, (.aload_n 0, 1, 0, 0, 0, 0, 0, [], [2])),
  (142, (.iload_n 1, 1, 1, 0, 0, 0, 0, [], [])),
  (143, (.invokevirtual 176, 3, 90, 2, 7, 0, 0, [], [])),
  (146, (.getfield 180, 3, 6, 1, 0, 0, 0, [], [])),
  (149, (.ireturn, 1, 0, 0, 0, 0, 0, [], [])),
  (150, (.aload_n 0, 1, 0, 0, 0, 0, 0, [], [2])),
  (151, (.iload_n 1, 1, 1, 0, 0, 0, 0, [], [])),
  (152, (.invokevirtual 176, 3, 90, 2, 7, 0, 0, [], [])),
  (155, (.getfield 183, 3, 6, 0, 0, 0, 0, [], [])),
  (158, (.ireturn, 1, 0, 0, 0, 0, 0, [], [])),
  (159, (.aload_n 0, 1, 0, 0, 0, 0, 0, [], [2])),
  (160, (.getfield 10, 3, 7, 0, 0, 0, 0, [], [])),
  (163, (.aload_n 0, 1, 0, 0, 0, 0, 0, [], [])),
  (164, (.getfield 10, 3, 7, 0, 0, 0, 0, [], [])),
  (167, (.iload_n 1, 1, 1, 0, 0, 0, 0, [], [])),
  (168, (.invokevirtual 92, 3, 18, 2, 1, 0, 0, [], [])),
  (171, (.invokevirtual 186, 3, 20, 2, 1, 0, 0, [], [])),
  (174, (.ireturn, 1, 0, 0, 0, 0, 0, [], [])),
  (175, (.ldc 80, 2, 0, 0, 0, (-1000000002), 0, [], [0, 1, 2])),
  (177, (.ireturn, 1, 0, 0, 0, 0, 0, [], []))
  ]
def tbX7_grain : List (Nat × jm_I) := [
  (0, (.aload_n 0, 1, 0, 0, 0, 0, 0, [], [])),
  (1, (.iload_n 1, 1, 1, 0, 0, 0, 0, [], [])),
  (2, (.iload_n 2, 1, 2, 0, 0, 0, 0, [], [])),
  (3, (.invokevirtual 72, 3, 81, 3, 7, 0, 0, [], [])),
  (6, (.ifCond .ne 6, 3, 12, 0, 0, 0, 0, [], [])),
  (9, (.ldc 76, 2, 0, 0, 0, (-1000000001), 0, [], [])),
  (11, (.ireturn, 1, 0, 0, 0, 0, 0, [], [])),
  (12, (.aload_n 0, 1, 0, 0, 0, 0, 0, [], [4])),
  (13, (.getfield 10, 3, 7, 0, 0, 0, 0, [], [])),
  (16, (.iload_n 1, 1, 1, 0, 0, 0, 0, [], [])),
  (17, (.iload_n 2, 1, 2, 0, 0, 0, 0, [], [])),
  (18, (.invokevirtual 81, 3, 14, 3, 1, 0, 0, [], [])),
  (21, (.istore 4, 2, 4, 0, 0, 0, 0, [], [])),
  (23, (.iload_n 3, 1, 3, 0, 0, 0, 0, [], [])),
  (24, (.tableswitch 204 0 7 #[48, 67, 86, 108, 129, 154, 183, 194], 48, 228, 0, 0, 0, 0, [(0, 72), (1, 91), (2, 110), (3, 132), (4, 153), (5, 178), (6, 207), (7, 218)], [])),
  (72, (.iload 4, 2, 4, 0, 0, 0, 0, [], [3])),
  (74, (.ifCond .eq 15, 3, 89, 0, 0, 0, 0, [], [])),
  (77, (.aload_n 0, 1, 0, 0, 0, 0, 0, [], [])),
  (78, (.getfield 10, 3, 7, 0, 0, 0, 0, [], [])),
  (81, (.iload_n 1, 1, 1, 0, 0, 0, 0, [], [])),
  (82, (.iload_n 2, 1, 2, 0, 0, 0, 0, [], [])),
  (83, (.invokevirtual 189, 3, 15, 3, 1, 0, 0, [], [])),
  (86, (.goto 4, 3, 90, 0, 0, 0, 0, [], [])),
  (89, (.iconst (-1), 1, 0, 0, 0, (-1), 0, [], [0, 1, 2, 3, 4])),
  (90, (.ireturn, 1, 0, 0, 0, 0, 0, [], [0, 1, 2, 3, 4])),
  (91, (.iload 4, 2, 4, 0, 0, 0, 0, [], [3])),
  (93, (.ifCond .eq 15, 3, 108, 0, 0, 0, 0, [], [])),
  (96, (.aload_n 0, 1, 0, 0, 0, 0, 0, [], [])),
  (97, (.getfield 10, 3, 7, 0, 0, 0, 0, [], [])),
  (100, (.iload_n 1, 1, 1, 0, 0, 0, 0, [], [])),
  (101, (.iload_n 2, 1, 2, 0, 0, 0, 0, [], [])),
  (102, (.invokevirtual 193, 3, 16, 3, 1, 0, 0, [], [])),
  (105, (.goto 4, 3, 109, 0, 0, 0, 0, [], [])),
  (108, (.iconst (-1), 1, 0, 0, 0, (-1), 0, [], [0, 1, 2, 3, 4])),
  (109, (.ireturn, 1, 0, 0, 0, 0, 0, [], [0, 1, 2, 3, 4])),
  (110, (.aload_n 0, 1, 0, 0, 0, 0, 0, [], [3, 4])),
  (111, (.getfield 34, 3, 7, 4, 0, 0, 0, [], [])),
  (114, (.aload_n 0, 1, 0, 0, 0, 0, 0, [], [])),
  (115, (.getfield 10, 3, 7, 0, 0, 0, 0, [], [])),
  (118, (.invokevirtual 142, 3, 22, 2, 2, 0, 0, [], [])),
  (121, (.getfield 161, 3, 2, 2, 0, 0, 0, [], [])),
  (124, (.iload_n 1, 1, 1, 0, 0, 0, 0, [], [])),
  (125, (.aaload, 1, 0, 0, 0, 0, 0, [], [])),
  (126, (.getfield 196, 3, 0, 3, 0, 0, 0, [], [])),
  (129, (.iload_n 2, 1, 2, 0, 0, 0, 0, [], [])),
  (130, (.iaload, 1, 0, 0, 0, 0, 0, [], [])),
  (131, (.ireturn, 1, 0, 0, 0, 0, 0, [], [])),
  (132, (.aload_n 0, 1, 0, 0, 0, 0, 0, [], [3, 4])),
  (133, (.getfield 34, 3, 7, 4, 0, 0, 0, [], [])),
  (136, (.aload_n 0, 1, 0, 0, 0, 0, 0, [], [])),
  (137, (.getfield 10, 3, 7, 0, 0, 0, 0, [], [])),
  (140, (.invokevirtual 142, 3, 22, 2, 2, 0, 0, [], [])),
  (143, (.getfield 169, 3, 2, 3, 0, 0, 0, [], [])),
  (146, (.iload_n 1, 1, 1, 0, 0, 0, 0, [], [])),
  (147, (.aaload, 1, 0, 0, 0, 0, 0, [], [])),
  (148, (.iload_n 2, 1, 2, 0, 0, 0, 0, [], [])),
  (149, (.invokevirtual 199, 3, 32, 2, 3, 0, 0, [], [])),
  (152, (.ireturn, 1, 0, 0, 0, 0, 0, [], [])),
  (153, (.aload_n 0, 1, 0, 0, 0, 0, 0, [], [3, 4])),
  (154, (.getfield 34, 3, 7, 4, 0, 0, 0, [], [])),
  (157, (.aload_n 0, 1, 0, 0, 0, 0, 0, [], [])),
  (158, (.getfield 10, 3, 7, 0, 0, 0, 0, [], [])),
  (161, (.invokevirtual 142, 3, 22, 2, 2, 0, 0, [], [])),
  (164, (.getfield 161, 3, 2, 2, 0, 0, 0, [], [])),
  (167, (.iload_n 1, 1, 1, 0, 0, 0, 0, [], [])),
  (168, (.aaload, 1, 0, 0, 0, 0, 0, [], [])),
  (169, (.getfield 202, 3, 0, 2, 0, 0, 0, [], [])),
  (172, (.iload_n 2, 1, 2, 0, 0, 0, 0, [], [])),
  (173, (.iaload, 1, 0, 0, 0, 0, 0, [], [])),
  (174, (.invokestatic 96, 3, 164, 1, 0, 0, 0, [], [])),
  (177, (.ireturn, 1, 0, 0, 0, 0, 0, [], [])),
  (178, (.aload_n 0, 1, 0, 0, 0, 0, 0, [], [3, 4])),
  (179, (.getfield 34, 3, 7, 4, 0, 0, 0, [], [])),
  (182, (.aload_n 0, 1, 0, 0, 0, 0, 0, [], [])),
  (183, (.getfield 10, 3, 7, 0, 0, 0, 0, [], [])),
  (186, (.invokevirtual 142, 3, 22, 2, 2, 0, 0, [], [])),
  (189, (.getfield 161, 3, 2, 2, 0, 0, 0, [], [])),
  (192, (.iload_n 1, 1, 1, 0, 0, 0, 0, [], [])),
  (193, (.aaload, 1, 0, 0, 0, 0, 0, [], [])),
  (194, (.iload_n 2, 1, 2, 0, 0, 0, 0, [], [])),
  (195, (.invokevirtual 205, 3, 8, 2, 0, 0, 0, [], [])),
  (198, (.ifCond .eq 7, 3, 205, 0, 0, 0, 0, [], [])),
  (201, (.iconst 1, 1, 0, 0, 0, 1, 0, [], [])),
  (202, (.goto 4, 3, 206, 0, 0, 0, 0, [], [])),
  (205, (.iconst 0, 1, 0, 0, 0, 0, 0, [], [0, 1, 2, 3, 4])),
  (206, (.ireturn, 1, 0, 0, 0, 0, 0, [], [0, 1, 2, 3, 4])),
  (207, (.aload_n 0, 1, 0, 0, 0, 0, 0, [], [3, 4])),
  (208, (.iload_n 1, 1, 1, 0, 0, 0, 0, [], [])),
  (209, (.invokevirtual 176, 3, 90, 2, 7, 0, 0, [], [])),
  (212, (.getfield 208, 3, 6, 4, 0, 0, 0, [], [])),
  (215, (.iload_n 2, 1, 2, 0, 0, 0, 0, [], [])),
  (216, (.iaload, 1, 0, 0, 0, 0, 0, [], [])),
  (217, (.ireturn, 1, 0, 0, 0, 0, 0, [], [])),
  (218, (.aload_n 0, 1, 0, 0, 0, 0, 0, [], [1, 3, 4])),
  (219, (.getfield 10, 3, 7, 0, 0, 0, 0, [], [])),
  (222, (.getfield 109, 3, 1, 3, 0, 0, 0, [], [])),
  (225, (.iload_n 2, 1, 2, 0, 0, 0, 0, [], [])),
  (226, (.iaload, 1, 0, 0, 0, 0, 0, [], [])),
  (227, (.ireturn, 1, 0, 0, 0, 0, 0, [], [])),
  (228, (.ldc 80, 2, 0, 0, 0, (-1000000002), 0, [], [0, 1, 2, 3, 4])),
  (230, (.ireturn, 1, 0, 0, 0, 0, 0, [], []))
  ]
def tbX7_halo : List (Nat × jm_I) := [
  (0, (.aload_n 0, 1, 0, 0, 0, 0, 0, [], [])),
  (1, (.iload_n 1, 1, 1, 0, 0, 0, 0, [], [])),
  (2, (.iload_n 2, 1, 2, 0, 0, 0, 0, [], [])),
  (3, (.invokevirtual 211, 3, 82, 3, 7, 0, 0, [], [])),
  (6, (.ifCond .ne 6, 3, 12, 0, 0, 0, 0, [], [])),
  (9, (.ldc 76, 2, 0, 0, 0, (-1000000001), 0, [], [])),
  (11, (.ireturn, 1, 0, 0, 0, 0, 0, [], [])),
  (12, (.aload_n 0, 1, 0, 0, 0, 0, 0, [], [4])),
  (13, (.getfield 34, 3, 7, 4, 0, 0, 0, [], [])),
  (16, (.aload_n 0, 1, 0, 0, 0, 0, 0, [], [])),
  (17, (.getfield 10, 3, 7, 0, 0, 0, 0, [], [])),
  (20, (.invokevirtual 142, 3, 22, 2, 2, 0, 0, [], [])),
  (23, (.getfield 169, 3, 2, 3, 0, 0, 0, [], [])),
  (26, (.iload_n 1, 1, 1, 0, 0, 0, 0, [], [])),
  (27, (.aaload, 1, 0, 0, 0, 0, 0, [], [])),
  (28, (.astore 4, 2, 4, 0, 0, 0, 0, [], [])),
  (30, (.iload_n 3, 1, 3, 0, 0, 0, 0, [], [])),
  (31, (.tableswitch 121 0 7 #[45, 53, 61, 69, 80, 88, 96, 114], 45, 152, 0, 0, 0, 0, [(0, 76), (1, 84), (2, 92), (3, 100), (4, 111), (5, 119), (6, 127), (7, 145)], [])),
  (76, (.aload 4, 2, 4, 0, 0, 0, 0, [], [0, 1, 3])),
  (78, (.getfield 214, 3, 3, 1, 0, 0, 0, [], [])),
  (81, (.iload_n 2, 1, 2, 0, 0, 0, 0, [], [])),
  (82, (.iaload, 1, 0, 0, 0, 0, 0, [], [])),
  (83, (.ireturn, 1, 0, 0, 0, 0, 0, [], [])),
  (84, (.aload 4, 2, 4, 0, 0, 0, 0, [], [0, 1, 3])),
  (86, (.getfield 217, 3, 3, 2, 0, 0, 0, [], [])),
  (89, (.iload_n 2, 1, 2, 0, 0, 0, 0, [], [])),
  (90, (.iaload, 1, 0, 0, 0, 0, 0, [], [])),
  (91, (.ireturn, 1, 0, 0, 0, 0, 0, [], [])),
  (92, (.aload 4, 2, 4, 0, 0, 0, 0, [], [0, 1, 3])),
  (94, (.getfield 218, 3, 3, 3, 0, 0, 0, [], [])),
  (97, (.iload_n 2, 1, 2, 0, 0, 0, 0, [], [])),
  (98, (.iaload, 1, 0, 0, 0, 0, 0, [], [])),
  (99, (.ireturn, 1, 0, 0, 0, 0, 0, [], [])),
  (100, (.aload 4, 2, 4, 0, 0, 0, 0, [], [0, 1, 3])),
  (102, (.getfield 221, 3, 3, 4, 0, 0, 0, [], [])),
  (105, (.iload_n 2, 1, 2, 0, 0, 0, 0, [], [])),
  (106, (.iaload, 1, 0, 0, 0, 0, 0, [], [])),
  (107, (.invokestatic 96, 3, 164, 1, 0, 0, 0, [], [])),
  (110, (.ireturn, 1, 0, 0, 0, 0, 0, [], [])),
  (111, (.aload 4, 2, 4, 0, 0, 0, 0, [], [0, 1, 3])),
  (113, (.getfield 224, 3, 3, 5, 0, 0, 0, [], [])),
  (116, (.iload_n 2, 1, 2, 0, 0, 0, 0, [], [])),
  (117, (.iaload, 1, 0, 0, 0, 0, 0, [], [])),
  (118, (.ireturn, 1, 0, 0, 0, 0, 0, [], [])),
  (119, (.aload 4, 2, 4, 0, 0, 0, 0, [], [0, 1, 3])),
  (121, (.getfield 227, 3, 3, 6, 0, 0, 0, [], [])),
  (124, (.iload_n 2, 1, 2, 0, 0, 0, 0, [], [])),
  (125, (.iaload, 1, 0, 0, 0, 0, 0, [], [])),
  (126, (.ireturn, 1, 0, 0, 0, 0, 0, [], [])),
  (127, (.aload 4, 2, 4, 0, 0, 0, 0, [], [3])),
  (129, (.getfield 217, 3, 3, 2, 0, 0, 0, [], [])),
  (132, (.iload_n 2, 1, 2, 0, 0, 0, 0, [], [])),
  (133, (.iaload, 1, 0, 0, 0, 0, 0, [], [])),
  (134, (.aload_n 0, 1, 0, 0, 0, 0, 0, [], [])),
  (135, (.getfield 34, 3, 7, 4, 0, 0, 0, [], [])),
  (138, (.iload_n 1, 1, 1, 0, 0, 0, 0, [], [])),
  (139, (.iload_n 2, 1, 2, 0, 0, 0, 0, [], [])),
  (140, (.invokevirtual 230, 3, 24, 3, 2, 0, 0, [], [])),
  (143, (.isub, 1, 0, 0, 0, 0, 0, [], [])),
  (144, (.ireturn, 1, 0, 0, 0, 0, 0, [], [])),
  (145, (.aload_n 0, 1, 0, 0, 0, 0, 0, [], [3, 4])),
  (146, (.iload_n 1, 1, 1, 0, 0, 0, 0, [], [])),
  (147, (.iload_n 2, 1, 2, 0, 0, 0, 0, [], [])),
  (148, (.invokevirtual 233, 3, 91, 3, 7, 0, 0, [], [])),
  (151, (.ireturn, 1, 0, 0, 0, 0, 0, [], [])),
  (152, (.ldc 80, 2, 0, 0, 0, (-1000000002), 0, [], [0, 1, 2, 3, 4])),
  (154, (.ireturn, 1, 0, 0, 0, 0, 0, [], []))
  ]
def tbX7_from : List (Nat × jm_I) := [
  (0, (.aload_n 0, 1, 0, 0, 0, 0, 0, [], [])),
  (1, (.iload_n 1, 1, 1, 0, 0, 0, 0, [], [])),
  (2, (.iload_n 2, 1, 2, 0, 0, 0, 0, [], [])),
  (3, (.invokevirtual 211, 3, 82, 3, 7, 0, 0, [], [])),
  (6, (.ifCond .ne 6, 3, 12, 0, 0, 0, 0, [], [])),
  (9, (.ldc 76, 2, 0, 0, 0, (-1000000001), 0, [], [])),
  (11, (.ireturn, 1, 0, 0, 0, 0, 0, [], [])),
  (12, (.aload_n 0, 1, 0, 0, 0, 0, 0, [], [])),
  (13, (.getfield 34, 3, 7, 4, 0, 0, 0, [], [])),
  (16, (.aload_n 0, 1, 0, 0, 0, 0, 0, [], [])),
  (17, (.getfield 10, 3, 7, 0, 0, 0, 0, [], [])),
  (20, (.invokevirtual 142, 3, 22, 2, 2, 0, 0, [], [])),
  (23, (.getfield 169, 3, 2, 3, 0, 0, 0, [], [])),
  (26, (.iload_n 1, 1, 1, 0, 0, 0, 0, [], [])),
  (27, (.aaload, 1, 0, 0, 0, 0, 0, [], [])),
  (28, (.getfield 221, 3, 3, 4, 0, 0, 0, [], [])),
  (31, (.iload_n 2, 1, 2, 0, 0, 0, 0, [], [])),
  (32, (.iaload, 1, 0, 0, 0, 0, 0, [], [])),
  (33, (.ireturn, 1, 0, 0, 0, 0, 0, [], []))
  ]
def tbX7_branch : List (Nat × jm_I) := [
  (0, (.aload_n 0, 1, 0, 0, 0, 0, 0, [], [])),
  (1, (.iload_n 1, 1, 1, 0, 0, 0, 0, [], [])),
  (2, (.iload_n 2, 1, 2, 0, 0, 0, 0, [], [])),
  (3, (.invokevirtual 211, 3, 82, 3, 7, 0, 0, [], [])),
  (6, (.ifCond .ne 6, 3, 12, 0, 0, 0, 0, [], [])),
  (9, (.ldc 76, 2, 0, 0, 0, (-1000000001), 0, [], [])),
  (11, (.ireturn, 1, 0, 0, 0, 0, 0, [], [])),
  (12, (.iload_n 3, 1, 3, 0, 0, 0, 0, [], [])),
  (13, (.ifCond .ge 6, 3, 19, 0, 0, 0, 0, [], [])),
  (16, (.ldc 80, 2, 0, 0, 0, (-1000000002), 0, [], [])),
  (18, (.ireturn, 1, 0, 0, 0, 0, 0, [], [])),
  (19, (.aload_n 0, 1, 0, 0, 0, 0, 0, [], [])),
  (20, (.getfield 34, 3, 7, 4, 0, 0, 0, [], [])),
  (23, (.aload_n 0, 1, 0, 0, 0, 0, 0, [], [])),
  (24, (.getfield 10, 3, 7, 0, 0, 0, 0, [], [])),
  (27, (.invokevirtual 142, 3, 22, 2, 2, 0, 0, [], [])),
  (30, (.iload_n 1, 1, 1, 0, 0, 0, 0, [], [])),
  (31, (.iload_n 2, 1, 2, 0, 0, 0, 0, [], [])),
  (32, (.iload_n 3, 1, 3, 0, 0, 0, 0, [], [])),
  (33, (.invokevirtual 236, 3, 23, 4, 2, 0, 0, [], [])),
  (36, (.ireturn, 1, 0, 0, 0, 0, 0, [], []))
  ]
def tbX7_common : List (Nat × jm_I) := [
  (0, (.aload_n 0, 1, 0, 0, 0, 0, 0, [], [])),
  (1, (.iload_n 1, 1, 1, 0, 0, 0, 0, [], [])),
  (2, (.iload_n 2, 1, 2, 0, 0, 0, 0, [], [])),
  (3, (.invokevirtual 211, 3, 82, 3, 7, 0, 0, [], [])),
  (6, (.ifCond .eq 14, 3, 20, 0, 0, 0, 0, [], [])),
  (9, (.aload_n 0, 1, 0, 0, 0, 0, 0, [], [])),
  (10, (.iload_n 1, 1, 1, 0, 0, 0, 0, [], [])),
  (11, (.iconst 1, 1, 0, 0, 0, 1, 0, [], [])),
  (12, (.iadd, 1, 0, 0, 0, 0, 0, [], [])),
  (13, (.iload_n 3, 1, 3, 0, 0, 0, 0, [], [])),
  (14, (.invokevirtual 211, 3, 82, 3, 7, 0, 0, [], [])),
  (17, (.ifCond .ne 6, 3, 23, 0, 0, 0, 0, [], [])),
  (20, (.ldc 76, 2, 0, 0, 0, (-1000000001), 0, [], [0, 1, 2, 3, 4])),
  (22, (.ireturn, 1, 0, 0, 0, 0, 0, [], [])),
  (23, (.aload_n 0, 1, 0, 0, 0, 0, 0, [], [4])),
  (24, (.getfield 34, 3, 7, 4, 0, 0, 0, [], [])),
  (27, (.aload_n 0, 1, 0, 0, 0, 0, 0, [], [])),
  (28, (.getfield 10, 3, 7, 0, 0, 0, 0, [], [])),
  (31, (.invokevirtual 142, 3, 22, 2, 2, 0, 0, [], [])),
  (34, (.getfield 169, 3, 2, 3, 0, 0, 0, [], [])),
  (37, (.astore 4, 2, 4, 0, 0, 0, 0, [], [])),
  (39, (.aload_n 0, 1, 0, 0, 0, 0, 0, [], [])),
  (40, (.getfield 10, 3, 7, 0, 0, 0, 0, [], [])),
  (43, (.aload 4, 2, 4, 0, 0, 0, 0, [], [])),
  (45, (.iload_n 1, 1, 1, 0, 0, 0, 0, [], [])),
  (46, (.aaload, 1, 0, 0, 0, 0, 0, [], [])),
  (47, (.getfield 214, 3, 3, 1, 0, 0, 0, [], [])),
  (50, (.iload_n 2, 1, 2, 0, 0, 0, 0, [], [])),
  (51, (.iaload, 1, 0, 0, 0, 0, 0, [], [])),
  (52, (.aload 4, 2, 4, 0, 0, 0, 0, [], [])),
  (54, (.iload_n 1, 1, 1, 0, 0, 0, 0, [], [])),
  (55, (.iconst 1, 1, 0, 0, 0, 1, 0, [], [])),
  (56, (.iadd, 1, 0, 0, 0, 0, 0, [], [])),
  (57, (.aaload, 1, 0, 0, 0, 0, 0, [], [])),
  (58, (.getfield 214, 3, 3, 1, 0, 0, 0, [], [])),
  (61, (.iload_n 3, 1, 3, 0, 0, 0, 0, [], [])),
  (62, (.iaload, 1, 0, 0, 0, 0, 0, [], [])),
  (63, (.iand, 1, 0, 0, 0, 0, 0, [], [])),
  (64, (.invokevirtual 186, 3, 20, 2, 1, 0, 0, [], [])),
  (67, (.ireturn, 1, 0, 0, 0, 0, 0, [], []))
  ]
def tbX7_within : List (Nat × jm_I) := [
  (0, (.aload_n 0, 1, 0, 0, 0, 0, 0, [], [])),
  (1, (.iload_n 1, 1, 1, 0, 0, 0, 0, [], [])),
  (2, (.invokevirtual 158, 3, 80, 2, 7, 0, 0, [], [])),
  (5, (.ifCond .ne 6, 3, 11, 0, 0, 0, 0, [], [])),
  (8, (.ldc 76, 2, 0, 0, 0, (-1000000001), 0, [], [])),
  (10, (.ireturn, 1, 0, 0, 0, 0, 0, [], [])),
  (11, (.iload_n 2, 1, 2, 0, 0, 0, 0, [], [])),
  (12, (.iload_n 3, 1, 3, 0, 0, 0, 0, [], [])),
  (13, (.invokestatic 77, 3, 85, 2, 0, 0, 0, [], [])),
  (16, (.ifCond .eq 15, 3, 31, 0, 0, 0, 0, [], [])),
  (19, (.iload 4, 2, 4, 0, 0, 0, 0, [], [])),
  (21, (.iconst 0, 1, 0, 0, 0, 0, 0, [], [])),
  (22, (.sipush 9999, 3, 0, 0, 0, 9999, 0, [], [])),
  (25, (.invokestatic 105, 3, 86, 3, 0, 0, 0, [], [])),
  (28, (.ifCond .ne 6, 3, 34, 0, 0, 0, 0, [], [])),
  (31, (.ldc 80, 2, 0, 0, 0, (-1000000002), 0, [], [0, 1, 2, 3, 4, 5])),
  (33, (.ireturn, 1, 0, 0, 0, 0, 0, [], [])),
  (34, (.iload 5, 2, 5, 0, 0, 0, 0, [], [])),
  (36, (.tableswitch 94 0 3 #[32, 48, 61, 81], 32, 130, 0, 0, 0, 0, [(0, 68), (1, 84), (2, 97), (3, 117)], [])),
  (68, (.aload_n 0, 1, 0, 0, 0, 0, 0, [], [5])),
  (69, (.getfield 10, 3, 7, 0, 0, 0, 0, [], [])),
  (72, (.iload_n 1, 1, 1, 0, 0, 0, 0, [], [])),
  (73, (.iload_n 2, 1, 2, 0, 0, 0, 0, [], [])),
  (74, (.iload_n 3, 1, 3, 0, 0, 0, 0, [], [])),
  (75, (.iload 4, 2, 4, 0, 0, 0, 0, [], [])),
  (77, (.invokevirtual 240, 3, 19, 5, 1, 0, 0, [], [])),
  (80, (.invokestatic 96, 3, 164, 1, 0, 0, 0, [], [])),
  (83, (.ireturn, 1, 0, 0, 0, 0, 0, [], [])),
  (84, (.aload_n 0, 1, 0, 0, 0, 0, 0, [], [5])),
  (85, (.getfield 10, 3, 7, 0, 0, 0, 0, [], [])),
  (88, (.iload_n 1, 1, 1, 0, 0, 0, 0, [], [])),
  (89, (.iload_n 2, 1, 2, 0, 0, 0, 0, [], [])),
  (90, (.iload_n 3, 1, 3, 0, 0, 0, 0, [], [])),
  (91, (.iload 4, 2, 4, 0, 0, 0, 0, [], [])),
  (93, (.invokevirtual 240, 3, 19, 5, 1, 0, 0, [], [])),
  (96, (.ireturn, 1, 0, 0, 0, 0, 0, [], [])),
  (97, (.aload_n 0, 1, 0, 0, 0, 0, 0, [], [5])),
  (98, (.getfield 10, 3, 7, 0, 0, 0, 0, [], [])),
  (101, (.aload_n 0, 1, 0, 0, 0, 0, 0, [], [])),
  (102, (.getfield 10, 3, 7, 0, 0, 0, 0, [], [])),
  (105, (.iload_n 1, 1, 1, 0, 0, 0, 0, [], [])),
  (106, (.iload_n 2, 1, 2, 0, 0, 0, 0, [], [])),
  (107, (.iload_n 3, 1, 3, 0, 0, 0, 0, [], [])),
  (108, (.iload 4, 2, 4, 0, 0, 0, 0, [], [])),
  (110, (.invokevirtual 240, 3, 19, 5, 1, 0, 0, [], [])),
  (113, (.invokevirtual 186, 3, 20, 2, 1, 0, 0, [], [])),
  (116, (.ireturn, 1, 0, 0, 0, 0, 0, [], [])),
  (117, (.aload_n 0, 1, 0, 0, 0, 0, 0, [], [5])),
  (118, (.iload_n 1, 1, 1, 0, 0, 0, 0, [], [])),
  (119, (.invokevirtual 176, 3, 90, 2, 7, 0, 0, [], [])),
  (122, (.iload_n 2, 1, 2, 0, 0, 0, 0, [], [])),
  (123, (.iload_n 3, 1, 3, 0, 0, 0, 0, [], [])),
  (124, (.iload 4, 2, 4, 0, 0, 0, 0, [], [])),
  (126, (.invokevirtual 244, 3, 54, 4, 6, 0, 0, [], [])),
  (129, (.ireturn, 1, 0, 0, 0, 0, 0, [], [])),
  (130, (.ldc 80, 2, 0, 0, 0, (-1000000002), 0, [], [0, 1, 2, 3, 4, 5])),
  (132, (.ireturn, 1, 0, 0, 0, 0, 0, [], []))
  ]
def tbX7_nearest : List (Nat × jm_I) := [
  (0, (.aload_n 0, 1, 0, 0, 0, 0, 0, [], [])),
  (1, (.iload_n 1, 1, 1, 0, 0, 0, 0, [], [])),
  (2, (.invokevirtual 158, 3, 80, 2, 7, 0, 0, [], [])),
  (5, (.ifCond .ne 6, 3, 11, 0, 0, 0, 0, [], [])),
  (8, (.ldc 76, 2, 0, 0, 0, (-1000000001), 0, [], [])),
  (10, (.ireturn, 1, 0, 0, 0, 0, 0, [], [])),
  (11, (.iload_n 2, 1, 2, 0, 0, 0, 0, [], [4, 5, 6, 7])),
  (12, (.iload_n 3, 1, 3, 0, 0, 0, 0, [], [])),
  (13, (.invokestatic 77, 3, 85, 2, 0, 0, 0, [], [])),
  (16, (.ifCond .ne 6, 3, 22, 0, 0, 0, 0, [], [])),
  (19, (.ldc 80, 2, 0, 0, 0, (-1000000002), 0, [], [])),
  (21, (.ireturn, 1, 0, 0, 0, 0, 0, [], [])),
  (22, (.iconst (-1), 1, 0, 0, 0, (-1), 0, [], [4, 5, 6, 7])),
  (23, (.istore 4, 2, 4, 0, 0, 0, 0, [], [])),
  (25, (.iconst 0, 1, 0, 0, 0, 0, 0, [], [])),
  (26, (.istore 5, 2, 5, 0, 0, 0, 0, [], [])),
  (28, (.iconst 0, 1, 0, 0, 0, 0, 0, [], [])),
  (29, (.istore 6, 2, 6, 0, 0, 0, 0, [], [])),
  (31, (.iload 6, 2, 6, 0, 0, 0, 0, [], [7])),
  (33, (.bipush 24, 2, 0, 0, 0, 24, 0, [], [])),
  (35, (.if_icmp .ge 57, 3, 92, 0, 0, 0, 0, [], [])),
  (38, (.aload_n 0, 1, 0, 0, 0, 0, 0, [], [])),
  (39, (.getfield 10, 3, 7, 0, 0, 0, 0, [], [])),
  (42, (.iload_n 1, 1, 1, 0, 0, 0, 0, [], [])),
  (43, (.iload 6, 2, 6, 0, 0, 0, 0, [], [])),
  (45, (.invokevirtual 81, 3, 14, 3, 1, 0, 0, [], [])),
  (48, (.ifCond .eq 38, 3, 86, 0, 0, 0, 0, [], [])),
  (51, (.aload_n 0, 1, 0, 0, 0, 0, 0, [], [])),
  (52, (.getfield 10, 3, 7, 0, 0, 0, 0, [], [])),
  (55, (.iload_n 1, 1, 1, 0, 0, 0, 0, [], [])),
  (56, (.iload 6, 2, 6, 0, 0, 0, 0, [], [])),
  (58, (.iload_n 2, 1, 2, 0, 0, 0, 0, [], [])),
  (59, (.iload_n 3, 1, 3, 0, 0, 0, 0, [], [])),
  (60, (.invokevirtual 247, 3, 17, 5, 1, 0, 0, [], [])),
  (63, (.istore 7, 2, 7, 0, 0, 0, 0, [], [])),
  (65, (.iload 4, 2, 4, 0, 0, 0, 0, [], [])),
  (67, (.iconst (-1), 1, 0, 0, 0, (-1), 0, [], [])),
  (68, (.if_icmp .eq 10, 3, 78, 0, 0, 0, 0, [], [])),
  (71, (.iload 7, 2, 7, 0, 0, 0, 0, [], [])),
  (73, (.iload 5, 2, 5, 0, 0, 0, 0, [], [])),
  (75, (.if_icmp .ge 11, 3, 86, 0, 0, 0, 0, [], [])),
  (78, (.iload 6, 2, 6, 0, 0, 0, 0, [], [4, 5])),
  (80, (.istore 4, 2, 4, 0, 0, 0, 0, [], [])),
  (82, (.iload 7, 2, 7, 0, 0, 0, 0, [], [])),
  (84, (.istore 5, 2, 5, 0, 0, 0, 0, [], [])),
  (86, (.iinc 6 1, 3, 6, 0, 0, 1, 0, [], [7])),
  (89, (.goto (-58), 3, 31, 0, 0, 0, 0, [], [])),
  (92, (.iload 4, 2, 4, 0, 0, 0, 0, [], [0, 1, 2, 3, 5, 6, 7])),
  (94, (.ireturn, 1, 0, 0, 0, 0, 0, [], []))
  ]
def tbX7_below : List (Nat × jm_I) := [
  (0, (.aload_n 0, 1, 0, 0, 0, 0, 0, [], [])),
  (1, (.iload_n 1, 1, 1, 0, 0, 0, 0, [], [])),
  (2, (.iload_n 2, 1, 2, 0, 0, 0, 0, [], [])),
  (3, (.invokevirtual 72, 3, 81, 3, 7, 0, 0, [], [])),
  (6, (.ifCond .ne 6, 3, 12, 0, 0, 0, 0, [], [])),
  (9, (.ldc 76, 2, 0, 0, 0, (-1000000001), 0, [], [])),
  (11, (.ireturn, 1, 0, 0, 0, 0, 0, [], [])),
  (12, (.iload_n 3, 1, 3, 0, 0, 0, 0, [], [])),
  (13, (.lookupswitch 49 #[(0, 27), (1, 38)], 27, 62, 0, 0, 0, 0, [(0, 40), (1, 51)], [])),
  (40, (.aload_n 0, 1, 0, 0, 0, 0, 0, [], [3])),
  (41, (.iload_n 1, 1, 1, 0, 0, 0, 0, [], [])),
  (42, (.invokevirtual 176, 3, 90, 2, 7, 0, 0, [], [])),
  (45, (.getfield 250, 3, 6, 2, 0, 0, 0, [], [])),
  (48, (.iload_n 2, 1, 2, 0, 0, 0, 0, [], [])),
  (49, (.iaload, 1, 0, 0, 0, 0, 0, [], [])),
  (50, (.ireturn, 1, 0, 0, 0, 0, 0, [], [])),
  (51, (.aload_n 0, 1, 0, 0, 0, 0, 0, [], [3])),
  (52, (.iload_n 1, 1, 1, 0, 0, 0, 0, [], [])),
  (53, (.invokevirtual 176, 3, 90, 2, 7, 0, 0, [], [])),
  (56, (.getfield 253, 3, 6, 3, 0, 0, 0, [], [])),
  (59, (.iload_n 2, 1, 2, 0, 0, 0, 0, [], [])),
  (60, (.iaload, 1, 0, 0, 0, 0, 0, [], [])),
  (61, (.ireturn, 1, 0, 0, 0, 0, 0, [], [])),
  (62, (.ldc 80, 2, 0, 0, 0, (-1000000002), 0, [], [0, 1, 2, 3])),
  (64, (.ireturn, 1, 0, 0, 0, 0, 0, [], []))
  ]
def tbX7_steps : List (Nat × jm_I) := [
  (0, (.aload_n 0, 1, 0, 0, 0, 0, 0, [], [])),
  (1, (.iload_n 1, 1, 1, 0, 0, 0, 0, [], [])),
  (2, (.iload_n 2, 1, 2, 0, 0, 0, 0, [], [])),
  (3, (.invokevirtual 72, 3, 81, 3, 7, 0, 0, [], [])),
  (6, (.ifCond .eq 10, 3, 16, 0, 0, 0, 0, [], [])),
  (9, (.iload_n 3, 1, 3, 0, 0, 0, 0, [], [])),
  (10, (.invokestatic 101, 3, 83, 1, 0, 0, 0, [], [])),
  (13, (.ifCond .ne 6, 3, 19, 0, 0, 0, 0, [], [])),
  (16, (.ldc 76, 2, 0, 0, 0, (-1000000001), 0, [], [0, 1, 2, 3])),
  (18, (.ireturn, 1, 0, 0, 0, 0, 0, [], [])),
  (19, (.aload_n 0, 1, 0, 0, 0, 0, 0, [], [])),
  (20, (.getfield 34, 3, 7, 4, 0, 0, 0, [], [])),
  (23, (.aload_n 0, 1, 0, 0, 0, 0, 0, [], [])),
  (24, (.getfield 10, 3, 7, 0, 0, 0, 0, [], [])),
  (27, (.invokevirtual 142, 3, 22, 2, 2, 0, 0, [], [])),
  (30, (.getfield 161, 3, 2, 2, 0, 0, 0, [], [])),
  (33, (.iload_n 1, 1, 1, 0, 0, 0, 0, [], [])),
  (34, (.aaload, 1, 0, 0, 0, 0, 0, [], [])),
  (35, (.iload_n 2, 1, 2, 0, 0, 0, 0, [], [])),
  (36, (.iload_n 3, 1, 3, 0, 0, 0, 0, [], [])),
  (37, (.invokevirtual 256, 3, 7, 3, 0, 0, 0, [], [])),
  (40, (.ireturn, 1, 0, 0, 0, 0, 0, [], []))
  ]
def tbX7_clumps : List (Nat × jm_I) := [
  (0, (.aload_n 0, 1, 0, 0, 0, 0, 0, [], [])),
  (1, (.iload_n 1, 1, 1, 0, 0, 0, 0, [], [])),
  (2, (.invokevirtual 158, 3, 80, 2, 7, 0, 0, [], [])),
  (5, (.ifCond .ne 6, 3, 11, 0, 0, 0, 0, [], [])),
  (8, (.ldc 76, 2, 0, 0, 0, (-1000000001), 0, [], [])),
  (10, (.ireturn, 1, 0, 0, 0, 0, 0, [], [])),
  (11, (.iload_n 2, 1, 2, 0, 0, 0, 0, [], [])),
  (12, (.iconst 0, 1, 0, 0, 0, 0, 0, [], [])),
  (13, (.bipush 90, 2, 0, 0, 0, 90, 0, [], [])),
  (15, (.invokestatic 105, 3, 86, 3, 0, 0, 0, [], [])),
  (18, (.ifCond .ne 6, 3, 24, 0, 0, 0, 0, [], [])),
  (21, (.ldc 80, 2, 0, 0, 0, (-1000000002), 0, [], [])),
  (23, (.ireturn, 1, 0, 0, 0, 0, 0, [], [])),
  (24, (.aload_n 0, 1, 0, 0, 0, 0, 0, [], [])),
  (25, (.iload_n 1, 1, 1, 0, 0, 0, 0, [], [])),
  (26, (.iload_n 2, 1, 2, 0, 0, 0, 0, [], [])),
  (27, (.invokevirtual 259, 3, 89, 3, 7, 0, 0, [], [])),
  (30, (.getfield 168, 3, 0, 1, 0, 0, 0, [], [])),
  (33, (.ireturn, 1, 0, 0, 0, 0, 0, [], []))
  ]
def tbX7_join : List (Nat × jm_I) := [
  (0, (.aload_n 0, 1, 0, 0, 0, 0, 0, [], [])),
  (1, (.iload_n 1, 1, 1, 0, 0, 0, 0, [], [])),
  (2, (.iload_n 2, 1, 2, 0, 0, 0, 0, [], [])),
  (3, (.invokevirtual 72, 3, 81, 3, 7, 0, 0, [], [])),
  (6, (.ifCond .eq 15, 3, 21, 0, 0, 0, 0, [], [])),
  (9, (.iload_n 3, 1, 3, 0, 0, 0, 0, [], [])),
  (10, (.invokestatic 101, 3, 83, 1, 0, 0, 0, [], [])),
  (13, (.ifCond .eq 8, 3, 21, 0, 0, 0, 0, [], [])),
  (16, (.iload_n 2, 1, 2, 0, 0, 0, 0, [], [])),
  (17, (.iload_n 3, 1, 3, 0, 0, 0, 0, [], [])),
  (18, (.if_icmp .ne 6, 3, 24, 0, 0, 0, 0, [], [])),
  (21, (.ldc 76, 2, 0, 0, 0, (-1000000001), 0, [], [0, 1, 2, 3, 4, 5, 6, 7])),
  (23, (.ireturn, 1, 0, 0, 0, 0, 0, [], [])),
  (24, (.aload_n 0, 1, 0, 0, 0, 0, 0, [], [4, 5, 6, 7])),
  (25, (.getfield 10, 3, 7, 0, 0, 0, 0, [], [])),
  (28, (.iload_n 1, 1, 1, 0, 0, 0, 0, [], [])),
  (29, (.iload_n 2, 1, 2, 0, 0, 0, 0, [], [])),
  (30, (.invokevirtual 81, 3, 14, 3, 1, 0, 0, [], [])),
  (33, (.ifCond .eq 15, 3, 48, 0, 0, 0, 0, [], [])),
  (36, (.aload_n 0, 1, 0, 0, 0, 0, 0, [], [])),
  (37, (.getfield 10, 3, 7, 0, 0, 0, 0, [], [])),
  (40, (.iload_n 1, 1, 1, 0, 0, 0, 0, [], [])),
  (41, (.iload_n 3, 1, 3, 0, 0, 0, 0, [], [])),
  (42, (.invokevirtual 81, 3, 14, 3, 1, 0, 0, [], [])),
  (45, (.ifCond .ne 5, 3, 50, 0, 0, 0, 0, [], [])),
  (48, (.iconst (-1), 1, 0, 0, 0, (-1), 0, [], [0, 1, 2, 3, 4, 5, 6, 7])),
  (49, (.ireturn, 1, 0, 0, 0, 0, 0, [], [])),
  (50, (.iconst 0, 1, 0, 0, 0, 0, 0, [], [4, 5, 6, 7])),
  (51, (.istore 4, 2, 4, 0, 0, 0, 0, [], [])),
  (53, (.bipush 90, 2, 0, 0, 0, 90, 0, [], [])),
  (55, (.istore 5, 2, 5, 0, 0, 0, 0, [], [])),
  (57, (.iconst 0, 1, 0, 0, 0, 0, 0, [], [])),
  (58, (.istore 6, 2, 6, 0, 0, 0, 0, [], [])),
  (60, (.iload 6, 2, 6, 0, 0, 0, 0, [], [7])),
  (62, (.bipush 90, 2, 0, 0, 0, 90, 0, [], [])),
  (64, (.if_icmp .ge 57, 3, 121, 0, 0, 0, 0, [], [])),
  (67, (.iload 4, 2, 4, 0, 0, 0, 0, [], [])),
  (69, (.iload 5, 2, 5, 0, 0, 0, 0, [], [])),
  (71, (.if_icmp .ge 50, 3, 121, 0, 0, 0, 0, [], [])),
  (74, (.iload 4, 2, 4, 0, 0, 0, 0, [], [])),
  (76, (.iload 5, 2, 5, 0, 0, 0, 0, [], [])),
  (78, (.iadd, 1, 0, 0, 0, 0, 0, [], [])),
  (79, (.iconst 2, 1, 0, 0, 0, 2, 0, [], [])),
  (80, (.idiv, 1, 0, 0, 0, 0, 0, [], [])),
  (81, (.istore 7, 2, 7, 0, 0, 0, 0, [], [])),
  (83, (.aload_n 0, 1, 0, 0, 0, 0, 0, [], [])),
  (84, (.iload_n 1, 1, 1, 0, 0, 0, 0, [], [])),
  (85, (.iload 7, 2, 7, 0, 0, 0, 0, [], [])),
  (87, (.invokevirtual 259, 3, 89, 3, 7, 0, 0, [], [])),
  (90, (.getfield 196, 3, 0, 3, 0, 0, 0, [], [])),
  (93, (.iload_n 2, 1, 2, 0, 0, 0, 0, [], [])),
  (94, (.iaload, 1, 0, 0, 0, 0, 0, [], [])),
  (95, (.iload_n 3, 1, 3, 0, 0, 0, 0, [], [])),
  (96, (.invokestatic 263, 3, 87, 2, 0, 0, 0, [], [])),
  (99, (.ifCond .eq 10, 3, 109, 0, 0, 0, 0, [], [])),
  (102, (.iload 7, 2, 7, 0, 0, 0, 0, [], [])),
  (104, (.istore 5, 2, 5, 0, 0, 0, 0, [], [])),
  (106, (.goto 9, 3, 115, 0, 0, 0, 0, [], [])),
  (109, (.iload 7, 2, 7, 0, 0, 0, 0, [], [4])),
  (111, (.iconst 1, 1, 0, 0, 0, 1, 0, [], [])),
  (112, (.iadd, 1, 0, 0, 0, 0, 0, [], [])),
  (113, (.istore 4, 2, 4, 0, 0, 0, 0, [], [])),
  (115, (.iinc 6 1, 3, 6, 0, 0, 1, 0, [], [7])),
  (118, (.goto (-58), 3, 60, 0, 0, 0, 0, [], [])),
  (121, (.iload 4, 2, 4, 0, 0, 0, 0, [], [0, 1, 2, 3, 5, 6, 7])),
  (123, (.ireturn, 1, 0, 0, 0, 0, 0, [], []))
  ]
def tbX7_keep : List (Nat × jm_I) := [
  (0, (.iload_n 1, 1, 1, 0, 0, 0, 0, [], [])),
  (1, (.invokestatic 266, 3, 84, 1, 0, 0, 0, [], [])),
  (4, (.ifCond .ne 6, 3, 10, 0, 0, 0, 0, [], [])),
  (7, (.ldc 76, 2, 0, 0, 0, (-1000000001), 0, [], [])),
  (9, (.ireturn, 1, 0, 0, 0, 0, 0, [], [])),
  (10, (.aload_n 0, 1, 0, 0, 0, 0, 0, [], [])),
  (11, (.getfield 23, 3, 7, 2, 0, 0, 0, [], [])),
  (14, (.iload_n 1, 1, 1, 0, 0, 0, 0, [], [])),
  (15, (.aaload, 1, 0, 0, 0, 0, 0, [], [])),
  (16, (.aload_n 0, 1, 0, 0, 0, 0, 0, [], [])),
  (17, (.getfield 10, 3, 7, 0, 0, 0, 0, [], [])),
  (20, (.invokevirtual 269, 3, 10, 2, 1, 0, 0, [], [])),
  (23, (.aload_n 0, 1, 0, 0, 0, 0, 0, [], [])),
  (24, (.getfield 27, 3, 7, 3, 0, 0, 0, [], [])),
  (27, (.iload_n 1, 1, 1, 0, 0, 0, 0, [], [])),
  (28, (.iconst 1, 1, 0, 0, 0, 1, 0, [], [])),
  (29, (.bastore, 1, 0, 0, 0, 0, 0, [], [])),
  (30, (.aload_n 0, 1, 0, 0, 0, 0, 0, [], [])),
  (31, (.getfield 19, 3, 7, 1, 0, 0, 0, [], [])),
  (34, (.invokevirtual 272, 3, 48, 1, 5, 0, 0, [], [])),
  (37, (.aload_n 0, 1, 0, 0, 0, 0, 0, [], [])),
  (38, (.getfield 10, 3, 7, 0, 0, 0, 0, [], [])),
  (41, (.getfield 59, 3, 1, 0, 0, 0, 0, [], [])),
  (44, (.ireturn, 1, 0, 0, 0, 0, 0, [], []))
  ]
def tbX7_goBack : List (Nat × jm_I) := [
  (0, (.iload_n 1, 1, 1, 0, 0, 0, 0, [], [])),
  (1, (.invokestatic 266, 3, 84, 1, 0, 0, 0, [], [])),
  (4, (.ifCond .ne 6, 3, 10, 0, 0, 0, 0, [], [])),
  (7, (.ldc 76, 2, 0, 0, 0, (-1000000001), 0, [], [])),
  (9, (.ireturn, 1, 0, 0, 0, 0, 0, [], [])),
  (10, (.aload_n 0, 1, 0, 0, 0, 0, 0, [], [])),
  (11, (.getfield 27, 3, 7, 3, 0, 0, 0, [], [])),
  (14, (.iload_n 1, 1, 1, 0, 0, 0, 0, [], [])),
  (15, (.baload, 1, 0, 0, 0, 0, 0, [], [])),
  (16, (.ifCond .ne 6, 3, 22, 0, 0, 0, 0, [], [])),
  (19, (.ldc 71, 2, 0, 0, 0, (-1000000003), 0, [], [])),
  (21, (.ireturn, 1, 0, 0, 0, 0, 0, [], [])),
  (22, (.aload_n 0, 1, 0, 0, 0, 0, 0, [], [])),
  (23, (.getfield 10, 3, 7, 0, 0, 0, 0, [], [])),
  (26, (.aload_n 0, 1, 0, 0, 0, 0, 0, [], [])),
  (27, (.getfield 23, 3, 7, 2, 0, 0, 0, [], [])),
  (30, (.iload_n 1, 1, 1, 0, 0, 0, 0, [], [])),
  (31, (.aaload, 1, 0, 0, 0, 0, 0, [], [])),
  (32, (.invokevirtual 269, 3, 10, 2, 1, 0, 0, [], [])),
  (35, (.aload_n 0, 1, 0, 0, 0, 0, 0, [], [])),
  (36, (.getfield 34, 3, 7, 4, 0, 0, 0, [], [])),
  (39, (.iconst 0, 1, 0, 0, 0, 0, 0, [], [])),
  (40, (.putfield 138, 3, 2, 0, 0, 0, 0, [], [])),
  (43, (.aload_n 0, 1, 0, 0, 0, 0, 0, [], [])),
  (44, (.getfield 19, 3, 7, 1, 0, 0, 0, [], [])),
  (47, (.invokevirtual 272, 3, 48, 1, 5, 0, 0, [], [])),
  (50, (.aload_n 0, 1, 0, 0, 0, 0, 0, [], [])),
  (51, (.getfield 10, 3, 7, 0, 0, 0, 0, [], [])),
  (54, (.getfield 59, 3, 1, 0, 0, 0, 0, [], [])),
  (57, (.ireturn, 1, 0, 0, 0, 0, 0, [], []))
  ]
def tbX7_isPicture : List (Nat × jm_I) := [
  (0, (.iload_n 1, 1, 1, 0, 0, 0, 0, [], [])),
  (1, (.ifCond .lt 18, 3, 19, 0, 0, 0, 0, [], [])),
  (4, (.iload_n 1, 1, 1, 0, 0, 0, 0, [], [])),
  (5, (.aload_n 0, 1, 0, 0, 0, 0, 0, [], [])),
  (6, (.getfield 10, 3, 7, 0, 0, 0, 0, [], [])),
  (9, (.getfield 59, 3, 1, 0, 0, 0, 0, [], [])),
  (12, (.if_icmp .ge 7, 3, 19, 0, 0, 0, 0, [], [])),
  (15, (.iconst 1, 1, 0, 0, 0, 1, 0, [], [])),
  (16, (.goto 4, 3, 20, 0, 0, 0, 0, [], [])),
  (19, (.iconst 0, 1, 0, 0, 0, 0, 0, [], [0, 1])),
  (20, (.ireturn, 1, 0, 0, 0, 0, 0, [], [0, 1]))
  ]
def tbX7_isGrainOfPicture : List (Nat × jm_I) := [
  (0, (.aload_n 0, 1, 0, 0, 0, 0, 0, [], [])),
  (1, (.iload_n 1, 1, 1, 0, 0, 0, 0, [], [])),
  (2, (.invokevirtual 158, 3, 80, 2, 7, 0, 0, [], [])),
  (5, (.ifCond .eq 14, 3, 19, 0, 0, 0, 0, [], [])),
  (8, (.iload_n 2, 1, 2, 0, 0, 0, 0, [], [])),
  (9, (.invokestatic 101, 3, 83, 1, 0, 0, 0, [], [])),
  (12, (.ifCond .eq 7, 3, 19, 0, 0, 0, 0, [], [])),
  (15, (.iconst 1, 1, 0, 0, 0, 1, 0, [], [])),
  (16, (.goto 4, 3, 20, 0, 0, 0, 0, [], [])),
  (19, (.iconst 0, 1, 0, 0, 0, 0, 0, [], [0, 1, 2])),
  (20, (.ireturn, 1, 0, 0, 0, 0, 0, [], [0, 1, 2]))
  ]
def tbX7_isHalo : List (Nat × jm_I) := [
  (0, (.aload_n 0, 1, 0, 0, 0, 0, 0, [], [])),
  (1, (.iload_n 1, 1, 1, 0, 0, 0, 0, [], [])),
  (2, (.invokevirtual 158, 3, 80, 2, 7, 0, 0, [], [])),
  (5, (.ifCond .eq 34, 3, 39, 0, 0, 0, 0, [], [])),
  (8, (.iload_n 2, 1, 2, 0, 0, 0, 0, [], [])),
  (9, (.ifCond .lt 30, 3, 39, 0, 0, 0, 0, [], [])),
  (12, (.iload_n 2, 1, 2, 0, 0, 0, 0, [], [])),
  (13, (.aload_n 0, 1, 0, 0, 0, 0, 0, [], [])),
  (14, (.getfield 34, 3, 7, 4, 0, 0, 0, [], [])),
  (17, (.aload_n 0, 1, 0, 0, 0, 0, 0, [], [])),
  (18, (.getfield 10, 3, 7, 0, 0, 0, 0, [], [])),
  (21, (.invokevirtual 142, 3, 22, 2, 2, 0, 0, [], [])),
  (24, (.getfield 169, 3, 2, 3, 0, 0, 0, [], [])),
  (27, (.iload_n 1, 1, 1, 0, 0, 0, 0, [], [])),
  (28, (.aaload, 1, 0, 0, 0, 0, 0, [], [])),
  (29, (.getfield 173, 3, 3, 0, 0, 0, 0, [], [])),
  (32, (.if_icmp .ge 7, 3, 39, 0, 0, 0, 0, [], [])),
  (35, (.iconst 1, 1, 0, 0, 0, 1, 0, [], [])),
  (36, (.goto 4, 3, 40, 0, 0, 0, 0, [], [])),
  (39, (.iconst 0, 1, 0, 0, 0, 0, 0, [], [0, 1, 2])),
  (40, (.ireturn, 1, 0, 0, 0, 0, 0, [], [0, 1, 2]))
  ]
def tbX7_isGrain : List (Nat × jm_I) := [
  (0, (.iload_n 0, 1, 0, 0, 0, 0, 0, [], [])),
  (1, (.iconst 0, 1, 0, 0, 0, 0, 0, [], [])),
  (2, (.bipush 23, 2, 0, 0, 0, 23, 0, [], [])),
  (4, (.invokestatic 105, 3, 86, 3, 0, 0, 0, [], [])),
  (7, (.ireturn, 1, 0, 0, 0, 0, 0, [], []))
  ]
def tbX7_isImage : List (Nat × jm_I) := [
  (0, (.iload_n 0, 1, 0, 0, 0, 0, 0, [], [])),
  (1, (.iconst 0, 1, 0, 0, 0, 0, 0, [], [])),
  (2, (.iconst 1, 1, 0, 0, 0, 1, 0, [], [])),
  (3, (.invokestatic 105, 3, 86, 3, 0, 0, 0, [], [])),
  (6, (.ireturn, 1, 0, 0, 0, 0, 0, [], []))
  ]
def tbX7_isOnField : List (Nat × jm_I) := [
  (0, (.iload_n 0, 1, 0, 0, 0, 0, 0, [], [])),
  (1, (.iconst 0, 1, 0, 0, 0, 0, 0, [], [])),
  (2, (.bipush 63, 2, 0, 0, 0, 63, 0, [], [])),
  (4, (.invokestatic 105, 3, 86, 3, 0, 0, 0, [], [])),
  (7, (.ifCond .eq 17, 3, 24, 0, 0, 0, 0, [], [])),
  (10, (.iload_n 1, 1, 1, 0, 0, 0, 0, [], [])),
  (11, (.iconst 0, 1, 0, 0, 0, 0, 0, [], [])),
  (12, (.bipush 63, 2, 0, 0, 0, 63, 0, [], [])),
  (14, (.invokestatic 105, 3, 86, 3, 0, 0, 0, [], [])),
  (17, (.ifCond .eq 7, 3, 24, 0, 0, 0, 0, [], [])),
  (20, (.iconst 1, 1, 0, 0, 0, 1, 0, [], [])),
  (21, (.goto 4, 3, 25, 0, 0, 0, 0, [], [])),
  (24, (.iconst 0, 1, 0, 0, 0, 0, 0, [], [0, 1])),
  (25, (.ireturn, 1, 0, 0, 0, 0, 0, [], [0, 1]))
  ]
def tbX7_isBetween : List (Nat × jm_I) := [
  (0, (.iload_n 0, 1, 0, 0, 0, 0, 0, [], [])),
  (1, (.iload_n 1, 1, 1, 0, 0, 0, 0, [], [])),
  (2, (.if_icmp .lt 12, 3, 14, 0, 0, 0, 0, [], [])),
  (5, (.iload_n 0, 1, 0, 0, 0, 0, 0, [], [])),
  (6, (.iload_n 2, 1, 2, 0, 0, 0, 0, [], [])),
  (7, (.if_icmp .gt 7, 3, 14, 0, 0, 0, 0, [], [])),
  (10, (.iconst 1, 1, 0, 0, 0, 1, 0, [], [])),
  (11, (.goto 4, 3, 15, 0, 0, 0, 0, [], [])),
  (14, (.iconst 0, 1, 0, 0, 0, 0, 0, [], [0, 1, 2])),
  (15, (.ireturn, 1, 0, 0, 0, 0, 0, [], [0, 1, 2]))
  ]
def tbX7_has : List (Nat × jm_I) := [
  (0, (.iload_n 0, 1, 0, 0, 0, 0, 0, [], [])),
  (1, (.iload_n 1, 1, 1, 0, 0, 0, 0, [], [])),
  (2, (.ishr, 1, 0, 0, 0, 0, 0, [], [])),
  (3, (.iconst 1, 1, 0, 0, 0, 1, 0, [], [])),
  (4, (.iand, 1, 0, 0, 0, 0, 0, [], [])),
  (5, (.ifCond .eq 7, 3, 12, 0, 0, 0, 0, [], [])),
  (8, (.iconst 1, 1, 0, 0, 0, 1, 0, [], [])),
  (9, (.goto 4, 3, 13, 0, 0, 0, 0, [], [])),
  (12, (.iconst 0, 1, 0, 0, 0, 0, 0, [], [0, 1])),
  (13, (.ireturn, 1, 0, 0, 0, 0, 0, [], [0, 1]))
  ]
def tbX7_remember : List (Nat × jm_I) := [
  (0, (.aload_n 0, 1, 0, 0, 0, 0, 0, [], [])),
  (1, (.getfield 19, 3, 7, 1, 0, 0, 0, [], [])),
  (4, (.aload_n 0, 1, 0, 0, 0, 0, 0, [], [])),
  (5, (.getfield 10, 3, 7, 0, 0, 0, 0, [], [])),
  (8, (.invokevirtual 275, 3, 46, 2, 5, 0, 0, [], [])),
  (11, (.aload_n 0, 1, 0, 0, 0, 0, 0, [], [])),
  (12, (.getfield 34, 3, 7, 4, 0, 0, 0, [], [])),
  (15, (.iconst 0, 1, 0, 0, 0, 0, 0, [], [])),
  (16, (.putfield 138, 3, 2, 0, 0, 0, 0, [], [])),
  (19, (.return_, 1, 0, 0, 0, 0, 0, [], []))
  ]
def tbX7_clumpedBy : List (Nat × jm_I) := [
  (0, (.aload_n 0, 1, 0, 0, 0, 0, 0, [], [])),
  (1, (.getfield 41, 3, 7, 5, 0, 0, 0, [], [])),
  (4, (.aload_n 0, 1, 0, 0, 0, 0, 0, [], [])),
  (5, (.getfield 10, 3, 7, 0, 0, 0, 0, [], [])),
  (8, (.iload_n 1, 1, 1, 0, 0, 0, 0, [], [])),
  (9, (.iload_n 2, 1, 2, 0, 0, 0, 0, [], [])),
  (10, (.invokevirtual 278, 3, 1, 4, 0, 0, 0, [], [])),
  (13, (.aload_n 0, 1, 0, 0, 0, 0, 0, [], [])),
  (14, (.getfield 41, 3, 7, 5, 0, 0, 0, [], [])),
  (17, (.aload_n 0, 1, 0, 0, 0, 0, 0, [], [])),
  (18, (.getfield 10, 3, 7, 0, 0, 0, 0, [], [])),
  (21, (.iload_n 1, 1, 1, 0, 0, 0, 0, [], [])),
  (22, (.invokevirtual 92, 3, 18, 2, 1, 0, 0, [], [])),
  (25, (.invokevirtual 281, 3, 3, 2, 0, 0, 0, [], [])),
  (28, (.aload_n 0, 1, 0, 0, 0, 0, 0, [], [])),
  (29, (.getfield 41, 3, 7, 5, 0, 0, 0, [], [])),
  (32, (.areturn, 1, 0, 0, 0, 0, 0, [], []))
  ]
def tbX7_treeOf : List (Nat × jm_I) := [
  (0, (.aload_n 0, 1, 0, 0, 0, 0, 0, [], [])),
  (1, (.getfield 48, 3, 7, 6, 0, 0, 0, [], [])),
  (4, (.aload_n 0, 1, 0, 0, 0, 0, 0, [], [])),
  (5, (.getfield 10, 3, 7, 0, 0, 0, 0, [], [])),
  (8, (.iload_n 1, 1, 1, 0, 0, 0, 0, [], [])),
  (9, (.invokevirtual 284, 3, 50, 3, 6, 0, 0, [], [])),
  (12, (.aload_n 0, 1, 0, 0, 0, 0, 0, [], [])),
  (13, (.getfield 48, 3, 7, 6, 0, 0, 0, [], [])),
  (16, (.areturn, 1, 0, 0, 0, 0, 0, [], []))
  ]
def tbX7_strayed : List (Nat × jm_I) := [
  (0, (.iload_n 1, 1, 1, 0, 0, 0, 0, [], [])),
  (1, (.iconst 1, 1, 0, 0, 0, 1, 0, [], [])),
  (2, (.iadd, 1, 0, 0, 0, 0, 0, [], [])),
  (3, (.aload_n 0, 1, 0, 0, 0, 0, 0, [], [])),
  (4, (.getfield 10, 3, 7, 0, 0, 0, 0, [], [])),
  (7, (.getfield 59, 3, 1, 0, 0, 0, 0, [], [])),
  (10, (.if_icmp .lt 5, 3, 15, 0, 0, 0, 0, [], [])),
  (13, (.iconst 0, 1, 0, 0, 0, 0, 0, [], [])),
  (14, (.ireturn, 1, 0, 0, 0, 0, 0, [], [])),
  (15, (.aload_n 0, 1, 0, 0, 0, 0, 0, [], [3, 4, 5, 6])),
  (16, (.getfield 34, 3, 7, 4, 0, 0, 0, [], [])),
  (19, (.aload_n 0, 1, 0, 0, 0, 0, 0, [], [])),
  (20, (.getfield 10, 3, 7, 0, 0, 0, 0, [], [])),
  (23, (.invokevirtual 142, 3, 22, 2, 2, 0, 0, [], [])),
  (26, (.getfield 169, 3, 2, 3, 0, 0, 0, [], [])),
  (29, (.astore_n 3, 1, 3, 0, 0, 0, 0, [], [])),
  (30, (.aload_n 3, 1, 3, 0, 0, 0, 0, [], [])),
  (31, (.iload_n 1, 1, 1, 0, 0, 0, 0, [], [])),
  (32, (.aaload, 1, 0, 0, 0, 0, 0, [], [])),
  (33, (.getfield 214, 3, 3, 1, 0, 0, 0, [], [])),
  (36, (.iload_n 2, 1, 2, 0, 0, 0, 0, [], [])),
  (37, (.iaload, 1, 0, 0, 0, 0, 0, [], [])),
  (38, (.aload_n 0, 1, 0, 0, 0, 0, 0, [], [])),
  (39, (.getfield 10, 3, 7, 0, 0, 0, 0, [], [])),
  (42, (.iload_n 1, 1, 1, 0, 0, 0, 0, [], [])),
  (43, (.iconst 1, 1, 0, 0, 0, 1, 0, [], [])),
  (44, (.iadd, 1, 0, 0, 0, 0, 0, [], [])),
  (45, (.invokevirtual 92, 3, 18, 2, 1, 0, 0, [], [])),
  (48, (.iand, 1, 0, 0, 0, 0, 0, [], [])),
  (49, (.istore 4, 2, 4, 0, 0, 0, 0, [], [])),
  (51, (.aload_n 3, 1, 3, 0, 0, 0, 0, [], [])),
  (52, (.iload_n 1, 1, 1, 0, 0, 0, 0, [], [])),
  (53, (.aaload, 1, 0, 0, 0, 0, 0, [], [])),
  (54, (.getfield 218, 3, 3, 3, 0, 0, 0, [], [])),
  (57, (.iload_n 2, 1, 2, 0, 0, 0, 0, [], [])),
  (58, (.iaload, 1, 0, 0, 0, 0, 0, [], [])),
  (59, (.istore 5, 2, 5, 0, 0, 0, 0, [], [])),
  (61, (.iload 5, 2, 5, 0, 0, 0, 0, [], [])),
  (63, (.iconst (-1), 1, 0, 0, 0, (-1), 0, [], [])),
  (64, (.if_icmp .ne 7, 3, 71, 0, 0, 0, 0, [], [])),
  (67, (.iconst 0, 1, 0, 0, 0, 0, 0, [], [])),
  (68, (.goto 14, 3, 82, 0, 0, 0, 0, [], [])),
  (71, (.aload_n 3, 1, 3, 0, 0, 0, 0, [], [2, 6])),
  (72, (.iload_n 1, 1, 1, 0, 0, 0, 0, [], [])),
  (73, (.iconst 1, 1, 0, 0, 0, 1, 0, [], [])),
  (74, (.iadd, 1, 0, 0, 0, 0, 0, [], [])),
  (75, (.aaload, 1, 0, 0, 0, 0, 0, [], [])),
  (76, (.getfield 214, 3, 3, 1, 0, 0, 0, [], [])),
  (79, (.iload 5, 2, 5, 0, 0, 0, 0, [], [])),
  (81, (.iaload, 1, 0, 0, 0, 0, 0, [], [])),
  (82, (.istore 6, 2, 6, 0, 0, 0, 0, [], [1, 2, 3, 5, 6])),
  (84, (.aload_n 0, 1, 0, 0, 0, 0, 0, [], [])),
  (85, (.getfield 10, 3, 7, 0, 0, 0, 0, [], [])),
  (88, (.iload 4, 2, 4, 0, 0, 0, 0, [], [])),
  (90, (.iload 6, 2, 6, 0, 0, 0, 0, [], [])),
  (92, (.iconst (-1), 1, 0, 0, 0, (-1), 0, [], [])),
  (93, (.ixor, 1, 0, 0, 0, 0, 0, [], [])),
  (94, (.iand, 1, 0, 0, 0, 0, 0, [], [])),
  (95, (.invokevirtual 186, 3, 20, 2, 1, 0, 0, [], [])),
  (98, (.ireturn, 1, 0, 0, 0, 0, 0, [], []))
  ]
end
section
/-! the program as the small machine reads it: printed by wip/whole/gen/tables.py -/
def tbX8_init : List (Nat × jm_I) := [
  (0, (.aload_n 0, 1, 0, 0, 0, 0, 0, [], [])),
  (1, (.invokespecial 1, 3, 0, 0, 7, 0, 0, [], [])),
  (4, (.aload_n 0, 1, 0, 0, 0, 0, 0, [], [])),
  (5, (.sipush 3531, 3, 0, 0, 0, 3531, 0, [], [])),
  (8, (.newarray .int, 2, 9, 0, 0, 0, 0, [], [])),
  (10, (.putfield 7, 3, 8, 0, 0, 0, 0, [], [])),
  (13, (.aload_n 0, 1, 0, 0, 0, 0, 0, [], [])),
  (14, (.iconst 2, 1, 0, 0, 0, 2, 0, [], [])),
  (15, (.newarray .boolean, 2, 10, 0, 0, 0, 0, [], [])),
  (17, (.putfield 13, 3, 8, 1, 0, 0, 0, [], [])),
  (20, (.aload_n 0, 1, 0, 0, 0, 0, 0, [], [])),
  (21, (.sipush 144, 3, 0, 0, 0, 144, 0, [], [])),
  (24, (.newarray .int, 2, 9, 0, 0, 0, 0, [], [])),
  (26, (.putfield 17, 3, 8, 4, 0, 0, 0, [], [])),
  (29, (.aload_n 0, 1, 0, 0, 0, 0, 0, [], [])),
  (30, (.bipush 6, 2, 0, 0, 0, 6, 0, [], [])),
  (32, (.newarray .int, 2, 9, 0, 0, 0, 0, [], [])),
  (34, (.putfield 20, 3, 8, 5, 0, 0, 0, [], [])),
  (37, (.aload_n 0, 1, 0, 0, 0, 0, 0, [], [])),
  (38, (.bipush 24, 2, 0, 0, 0, 24, 0, [], [])),
  (40, (.newarray .int, 2, 9, 0, 0, 0, 0, [], [])),
  (42, (.putfield 23, 3, 8, 7, 0, 0, 0, [], [])),
  (45, (.aload_n 0, 1, 0, 0, 0, 0, 0, [], [])),
  (46, (.bipush 24, 2, 0, 0, 0, 24, 0, [], [])),
  (48, (.newarray .int, 2, 9, 0, 0, 0, 0, [], [])),
  (50, (.putfield 26, 3, 8, 8, 0, 0, 0, [], [])),
  (53, (.aload_n 0, 1, 0, 0, 0, 0, 0, [], [])),
  (54, (.bipush 24, 2, 0, 0, 0, 24, 0, [], [])),
  (56, (.newarray .int, 2, 9, 0, 0, 0, 0, [], [])),
  (58, (.putfield 29, 3, 8, 9, 0, 0, 0, [], [])),
  (61, (.aload_n 0, 1, 0, 0, 0, 0, 0, [], [])),
  (62, (.bipush 24, 2, 0, 0, 0, 24, 0, [], [])),
  (64, (.newarray .int, 2, 9, 0, 0, 0, 0, [], [])),
  (66, (.putfield 32, 3, 8, 10, 0, 0, 0, [], [])),
  (69, (.aload_n 0, 1, 0, 0, 0, 0, 0, [], [])),
  (70, (.bipush 48, 2, 0, 0, 0, 48, 0, [], [])),
  (72, (.newarray .int, 2, 9, 0, 0, 0, 0, [], [])),
  (74, (.putfield 35, 3, 8, 12, 0, 0, 0, [], [])),
  (77, (.aload_n 0, 1, 0, 0, 0, 0, 0, [], [])),
  (78, (.bipush 48, 2, 0, 0, 0, 48, 0, [], [])),
  (80, (.newarray .int, 2, 9, 0, 0, 0, 0, [], [])),
  (82, (.putfield 38, 3, 8, 13, 0, 0, 0, [], [])),
  (85, (.aload_n 0, 1, 0, 0, 0, 0, 0, [], [])),
  (86, (.bipush 48, 2, 0, 0, 0, 48, 0, [], [])),
  (88, (.newarray .int, 2, 9, 0, 0, 0, 0, [], [])),
  (90, (.putfield 41, 3, 8, 14, 0, 0, 0, [], [])),
  (93, (.aload_n 0, 1, 0, 0, 0, 0, 0, [], [])),
  (94, (.bipush 48, 2, 0, 0, 0, 48, 0, [], [])),
  (96, (.newarray .int, 2, 9, 0, 0, 0, 0, [], [])),
  (98, (.putfield 44, 3, 8, 15, 0, 0, 0, [], [])),
  (101, (.aload_n 0, 1, 0, 0, 0, 0, 0, [], [])),
  (102, (.getfield 7, 3, 8, 0, 0, 0, 0, [], [])),
  (105, (.iconst 0, 1, 0, 0, 0, 0, 0, [], [])),
  (106, (.bipush 8, 2, 0, 0, 0, 8, 0, [], [])),
  (108, (.iastore, 1, 0, 0, 0, 0, 0, [], [])),
  (109, (.aload_n 0, 1, 0, 0, 0, 0, 0, [], [])),
  (110, (.getfield 7, 3, 8, 0, 0, 0, 0, [], [])),
  (113, (.iconst 1, 1, 0, 0, 0, 1, 0, [], [])),
  (114, (.iconst 2, 1, 0, 0, 0, 2, 0, [], [])),
  (115, (.iastore, 1, 0, 0, 0, 0, 0, [], [])),
  (116, (.iconst 0, 1, 0, 0, 0, 0, 0, [], [])),
  (117, (.istore_n 1, 1, 1, 0, 0, 0, 0, [], [])),
  (118, (.iload_n 1, 1, 1, 0, 0, 0, 0, [], [])),
  (119, (.bipush 24, 2, 0, 0, 0, 24, 0, [], [])),
  (121, (.if_icmp .ge 18, 3, 139, 0, 0, 0, 0, [], [])),
  (124, (.aload_n 0, 1, 0, 0, 0, 0, 0, [], [])),
  (125, (.getfield 7, 3, 8, 0, 0, 0, 0, [], [])),
  (128, (.iconst 3, 1, 0, 0, 0, 3, 0, [], [])),
  (129, (.iload_n 1, 1, 1, 0, 0, 0, 0, [], [])),
  (130, (.iadd, 1, 0, 0, 0, 0, 0, [], [])),
  (131, (.iconst 1, 1, 0, 0, 0, 1, 0, [], [])),
  (132, (.iastore, 1, 0, 0, 0, 0, 0, [], [])),
  (133, (.iinc 1 1, 3, 1, 0, 0, 1, 0, [], [])),
  (136, (.goto (-18), 3, 118, 0, 0, 0, 0, [], [])),
  (139, (.return_, 1, 0, 0, 0, 0, 0, [], [0, 1]))
  ]
def tbX8_in : List (Nat × jm_I) := [
  (0, (.lload_n 0, 1, 0, 0, 0, 0, 0, [], [])),
  (1, (.lload_n 2, 1, 2, 0, 0, 0, 0, [], [])),
  (2, (.lcmp, 1, 0, 0, 0, 0, 0, [], [])),
  (3, (.ifCond .lt 14, 3, 17, 0, 0, 0, 0, [], [])),
  (6, (.lload_n 0, 1, 0, 0, 0, 0, 0, [], [])),
  (7, (.lload 4, 2, 4, 0, 0, 0, 0, [], [])),
  (9, (.lcmp, 1, 0, 0, 0, 0, 0, [], [])),
  (10, (.ifCond .gt 7, 3, 17, 0, 0, 0, 0, [], [])),
  (13, (.iconst 1, 1, 0, 0, 0, 1, 0, [], [])),
  (14, (.goto 4, 3, 18, 0, 0, 0, 0, [], [])),
  (17, (.iconst 0, 1, 0, 0, 0, 0, 0, [], [0, 1, 2, 3, 4, 5])),
  (18, (.ireturn, 1, 0, 0, 0, 0, 0, [], [0, 1, 2, 3, 4, 5]))
  ]
def tbX8_has : List (Nat × jm_I) := [
  (0, (.iload_n 0, 1, 0, 0, 0, 0, 0, [], [])),
  (1, (.iload_n 1, 1, 1, 0, 0, 0, 0, [], [])),
  (2, (.ishr, 1, 0, 0, 0, 0, 0, [], [])),
  (3, (.iconst 1, 1, 0, 0, 0, 1, 0, [], [])),
  (4, (.iand, 1, 0, 0, 0, 0, 0, [], [])),
  (5, (.iconst 1, 1, 0, 0, 0, 1, 0, [], [])),
  (6, (.if_icmp .ne 7, 3, 13, 0, 0, 0, 0, [], [])),
  (9, (.iconst 1, 1, 0, 0, 0, 1, 0, [], [])),
  (10, (.goto 4, 3, 14, 0, 0, 0, 0, [], [])),
  (13, (.iconst 0, 1, 0, 0, 0, 0, 0, [], [0, 1])),
  (14, (.ireturn, 1, 0, 0, 0, 0, 0, [], [0, 1]))
  ]
def tbX8_ones : List (Nat × jm_I) := [
  (0, (.iconst 0, 1, 0, 0, 0, 0, 0, [], [])),
  (1, (.istore_n 1, 1, 1, 0, 0, 0, 0, [], [])),
  (2, (.iconst 0, 1, 0, 0, 0, 0, 0, [], [])),
  (3, (.istore_n 2, 1, 2, 0, 0, 0, 0, [], [])),
  (4, (.iload_n 2, 1, 2, 0, 0, 0, 0, [], [])),
  (5, (.bipush 24, 2, 0, 0, 0, 24, 0, [], [])),
  (7, (.if_icmp .ge 17, 3, 24, 0, 0, 0, 0, [], [])),
  (10, (.iload_n 1, 1, 1, 0, 0, 0, 0, [], [])),
  (11, (.iload_n 0, 1, 0, 0, 0, 0, 0, [], [])),
  (12, (.iload_n 2, 1, 2, 0, 0, 0, 0, [], [])),
  (13, (.ishr, 1, 0, 0, 0, 0, 0, [], [])),
  (14, (.iconst 1, 1, 0, 0, 0, 1, 0, [], [])),
  (15, (.iand, 1, 0, 0, 0, 0, 0, [], [])),
  (16, (.iadd, 1, 0, 0, 0, 0, 0, [], [])),
  (17, (.istore_n 1, 1, 1, 0, 0, 0, 0, [], [])),
  (18, (.iinc 2 1, 3, 2, 0, 0, 1, 0, [], [])),
  (21, (.goto (-17), 3, 4, 0, 0, 0, 0, [], [])),
  (24, (.iload_n 1, 1, 1, 0, 0, 0, 0, [], [0, 2])),
  (25, (.ireturn, 1, 0, 0, 0, 0, 0, [], []))
  ]
def tbX8_isPicture : List (Nat × jm_I) := [
  (0, (.iload_n 1, 1, 1, 0, 0, 0, 0, [], [])),
  (1, (.i2l, 1, 0, 0, 0, 0, 0, [], [])),
  (2, (.lconst 0, 1, 0, 0, 0, 0, 0, [], [])),
  (3, (.aload_n 0, 1, 0, 0, 0, 0, 0, [], [])),
  (4, (.getfield 7, 3, 8, 0, 0, 0, 0, [], [])),
  (7, (.iconst 2, 1, 0, 0, 0, 2, 0, [], [])),
  (8, (.iaload, 1, 0, 0, 0, 0, 0, [], [])),
  (9, (.iconst 1, 1, 0, 0, 0, 1, 0, [], [])),
  (10, (.isub, 1, 0, 0, 0, 0, 0, [], [])),
  (11, (.i2l, 1, 0, 0, 0, 0, 0, [], [])),
  (12, (.invokestatic 47, 3, 93, 3, 0, 0, 0, [], [])),
  (15, (.ireturn, 1, 0, 0, 0, 0, 0, [], []))
  ]
def tbX8_isGrain : List (Nat × jm_I) := [
  (0, (.iload_n 0, 1, 0, 0, 0, 0, 0, [], [])),
  (1, (.i2l, 1, 0, 0, 0, 0, 0, [], [])),
  (2, (.lconst 0, 1, 0, 0, 0, 0, 0, [], [])),
  (3, (.ldc2_w 51, 3, 0, 0, 0, 0, 23, [], [])),
  (6, (.invokestatic 47, 3, 93, 3, 0, 0, 0, [], [])),
  (9, (.ireturn, 1, 0, 0, 0, 0, 0, [], []))
  ]
def tbX8_isPlace : List (Nat × jm_I) := [
  (0, (.iload_n 0, 1, 0, 0, 0, 0, 0, [], [])),
  (1, (.i2l, 1, 0, 0, 0, 0, 0, [], [])),
  (2, (.lconst 0, 1, 0, 0, 0, 0, 0, [], [])),
  (3, (.ldc2_w 53, 3, 0, 0, 0, 0, 63, [], [])),
  (6, (.invokestatic 47, 3, 93, 3, 0, 0, 0, [], [])),
  (9, (.ireturn, 1, 0, 0, 0, 0, 0, [], []))
  ]
def tbX8_copy : List (Nat × jm_I) := [
  (0, (.iconst 0, 1, 0, 0, 0, 0, 0, [], [])),
  (1, (.istore_n 3, 1, 3, 0, 0, 0, 0, [], [])),
  (2, (.iload_n 3, 1, 3, 0, 0, 0, 0, [], [])),
  (3, (.sipush 321, 3, 0, 0, 0, 321, 0, [], [])),
  (6, (.if_icmp .ge 25, 3, 31, 0, 0, 0, 0, [], [])),
  (9, (.aload_n 0, 1, 0, 0, 0, 0, 0, [], [])),
  (10, (.getfield 7, 3, 8, 0, 0, 0, 0, [], [])),
  (13, (.iload_n 2, 1, 2, 0, 0, 0, 0, [], [])),
  (14, (.iload_n 3, 1, 3, 0, 0, 0, 0, [], [])),
  (15, (.iadd, 1, 0, 0, 0, 0, 0, [], [])),
  (16, (.aload_n 0, 1, 0, 0, 0, 0, 0, [], [])),
  (17, (.getfield 7, 3, 8, 0, 0, 0, 0, [], [])),
  (20, (.iload_n 1, 1, 1, 0, 0, 0, 0, [], [])),
  (21, (.iload_n 3, 1, 3, 0, 0, 0, 0, [], [])),
  (22, (.iadd, 1, 0, 0, 0, 0, 0, [], [])),
  (23, (.iaload, 1, 0, 0, 0, 0, 0, [], [])),
  (24, (.iastore, 1, 0, 0, 0, 0, 0, [], [])),
  (25, (.iinc 3 1, 3, 3, 0, 0, 1, 0, [], [])),
  (28, (.goto (-26), 3, 2, 0, 0, 0, 0, [], [])),
  (31, (.return_, 1, 0, 0, 0, 0, 0, [], [0, 1, 2, 3]))
  ]
def tbX8_minds : List (Nat × jm_I) := [
  (0, (.aload_n 0, 1, 0, 0, 0, 0, 0, [], [])),
  (1, (.getfield 55, 3, 8, 2, 0, 0, 0, [], [])),
  (4, (.bipush 8, 2, 0, 0, 0, 8, 0, [], [])),
  (6, (.if_icmp .ne 52, 3, 58, 0, 0, 0, 0, [], [])),
  (9, (.iconst 0, 1, 0, 0, 0, 0, 0, [], [])),
  (10, (.istore_n 1, 1, 1, 0, 0, 0, 0, [], [])),
  (11, (.iload_n 1, 1, 1, 0, 0, 0, 0, [], [])),
  (12, (.sipush 2247, 3, 0, 0, 0, 2247, 0, [], [])),
  (15, (.if_icmp .ge 33, 3, 48, 0, 0, 0, 0, [], [])),
  (18, (.aload_n 0, 1, 0, 0, 0, 0, 0, [], [])),
  (19, (.getfield 7, 3, 8, 0, 0, 0, 0, [], [])),
  (22, (.sipush 963, 3, 0, 0, 0, 963, 0, [], [])),
  (25, (.iload_n 1, 1, 1, 0, 0, 0, 0, [], [])),
  (26, (.iadd, 1, 0, 0, 0, 0, 0, [], [])),
  (27, (.aload_n 0, 1, 0, 0, 0, 0, 0, [], [])),
  (28, (.getfield 7, 3, 8, 0, 0, 0, 0, [], [])),
  (31, (.sipush 963, 3, 0, 0, 0, 963, 0, [], [])),
  (34, (.iload_n 1, 1, 1, 0, 0, 0, 0, [], [])),
  (35, (.iadd, 1, 0, 0, 0, 0, 0, [], [])),
  (36, (.sipush 321, 3, 0, 0, 0, 321, 0, [], [])),
  (39, (.iadd, 1, 0, 0, 0, 0, 0, [], [])),
  (40, (.iaload, 1, 0, 0, 0, 0, 0, [], [])),
  (41, (.iastore, 1, 0, 0, 0, 0, 0, [], [])),
  (42, (.iinc 1 1, 3, 1, 0, 0, 1, 0, [], [])),
  (45, (.goto (-34), 3, 11, 0, 0, 0, 0, [], [])),
  (48, (.aload_n 0, 1, 0, 0, 0, 0, 0, [], [1])),
  (49, (.dup, 1, 0, 0, 0, 0, 0, [], [])),
  (50, (.getfield 55, 3, 8, 2, 0, 0, 0, [], [])),
  (53, (.iconst 1, 1, 0, 0, 0, 1, 0, [], [])),
  (54, (.isub, 1, 0, 0, 0, 0, 0, [], [])),
  (55, (.putfield 55, 3, 8, 2, 0, 0, 0, [], [])),
  (58, (.aload_n 0, 1, 0, 0, 0, 0, 0, [], [1])),
  (59, (.iconst 0, 1, 0, 0, 0, 0, 0, [], [])),
  (60, (.sipush 963, 3, 0, 0, 0, 963, 0, [], [])),
  (63, (.sipush 321, 3, 0, 0, 0, 321, 0, [], [])),
  (66, (.aload_n 0, 1, 0, 0, 0, 0, 0, [], [])),
  (67, (.getfield 55, 3, 8, 2, 0, 0, 0, [], [])),
  (70, (.imul, 1, 0, 0, 0, 0, 0, [], [])),
  (71, (.iadd, 1, 0, 0, 0, 0, 0, [], [])),
  (72, (.invokevirtual 59, 3, 99, 3, 8, 0, 0, [], [])),
  (75, (.aload_n 0, 1, 0, 0, 0, 0, 0, [], [])),
  (76, (.dup, 1, 0, 0, 0, 0, 0, [], [])),
  (77, (.getfield 55, 3, 8, 2, 0, 0, 0, [], [])),
  (80, (.iconst 1, 1, 0, 0, 0, 1, 0, [], [])),
  (81, (.iadd, 1, 0, 0, 0, 0, 0, [], [])),
  (82, (.putfield 55, 3, 8, 2, 0, 0, 0, [], [])),
  (85, (.return_, 1, 0, 0, 0, 0, 0, [], []))
  ]
def tbX8_of : List (Nat × jm_I) := [
  (0, (.bipush 27, 2, 0, 0, 0, 27, 0, [], [])),
  (2, (.bipush 49, 2, 0, 0, 0, 49, 0, [], [])),
  (4, (.iload_n 0, 1, 0, 0, 0, 0, 0, [], [])),
  (5, (.imul, 1, 0, 0, 0, 0, 0, [], [])),
  (6, (.iadd, 1, 0, 0, 0, 0, 0, [], [])),
  (7, (.ireturn, 1, 0, 0, 0, 0, 0, [], []))
  ]
def tbX8_setOf : List (Nat × jm_I) := [
  (0, (.aload_n 0, 1, 0, 0, 0, 0, 0, [], [])),
  (1, (.getfield 7, 3, 8, 0, 0, 0, 0, [], [])),
  (4, (.iload_n 1, 1, 1, 0, 0, 0, 0, [], [])),
  (5, (.invokestatic 63, 3, 101, 1, 0, 0, 0, [], [])),
  (8, (.iaload, 1, 0, 0, 0, 0, 0, [], [])),
  (9, (.ireturn, 1, 0, 0, 0, 0, 0, [], []))
  ]
def tbX8_x : List (Nat × jm_I) := [
  (0, (.aload_n 0, 1, 0, 0, 0, 0, 0, [], [])),
  (1, (.getfield 7, 3, 8, 0, 0, 0, 0, [], [])),
  (4, (.iload_n 1, 1, 1, 0, 0, 0, 0, [], [])),
  (5, (.invokestatic 63, 3, 101, 1, 0, 0, 0, [], [])),
  (8, (.iconst 1, 1, 0, 0, 0, 1, 0, [], [])),
  (9, (.iadd, 1, 0, 0, 0, 0, 0, [], [])),
  (10, (.iload_n 2, 1, 2, 0, 0, 0, 0, [], [])),
  (11, (.iadd, 1, 0, 0, 0, 0, 0, [], [])),
  (12, (.iaload, 1, 0, 0, 0, 0, 0, [], [])),
  (13, (.ireturn, 1, 0, 0, 0, 0, 0, [], []))
  ]
def tbX8_y : List (Nat × jm_I) := [
  (0, (.aload_n 0, 1, 0, 0, 0, 0, 0, [], [])),
  (1, (.getfield 7, 3, 8, 0, 0, 0, 0, [], [])),
  (4, (.iload_n 1, 1, 1, 0, 0, 0, 0, [], [])),
  (5, (.invokestatic 63, 3, 101, 1, 0, 0, 0, [], [])),
  (8, (.bipush 25, 2, 0, 0, 0, 25, 0, [], [])),
  (10, (.iadd, 1, 0, 0, 0, 0, 0, [], [])),
  (11, (.iload_n 2, 1, 2, 0, 0, 0, 0, [], [])),
  (12, (.iadd, 1, 0, 0, 0, 0, 0, [], [])),
  (13, (.iaload, 1, 0, 0, 0, 0, 0, [], [])),
  (14, (.ireturn, 1, 0, 0, 0, 0, 0, [], []))
  ]
def tbX8_lays : List (Nat × jm_I) := [
  (0, (.aload_n 0, 1, 0, 0, 0, 0, 0, [], [])),
  (1, (.getfield 7, 3, 8, 0, 0, 0, 0, [], [])),
  (4, (.iload_n 1, 1, 1, 0, 0, 0, 0, [], [])),
  (5, (.invokestatic 63, 3, 101, 1, 0, 0, 0, [], [])),
  (8, (.dup2, 1, 0, 0, 0, 0, 0, [], [])),
  (9, (.iaload, 1, 0, 0, 0, 0, 0, [], [])),
  (10, (.iconst 1, 1, 0, 0, 0, 1, 0, [], [])),
  (11, (.iload_n 2, 1, 2, 0, 0, 0, 0, [], [])),
  (12, (.ishl, 1, 0, 0, 0, 0, 0, [], [])),
  (13, (.ior, 1, 0, 0, 0, 0, 0, [], [])),
  (14, (.iastore, 1, 0, 0, 0, 0, 0, [], [])),
  (15, (.aload_n 0, 1, 0, 0, 0, 0, 0, [], [])),
  (16, (.getfield 7, 3, 8, 0, 0, 0, 0, [], [])),
  (19, (.iload_n 1, 1, 1, 0, 0, 0, 0, [], [])),
  (20, (.invokestatic 63, 3, 101, 1, 0, 0, 0, [], [])),
  (23, (.iconst 1, 1, 0, 0, 0, 1, 0, [], [])),
  (24, (.iadd, 1, 0, 0, 0, 0, 0, [], [])),
  (25, (.iload_n 2, 1, 2, 0, 0, 0, 0, [], [])),
  (26, (.iadd, 1, 0, 0, 0, 0, 0, [], [])),
  (27, (.iload_n 3, 1, 3, 0, 0, 0, 0, [], [])),
  (28, (.iastore, 1, 0, 0, 0, 0, 0, [], [])),
  (29, (.aload_n 0, 1, 0, 0, 0, 0, 0, [], [])),
  (30, (.getfield 7, 3, 8, 0, 0, 0, 0, [], [])),
  (33, (.iload_n 1, 1, 1, 0, 0, 0, 0, [], [])),
  (34, (.invokestatic 63, 3, 101, 1, 0, 0, 0, [], [])),
  (37, (.bipush 25, 2, 0, 0, 0, 25, 0, [], [])),
  (39, (.iadd, 1, 0, 0, 0, 0, 0, [], [])),
  (40, (.iload_n 2, 1, 2, 0, 0, 0, 0, [], [])),
  (41, (.iadd, 1, 0, 0, 0, 0, 0, [], [])),
  (42, (.iload 4, 2, 4, 0, 0, 0, 0, [], [])),
  (44, (.iastore, 1, 0, 0, 0, 0, 0, [], [])),
  (45, (.return_, 1, 0, 0, 0, 0, 0, [], []))
  ]
def tbX8_begins : List (Nat × jm_I) := [
  (0, (.aload_n 0, 1, 0, 0, 0, 0, 0, [], [])),
  (1, (.getfield 7, 3, 8, 0, 0, 0, 0, [], [])),
  (4, (.iconst 2, 1, 0, 0, 0, 2, 0, [], [])),
  (5, (.iaload, 1, 0, 0, 0, 0, 0, [], [])),
  (6, (.istore_n 1, 1, 1, 0, 0, 0, 0, [], [])),
  (7, (.iconst 0, 1, 0, 0, 0, 0, 0, [], [])),
  (8, (.istore_n 2, 1, 2, 0, 0, 0, 0, [], [])),
  (9, (.iload_n 2, 1, 2, 0, 0, 0, 0, [], [])),
  (10, (.bipush 49, 2, 0, 0, 0, 49, 0, [], [])),
  (12, (.if_icmp .ge 21, 3, 33, 0, 0, 0, 0, [], [])),
  (15, (.aload_n 0, 1, 0, 0, 0, 0, 0, [], [])),
  (16, (.getfield 7, 3, 8, 0, 0, 0, 0, [], [])),
  (19, (.iload_n 1, 1, 1, 0, 0, 0, 0, [], [])),
  (20, (.invokestatic 63, 3, 101, 1, 0, 0, 0, [], [])),
  (23, (.iload_n 2, 1, 2, 0, 0, 0, 0, [], [])),
  (24, (.iadd, 1, 0, 0, 0, 0, 0, [], [])),
  (25, (.iconst 0, 1, 0, 0, 0, 0, 0, [], [])),
  (26, (.iastore, 1, 0, 0, 0, 0, 0, [], [])),
  (27, (.iinc 2 1, 3, 2, 0, 0, 1, 0, [], [])),
  (30, (.goto (-21), 3, 9, 0, 0, 0, 0, [], [])),
  (33, (.aload_n 0, 1, 0, 0, 0, 0, 0, [], [2])),
  (34, (.getfield 7, 3, 8, 0, 0, 0, 0, [], [])),
  (37, (.iconst 2, 1, 0, 0, 0, 2, 0, [], [])),
  (38, (.dup2, 1, 0, 0, 0, 0, 0, [], [])),
  (39, (.iaload, 1, 0, 0, 0, 0, 0, [], [])),
  (40, (.iconst 1, 1, 0, 0, 0, 1, 0, [], [])),
  (41, (.iadd, 1, 0, 0, 0, 0, 0, [], [])),
  (42, (.iastore, 1, 0, 0, 0, 0, 0, [], [])),
  (43, (.iload_n 1, 1, 1, 0, 0, 0, 0, [], [])),
  (44, (.ireturn, 1, 0, 0, 0, 0, 0, [], []))
  ]
def tbX8_picture : List (Nat × jm_I) := [
  (0, (.aload_n 0, 1, 0, 0, 0, 0, 0, [], [])),
  (1, (.getfield 7, 3, 8, 0, 0, 0, 0, [], [])),
  (4, (.iconst 2, 1, 0, 0, 0, 2, 0, [], [])),
  (5, (.iaload, 1, 0, 0, 0, 0, 0, [], [])),
  (6, (.bipush 6, 2, 0, 0, 0, 6, 0, [], [])),
  (8, (.if_icmp .ne 6, 3, 14, 0, 0, 0, 0, [], [])),
  (11, (.ldc 67, 2, 0, 0, 0, (-1000000004), 0, [], [])),
  (13, (.ireturn, 1, 0, 0, 0, 0, 0, [], [])),
  (14, (.aload_n 0, 1, 0, 0, 0, 0, 0, [], [])),
  (15, (.invokevirtual 68, 3, 100, 1, 8, 0, 0, [], [])),
  (18, (.aload_n 0, 1, 0, 0, 0, 0, 0, [], [])),
  (19, (.invokevirtual 71, 3, 106, 1, 8, 0, 0, [], [])),
  (22, (.ireturn, 1, 0, 0, 0, 0, 0, [], []))
  ]
def tbX8_drop : List (Nat × jm_I) := [
  (0, (.aload_n 0, 1, 0, 0, 0, 0, 0, [], [])),
  (1, (.getfield 7, 3, 8, 0, 0, 0, 0, [], [])),
  (4, (.iconst 2, 1, 0, 0, 0, 2, 0, [], [])),
  (5, (.iaload, 1, 0, 0, 0, 0, 0, [], [])),
  (6, (.ifCond .ne 6, 3, 12, 0, 0, 0, 0, [], [])),
  (9, (.ldc 75, 2, 0, 0, 0, (-1000000003), 0, [], [])),
  (11, (.ireturn, 1, 0, 0, 0, 0, 0, [], [])),
  (12, (.aload_n 0, 1, 0, 0, 0, 0, 0, [], [])),
  (13, (.invokevirtual 68, 3, 100, 1, 8, 0, 0, [], [])),
  (16, (.aload_n 0, 1, 0, 0, 0, 0, 0, [], [])),
  (17, (.getfield 7, 3, 8, 0, 0, 0, 0, [], [])),
  (20, (.iconst 2, 1, 0, 0, 0, 2, 0, [], [])),
  (21, (.dup2, 1, 0, 0, 0, 0, 0, [], [])),
  (22, (.iaload, 1, 0, 0, 0, 0, 0, [], [])),
  (23, (.iconst 1, 1, 0, 0, 0, 1, 0, [], [])),
  (24, (.isub, 1, 0, 0, 0, 0, 0, [], [])),
  (25, (.iastore, 1, 0, 0, 0, 0, 0, [], [])),
  (26, (.aload_n 0, 1, 0, 0, 0, 0, 0, [], [])),
  (27, (.getfield 7, 3, 8, 0, 0, 0, 0, [], [])),
  (30, (.iconst 2, 1, 0, 0, 0, 2, 0, [], [])),
  (31, (.iaload, 1, 0, 0, 0, 0, 0, [], [])),
  (32, (.ireturn, 1, 0, 0, 0, 0, 0, [], []))
  ]
def tbX8_put : List (Nat × jm_I) := [
  (0, (.aload_n 0, 1, 0, 0, 0, 0, 0, [], [])),
  (1, (.iload_n 1, 1, 1, 0, 0, 0, 0, [], [])),
  (2, (.invokevirtual 76, 3, 96, 2, 8, 0, 0, [], [])),
  (5, (.ifCond .eq 10, 3, 15, 0, 0, 0, 0, [], [])),
  (8, (.iload_n 2, 1, 2, 0, 0, 0, 0, [], [])),
  (9, (.invokestatic 80, 3, 97, 1, 0, 0, 0, [], [])),
  (12, (.ifCond .ne 6, 3, 18, 0, 0, 0, 0, [], [])),
  (15, (.ldc 83, 2, 0, 0, 0, (-1000000001), 0, [], [0, 1, 2, 3, 4, 5])),
  (17, (.ireturn, 1, 0, 0, 0, 0, 0, [], [])),
  (18, (.iload_n 3, 1, 3, 0, 0, 0, 0, [], [5])),
  (19, (.invokestatic 84, 3, 98, 1, 0, 0, 0, [], [])),
  (22, (.ifCond .eq 11, 3, 33, 0, 0, 0, 0, [], [])),
  (25, (.iload 4, 2, 4, 0, 0, 0, 0, [], [])),
  (27, (.invokestatic 84, 3, 98, 1, 0, 0, 0, [], [])),
  (30, (.ifCond .ne 6, 3, 36, 0, 0, 0, 0, [], [])),
  (33, (.ldc 87, 2, 0, 0, 0, (-1000000002), 0, [], [0, 1, 2, 3, 4, 5])),
  (35, (.ireturn, 1, 0, 0, 0, 0, 0, [], [])),
  (36, (.aload_n 0, 1, 0, 0, 0, 0, 0, [], [5])),
  (37, (.invokevirtual 68, 3, 100, 1, 8, 0, 0, [], [])),
  (40, (.aload_n 0, 1, 0, 0, 0, 0, 0, [], [])),
  (41, (.iload_n 1, 1, 1, 0, 0, 0, 0, [], [])),
  (42, (.invokevirtual 88, 3, 102, 2, 8, 0, 0, [], [])),
  (45, (.iload_n 2, 1, 2, 0, 0, 0, 0, [], [])),
  (46, (.invokestatic 91, 3, 94, 2, 0, 0, 0, [], [])),
  (49, (.ifCond .eq 7, 3, 56, 0, 0, 0, 0, [], [])),
  (52, (.iconst 1, 1, 0, 0, 0, 1, 0, [], [])),
  (53, (.goto 4, 3, 57, 0, 0, 0, 0, [], [])),
  (56, (.iconst 0, 1, 0, 0, 0, 0, 0, [], [5])),
  (57, (.istore 5, 2, 5, 0, 0, 0, 0, [], [5])),
  (59, (.aload_n 0, 1, 0, 0, 0, 0, 0, [], [])),
  (60, (.iload_n 1, 1, 1, 0, 0, 0, 0, [], [])),
  (61, (.iload_n 2, 1, 2, 0, 0, 0, 0, [], [])),
  (62, (.iload_n 3, 1, 3, 0, 0, 0, 0, [], [])),
  (63, (.iload 4, 2, 4, 0, 0, 0, 0, [], [])),
  (65, (.invokevirtual 95, 3, 105, 5, 8, 0, 0, [], [])),
  (68, (.iload 5, 2, 5, 0, 0, 0, 0, [], [])),
  (70, (.ireturn, 1, 0, 0, 0, 0, 0, [], []))
  ]
def tbX8_lose : List (Nat × jm_I) := [
  (0, (.aload_n 0, 1, 0, 0, 0, 0, 0, [], [])),
  (1, (.iload_n 1, 1, 1, 0, 0, 0, 0, [], [])),
  (2, (.invokevirtual 76, 3, 96, 2, 8, 0, 0, [], [])),
  (5, (.ifCond .eq 10, 3, 15, 0, 0, 0, 0, [], [])),
  (8, (.iload_n 2, 1, 2, 0, 0, 0, 0, [], [])),
  (9, (.invokestatic 80, 3, 97, 1, 0, 0, 0, [], [])),
  (12, (.ifCond .ne 6, 3, 18, 0, 0, 0, 0, [], [])),
  (15, (.ldc 83, 2, 0, 0, 0, (-1000000001), 0, [], [0, 1, 2])),
  (17, (.ireturn, 1, 0, 0, 0, 0, 0, [], [])),
  (18, (.aload_n 0, 1, 0, 0, 0, 0, 0, [], [])),
  (19, (.iload_n 1, 1, 1, 0, 0, 0, 0, [], [])),
  (20, (.invokevirtual 88, 3, 102, 2, 8, 0, 0, [], [])),
  (23, (.iload_n 2, 1, 2, 0, 0, 0, 0, [], [])),
  (24, (.invokestatic 91, 3, 94, 2, 0, 0, 0, [], [])),
  (27, (.ifCond .ne 6, 3, 33, 0, 0, 0, 0, [], [])),
  (30, (.ldc 75, 2, 0, 0, 0, (-1000000003), 0, [], [])),
  (32, (.ireturn, 1, 0, 0, 0, 0, 0, [], [])),
  (33, (.aload_n 0, 1, 0, 0, 0, 0, 0, [], [])),
  (34, (.invokevirtual 68, 3, 100, 1, 8, 0, 0, [], [])),
  (37, (.aload_n 0, 1, 0, 0, 0, 0, 0, [], [])),
  (38, (.getfield 7, 3, 8, 0, 0, 0, 0, [], [])),
  (41, (.iload_n 1, 1, 1, 0, 0, 0, 0, [], [])),
  (42, (.invokestatic 63, 3, 101, 1, 0, 0, 0, [], [])),
  (45, (.dup2, 1, 0, 0, 0, 0, 0, [], [])),
  (46, (.iaload, 1, 0, 0, 0, 0, 0, [], [])),
  (47, (.iconst 1, 1, 0, 0, 0, 1, 0, [], [])),
  (48, (.iload_n 2, 1, 2, 0, 0, 0, 0, [], [])),
  (49, (.ishl, 1, 0, 0, 0, 0, 0, [], [])),
  (50, (.iconst (-1), 1, 0, 0, 0, (-1), 0, [], [])),
  (51, (.ixor, 1, 0, 0, 0, 0, 0, [], [])),
  (52, (.iand, 1, 0, 0, 0, 0, 0, [], [])),
  (53, (.iastore, 1, 0, 0, 0, 0, 0, [], [])),
  (54, (.aload_n 0, 1, 0, 0, 0, 0, 0, [], [])),
  (55, (.iload_n 1, 1, 1, 0, 0, 0, 0, [], [])),
  (56, (.invokevirtual 88, 3, 102, 2, 8, 0, 0, [], [])),
  (59, (.invokestatic 99, 3, 95, 1, 0, 0, 0, [], [])),
  (62, (.ireturn, 1, 0, 0, 0, 0, 0, [], []))
  ]
def tbX8_weigh : List (Nat × jm_I) := [
  (0, (.iload_n 1, 1, 1, 0, 0, 0, 0, [], [])),
  (1, (.invokestatic 80, 3, 97, 1, 0, 0, 0, [], [])),
  (4, (.ifCond .ne 6, 3, 10, 0, 0, 0, 0, [], [])),
  (7, (.ldc 83, 2, 0, 0, 0, (-1000000001), 0, [], [])),
  (9, (.ireturn, 1, 0, 0, 0, 0, 0, [], [])),
  (10, (.iload_n 2, 1, 2, 0, 0, 0, 0, [], [3])),
  (11, (.i2l, 1, 0, 0, 0, 0, 0, [], [])),
  (12, (.lconst 1, 1, 0, 0, 0, 0, 1, [], [])),
  (13, (.ldc2_w 102, 3, 0, 0, 0, 0, 9, [], [])),
  (16, (.invokestatic 47, 3, 93, 3, 0, 0, 0, [], [])),
  (19, (.ifCond .ne 6, 3, 25, 0, 0, 0, 0, [], [])),
  (22, (.ldc 87, 2, 0, 0, 0, (-1000000002), 0, [], [])),
  (24, (.ireturn, 1, 0, 0, 0, 0, 0, [], [])),
  (25, (.aload_n 0, 1, 0, 0, 0, 0, 0, [], [3])),
  (26, (.invokevirtual 68, 3, 100, 1, 8, 0, 0, [], [])),
  (29, (.aload_n 0, 1, 0, 0, 0, 0, 0, [], [])),
  (30, (.getfield 7, 3, 8, 0, 0, 0, 0, [], [])),
  (33, (.iconst 3, 1, 0, 0, 0, 3, 0, [], [])),
  (34, (.iload_n 1, 1, 1, 0, 0, 0, 0, [], [])),
  (35, (.iadd, 1, 0, 0, 0, 0, 0, [], [])),
  (36, (.iaload, 1, 0, 0, 0, 0, 0, [], [])),
  (37, (.istore_n 3, 1, 3, 0, 0, 0, 0, [], [])),
  (38, (.aload_n 0, 1, 0, 0, 0, 0, 0, [], [])),
  (39, (.getfield 7, 3, 8, 0, 0, 0, 0, [], [])),
  (42, (.iconst 3, 1, 0, 0, 0, 3, 0, [], [])),
  (43, (.iload_n 1, 1, 1, 0, 0, 0, 0, [], [])),
  (44, (.iadd, 1, 0, 0, 0, 0, 0, [], [])),
  (45, (.iload_n 2, 1, 2, 0, 0, 0, 0, [], [])),
  (46, (.iastore, 1, 0, 0, 0, 0, 0, [], [])),
  (47, (.iload_n 3, 1, 3, 0, 0, 0, 0, [], [])),
  (48, (.ireturn, 1, 0, 0, 0, 0, 0, [], []))
  ]
def tbX8_bound : List (Nat × jm_I) := [
  (0, (.iload_n 1, 1, 1, 0, 0, 0, 0, [], [])),
  (1, (.ifCond .ne 15, 3, 16, 0, 0, 0, 0, [], [])),
  (4, (.iload_n 2, 1, 2, 0, 0, 0, 0, [], [])),
  (5, (.i2l, 1, 0, 0, 0, 0, 0, [], [])),
  (6, (.lconst 0, 1, 0, 0, 0, 0, 0, [], [])),
  (7, (.ldc2_w 104, 3, 0, 0, 0, 0, 40, [], [])),
  (10, (.invokestatic 47, 3, 93, 3, 0, 0, 0, [], [])),
  (13, (.goto 25, 3, 38, 0, 0, 0, 0, [], [])),
  (16, (.iload_n 1, 1, 1, 0, 0, 0, 0, [], [3, 4])),
  (17, (.iconst 1, 1, 0, 0, 0, 1, 0, [], [])),
  (18, (.if_icmp .ne 19, 3, 37, 0, 0, 0, 0, [], [])),
  (21, (.iload_n 2, 1, 2, 0, 0, 0, 0, [], [])),
  (22, (.i2l, 1, 0, 0, 0, 0, 0, [], [])),
  (23, (.lconst 1, 1, 0, 0, 0, 0, 1, [], [])),
  (24, (.ldc2_w 106, 3, 0, 0, 0, 0, 99, [], [])),
  (27, (.invokestatic 47, 3, 93, 3, 0, 0, 0, [], [])),
  (30, (.ifCond .eq 7, 3, 37, 0, 0, 0, 0, [], [])),
  (33, (.iconst 1, 1, 0, 0, 0, 1, 0, [], [])),
  (34, (.goto 4, 3, 38, 0, 0, 0, 0, [], [])),
  (37, (.iconst 0, 1, 0, 0, 0, 0, 0, [], [3, 4])),
  (38, (.istore_n 3, 1, 3, 0, 0, 0, 0, [], [3, 4])),
  (39, (.iload_n 3, 1, 3, 0, 0, 0, 0, [], [])),
  (40, (.ifCond .ne 6, 3, 46, 0, 0, 0, 0, [], [])),
  (43, (.ldc 87, 2, 0, 0, 0, (-1000000002), 0, [], [])),
  (45, (.ireturn, 1, 0, 0, 0, 0, 0, [], [])),
  (46, (.aload_n 0, 1, 0, 0, 0, 0, 0, [], [3, 4])),
  (47, (.invokevirtual 68, 3, 100, 1, 8, 0, 0, [], [])),
  (50, (.aload_n 0, 1, 0, 0, 0, 0, 0, [], [])),
  (51, (.getfield 7, 3, 8, 0, 0, 0, 0, [], [])),
  (54, (.iconst 0, 1, 0, 0, 0, 0, 0, [], [])),
  (55, (.iload_n 1, 1, 1, 0, 0, 0, 0, [], [])),
  (56, (.iadd, 1, 0, 0, 0, 0, 0, [], [])),
  (57, (.iaload, 1, 0, 0, 0, 0, 0, [], [])),
  (58, (.istore 4, 2, 4, 0, 0, 0, 0, [], [])),
  (60, (.aload_n 0, 1, 0, 0, 0, 0, 0, [], [])),
  (61, (.getfield 7, 3, 8, 0, 0, 0, 0, [], [])),
  (64, (.iconst 0, 1, 0, 0, 0, 0, 0, [], [])),
  (65, (.iload_n 1, 1, 1, 0, 0, 0, 0, [], [])),
  (66, (.iadd, 1, 0, 0, 0, 0, 0, [], [])),
  (67, (.iload_n 2, 1, 2, 0, 0, 0, 0, [], [])),
  (68, (.iastore, 1, 0, 0, 0, 0, 0, [], [])),
  (69, (.iload 4, 2, 4, 0, 0, 0, 0, [], [])),
  (71, (.ireturn, 1, 0, 0, 0, 0, 0, [], []))
  ]
def tbX8_draw : List (Nat × jm_I) := [
  (0, (.aload_n 0, 1, 0, 0, 0, 0, 0, [], [])),
  (1, (.aload_n 0, 1, 0, 0, 0, 0, 0, [], [])),
  (2, (.getfield 108, 3, 8, 3, 0, 0, 0, [], [])),
  (5, (.ldc2_w 112, 3, 0, 0, 0, 0, 16807, [], [])),
  (8, (.lmul, 1, 0, 0, 0, 0, 0, [], [])),
  (9, (.ldc2_w 114, 3, 0, 0, 0, 0, 2147483647, [], [])),
  (12, (.lrem, 1, 0, 0, 0, 0, 0, [], [])),
  (13, (.putfield 108, 3, 8, 3, 0, 0, 0, [], [])),
  (16, (.aload_n 0, 1, 0, 0, 0, 0, 0, [], [])),
  (17, (.getfield 108, 3, 8, 3, 0, 0, 0, [], [])),
  (20, (.iload_n 1, 1, 1, 0, 0, 0, 0, [], [])),
  (21, (.i2l, 1, 0, 0, 0, 0, 0, [], [])),
  (22, (.lrem, 1, 0, 0, 0, 0, 0, [], [])),
  (23, (.l2i, 1, 0, 0, 0, 0, 0, [], [])),
  (24, (.ireturn, 1, 0, 0, 0, 0, 0, [], []))
  ]
def tbX8_bounded : List (Nat × jm_I) := [
  (0, (.iload_n 0, 1, 0, 0, 0, 0, 0, [], [])),
  (1, (.ifCond .ge 7, 3, 8, 0, 0, 0, 0, [], [])),
  (4, (.iconst 0, 1, 0, 0, 0, 0, 0, [], [])),
  (5, (.goto 15, 3, 20, 0, 0, 0, 0, [], [])),
  (8, (.iload_n 0, 1, 0, 0, 0, 0, 0, [], [])),
  (9, (.bipush 63, 2, 0, 0, 0, 63, 0, [], [])),
  (11, (.if_icmp .le 8, 3, 19, 0, 0, 0, 0, [], [])),
  (14, (.bipush 63, 2, 0, 0, 0, 63, 0, [], [])),
  (16, (.goto 4, 3, 20, 0, 0, 0, 0, [], [])),
  (19, (.iload_n 0, 1, 0, 0, 0, 0, 0, [], [])),
  (20, (.ireturn, 1, 0, 0, 0, 0, 0, [], [0]))
  ]
def tbX8_drift : List (Nat × jm_I) := [
  (0, (.iload_n 1, 1, 1, 0, 0, 0, 0, [], [])),
  (1, (.i2l, 1, 0, 0, 0, 0, 0, [], [])),
  (2, (.lconst 1, 1, 0, 0, 0, 0, 1, [], [])),
  (3, (.ldc2_w 116, 3, 0, 0, 0, 0, 999999, [], [])),
  (6, (.invokestatic 47, 3, 93, 3, 0, 0, 0, [], [])),
  (9, (.ifCond .ne 6, 3, 15, 0, 0, 0, 0, [], [])),
  (12, (.ldc 87, 2, 0, 0, 0, (-1000000002), 0, [], [])),
  (14, (.ireturn, 1, 0, 0, 0, 0, 0, [], [])),
  (15, (.aload_n 0, 1, 0, 0, 0, 0, 0, [], [2, 3, 4, 5, 6, 7, 8])),
  (16, (.getfield 7, 3, 8, 0, 0, 0, 0, [], [])),
  (19, (.iconst 2, 1, 0, 0, 0, 2, 0, [], [])),
  (20, (.iaload, 1, 0, 0, 0, 0, 0, [], [])),
  (21, (.bipush 6, 2, 0, 0, 0, 6, 0, [], [])),
  (23, (.if_icmp .ne 6, 3, 29, 0, 0, 0, 0, [], [])),
  (26, (.ldc 67, 2, 0, 0, 0, (-1000000004), 0, [], [])),
  (28, (.ireturn, 1, 0, 0, 0, 0, 0, [], [])),
  (29, (.aload_n 0, 1, 0, 0, 0, 0, 0, [], [2, 3, 4, 5, 6, 7, 8])),
  (30, (.invokevirtual 68, 3, 100, 1, 8, 0, 0, [], [])),
  (33, (.aload_n 0, 1, 0, 0, 0, 0, 0, [], [])),
  (34, (.iload_n 1, 1, 1, 0, 0, 0, 0, [], [])),
  (35, (.i2l, 1, 0, 0, 0, 0, 0, [], [])),
  (36, (.putfield 108, 3, 8, 3, 0, 0, 0, [], [])),
  (39, (.aload_n 0, 1, 0, 0, 0, 0, 0, [], [])),
  (40, (.invokevirtual 71, 3, 106, 1, 8, 0, 0, [], [])),
  (43, (.istore_n 2, 1, 2, 0, 0, 0, 0, [], [])),
  (44, (.iconst 0, 1, 0, 0, 0, 0, 0, [], [])),
  (45, (.istore_n 3, 1, 3, 0, 0, 0, 0, [], [])),
  (46, (.iload_n 3, 1, 3, 0, 0, 0, 0, [], [1, 4, 5, 6, 7, 8])),
  (47, (.bipush 24, 2, 0, 0, 0, 24, 0, [], [])),
  (49, (.if_icmp .ge 187, 3, 236, 0, 0, 0, 0, [], [])),
  (52, (.iload_n 2, 1, 2, 0, 0, 0, 0, [], [])),
  (53, (.ifCond .le 21, 3, 74, 0, 0, 0, 0, [], [])),
  (56, (.aload_n 0, 1, 0, 0, 0, 0, 0, [], [])),
  (57, (.iload_n 2, 1, 2, 0, 0, 0, 0, [], [])),
  (58, (.iconst 1, 1, 0, 0, 0, 1, 0, [], [])),
  (59, (.isub, 1, 0, 0, 0, 0, 0, [], [])),
  (60, (.invokevirtual 88, 3, 102, 2, 8, 0, 0, [], [])),
  (63, (.iload_n 3, 1, 3, 0, 0, 0, 0, [], [])),
  (64, (.invokestatic 91, 3, 94, 2, 0, 0, 0, [], [])),
  (67, (.ifCond .eq 7, 3, 74, 0, 0, 0, 0, [], [])),
  (70, (.iconst 1, 1, 0, 0, 0, 1, 0, [], [])),
  (71, (.goto 4, 3, 75, 0, 0, 0, 0, [], [])),
  (74, (.iconst 0, 1, 0, 0, 0, 0, 0, [], [1, 4, 5, 6, 7, 8])),
  (75, (.istore 4, 2, 4, 0, 0, 0, 0, [], [1, 4, 5, 6, 7, 8])),
  (77, (.aload_n 0, 1, 0, 0, 0, 0, 0, [], [])),
  (78, (.iload_n 2, 1, 2, 0, 0, 0, 0, [], [])),
  (79, (.ifCond .le 8, 3, 87, 0, 0, 0, 0, [], [])),
  (82, (.bipush 16, 2, 0, 0, 0, 16, 0, [], [])),
  (84, (.goto 4, 3, 88, 0, 0, 0, 0, [], [])),
  (87, (.iconst 4, 1, 0, 0, 0, 4, 0, [], [1, 5, 6, 7, 8])),
  (88, (.invokevirtual 118, 3, 113, 2, 8, 0, 0, [], [1, 5, 6, 7, 8])),
  (91, (.ifCond .ne 7, 3, 98, 0, 0, 0, 0, [], [])),
  (94, (.iconst 1, 1, 0, 0, 0, 1, 0, [], [])),
  (95, (.goto 4, 3, 99, 0, 0, 0, 0, [], [])),
  (98, (.iconst 0, 1, 0, 0, 0, 0, 0, [], [1, 5, 6, 7, 8])),
  (99, (.istore 5, 2, 5, 0, 0, 0, 0, [], [1, 5, 6, 7, 8])),
  (101, (.iload_n 2, 1, 2, 0, 0, 0, 0, [], [])),
  (102, (.ifCond .le 18, 3, 120, 0, 0, 0, 0, [], [])),
  (105, (.iload 4, 2, 4, 0, 0, 0, 0, [], [])),
  (107, (.iload 5, 2, 5, 0, 0, 0, 0, [], [])),
  (109, (.if_icmp .eq 7, 3, 116, 0, 0, 0, 0, [], [])),
  (112, (.iconst 1, 1, 0, 0, 0, 1, 0, [], [])),
  (113, (.goto 17, 3, 130, 0, 0, 0, 0, [], [])),
  (116, (.iconst 0, 1, 0, 0, 0, 0, 0, [], [1, 5, 6, 7, 8])),
  (117, (.goto 13, 3, 130, 0, 0, 0, 0, [], [])),
  (120, (.iload 5, 2, 5, 0, 0, 0, 0, [], [1, 6, 7, 8])),
  (122, (.ifCond .ne 7, 3, 129, 0, 0, 0, 0, [], [])),
  (125, (.iconst 1, 1, 0, 0, 0, 1, 0, [], [])),
  (126, (.goto 4, 3, 130, 0, 0, 0, 0, [], [])),
  (129, (.iconst 0, 1, 0, 0, 0, 0, 0, [], [1, 5, 6, 7, 8])),
  (130, (.istore 6, 2, 6, 0, 0, 0, 0, [], [1, 5, 6, 7, 8])),
  (132, (.iload 6, 2, 6, 0, 0, 0, 0, [], [])),
  (134, (.ifCond .eq 65, 3, 199, 0, 0, 0, 0, [], [])),
  (137, (.iload 4, 2, 4, 0, 0, 0, 0, [], [])),
  (139, (.ifCond .eq 60, 3, 199, 0, 0, 0, 0, [], [])),
  (142, (.aload_n 0, 1, 0, 0, 0, 0, 0, [], [])),
  (143, (.bipush 7, 2, 0, 0, 0, 7, 0, [], [])),
  (145, (.invokevirtual 118, 3, 113, 2, 8, 0, 0, [], [])),
  (148, (.iconst 3, 1, 0, 0, 0, 3, 0, [], [])),
  (149, (.isub, 1, 0, 0, 0, 0, 0, [], [])),
  (150, (.istore 7, 2, 7, 0, 0, 0, 0, [], [])),
  (152, (.aload_n 0, 1, 0, 0, 0, 0, 0, [], [])),
  (153, (.bipush 7, 2, 0, 0, 0, 7, 0, [], [])),
  (155, (.invokevirtual 118, 3, 113, 2, 8, 0, 0, [], [])),
  (158, (.iconst 3, 1, 0, 0, 0, 3, 0, [], [])),
  (159, (.isub, 1, 0, 0, 0, 0, 0, [], [])),
  (160, (.istore 8, 2, 8, 0, 0, 0, 0, [], [])),
  (162, (.aload_n 0, 1, 0, 0, 0, 0, 0, [], [])),
  (163, (.iload_n 2, 1, 2, 0, 0, 0, 0, [], [])),
  (164, (.iload_n 3, 1, 3, 0, 0, 0, 0, [], [])),
  (165, (.aload_n 0, 1, 0, 0, 0, 0, 0, [], [])),
  (166, (.iload_n 2, 1, 2, 0, 0, 0, 0, [], [])),
  (167, (.iconst 1, 1, 0, 0, 0, 1, 0, [], [])),
  (168, (.isub, 1, 0, 0, 0, 0, 0, [], [])),
  (169, (.iload_n 3, 1, 3, 0, 0, 0, 0, [], [])),
  (170, (.invokevirtual 121, 3, 103, 3, 8, 0, 0, [], [])),
  (173, (.iload 7, 2, 7, 0, 0, 0, 0, [], [])),
  (175, (.iadd, 1, 0, 0, 0, 0, 0, [], [])),
  (176, (.invokestatic 125, 3, 114, 1, 0, 0, 0, [], [])),
  (179, (.aload_n 0, 1, 0, 0, 0, 0, 0, [], [])),
  (180, (.iload_n 2, 1, 2, 0, 0, 0, 0, [], [])),
  (181, (.iconst 1, 1, 0, 0, 0, 1, 0, [], [])),
  (182, (.isub, 1, 0, 0, 0, 0, 0, [], [])),
  (183, (.iload_n 3, 1, 3, 0, 0, 0, 0, [], [])),
  (184, (.invokevirtual 128, 3, 104, 3, 8, 0, 0, [], [])),
  (187, (.iload 8, 2, 8, 0, 0, 0, 0, [], [])),
  (189, (.iadd, 1, 0, 0, 0, 0, 0, [], [])),
  (190, (.invokestatic 125, 3, 114, 1, 0, 0, 0, [], [])),
  (193, (.invokevirtual 95, 3, 105, 5, 8, 0, 0, [], [])),
  (196, (.goto 34, 3, 230, 0, 0, 0, 0, [], [])),
  (199, (.iload 6, 2, 6, 0, 0, 0, 0, [], [1, 4, 5, 7, 8])),
  (201, (.ifCond .eq 29, 3, 230, 0, 0, 0, 0, [], [])),
  (204, (.aload_n 0, 1, 0, 0, 0, 0, 0, [], [])),
  (205, (.bipush 64, 2, 0, 0, 0, 64, 0, [], [])),
  (207, (.invokevirtual 118, 3, 113, 2, 8, 0, 0, [], [])),
  (210, (.istore 7, 2, 7, 0, 0, 0, 0, [], [])),
  (212, (.aload_n 0, 1, 0, 0, 0, 0, 0, [], [])),
  (213, (.bipush 64, 2, 0, 0, 0, 64, 0, [], [])),
  (215, (.invokevirtual 118, 3, 113, 2, 8, 0, 0, [], [])),
  (218, (.istore 8, 2, 8, 0, 0, 0, 0, [], [])),
  (220, (.aload_n 0, 1, 0, 0, 0, 0, 0, [], [])),
  (221, (.iload_n 2, 1, 2, 0, 0, 0, 0, [], [])),
  (222, (.iload_n 3, 1, 3, 0, 0, 0, 0, [], [])),
  (223, (.iload 7, 2, 7, 0, 0, 0, 0, [], [])),
  (225, (.iload 8, 2, 8, 0, 0, 0, 0, [], [])),
  (227, (.invokevirtual 95, 3, 105, 5, 8, 0, 0, [], [])),
  (230, (.iinc 3 1, 3, 3, 0, 0, 1, 0, [], [1, 4, 5, 6, 7, 8])),
  (233, (.goto (-187), 3, 46, 0, 0, 0, 0, [], [])),
  (236, (.aload_n 0, 1, 0, 0, 0, 0, 0, [], [1, 3, 4, 5, 6, 7, 8])),
  (237, (.iload_n 2, 1, 2, 0, 0, 0, 0, [], [])),
  (238, (.invokevirtual 88, 3, 102, 2, 8, 0, 0, [], [])),
  (241, (.invokestatic 99, 3, 95, 1, 0, 0, 0, [], [])),
  (244, (.ireturn, 1, 0, 0, 0, 0, 0, [], []))
  ]
def tbX8_undo : List (Nat × jm_I) := [
  (0, (.aload_n 0, 1, 0, 0, 0, 0, 0, [], [])),
  (1, (.getfield 55, 3, 8, 2, 0, 0, 0, [], [])),
  (4, (.ifCond .ne 6, 3, 10, 0, 0, 0, 0, [], [])),
  (7, (.ldc 75, 2, 0, 0, 0, (-1000000003), 0, [], [])),
  (9, (.ireturn, 1, 0, 0, 0, 0, 0, [], [])),
  (10, (.aload_n 0, 1, 0, 0, 0, 0, 0, [], [])),
  (11, (.dup, 1, 0, 0, 0, 0, 0, [], [])),
  (12, (.getfield 55, 3, 8, 2, 0, 0, 0, [], [])),
  (15, (.iconst 1, 1, 0, 0, 0, 1, 0, [], [])),
  (16, (.isub, 1, 0, 0, 0, 0, 0, [], [])),
  (17, (.putfield 55, 3, 8, 2, 0, 0, 0, [], [])),
  (20, (.aload_n 0, 1, 0, 0, 0, 0, 0, [], [])),
  (21, (.sipush 963, 3, 0, 0, 0, 963, 0, [], [])),
  (24, (.sipush 321, 3, 0, 0, 0, 321, 0, [], [])),
  (27, (.aload_n 0, 1, 0, 0, 0, 0, 0, [], [])),
  (28, (.getfield 55, 3, 8, 2, 0, 0, 0, [], [])),
  (31, (.imul, 1, 0, 0, 0, 0, 0, [], [])),
  (32, (.iadd, 1, 0, 0, 0, 0, 0, [], [])),
  (33, (.iconst 0, 1, 0, 0, 0, 0, 0, [], [])),
  (34, (.invokevirtual 59, 3, 99, 3, 8, 0, 0, [], [])),
  (37, (.aload_n 0, 1, 0, 0, 0, 0, 0, [], [])),
  (38, (.getfield 55, 3, 8, 2, 0, 0, 0, [], [])),
  (41, (.ireturn, 1, 0, 0, 0, 0, 0, [], []))
  ]
def tbX8_way : List (Nat × jm_I) := [
  (0, (.aload_n 0, 1, 0, 0, 0, 0, 0, [], [])),
  (1, (.iload_n 1, 1, 1, 0, 0, 0, 0, [], [])),
  (2, (.iload_n 2, 1, 2, 0, 0, 0, 0, [], [])),
  (3, (.invokevirtual 121, 3, 103, 3, 8, 0, 0, [], [])),
  (6, (.aload_n 0, 1, 0, 0, 0, 0, 0, [], [])),
  (7, (.iload_n 1, 1, 1, 0, 0, 0, 0, [], [])),
  (8, (.iload_n 3, 1, 3, 0, 0, 0, 0, [], [])),
  (9, (.invokevirtual 121, 3, 103, 3, 8, 0, 0, [], [])),
  (12, (.isub, 1, 0, 0, 0, 0, 0, [], [])),
  (13, (.istore 4, 2, 4, 0, 0, 0, 0, [], [])),
  (15, (.aload_n 0, 1, 0, 0, 0, 0, 0, [], [])),
  (16, (.iload_n 1, 1, 1, 0, 0, 0, 0, [], [])),
  (17, (.iload_n 2, 1, 2, 0, 0, 0, 0, [], [])),
  (18, (.invokevirtual 128, 3, 104, 3, 8, 0, 0, [], [])),
  (21, (.aload_n 0, 1, 0, 0, 0, 0, 0, [], [])),
  (22, (.iload_n 1, 1, 1, 0, 0, 0, 0, [], [])),
  (23, (.iload_n 3, 1, 3, 0, 0, 0, 0, [], [])),
  (24, (.invokevirtual 128, 3, 104, 3, 8, 0, 0, [], [])),
  (27, (.isub, 1, 0, 0, 0, 0, 0, [], [])),
  (28, (.istore 5, 2, 5, 0, 0, 0, 0, [], [])),
  (30, (.iload 4, 2, 4, 0, 0, 0, 0, [], [])),
  (32, (.iload 4, 2, 4, 0, 0, 0, 0, [], [])),
  (34, (.imul, 1, 0, 0, 0, 0, 0, [], [])),
  (35, (.iload 5, 2, 5, 0, 0, 0, 0, [], [])),
  (37, (.iload 5, 2, 5, 0, 0, 0, 0, [], [])),
  (39, (.imul, 1, 0, 0, 0, 0, 0, [], [])),
  (40, (.iadd, 1, 0, 0, 0, 0, 0, [], [])),
  (41, (.ireturn, 1, 0, 0, 0, 0, 0, [], []))
  ]
def tbX8_isLinked : List (Nat × jm_I) := [
  (0, (.iload_n 2, 1, 2, 0, 0, 0, 0, [], [])),
  (1, (.iload_n 3, 1, 3, 0, 0, 0, 0, [], [])),
  (2, (.if_icmp .eq 22, 3, 24, 0, 0, 0, 0, [], [])),
  (5, (.aload_n 0, 1, 0, 0, 0, 0, 0, [], [])),
  (6, (.iload_n 1, 1, 1, 0, 0, 0, 0, [], [])),
  (7, (.iload_n 2, 1, 2, 0, 0, 0, 0, [], [])),
  (8, (.iload_n 3, 1, 3, 0, 0, 0, 0, [], [])),
  (9, (.invokevirtual 131, 3, 117, 4, 8, 0, 0, [], [])),
  (12, (.iload 4, 2, 4, 0, 0, 0, 0, [], [])),
  (14, (.iload 4, 2, 4, 0, 0, 0, 0, [], [])),
  (16, (.imul, 1, 0, 0, 0, 0, 0, [], [])),
  (17, (.if_icmp .gt 7, 3, 24, 0, 0, 0, 0, [], [])),
  (20, (.iconst 1, 1, 0, 0, 0, 1, 0, [], [])),
  (21, (.goto 4, 3, 25, 0, 0, 0, 0, [], [])),
  (24, (.iconst 0, 1, 0, 0, 0, 0, 0, [], [0, 1, 2, 3, 4])),
  (25, (.ireturn, 1, 0, 0, 0, 0, 0, [], [0, 1, 2, 3, 4]))
  ]
def tbX8_weight : List (Nat × jm_I) := [
  (0, (.iconst 0, 1, 0, 0, 0, 0, 0, [], [])),
  (1, (.istore_n 2, 1, 2, 0, 0, 0, 0, [], [])),
  (2, (.iconst 0, 1, 0, 0, 0, 0, 0, [], [])),
  (3, (.istore_n 3, 1, 3, 0, 0, 0, 0, [], [])),
  (4, (.iload_n 3, 1, 3, 0, 0, 0, 0, [], [])),
  (5, (.bipush 24, 2, 0, 0, 0, 24, 0, [], [])),
  (7, (.if_icmp .ge 32, 3, 39, 0, 0, 0, 0, [], [])),
  (10, (.iload_n 2, 1, 2, 0, 0, 0, 0, [], [])),
  (11, (.iload_n 1, 1, 1, 0, 0, 0, 0, [], [])),
  (12, (.iload_n 3, 1, 3, 0, 0, 0, 0, [], [])),
  (13, (.invokestatic 91, 3, 94, 2, 0, 0, 0, [], [])),
  (16, (.ifCond .eq 14, 3, 30, 0, 0, 0, 0, [], [])),
  (19, (.aload_n 0, 1, 0, 0, 0, 0, 0, [], [])),
  (20, (.getfield 7, 3, 8, 0, 0, 0, 0, [], [])),
  (23, (.iconst 3, 1, 0, 0, 0, 3, 0, [], [])),
  (24, (.iload_n 3, 1, 3, 0, 0, 0, 0, [], [])),
  (25, (.iadd, 1, 0, 0, 0, 0, 0, [], [])),
  (26, (.iaload, 1, 0, 0, 0, 0, 0, [], [])),
  (27, (.goto 4, 3, 31, 0, 0, 0, 0, [], [])),
  (30, (.iconst 0, 1, 0, 0, 0, 0, 0, [], [2])),
  (31, (.iadd, 1, 0, 0, 0, 0, 0, [], [2])),
  (32, (.istore_n 2, 1, 2, 0, 0, 0, 0, [], [])),
  (33, (.iinc 3 1, 3, 3, 0, 0, 1, 0, [], [])),
  (36, (.goto (-32), 3, 4, 0, 0, 0, 0, [], [])),
  (39, (.iload_n 2, 1, 2, 0, 0, 0, 0, [], [0, 1, 3])),
  (40, (.ireturn, 1, 0, 0, 0, 0, 0, [], []))
  ]
def tbX8_clumpOf : List (Nat × jm_I) := [
  (0, (.iconst 1, 1, 0, 0, 0, 1, 0, [], [])),
  (1, (.iload_n 2, 1, 2, 0, 0, 0, 0, [], [])),
  (2, (.ishl, 1, 0, 0, 0, 0, 0, [], [])),
  (3, (.istore 5, 2, 5, 0, 0, 0, 0, [], [])),
  (5, (.iconst 0, 1, 0, 0, 0, 0, 0, [], [])),
  (6, (.istore 6, 2, 6, 0, 0, 0, 0, [], [])),
  (8, (.iload 6, 2, 6, 0, 0, 0, 0, [], [2, 7, 8])),
  (10, (.iload 5, 2, 5, 0, 0, 0, 0, [], [])),
  (12, (.if_icmp .eq 88, 3, 100, 0, 0, 0, 0, [], [])),
  (15, (.iload 5, 2, 5, 0, 0, 0, 0, [], [])),
  (17, (.istore 6, 2, 6, 0, 0, 0, 0, [], [])),
  (19, (.iconst 0, 1, 0, 0, 0, 0, 0, [], [])),
  (20, (.istore 7, 2, 7, 0, 0, 0, 0, [], [])),
  (22, (.iload 7, 2, 7, 0, 0, 0, 0, [], [2, 8])),
  (24, (.bipush 24, 2, 0, 0, 0, 24, 0, [], [])),
  (26, (.if_icmp .ge 71, 3, 97, 0, 0, 0, 0, [], [])),
  (29, (.iconst 0, 1, 0, 0, 0, 0, 0, [], [])),
  (30, (.istore 8, 2, 8, 0, 0, 0, 0, [], [])),
  (32, (.iload 8, 2, 8, 0, 0, 0, 0, [], [2])),
  (34, (.bipush 24, 2, 0, 0, 0, 24, 0, [], [])),
  (36, (.if_icmp .ge 55, 3, 91, 0, 0, 0, 0, [], [])),
  (39, (.iload 5, 2, 5, 0, 0, 0, 0, [], [])),
  (41, (.iload 7, 2, 7, 0, 0, 0, 0, [], [])),
  (43, (.invokestatic 91, 3, 94, 2, 0, 0, 0, [], [])),
  (46, (.ifCond .eq 45, 3, 91, 0, 0, 0, 0, [], [])),
  (49, (.iload 5, 2, 5, 0, 0, 0, 0, [], [])),
  (51, (.iload_n 3, 1, 3, 0, 0, 0, 0, [], [])),
  (52, (.iload 8, 2, 8, 0, 0, 0, 0, [], [])),
  (54, (.invokestatic 91, 3, 94, 2, 0, 0, 0, [], [])),
  (57, (.ifCond .eq 24, 3, 81, 0, 0, 0, 0, [], [])),
  (60, (.aload_n 0, 1, 0, 0, 0, 0, 0, [], [])),
  (61, (.iload_n 1, 1, 1, 0, 0, 0, 0, [], [])),
  (62, (.iload 7, 2, 7, 0, 0, 0, 0, [], [])),
  (64, (.iload 8, 2, 8, 0, 0, 0, 0, [], [])),
  (66, (.iload 4, 2, 4, 0, 0, 0, 0, [], [])),
  (68, (.invokevirtual 135, 3, 118, 5, 8, 0, 0, [], [])),
  (71, (.ifCond .eq 10, 3, 81, 0, 0, 0, 0, [], [])),
  (74, (.iconst 1, 1, 0, 0, 0, 1, 0, [], [])),
  (75, (.iload 8, 2, 8, 0, 0, 0, 0, [], [])),
  (77, (.ishl, 1, 0, 0, 0, 0, 0, [], [])),
  (78, (.goto 4, 3, 82, 0, 0, 0, 0, [], [])),
  (81, (.iconst 0, 1, 0, 0, 0, 0, 0, [], [2, 5])),
  (82, (.ior, 1, 0, 0, 0, 0, 0, [], [2, 5])),
  (83, (.istore 5, 2, 5, 0, 0, 0, 0, [], [])),
  (85, (.iinc 8 1, 3, 8, 0, 0, 1, 0, [], [])),
  (88, (.goto (-56), 3, 32, 0, 0, 0, 0, [], [])),
  (91, (.iinc 7 1, 3, 7, 0, 0, 1, 0, [], [2, 8])),
  (94, (.goto (-72), 3, 22, 0, 0, 0, 0, [], [])),
  (97, (.goto (-89), 3, 8, 0, 0, 0, 0, [], [2, 7, 8])),
  (100, (.iload 5, 2, 5, 0, 0, 0, 0, [], [0, 1, 2, 3, 4, 6, 7, 8])),
  (102, (.ireturn, 1, 0, 0, 0, 0, 0, [], []))
  ]
def tbX8_clumpsOf : List (Nat × jm_I) := [
  (0, (.iconst 0, 1, 0, 0, 0, 0, 0, [], [])),
  (1, (.istore 4, 2, 4, 0, 0, 0, 0, [], [])),
  (3, (.iload_n 2, 1, 2, 0, 0, 0, 0, [], [])),
  (4, (.istore 5, 2, 5, 0, 0, 0, 0, [], [])),
  (6, (.iconst 0, 1, 0, 0, 0, 0, 0, [], [])),
  (7, (.istore 6, 2, 6, 0, 0, 0, 0, [], [])),
  (9, (.iload 6, 2, 6, 0, 0, 0, 0, [], [])),
  (11, (.bipush 24, 2, 0, 0, 0, 24, 0, [], [])),
  (13, (.if_icmp .ge 38, 3, 51, 0, 0, 0, 0, [], [])),
  (16, (.iload 5, 2, 5, 0, 0, 0, 0, [], [])),
  (18, (.iload 6, 2, 6, 0, 0, 0, 0, [], [])),
  (20, (.invokestatic 91, 3, 94, 2, 0, 0, 0, [], [])),
  (23, (.ifCond .eq 22, 3, 45, 0, 0, 0, 0, [], [])),
  (26, (.iload 5, 2, 5, 0, 0, 0, 0, [], [])),
  (28, (.aload_n 0, 1, 0, 0, 0, 0, 0, [], [])),
  (29, (.iload_n 1, 1, 1, 0, 0, 0, 0, [], [])),
  (30, (.iload 6, 2, 6, 0, 0, 0, 0, [], [])),
  (32, (.iload_n 2, 1, 2, 0, 0, 0, 0, [], [])),
  (33, (.iload_n 3, 1, 3, 0, 0, 0, 0, [], [])),
  (34, (.invokevirtual 139, 3, 120, 5, 8, 0, 0, [], [])),
  (37, (.iconst (-1), 1, 0, 0, 0, (-1), 0, [], [])),
  (38, (.ixor, 1, 0, 0, 0, 0, 0, [], [])),
  (39, (.iand, 1, 0, 0, 0, 0, 0, [], [])),
  (40, (.istore 5, 2, 5, 0, 0, 0, 0, [], [])),
  (42, (.iinc 4 1, 3, 4, 0, 0, 1, 0, [], [])),
  (45, (.iinc 6 1, 3, 6, 0, 0, 1, 0, [], [])),
  (48, (.goto (-39), 3, 9, 0, 0, 0, 0, [], [])),
  (51, (.iload 4, 2, 4, 0, 0, 0, 0, [], [0, 1, 2, 3, 5, 6])),
  (53, (.ireturn, 1, 0, 0, 0, 0, 0, [], []))
  ]
def tbX8_lowest : List (Nat × jm_I) := [
  (0, (.iconst 0, 1, 0, 0, 0, 0, 0, [], [])),
  (1, (.istore_n 1, 1, 1, 0, 0, 0, 0, [], [])),
  (2, (.iload_n 0, 1, 0, 0, 0, 0, 0, [], [])),
  (3, (.iload_n 1, 1, 1, 0, 0, 0, 0, [], [])),
  (4, (.invokestatic 91, 3, 94, 2, 0, 0, 0, [], [])),
  (7, (.ifCond .ne 9, 3, 16, 0, 0, 0, 0, [], [])),
  (10, (.iinc 1 1, 3, 1, 0, 0, 1, 0, [], [])),
  (13, (.goto (-11), 3, 2, 0, 0, 0, 0, [], [])),
  (16, (.iload_n 1, 1, 1, 0, 0, 0, 0, [], [0])),
  (17, (.ireturn, 1, 0, 0, 0, 0, 0, [], []))
  ]
def tbX8_isAhead : List (Nat × jm_I) := [
  (0, (.aload_n 0, 1, 0, 0, 0, 0, 0, [], [])),
  (1, (.iload_n 1, 1, 1, 0, 0, 0, 0, [], [])),
  (2, (.invokevirtual 143, 3, 119, 2, 8, 0, 0, [], [])),
  (5, (.aload_n 0, 1, 0, 0, 0, 0, 0, [], [])),
  (6, (.iload_n 2, 1, 2, 0, 0, 0, 0, [], [])),
  (7, (.invokevirtual 143, 3, 119, 2, 8, 0, 0, [], [])),
  (10, (.if_icmp .gt 27, 3, 37, 0, 0, 0, 0, [], [])),
  (13, (.aload_n 0, 1, 0, 0, 0, 0, 0, [], [])),
  (14, (.iload_n 1, 1, 1, 0, 0, 0, 0, [], [])),
  (15, (.invokevirtual 143, 3, 119, 2, 8, 0, 0, [], [])),
  (18, (.aload_n 0, 1, 0, 0, 0, 0, 0, [], [])),
  (19, (.iload_n 2, 1, 2, 0, 0, 0, 0, [], [])),
  (20, (.invokevirtual 143, 3, 119, 2, 8, 0, 0, [], [])),
  (23, (.if_icmp .ne 18, 3, 41, 0, 0, 0, 0, [], [])),
  (26, (.iload_n 1, 1, 1, 0, 0, 0, 0, [], [])),
  (27, (.invokestatic 146, 3, 122, 1, 0, 0, 0, [], [])),
  (30, (.iload_n 2, 1, 2, 0, 0, 0, 0, [], [])),
  (31, (.invokestatic 146, 3, 122, 1, 0, 0, 0, [], [])),
  (34, (.if_icmp .ge 7, 3, 41, 0, 0, 0, 0, [], [])),
  (37, (.iconst 1, 1, 0, 0, 0, 1, 0, [], [0, 1, 2])),
  (38, (.goto 4, 3, 42, 0, 0, 0, 0, [], [])),
  (41, (.iconst 0, 1, 0, 0, 0, 0, 0, [], [0, 1, 2])),
  (42, (.ireturn, 1, 0, 0, 0, 0, 0, [], [0, 1, 2]))
  ]
def tbX8_layHalos : List (Nat × jm_I) := [
  (0, (.aload_n 0, 1, 0, 0, 0, 0, 0, [], [])),
  (1, (.iload_n 1, 1, 1, 0, 0, 0, 0, [], [])),
  (2, (.invokevirtual 88, 3, 102, 2, 8, 0, 0, [], [])),
  (5, (.istore_n 2, 1, 2, 0, 0, 0, 0, [], [])),
  (6, (.aload_n 0, 1, 0, 0, 0, 0, 0, [], [])),
  (7, (.getfield 20, 3, 8, 5, 0, 0, 0, [], [])),
  (10, (.iload_n 1, 1, 1, 0, 0, 0, 0, [], [])),
  (11, (.iconst 0, 1, 0, 0, 0, 0, 0, [], [])),
  (12, (.iastore, 1, 0, 0, 0, 0, 0, [], [])),
  (13, (.iconst 0, 1, 0, 0, 0, 0, 0, [], [])),
  (14, (.istore_n 3, 1, 3, 0, 0, 0, 0, [], [])),
  (15, (.iload_n 3, 1, 3, 0, 0, 0, 0, [], [4, 5])),
  (16, (.bipush 24, 2, 0, 0, 0, 24, 0, [], [])),
  (18, (.if_icmp .ge 150, 3, 168, 0, 0, 0, 0, [], [])),
  (21, (.iload_n 2, 1, 2, 0, 0, 0, 0, [], [])),
  (22, (.iload_n 3, 1, 3, 0, 0, 0, 0, [], [])),
  (23, (.invokestatic 91, 3, 94, 2, 0, 0, 0, [], [])),
  (26, (.ifCond .eq 136, 3, 162, 0, 0, 0, 0, [], [])),
  (29, (.aload_n 0, 1, 0, 0, 0, 0, 0, [], [])),
  (30, (.iload_n 1, 1, 1, 0, 0, 0, 0, [], [])),
  (31, (.iload_n 3, 1, 3, 0, 0, 0, 0, [], [])),
  (32, (.aload_n 0, 1, 0, 0, 0, 0, 0, [], [])),
  (33, (.iload_n 1, 1, 1, 0, 0, 0, 0, [], [])),
  (34, (.invokevirtual 88, 3, 102, 2, 8, 0, 0, [], [])),
  (37, (.aload_n 0, 1, 0, 0, 0, 0, 0, [], [])),
  (38, (.getfield 7, 3, 8, 0, 0, 0, 0, [], [])),
  (41, (.iconst 0, 1, 0, 0, 0, 0, 0, [], [])),
  (42, (.iaload, 1, 0, 0, 0, 0, 0, [], [])),
  (43, (.invokevirtual 139, 3, 120, 5, 8, 0, 0, [], [])),
  (46, (.istore 4, 2, 4, 0, 0, 0, 0, [], [])),
  (48, (.iload_n 2, 1, 2, 0, 0, 0, 0, [], [])),
  (49, (.iload 4, 2, 4, 0, 0, 0, 0, [], [])),
  (51, (.iconst (-1), 1, 0, 0, 0, (-1), 0, [], [])),
  (52, (.ixor, 1, 0, 0, 0, 0, 0, [], [])),
  (53, (.iand, 1, 0, 0, 0, 0, 0, [], [])),
  (54, (.istore_n 2, 1, 2, 0, 0, 0, 0, [], [])),
  (55, (.aload_n 0, 1, 0, 0, 0, 0, 0, [], [])),
  (56, (.iload 4, 2, 4, 0, 0, 0, 0, [], [])),
  (58, (.invokevirtual 143, 3, 119, 2, 8, 0, 0, [], [])),
  (61, (.aload_n 0, 1, 0, 0, 0, 0, 0, [], [])),
  (62, (.getfield 7, 3, 8, 0, 0, 0, 0, [], [])),
  (65, (.iconst 1, 1, 0, 0, 0, 1, 0, [], [])),
  (66, (.iaload, 1, 0, 0, 0, 0, 0, [], [])),
  (67, (.if_icmp .lt 95, 3, 162, 0, 0, 0, 0, [], [])),
  (70, (.aload_n 0, 1, 0, 0, 0, 0, 0, [], [])),
  (71, (.getfield 20, 3, 8, 5, 0, 0, 0, [], [])),
  (74, (.iload_n 1, 1, 1, 0, 0, 0, 0, [], [])),
  (75, (.iaload, 1, 0, 0, 0, 0, 0, [], [])),
  (76, (.istore 5, 2, 5, 0, 0, 0, 0, [], [])),
  (78, (.iload 5, 2, 5, 0, 0, 0, 0, [], [])),
  (80, (.ifCond .le 58, 3, 138, 0, 0, 0, 0, [], [])),
  (83, (.aload_n 0, 1, 0, 0, 0, 0, 0, [], [])),
  (84, (.iload 4, 2, 4, 0, 0, 0, 0, [], [])),
  (86, (.aload_n 0, 1, 0, 0, 0, 0, 0, [], [])),
  (87, (.getfield 17, 3, 8, 4, 0, 0, 0, [], [])),
  (90, (.bipush 24, 2, 0, 0, 0, 24, 0, [], [])),
  (92, (.iload_n 1, 1, 1, 0, 0, 0, 0, [], [])),
  (93, (.imul, 1, 0, 0, 0, 0, 0, [], [])),
  (94, (.iload 5, 2, 5, 0, 0, 0, 0, [], [])),
  (96, (.iadd, 1, 0, 0, 0, 0, 0, [], [])),
  (97, (.iconst 1, 1, 0, 0, 0, 1, 0, [], [])),
  (98, (.isub, 1, 0, 0, 0, 0, 0, [], [])),
  (99, (.iaload, 1, 0, 0, 0, 0, 0, [], [])),
  (100, (.invokevirtual 149, 3, 123, 3, 8, 0, 0, [], [])),
  (103, (.ifCond .eq 35, 3, 138, 0, 0, 0, 0, [], [])),
  (106, (.aload_n 0, 1, 0, 0, 0, 0, 0, [], [])),
  (107, (.getfield 17, 3, 8, 4, 0, 0, 0, [], [])),
  (110, (.bipush 24, 2, 0, 0, 0, 24, 0, [], [])),
  (112, (.iload_n 1, 1, 1, 0, 0, 0, 0, [], [])),
  (113, (.imul, 1, 0, 0, 0, 0, 0, [], [])),
  (114, (.iload 5, 2, 5, 0, 0, 0, 0, [], [])),
  (116, (.iadd, 1, 0, 0, 0, 0, 0, [], [])),
  (117, (.aload_n 0, 1, 0, 0, 0, 0, 0, [], [])),
  (118, (.getfield 17, 3, 8, 4, 0, 0, 0, [], [])),
  (121, (.bipush 24, 2, 0, 0, 0, 24, 0, [], [])),
  (123, (.iload_n 1, 1, 1, 0, 0, 0, 0, [], [])),
  (124, (.imul, 1, 0, 0, 0, 0, 0, [], [])),
  (125, (.iload 5, 2, 5, 0, 0, 0, 0, [], [])),
  (127, (.iadd, 1, 0, 0, 0, 0, 0, [], [])),
  (128, (.iconst 1, 1, 0, 0, 0, 1, 0, [], [])),
  (129, (.isub, 1, 0, 0, 0, 0, 0, [], [])),
  (130, (.iaload, 1, 0, 0, 0, 0, 0, [], [])),
  (131, (.iastore, 1, 0, 0, 0, 0, 0, [], [])),
  (132, (.iinc 5 (-1), 3, 5, 0, 0, (-1), 0, [], [])),
  (135, (.goto (-57), 3, 78, 0, 0, 0, 0, [], [])),
  (138, (.aload_n 0, 1, 0, 0, 0, 0, 0, [], [])),
  (139, (.getfield 17, 3, 8, 4, 0, 0, 0, [], [])),
  (142, (.bipush 24, 2, 0, 0, 0, 24, 0, [], [])),
  (144, (.iload_n 1, 1, 1, 0, 0, 0, 0, [], [])),
  (145, (.imul, 1, 0, 0, 0, 0, 0, [], [])),
  (146, (.iload 5, 2, 5, 0, 0, 0, 0, [], [])),
  (148, (.iadd, 1, 0, 0, 0, 0, 0, [], [])),
  (149, (.iload 4, 2, 4, 0, 0, 0, 0, [], [])),
  (151, (.iastore, 1, 0, 0, 0, 0, 0, [], [])),
  (152, (.aload_n 0, 1, 0, 0, 0, 0, 0, [], [])),
  (153, (.getfield 20, 3, 8, 5, 0, 0, 0, [], [])),
  (156, (.iload_n 1, 1, 1, 0, 0, 0, 0, [], [])),
  (157, (.dup2, 1, 0, 0, 0, 0, 0, [], [])),
  (158, (.iaload, 1, 0, 0, 0, 0, 0, [], [])),
  (159, (.iconst 1, 1, 0, 0, 0, 1, 0, [], [])),
  (160, (.iadd, 1, 0, 0, 0, 0, 0, [], [])),
  (161, (.iastore, 1, 0, 0, 0, 0, 0, [], [])),
  (162, (.iinc 3 1, 3, 3, 0, 0, 1, 0, [], [4, 5])),
  (165, (.goto (-150), 3, 15, 0, 0, 0, 0, [], [])),
  (168, (.return_, 1, 0, 0, 0, 0, 0, [], [0, 1, 2, 3, 4, 5]))
  ]
def tbX8_layAll : List (Nat × jm_I) := [
  (0, (.iconst 0, 1, 0, 0, 0, 0, 0, [], [])),
  (1, (.istore_n 1, 1, 1, 0, 0, 0, 0, [], [])),
  (2, (.iload_n 1, 1, 1, 0, 0, 0, 0, [], [])),
  (3, (.aload_n 0, 1, 0, 0, 0, 0, 0, [], [])),
  (4, (.getfield 7, 3, 8, 0, 0, 0, 0, [], [])),
  (7, (.iconst 2, 1, 0, 0, 0, 2, 0, [], [])),
  (8, (.iaload, 1, 0, 0, 0, 0, 0, [], [])),
  (9, (.if_icmp .ge 14, 3, 23, 0, 0, 0, 0, [], [])),
  (12, (.aload_n 0, 1, 0, 0, 0, 0, 0, [], [])),
  (13, (.iload_n 1, 1, 1, 0, 0, 0, 0, [], [])),
  (14, (.invokevirtual 152, 3, 124, 2, 8, 0, 0, [], [])),
  (17, (.iinc 1 1, 3, 1, 0, 0, 1, 0, [], [])),
  (20, (.goto (-18), 3, 2, 0, 0, 0, 0, [], [])),
  (23, (.return_, 1, 0, 0, 0, 0, 0, [], [0, 1]))
  ]
def tbX8_isHalo : List (Nat × jm_I) := [
  (0, (.aload_n 0, 1, 0, 0, 0, 0, 0, [], [])),
  (1, (.iload_n 1, 1, 1, 0, 0, 0, 0, [], [])),
  (2, (.invokevirtual 76, 3, 96, 2, 8, 0, 0, [], [])),
  (5, (.ifCond .ne 5, 3, 10, 0, 0, 0, 0, [], [])),
  (8, (.iconst 0, 1, 0, 0, 0, 0, 0, [], [])),
  (9, (.ireturn, 1, 0, 0, 0, 0, 0, [], [])),
  (10, (.aload_n 0, 1, 0, 0, 0, 0, 0, [], [])),
  (11, (.invokevirtual 156, 3, 125, 1, 8, 0, 0, [], [])),
  (14, (.iload_n 2, 1, 2, 0, 0, 0, 0, [], [])),
  (15, (.i2l, 1, 0, 0, 0, 0, 0, [], [])),
  (16, (.lconst 0, 1, 0, 0, 0, 0, 0, [], [])),
  (17, (.aload_n 0, 1, 0, 0, 0, 0, 0, [], [])),
  (18, (.getfield 20, 3, 8, 5, 0, 0, 0, [], [])),
  (21, (.iload_n 1, 1, 1, 0, 0, 0, 0, [], [])),
  (22, (.iaload, 1, 0, 0, 0, 0, 0, [], [])),
  (23, (.iconst 1, 1, 0, 0, 0, 1, 0, [], [])),
  (24, (.isub, 1, 0, 0, 0, 0, 0, [], [])),
  (25, (.i2l, 1, 0, 0, 0, 0, 0, [], [])),
  (26, (.invokestatic 47, 3, 93, 3, 0, 0, 0, [], [])),
  (29, (.ireturn, 1, 0, 0, 0, 0, 0, [], []))
  ]
def tbX8_haloSet : List (Nat × jm_I) := [
  (0, (.aload_n 0, 1, 0, 0, 0, 0, 0, [], [])),
  (1, (.getfield 17, 3, 8, 4, 0, 0, 0, [], [])),
  (4, (.bipush 24, 2, 0, 0, 0, 24, 0, [], [])),
  (6, (.iload_n 1, 1, 1, 0, 0, 0, 0, [], [])),
  (7, (.imul, 1, 0, 0, 0, 0, 0, [], [])),
  (8, (.iload_n 2, 1, 2, 0, 0, 0, 0, [], [])),
  (9, (.iadd, 1, 0, 0, 0, 0, 0, [], [])),
  (10, (.iaload, 1, 0, 0, 0, 0, 0, [], [])),
  (11, (.ireturn, 1, 0, 0, 0, 0, 0, [], []))
  ]
def tbX8_goesOn : List (Nat × jm_I) := [
  (0, (.iload_n 1, 1, 1, 0, 0, 0, 0, [], [])),
  (1, (.iconst 1, 1, 0, 0, 0, 1, 0, [], [])),
  (2, (.iadd, 1, 0, 0, 0, 0, 0, [], [])),
  (3, (.aload_n 0, 1, 0, 0, 0, 0, 0, [], [])),
  (4, (.getfield 7, 3, 8, 0, 0, 0, 0, [], [])),
  (7, (.iconst 2, 1, 0, 0, 0, 2, 0, [], [])),
  (8, (.iaload, 1, 0, 0, 0, 0, 0, [], [])),
  (9, (.if_icmp .lt 5, 3, 14, 0, 0, 0, 0, [], [])),
  (12, (.iconst (-1), 1, 0, 0, 0, (-1), 0, [], [])),
  (13, (.ireturn, 1, 0, 0, 0, 0, 0, [], [])),
  (14, (.iconst (-1), 1, 0, 0, 0, (-1), 0, [], [3, 4, 5, 6])),
  (15, (.istore_n 3, 1, 3, 0, 0, 0, 0, [], [])),
  (16, (.iconst 0, 1, 0, 0, 0, 0, 0, [], [])),
  (17, (.istore 4, 2, 4, 0, 0, 0, 0, [], [])),
  (19, (.iconst 0, 1, 0, 0, 0, 0, 0, [], [])),
  (20, (.istore 5, 2, 5, 0, 0, 0, 0, [], [])),
  (22, (.iload 5, 2, 5, 0, 0, 0, 0, [], [6])),
  (24, (.aload_n 0, 1, 0, 0, 0, 0, 0, [], [])),
  (25, (.getfield 20, 3, 8, 5, 0, 0, 0, [], [])),
  (28, (.iload_n 1, 1, 1, 0, 0, 0, 0, [], [])),
  (29, (.iconst 1, 1, 0, 0, 0, 1, 0, [], [])),
  (30, (.iadd, 1, 0, 0, 0, 0, 0, [], [])),
  (31, (.iaload, 1, 0, 0, 0, 0, 0, [], [])),
  (32, (.if_icmp .ge 61, 3, 93, 0, 0, 0, 0, [], [])),
  (35, (.aload_n 0, 1, 0, 0, 0, 0, 0, [], [])),
  (36, (.aload_n 0, 1, 0, 0, 0, 0, 0, [], [])),
  (37, (.iload_n 1, 1, 1, 0, 0, 0, 0, [], [])),
  (38, (.iload_n 2, 1, 2, 0, 0, 0, 0, [], [])),
  (39, (.invokevirtual 159, 3, 127, 3, 8, 0, 0, [], [])),
  (42, (.aload_n 0, 1, 0, 0, 0, 0, 0, [], [])),
  (43, (.iload_n 1, 1, 1, 0, 0, 0, 0, [], [])),
  (44, (.iconst 1, 1, 0, 0, 0, 1, 0, [], [])),
  (45, (.iadd, 1, 0, 0, 0, 0, 0, [], [])),
  (46, (.iload 5, 2, 5, 0, 0, 0, 0, [], [])),
  (48, (.invokevirtual 159, 3, 127, 3, 8, 0, 0, [], [])),
  (51, (.iand, 1, 0, 0, 0, 0, 0, [], [])),
  (52, (.invokevirtual 143, 3, 119, 2, 8, 0, 0, [], [])),
  (55, (.istore 6, 2, 6, 0, 0, 0, 0, [], [])),
  (57, (.iload 6, 2, 6, 0, 0, 0, 0, [], [])),
  (59, (.iload 4, 2, 4, 0, 0, 0, 0, [], [])),
  (61, (.if_icmp .le 8, 3, 69, 0, 0, 0, 0, [], [])),
  (64, (.iload 5, 2, 5, 0, 0, 0, 0, [], [])),
  (66, (.goto 4, 3, 70, 0, 0, 0, 0, [], [])),
  (69, (.iload_n 3, 1, 3, 0, 0, 0, 0, [], [])),
  (70, (.istore_n 3, 1, 3, 0, 0, 0, 0, [], [3])),
  (71, (.iload 6, 2, 6, 0, 0, 0, 0, [], [])),
  (73, (.iload 4, 2, 4, 0, 0, 0, 0, [], [])),
  (75, (.if_icmp .le 8, 3, 83, 0, 0, 0, 0, [], [])),
  (78, (.iload 6, 2, 6, 0, 0, 0, 0, [], [])),
  (80, (.goto 5, 3, 85, 0, 0, 0, 0, [], [])),
  (83, (.iload 4, 2, 4, 0, 0, 0, 0, [], [6])),
  (85, (.istore 4, 2, 4, 0, 0, 0, 0, [], [4, 6])),
  (87, (.iinc 5 1, 3, 5, 0, 0, 1, 0, [], [])),
  (90, (.goto (-68), 3, 22, 0, 0, 0, 0, [], [])),
  (93, (.iload_n 3, 1, 3, 0, 0, 0, 0, [], [0, 1, 2, 4, 5, 6])),
  (94, (.ireturn, 1, 0, 0, 0, 0, 0, [], []))
  ]
def tbX8_comesFrom : List (Nat × jm_I) := [
  (0, (.iconst 0, 1, 0, 0, 0, 0, 0, [], [])),
  (1, (.istore_n 3, 1, 3, 0, 0, 0, 0, [], [])),
  (2, (.iconst 0, 1, 0, 0, 0, 0, 0, [], [])),
  (3, (.istore 4, 2, 4, 0, 0, 0, 0, [], [])),
  (5, (.iload_n 1, 1, 1, 0, 0, 0, 0, [], [])),
  (6, (.ifCond .le 46, 3, 52, 0, 0, 0, 0, [], [])),
  (9, (.iload 4, 2, 4, 0, 0, 0, 0, [], [])),
  (11, (.aload_n 0, 1, 0, 0, 0, 0, 0, [], [])),
  (12, (.getfield 20, 3, 8, 5, 0, 0, 0, [], [])),
  (15, (.iload_n 1, 1, 1, 0, 0, 0, 0, [], [])),
  (16, (.iconst 1, 1, 0, 0, 0, 1, 0, [], [])),
  (17, (.isub, 1, 0, 0, 0, 0, 0, [], [])),
  (18, (.iaload, 1, 0, 0, 0, 0, 0, [], [])),
  (19, (.if_icmp .ge 33, 3, 52, 0, 0, 0, 0, [], [])),
  (22, (.iload_n 3, 1, 3, 0, 0, 0, 0, [], [])),
  (23, (.aload_n 0, 1, 0, 0, 0, 0, 0, [], [])),
  (24, (.iload_n 1, 1, 1, 0, 0, 0, 0, [], [])),
  (25, (.iconst 1, 1, 0, 0, 0, 1, 0, [], [])),
  (26, (.isub, 1, 0, 0, 0, 0, 0, [], [])),
  (27, (.iload 4, 2, 4, 0, 0, 0, 0, [], [])),
  (29, (.invokevirtual 162, 3, 128, 3, 8, 0, 0, [], [])),
  (32, (.iload_n 2, 1, 2, 0, 0, 0, 0, [], [])),
  (33, (.if_icmp .ne 10, 3, 43, 0, 0, 0, 0, [], [])),
  (36, (.iconst 1, 1, 0, 0, 0, 1, 0, [], [])),
  (37, (.iload 4, 2, 4, 0, 0, 0, 0, [], [])),
  (39, (.ishl, 1, 0, 0, 0, 0, 0, [], [])),
  (40, (.goto 4, 3, 44, 0, 0, 0, 0, [], [])),
  (43, (.iconst 0, 1, 0, 0, 0, 0, 0, [], [3])),
  (44, (.ior, 1, 0, 0, 0, 0, 0, [], [3])),
  (45, (.istore_n 3, 1, 3, 0, 0, 0, 0, [], [])),
  (46, (.iinc 4 1, 3, 4, 0, 0, 1, 0, [], [])),
  (49, (.goto (-44), 3, 5, 0, 0, 0, 0, [], [])),
  (52, (.iload_n 3, 1, 3, 0, 0, 0, 0, [], [0, 1, 2, 4])),
  (53, (.ireturn, 1, 0, 0, 0, 0, 0, [], []))
  ]
def tbX8_mainOf : List (Nat × jm_I) := [
  (0, (.aload_n 0, 1, 0, 0, 0, 0, 0, [], [])),
  (1, (.iload_n 1, 1, 1, 0, 0, 0, 0, [], [])),
  (2, (.iload_n 2, 1, 2, 0, 0, 0, 0, [], [])),
  (3, (.invokevirtual 165, 3, 129, 3, 8, 0, 0, [], [])),
  (6, (.istore_n 3, 1, 3, 0, 0, 0, 0, [], [])),
  (7, (.iload_n 3, 1, 3, 0, 0, 0, 0, [], [])),
  (8, (.ifCond .ne 7, 3, 15, 0, 0, 0, 0, [], [])),
  (11, (.iconst (-1), 1, 0, 0, 0, (-1), 0, [], [])),
  (12, (.goto 7, 3, 19, 0, 0, 0, 0, [], [])),
  (15, (.iload_n 3, 1, 3, 0, 0, 0, 0, [], [0, 1, 2])),
  (16, (.invokestatic 146, 3, 122, 1, 0, 0, 0, [], [])),
  (19, (.ireturn, 1, 0, 0, 0, 0, 0, [], [0, 1, 2, 3]))
  ]
def tbX8_branchLong : List (Nat × jm_I) := [
  (0, (.iconst 0, 1, 0, 0, 0, 0, 0, [], [])),
  (1, (.istore_n 3, 1, 3, 0, 0, 0, 0, [], [])),
  (2, (.iload_n 1, 1, 1, 0, 0, 0, 0, [], [])),
  (3, (.istore 4, 2, 4, 0, 0, 0, 0, [], [])),
  (5, (.iload_n 2, 1, 2, 0, 0, 0, 0, [], [])),
  (6, (.istore 5, 2, 5, 0, 0, 0, 0, [], [])),
  (8, (.iload 5, 2, 5, 0, 0, 0, 0, [], [1, 2])),
  (10, (.iconst (-1), 1, 0, 0, 0, (-1), 0, [], [])),
  (11, (.if_icmp .eq 22, 3, 33, 0, 0, 0, 0, [], [])),
  (14, (.aload_n 0, 1, 0, 0, 0, 0, 0, [], [])),
  (15, (.iload 4, 2, 4, 0, 0, 0, 0, [], [])),
  (17, (.iload 5, 2, 5, 0, 0, 0, 0, [], [])),
  (19, (.invokevirtual 168, 3, 130, 3, 8, 0, 0, [], [])),
  (22, (.istore 5, 2, 5, 0, 0, 0, 0, [], [])),
  (24, (.iinc 4 (-1), 3, 4, 0, 0, (-1), 0, [], [])),
  (27, (.iinc 3 1, 3, 3, 0, 0, 1, 0, [], [])),
  (30, (.goto (-22), 3, 8, 0, 0, 0, 0, [], [])),
  (33, (.iload_n 3, 1, 3, 0, 0, 0, 0, [], [0, 1, 2, 4, 5])),
  (34, (.ireturn, 1, 0, 0, 0, 0, 0, [], []))
  ]
def tbX8_strayed : List (Nat × jm_I) := [
  (0, (.iload_n 1, 1, 1, 0, 0, 0, 0, [], [])),
  (1, (.iconst 1, 1, 0, 0, 0, 1, 0, [], [])),
  (2, (.iadd, 1, 0, 0, 0, 0, 0, [], [])),
  (3, (.aload_n 0, 1, 0, 0, 0, 0, 0, [], [])),
  (4, (.getfield 7, 3, 8, 0, 0, 0, 0, [], [])),
  (7, (.iconst 2, 1, 0, 0, 0, 2, 0, [], [])),
  (8, (.iaload, 1, 0, 0, 0, 0, 0, [], [])),
  (9, (.if_icmp .lt 5, 3, 14, 0, 0, 0, 0, [], [])),
  (12, (.iconst 0, 1, 0, 0, 0, 0, 0, [], [])),
  (13, (.ireturn, 1, 0, 0, 0, 0, 0, [], [])),
  (14, (.aload_n 0, 1, 0, 0, 0, 0, 0, [], [3, 4])),
  (15, (.iload_n 1, 1, 1, 0, 0, 0, 0, [], [])),
  (16, (.iload_n 2, 1, 2, 0, 0, 0, 0, [], [])),
  (17, (.invokevirtual 162, 3, 128, 3, 8, 0, 0, [], [])),
  (20, (.istore_n 3, 1, 3, 0, 0, 0, 0, [], [])),
  (21, (.aload_n 0, 1, 0, 0, 0, 0, 0, [], [])),
  (22, (.iload_n 1, 1, 1, 0, 0, 0, 0, [], [])),
  (23, (.iload_n 2, 1, 2, 0, 0, 0, 0, [], [])),
  (24, (.invokevirtual 159, 3, 127, 3, 8, 0, 0, [], [])),
  (27, (.aload_n 0, 1, 0, 0, 0, 0, 0, [], [])),
  (28, (.iload_n 1, 1, 1, 0, 0, 0, 0, [], [])),
  (29, (.iconst 1, 1, 0, 0, 0, 1, 0, [], [])),
  (30, (.iadd, 1, 0, 0, 0, 0, 0, [], [])),
  (31, (.invokevirtual 88, 3, 102, 2, 8, 0, 0, [], [])),
  (34, (.iand, 1, 0, 0, 0, 0, 0, [], [])),
  (35, (.istore 4, 2, 4, 0, 0, 0, 0, [], [])),
  (37, (.aload_n 0, 1, 0, 0, 0, 0, 0, [], [])),
  (38, (.iload_n 3, 1, 3, 0, 0, 0, 0, [], [])),
  (39, (.iconst (-1), 1, 0, 0, 0, (-1), 0, [], [])),
  (40, (.if_icmp .ne 8, 3, 48, 0, 0, 0, 0, [], [])),
  (43, (.iload 4, 2, 4, 0, 0, 0, 0, [], [])),
  (45, (.goto 16, 3, 61, 0, 0, 0, 0, [], [])),
  (48, (.iload 4, 2, 4, 0, 0, 0, 0, [], [2])),
  (50, (.aload_n 0, 1, 0, 0, 0, 0, 0, [], [])),
  (51, (.iload_n 1, 1, 1, 0, 0, 0, 0, [], [])),
  (52, (.iconst 1, 1, 0, 0, 0, 1, 0, [], [])),
  (53, (.iadd, 1, 0, 0, 0, 0, 0, [], [])),
  (54, (.iload_n 3, 1, 3, 0, 0, 0, 0, [], [])),
  (55, (.invokevirtual 159, 3, 127, 3, 8, 0, 0, [], [])),
  (58, (.iconst (-1), 1, 0, 0, 0, (-1), 0, [], [])),
  (59, (.ixor, 1, 0, 0, 0, 0, 0, [], [])),
  (60, (.iand, 1, 0, 0, 0, 0, 0, [], [])),
  (61, (.invokevirtual 143, 3, 119, 2, 8, 0, 0, [], [0, 1, 2, 3, 4])),
  (64, (.ireturn, 1, 0, 0, 0, 0, 0, [], []))
  ]
def tbX8_countHalos : List (Nat × jm_I) := [
  (0, (.iconst 0, 1, 0, 0, 0, 0, 0, [], [])),
  (1, (.istore_n 2, 1, 2, 0, 0, 0, 0, [], [])),
  (2, (.iconst 0, 1, 0, 0, 0, 0, 0, [], [])),
  (3, (.istore_n 3, 1, 3, 0, 0, 0, 0, [], [])),
  (4, (.aload_n 0, 1, 0, 0, 0, 0, 0, [], [])),
  (5, (.invokevirtual 156, 3, 125, 1, 8, 0, 0, [], [])),
  (8, (.iconst 0, 1, 0, 0, 0, 0, 0, [], [])),
  (9, (.istore 4, 2, 4, 0, 0, 0, 0, [], [])),
  (11, (.iload 4, 2, 4, 0, 0, 0, 0, [], [5, 6])),
  (13, (.aload_n 0, 1, 0, 0, 0, 0, 0, [], [])),
  (14, (.getfield 7, 3, 8, 0, 0, 0, 0, [], [])),
  (17, (.iconst 2, 1, 0, 0, 0, 2, 0, [], [])),
  (18, (.iaload, 1, 0, 0, 0, 0, 0, [], [])),
  (19, (.if_icmp .ge 127, 3, 146, 0, 0, 0, 0, [], [])),
  (22, (.iconst 0, 1, 0, 0, 0, 0, 0, [], [])),
  (23, (.istore 5, 2, 5, 0, 0, 0, 0, [], [])),
  (25, (.iload 5, 2, 5, 0, 0, 0, 0, [], [6])),
  (27, (.aload_n 0, 1, 0, 0, 0, 0, 0, [], [])),
  (28, (.getfield 20, 3, 8, 5, 0, 0, 0, [], [])),
  (31, (.iload 4, 2, 4, 0, 0, 0, 0, [], [])),
  (33, (.iaload, 1, 0, 0, 0, 0, 0, [], [])),
  (34, (.if_icmp .ge 106, 3, 140, 0, 0, 0, 0, [], [])),
  (37, (.iload_n 2, 1, 2, 0, 0, 0, 0, [], [])),
  (38, (.iload_n 1, 1, 1, 0, 0, 0, 0, [], [])),
  (39, (.iconst 3, 1, 0, 0, 0, 3, 0, [], [])),
  (40, (.if_icmp .eq 54, 3, 94, 0, 0, 0, 0, [], [])),
  (43, (.iload_n 1, 1, 1, 0, 0, 0, 0, [], [])),
  (44, (.iconst 4, 1, 0, 0, 0, 4, 0, [], [])),
  (45, (.if_icmp .ne 28, 3, 73, 0, 0, 0, 0, [], [])),
  (48, (.iload 4, 2, 4, 0, 0, 0, 0, [], [])),
  (50, (.iconst 1, 1, 0, 0, 0, 1, 0, [], [])),
  (51, (.iadd, 1, 0, 0, 0, 0, 0, [], [])),
  (52, (.aload_n 0, 1, 0, 0, 0, 0, 0, [], [])),
  (53, (.getfield 7, 3, 8, 0, 0, 0, 0, [], [])),
  (56, (.iconst 2, 1, 0, 0, 0, 2, 0, [], [])),
  (57, (.iaload, 1, 0, 0, 0, 0, 0, [], [])),
  (58, (.if_icmp .ge 15, 3, 73, 0, 0, 0, 0, [], [])),
  (61, (.aload_n 0, 1, 0, 0, 0, 0, 0, [], [])),
  (62, (.iload 4, 2, 4, 0, 0, 0, 0, [], [])),
  (64, (.iload 5, 2, 5, 0, 0, 0, 0, [], [])),
  (66, (.invokevirtual 162, 3, 128, 3, 8, 0, 0, [], [])),
  (69, (.iconst (-1), 1, 0, 0, 0, (-1), 0, [], [])),
  (70, (.if_icmp .eq 24, 3, 94, 0, 0, 0, 0, [], [])),
  (73, (.iload_n 1, 1, 1, 0, 0, 0, 0, [], [2, 6])),
  (74, (.iconst 5, 1, 0, 0, 0, 5, 0, [], [])),
  (75, (.if_icmp .ne 23, 3, 98, 0, 0, 0, 0, [], [])),
  (78, (.iload 4, 2, 4, 0, 0, 0, 0, [], [])),
  (80, (.ifCond .le 18, 3, 98, 0, 0, 0, 0, [], [])),
  (83, (.aload_n 0, 1, 0, 0, 0, 0, 0, [], [])),
  (84, (.iload 4, 2, 4, 0, 0, 0, 0, [], [])),
  (86, (.iload 5, 2, 5, 0, 0, 0, 0, [], [])),
  (88, (.invokevirtual 165, 3, 129, 3, 8, 0, 0, [], [])),
  (91, (.ifCond .ne 7, 3, 98, 0, 0, 0, 0, [], [])),
  (94, (.iconst 1, 1, 0, 0, 0, 1, 0, [], [2, 6])),
  (95, (.goto 4, 3, 99, 0, 0, 0, 0, [], [])),
  (98, (.iconst 0, 1, 0, 0, 0, 0, 0, [], [2, 6])),
  (99, (.iadd, 1, 0, 0, 0, 0, 0, [], [2, 6])),
  (100, (.istore_n 2, 1, 2, 0, 0, 0, 0, [], [])),
  (101, (.iload_n 1, 1, 1, 0, 0, 0, 0, [], [])),
  (102, (.bipush 6, 2, 0, 0, 0, 6, 0, [], [])),
  (104, (.if_icmp .ne 14, 3, 118, 0, 0, 0, 0, [], [])),
  (107, (.aload_n 0, 1, 0, 0, 0, 0, 0, [], [])),
  (108, (.iload 4, 2, 4, 0, 0, 0, 0, [], [])),
  (110, (.iload 5, 2, 5, 0, 0, 0, 0, [], [])),
  (112, (.invokevirtual 171, 3, 131, 3, 8, 0, 0, [], [])),
  (115, (.goto 4, 3, 119, 0, 0, 0, 0, [], [])),
  (118, (.iconst 0, 1, 0, 0, 0, 0, 0, [], [6])),
  (119, (.istore 6, 2, 6, 0, 0, 0, 0, [], [6])),
  (121, (.iload 6, 2, 6, 0, 0, 0, 0, [], [])),
  (123, (.iload_n 3, 1, 3, 0, 0, 0, 0, [], [])),
  (124, (.if_icmp .le 8, 3, 132, 0, 0, 0, 0, [], [])),
  (127, (.iload 6, 2, 6, 0, 0, 0, 0, [], [])),
  (129, (.goto 4, 3, 133, 0, 0, 0, 0, [], [])),
  (132, (.iload_n 3, 1, 3, 0, 0, 0, 0, [], [6])),
  (133, (.istore_n 3, 1, 3, 0, 0, 0, 0, [], [3, 6])),
  (134, (.iinc 5 1, 3, 5, 0, 0, 1, 0, [], [])),
  (137, (.goto (-112), 3, 25, 0, 0, 0, 0, [], [])),
  (140, (.iinc 4 1, 3, 4, 0, 0, 1, 0, [], [5, 6])),
  (143, (.goto (-132), 3, 11, 0, 0, 0, 0, [], [])),
  (146, (.iload_n 1, 1, 1, 0, 0, 0, 0, [], [0, 4, 5, 6])),
  (147, (.bipush 6, 2, 0, 0, 0, 6, 0, [], [])),
  (149, (.if_icmp .ne 7, 3, 156, 0, 0, 0, 0, [], [])),
  (152, (.iload_n 3, 1, 3, 0, 0, 0, 0, [], [])),
  (153, (.goto 4, 3, 157, 0, 0, 0, 0, [], [])),
  (156, (.iload_n 2, 1, 2, 0, 0, 0, 0, [], [0, 1, 3, 4, 5, 6])),
  (157, (.ireturn, 1, 0, 0, 0, 0, 0, [], [0, 1, 2, 3, 4, 5, 6]))
  ]
def tbX8_told : List (Nat × jm_I) := [
  (0, (.iload_n 1, 1, 1, 0, 0, 0, 0, [], [])),
  (1, (.tableswitch 79 0 7 #[47, 54, 61, 68, 68, 68, 68, 74], 47, 80, 0, 0, 0, 0, [(0, 48), (1, 55), (2, 62), (3, 69), (4, 69), (5, 69), (6, 69), (7, 75)], [])),
  (48, (.aload_n 0, 1, 0, 0, 0, 0, 0, [], [1])),
  (49, (.getfield 7, 3, 8, 0, 0, 0, 0, [], [])),
  (52, (.iconst 2, 1, 0, 0, 0, 2, 0, [], [])),
  (53, (.iaload, 1, 0, 0, 0, 0, 0, [], [])),
  (54, (.ireturn, 1, 0, 0, 0, 0, 0, [], [])),
  (55, (.aload_n 0, 1, 0, 0, 0, 0, 0, [], [1])),
  (56, (.getfield 7, 3, 8, 0, 0, 0, 0, [], [])),
  (59, (.iconst 0, 1, 0, 0, 0, 0, 0, [], [])),
  (60, (.iaload, 1, 0, 0, 0, 0, 0, [], [])),
  (61, (.ireturn, 1, 0, 0, 0, 0, 0, [], [])),
  (62, (.aload_n 0, 1, 0, 0, 0, 0, 0, [], [1])),
  (63, (.getfield 7, 3, 8, 0, 0, 0, 0, [], [])),
  (66, (.iconst 1, 1, 0, 0, 0, 1, 0, [], [])),
  (67, (.iaload, 1, 0, 0, 0, 0, 0, [], [])),
  (68, (.ireturn, 1, 0, 0, 0, 0, 0, [], [])),
  (69, (.aload_n 0, 1, 0, 0, 0, 0, 0, [], [])),
  (70, (.iload_n 1, 1, 1, 0, 0, 0, 0, [], [])),
  (71, (.invokevirtual 174, 3, 133, 2, 8, 0, 0, [], [])),
  (74, (.ireturn, 1, 0, 0, 0, 0, 0, [], [])),
  (75, (.aload_n 0, 1, 0, 0, 0, 0, 0, [], [1])),
  (76, (.getfield 55, 3, 8, 2, 0, 0, 0, [], [])),
  (79, (.ireturn, 1, 0, 0, 0, 0, 0, [], [])),
  (80, (.ldc 87, 2, 0, 0, 0, (-1000000002), 0, [], [0, 1])),
  (82, (.ireturn, 1, 0, 0, 0, 0, 0, [], []))
  ]
def tbX8_linksOf : List (Nat × jm_I) := [
  (0, (.iconst 0, 1, 0, 0, 0, 0, 0, [], [])),
  (1, (.istore_n 3, 1, 3, 0, 0, 0, 0, [], [])),
  (2, (.iconst 0, 1, 0, 0, 0, 0, 0, [], [])),
  (3, (.istore 4, 2, 4, 0, 0, 0, 0, [], [])),
  (5, (.iload 4, 2, 4, 0, 0, 0, 0, [], [])),
  (7, (.bipush 24, 2, 0, 0, 0, 24, 0, [], [])),
  (9, (.if_icmp .ge 50, 3, 59, 0, 0, 0, 0, [], [])),
  (12, (.iload_n 3, 1, 3, 0, 0, 0, 0, [], [])),
  (13, (.aload_n 0, 1, 0, 0, 0, 0, 0, [], [])),
  (14, (.iload_n 1, 1, 1, 0, 0, 0, 0, [], [])),
  (15, (.invokevirtual 88, 3, 102, 2, 8, 0, 0, [], [])),
  (18, (.iload 4, 2, 4, 0, 0, 0, 0, [], [])),
  (20, (.invokestatic 91, 3, 94, 2, 0, 0, 0, [], [])),
  (23, (.ifCond .eq 27, 3, 50, 0, 0, 0, 0, [], [])),
  (26, (.aload_n 0, 1, 0, 0, 0, 0, 0, [], [])),
  (27, (.iload_n 1, 1, 1, 0, 0, 0, 0, [], [])),
  (28, (.iload_n 2, 1, 2, 0, 0, 0, 0, [], [])),
  (29, (.iload 4, 2, 4, 0, 0, 0, 0, [], [])),
  (31, (.aload_n 0, 1, 0, 0, 0, 0, 0, [], [])),
  (32, (.getfield 7, 3, 8, 0, 0, 0, 0, [], [])),
  (35, (.iconst 0, 1, 0, 0, 0, 0, 0, [], [])),
  (36, (.iaload, 1, 0, 0, 0, 0, 0, [], [])),
  (37, (.invokevirtual 135, 3, 118, 5, 8, 0, 0, [], [])),
  (40, (.ifCond .eq 10, 3, 50, 0, 0, 0, 0, [], [])),
  (43, (.iconst 1, 1, 0, 0, 0, 1, 0, [], [])),
  (44, (.iload 4, 2, 4, 0, 0, 0, 0, [], [])),
  (46, (.ishl, 1, 0, 0, 0, 0, 0, [], [])),
  (47, (.goto 4, 3, 51, 0, 0, 0, 0, [], [])),
  (50, (.iconst 0, 1, 0, 0, 0, 0, 0, [], [3])),
  (51, (.ior, 1, 0, 0, 0, 0, 0, [], [3])),
  (52, (.istore_n 3, 1, 3, 0, 0, 0, 0, [], [])),
  (53, (.iinc 4 1, 3, 4, 0, 0, 1, 0, [], [])),
  (56, (.goto (-51), 3, 5, 0, 0, 0, 0, [], [])),
  (59, (.iload_n 3, 1, 3, 0, 0, 0, 0, [], [0, 1, 2, 4])),
  (60, (.ireturn, 1, 0, 0, 0, 0, 0, [], []))
  ]
def tbX8_links : List (Nat × jm_I) := [
  (0, (.iconst 0, 1, 0, 0, 0, 0, 0, [], [])),
  (1, (.istore_n 2, 1, 2, 0, 0, 0, 0, [], [])),
  (2, (.iconst 0, 1, 0, 0, 0, 0, 0, [], [])),
  (3, (.istore_n 3, 1, 3, 0, 0, 0, 0, [], [])),
  (4, (.iload_n 3, 1, 3, 0, 0, 0, 0, [], [])),
  (5, (.bipush 24, 2, 0, 0, 0, 24, 0, [], [])),
  (7, (.if_icmp .ge 37, 3, 44, 0, 0, 0, 0, [], [])),
  (10, (.iload_n 2, 1, 2, 0, 0, 0, 0, [], [])),
  (11, (.aload_n 0, 1, 0, 0, 0, 0, 0, [], [])),
  (12, (.iload_n 1, 1, 1, 0, 0, 0, 0, [], [])),
  (13, (.invokevirtual 88, 3, 102, 2, 8, 0, 0, [], [])),
  (16, (.iload_n 3, 1, 3, 0, 0, 0, 0, [], [])),
  (17, (.invokestatic 91, 3, 94, 2, 0, 0, 0, [], [])),
  (20, (.ifCond .eq 15, 3, 35, 0, 0, 0, 0, [], [])),
  (23, (.aload_n 0, 1, 0, 0, 0, 0, 0, [], [])),
  (24, (.iload_n 1, 1, 1, 0, 0, 0, 0, [], [])),
  (25, (.iload_n 3, 1, 3, 0, 0, 0, 0, [], [])),
  (26, (.invokevirtual 177, 3, 135, 3, 8, 0, 0, [], [])),
  (29, (.invokestatic 99, 3, 95, 1, 0, 0, 0, [], [])),
  (32, (.goto 4, 3, 36, 0, 0, 0, 0, [], [])),
  (35, (.iconst 0, 1, 0, 0, 0, 0, 0, [], [2])),
  (36, (.iadd, 1, 0, 0, 0, 0, 0, [], [2])),
  (37, (.istore_n 2, 1, 2, 0, 0, 0, 0, [], [])),
  (38, (.iinc 3 1, 3, 3, 0, 0, 1, 0, [], [])),
  (41, (.goto (-37), 3, 4, 0, 0, 0, 0, [], [])),
  (44, (.iload_n 2, 1, 2, 0, 0, 0, 0, [], [0, 1, 3])),
  (45, (.iconst 2, 1, 0, 0, 0, 2, 0, [], [])),
  (46, (.idiv, 1, 0, 0, 0, 0, 0, [], [])),
  (47, (.ireturn, 1, 0, 0, 0, 0, 0, [], []))
  ]
def tbX8_halosOf : List (Nat × jm_I) := [
  (0, (.aload_n 0, 1, 0, 0, 0, 0, 0, [], [])),
  (1, (.iload_n 1, 1, 1, 0, 0, 0, 0, [], [])),
  (2, (.invokevirtual 152, 3, 124, 2, 8, 0, 0, [], [])),
  (5, (.aload_n 0, 1, 0, 0, 0, 0, 0, [], [])),
  (6, (.getfield 20, 3, 8, 5, 0, 0, 0, [], [])),
  (9, (.iload_n 1, 1, 1, 0, 0, 0, 0, [], [])),
  (10, (.iaload, 1, 0, 0, 0, 0, 0, [], [])),
  (11, (.ireturn, 1, 0, 0, 0, 0, 0, [], []))
  ]
def tbX8_ofPicture : List (Nat × jm_I) := [
  (0, (.aload_n 0, 1, 0, 0, 0, 0, 0, [], [])),
  (1, (.iload_n 1, 1, 1, 0, 0, 0, 0, [], [])),
  (2, (.invokevirtual 76, 3, 96, 2, 8, 0, 0, [], [])),
  (5, (.ifCond .ne 6, 3, 11, 0, 0, 0, 0, [], [])),
  (8, (.ldc 83, 2, 0, 0, 0, (-1000000001), 0, [], [])),
  (10, (.ireturn, 1, 0, 0, 0, 0, 0, [], [])),
  (11, (.iload_n 2, 1, 2, 0, 0, 0, 0, [], [])),
  (12, (.tableswitch 114 0 7 #[48, 57, 63, 69, 86, 92, 98, 104], 48, 126, 0, 0, 0, 0, [(0, 60), (1, 69), (2, 75), (3, 81), (4, 98), (5, 104), (6, 110), (7, 116)], [])),
  (60, (.aload_n 0, 1, 0, 0, 0, 0, 0, [], [2])),
  (61, (.iload_n 1, 1, 1, 0, 0, 0, 0, [], [])),
  (62, (.invokevirtual 88, 3, 102, 2, 8, 0, 0, [], [])),
  (65, (.invokestatic 99, 3, 95, 1, 0, 0, 0, [], [])),
  (68, (.ireturn, 1, 0, 0, 0, 0, 0, [], [])),
  (69, (.aload_n 0, 1, 0, 0, 0, 0, 0, [], [2])),
  (70, (.iload_n 1, 1, 1, 0, 0, 0, 0, [], [])),
  (71, (.invokevirtual 88, 3, 102, 2, 8, 0, 0, [], [])),
  (74, (.ireturn, 1, 0, 0, 0, 0, 0, [], [])),
  (75, (.aload_n 0, 1, 0, 0, 0, 0, 0, [], [2])),
  (76, (.iload_n 1, 1, 1, 0, 0, 0, 0, [], [])),
  (77, (.invokevirtual 180, 3, 136, 2, 8, 0, 0, [], [])),
  (80, (.ireturn, 1, 0, 0, 0, 0, 0, [], [])),
  (81, (.aload_n 0, 1, 0, 0, 0, 0, 0, [], [2])),
  (82, (.iload_n 1, 1, 1, 0, 0, 0, 0, [], [])),
  (83, (.aload_n 0, 1, 0, 0, 0, 0, 0, [], [])),
  (84, (.iload_n 1, 1, 1, 0, 0, 0, 0, [], [])),
  (85, (.invokevirtual 88, 3, 102, 2, 8, 0, 0, [], [])),
  (88, (.aload_n 0, 1, 0, 0, 0, 0, 0, [], [])),
  (89, (.getfield 7, 3, 8, 0, 0, 0, 0, [], [])),
  (92, (.iconst 0, 1, 0, 0, 0, 0, 0, [], [])),
  (93, (.iaload, 1, 0, 0, 0, 0, 0, [], [])),
  (94, (.invokevirtual 183, 3, 121, 4, 8, 0, 0, [], [])),
  (97, (.ireturn, 1, 0, 0, 0, 0, 0, [], [])),
  (98, (.aload_n 0, 1, 0, 0, 0, 0, 0, [], [2])),
  (99, (.iload_n 1, 1, 1, 0, 0, 0, 0, [], [])),
  (100, (.invokevirtual 186, 3, 137, 2, 8, 0, 0, [], [])),
  (103, (.ireturn, 1, 0, 0, 0, 0, 0, [], [])),
  (104, (.aload_n 0, 1, 0, 0, 0, 0, 0, [], [2])),
  (105, (.iload_n 1, 1, 1, 0, 0, 0, 0, [], [])),
  (106, (.invokevirtual 189, 3, 151, 2, 8, 0, 0, [], [])),
  (109, (.ireturn, 1, 0, 0, 0, 0, 0, [], [])),
  (110, (.aload_n 0, 1, 0, 0, 0, 0, 0, [], [2])),
  (111, (.iload_n 1, 1, 1, 0, 0, 0, 0, [], [])),
  (112, (.invokevirtual 192, 3, 152, 2, 8, 0, 0, [], [])),
  (115, (.ireturn, 1, 0, 0, 0, 0, 0, [], [])),
  (116, (.aload_n 0, 1, 0, 0, 0, 0, 0, [], [2])),
  (117, (.aload_n 0, 1, 0, 0, 0, 0, 0, [], [])),
  (118, (.iload_n 1, 1, 1, 0, 0, 0, 0, [], [])),
  (119, (.invokevirtual 88, 3, 102, 2, 8, 0, 0, [], [])),
  (122, (.invokevirtual 143, 3, 119, 2, 8, 0, 0, [], [])),
  (125, (.ireturn, 1, 0, 0, 0, 0, 0, [], [])),
  (126, (.ldc 87, 2, 0, 0, 0, (-1000000002), 0, [], [0, 1, 2])),
  (128, (.ireturn, 1, 0, 0, 0, 0, 0, [], []))
  ]
def tbX8_haloIn : List (Nat × jm_I) := [
  (0, (.aload_n 0, 1, 0, 0, 0, 0, 0, [], [])),
  (1, (.iload_n 1, 1, 1, 0, 0, 0, 0, [], [])),
  (2, (.invokevirtual 152, 3, 124, 2, 8, 0, 0, [], [])),
  (5, (.iconst (-1), 1, 0, 0, 0, (-1), 0, [], [])),
  (6, (.istore_n 3, 1, 3, 0, 0, 0, 0, [], [])),
  (7, (.iconst 0, 1, 0, 0, 0, 0, 0, [], [])),
  (8, (.istore 4, 2, 4, 0, 0, 0, 0, [], [])),
  (10, (.iload 4, 2, 4, 0, 0, 0, 0, [], [])),
  (12, (.aload_n 0, 1, 0, 0, 0, 0, 0, [], [])),
  (13, (.getfield 20, 3, 8, 5, 0, 0, 0, [], [])),
  (16, (.iload_n 1, 1, 1, 0, 0, 0, 0, [], [])),
  (17, (.iaload, 1, 0, 0, 0, 0, 0, [], [])),
  (18, (.if_icmp .ge 30, 3, 48, 0, 0, 0, 0, [], [])),
  (21, (.aload_n 0, 1, 0, 0, 0, 0, 0, [], [])),
  (22, (.iload_n 1, 1, 1, 0, 0, 0, 0, [], [])),
  (23, (.iload 4, 2, 4, 0, 0, 0, 0, [], [])),
  (25, (.invokevirtual 159, 3, 127, 3, 8, 0, 0, [], [])),
  (28, (.iload_n 2, 1, 2, 0, 0, 0, 0, [], [])),
  (29, (.invokestatic 91, 3, 94, 2, 0, 0, 0, [], [])),
  (32, (.ifCond .eq 8, 3, 40, 0, 0, 0, 0, [], [])),
  (35, (.iload 4, 2, 4, 0, 0, 0, 0, [], [])),
  (37, (.goto 4, 3, 41, 0, 0, 0, 0, [], [])),
  (40, (.iload_n 3, 1, 3, 0, 0, 0, 0, [], [])),
  (41, (.istore_n 3, 1, 3, 0, 0, 0, 0, [], [3])),
  (42, (.iinc 4 1, 3, 4, 0, 0, 1, 0, [], [])),
  (45, (.goto (-35), 3, 10, 0, 0, 0, 0, [], [])),
  (48, (.iload_n 3, 1, 3, 0, 0, 0, 0, [], [0, 1, 2, 4])),
  (49, (.ireturn, 1, 0, 0, 0, 0, 0, [], []))
  ]
def tbX8_holds : List (Nat × jm_I) := [
  (0, (.aload_n 0, 1, 0, 0, 0, 0, 0, [], [])),
  (1, (.iload_n 1, 1, 1, 0, 0, 0, 0, [], [])),
  (2, (.iload_n 2, 1, 2, 0, 0, 0, 0, [], [])),
  (3, (.aload_n 0, 1, 0, 0, 0, 0, 0, [], [])),
  (4, (.iload_n 1, 1, 1, 0, 0, 0, 0, [], [])),
  (5, (.invokevirtual 88, 3, 102, 2, 8, 0, 0, [], [])),
  (8, (.aload_n 0, 1, 0, 0, 0, 0, 0, [], [])),
  (9, (.getfield 7, 3, 8, 0, 0, 0, 0, [], [])),
  (12, (.iconst 0, 1, 0, 0, 0, 0, 0, [], [])),
  (13, (.iaload, 1, 0, 0, 0, 0, 0, [], [])),
  (14, (.invokevirtual 139, 3, 120, 5, 8, 0, 0, [], [])),
  (17, (.iconst 1, 1, 0, 0, 0, 1, 0, [], [])),
  (18, (.iload_n 2, 1, 2, 0, 0, 0, 0, [], [])),
  (19, (.ishl, 1, 0, 0, 0, 0, 0, [], [])),
  (20, (.iconst (-1), 1, 0, 0, 0, (-1), 0, [], [])),
  (21, (.ixor, 1, 0, 0, 0, 0, 0, [], [])),
  (22, (.iand, 1, 0, 0, 0, 0, 0, [], [])),
  (23, (.istore_n 3, 1, 3, 0, 0, 0, 0, [], [])),
  (24, (.aload_n 0, 1, 0, 0, 0, 0, 0, [], [])),
  (25, (.iload_n 1, 1, 1, 0, 0, 0, 0, [], [])),
  (26, (.iload_n 3, 1, 3, 0, 0, 0, 0, [], [])),
  (27, (.aload_n 0, 1, 0, 0, 0, 0, 0, [], [])),
  (28, (.getfield 7, 3, 8, 0, 0, 0, 0, [], [])),
  (31, (.iconst 0, 1, 0, 0, 0, 0, 0, [], [])),
  (32, (.iaload, 1, 0, 0, 0, 0, 0, [], [])),
  (33, (.invokevirtual 183, 3, 121, 4, 8, 0, 0, [], [])),
  (36, (.iconst 1, 1, 0, 0, 0, 1, 0, [], [])),
  (37, (.if_icmp .le 7, 3, 44, 0, 0, 0, 0, [], [])),
  (40, (.iconst 1, 1, 0, 0, 0, 1, 0, [], [])),
  (41, (.goto 4, 3, 45, 0, 0, 0, 0, [], [])),
  (44, (.iconst 0, 1, 0, 0, 0, 0, 0, [], [0, 1, 2, 3])),
  (45, (.ireturn, 1, 0, 0, 0, 0, 0, [], [0, 1, 2, 3]))
  ]
def tbX8_grain : List (Nat × jm_I) := [
  (0, (.aload_n 0, 1, 0, 0, 0, 0, 0, [], [])),
  (1, (.iload_n 1, 1, 1, 0, 0, 0, 0, [], [])),
  (2, (.invokevirtual 76, 3, 96, 2, 8, 0, 0, [], [])),
  (5, (.ifCond .eq 10, 3, 15, 0, 0, 0, 0, [], [])),
  (8, (.iload_n 2, 1, 2, 0, 0, 0, 0, [], [])),
  (9, (.invokestatic 80, 3, 97, 1, 0, 0, 0, [], [])),
  (12, (.ifCond .ne 6, 3, 18, 0, 0, 0, 0, [], [])),
  (15, (.ldc 83, 2, 0, 0, 0, (-1000000001), 0, [], [0, 1, 2, 3, 4])),
  (17, (.ireturn, 1, 0, 0, 0, 0, 0, [], [])),
  (18, (.aload_n 0, 1, 0, 0, 0, 0, 0, [], [4])),
  (19, (.iload_n 1, 1, 1, 0, 0, 0, 0, [], [])),
  (20, (.invokevirtual 88, 3, 102, 2, 8, 0, 0, [], [])),
  (23, (.iload_n 2, 1, 2, 0, 0, 0, 0, [], [])),
  (24, (.invokestatic 91, 3, 94, 2, 0, 0, 0, [], [])),
  (27, (.istore 4, 2, 4, 0, 0, 0, 0, [], [])),
  (29, (.iload_n 3, 1, 3, 0, 0, 0, 0, [], [])),
  (30, (.tableswitch 181 0 7 #[46, 62, 78, 105, 121, 140, 156, 172], 46, 211, 0, 0, 0, 0, [(0, 76), (1, 92), (2, 108), (3, 135), (4, 151), (5, 170), (6, 186), (7, 202)], [])),
  (76, (.iload 4, 2, 4, 0, 0, 0, 0, [], [3])),
  (78, (.ifCond .eq 12, 3, 90, 0, 0, 0, 0, [], [])),
  (81, (.aload_n 0, 1, 0, 0, 0, 0, 0, [], [])),
  (82, (.iload_n 1, 1, 1, 0, 0, 0, 0, [], [])),
  (83, (.iload_n 2, 1, 2, 0, 0, 0, 0, [], [])),
  (84, (.invokevirtual 121, 3, 103, 3, 8, 0, 0, [], [])),
  (87, (.goto 4, 3, 91, 0, 0, 0, 0, [], [])),
  (90, (.iconst (-1), 1, 0, 0, 0, (-1), 0, [], [0, 1, 2, 3, 4])),
  (91, (.ireturn, 1, 0, 0, 0, 0, 0, [], [0, 1, 2, 3, 4])),
  (92, (.iload 4, 2, 4, 0, 0, 0, 0, [], [3])),
  (94, (.ifCond .eq 12, 3, 106, 0, 0, 0, 0, [], [])),
  (97, (.aload_n 0, 1, 0, 0, 0, 0, 0, [], [])),
  (98, (.iload_n 1, 1, 1, 0, 0, 0, 0, [], [])),
  (99, (.iload_n 2, 1, 2, 0, 0, 0, 0, [], [])),
  (100, (.invokevirtual 128, 3, 104, 3, 8, 0, 0, [], [])),
  (103, (.goto 4, 3, 107, 0, 0, 0, 0, [], [])),
  (106, (.iconst (-1), 1, 0, 0, 0, (-1), 0, [], [0, 1, 2, 3, 4])),
  (107, (.ireturn, 1, 0, 0, 0, 0, 0, [], [0, 1, 2, 3, 4])),
  (108, (.iload 4, 2, 4, 0, 0, 0, 0, [], [3])),
  (110, (.ifCond .eq 23, 3, 133, 0, 0, 0, 0, [], [])),
  (113, (.aload_n 0, 1, 0, 0, 0, 0, 0, [], [])),
  (114, (.iload_n 1, 1, 1, 0, 0, 0, 0, [], [])),
  (115, (.iload_n 2, 1, 2, 0, 0, 0, 0, [], [])),
  (116, (.aload_n 0, 1, 0, 0, 0, 0, 0, [], [])),
  (117, (.iload_n 1, 1, 1, 0, 0, 0, 0, [], [])),
  (118, (.invokevirtual 88, 3, 102, 2, 8, 0, 0, [], [])),
  (121, (.aload_n 0, 1, 0, 0, 0, 0, 0, [], [])),
  (122, (.getfield 7, 3, 8, 0, 0, 0, 0, [], [])),
  (125, (.iconst 0, 1, 0, 0, 0, 0, 0, [], [])),
  (126, (.iaload, 1, 0, 0, 0, 0, 0, [], [])),
  (127, (.invokevirtual 139, 3, 120, 5, 8, 0, 0, [], [])),
  (130, (.goto 4, 3, 134, 0, 0, 0, 0, [], [])),
  (133, (.iconst 0, 1, 0, 0, 0, 0, 0, [], [0, 1, 2, 3, 4])),
  (134, (.ireturn, 1, 0, 0, 0, 0, 0, [], [0, 1, 2, 3, 4])),
  (135, (.iload 4, 2, 4, 0, 0, 0, 0, [], [3])),
  (137, (.ifCond .eq 12, 3, 149, 0, 0, 0, 0, [], [])),
  (140, (.aload_n 0, 1, 0, 0, 0, 0, 0, [], [])),
  (141, (.iload_n 1, 1, 1, 0, 0, 0, 0, [], [])),
  (142, (.iload_n 2, 1, 2, 0, 0, 0, 0, [], [])),
  (143, (.invokevirtual 195, 3, 139, 3, 8, 0, 0, [], [])),
  (146, (.goto 4, 3, 150, 0, 0, 0, 0, [], [])),
  (149, (.iconst (-1), 1, 0, 0, 0, (-1), 0, [], [0, 1, 2, 3, 4])),
  (150, (.ireturn, 1, 0, 0, 0, 0, 0, [], [0, 1, 2, 3, 4])),
  (151, (.iload 4, 2, 4, 0, 0, 0, 0, [], [3])),
  (153, (.ifCond .eq 15, 3, 168, 0, 0, 0, 0, [], [])),
  (156, (.aload_n 0, 1, 0, 0, 0, 0, 0, [], [])),
  (157, (.iload_n 1, 1, 1, 0, 0, 0, 0, [], [])),
  (158, (.iload_n 2, 1, 2, 0, 0, 0, 0, [], [])),
  (159, (.invokevirtual 177, 3, 135, 3, 8, 0, 0, [], [])),
  (162, (.invokestatic 99, 3, 95, 1, 0, 0, 0, [], [])),
  (165, (.goto 4, 3, 169, 0, 0, 0, 0, [], [])),
  (168, (.iconst 0, 1, 0, 0, 0, 0, 0, [], [0, 1, 2, 3, 4])),
  (169, (.ireturn, 1, 0, 0, 0, 0, 0, [], [0, 1, 2, 3, 4])),
  (170, (.iload 4, 2, 4, 0, 0, 0, 0, [], [3])),
  (172, (.ifCond .eq 12, 3, 184, 0, 0, 0, 0, [], [])),
  (175, (.aload_n 0, 1, 0, 0, 0, 0, 0, [], [])),
  (176, (.iload_n 1, 1, 1, 0, 0, 0, 0, [], [])),
  (177, (.iload_n 2, 1, 2, 0, 0, 0, 0, [], [])),
  (178, (.invokevirtual 198, 3, 140, 3, 8, 0, 0, [], [])),
  (181, (.goto 4, 3, 185, 0, 0, 0, 0, [], [])),
  (184, (.iconst 0, 1, 0, 0, 0, 0, 0, [], [0, 1, 2, 3, 4])),
  (185, (.ireturn, 1, 0, 0, 0, 0, 0, [], [0, 1, 2, 3, 4])),
  (186, (.iload 4, 2, 4, 0, 0, 0, 0, [], [3])),
  (188, (.ifCond .eq 12, 3, 200, 0, 0, 0, 0, [], [])),
  (191, (.aload_n 0, 1, 0, 0, 0, 0, 0, [], [])),
  (192, (.iload_n 1, 1, 1, 0, 0, 0, 0, [], [])),
  (193, (.iload_n 2, 1, 2, 0, 0, 0, 0, [], [])),
  (194, (.invokevirtual 201, 3, 153, 3, 8, 0, 0, [], [])),
  (197, (.goto 4, 3, 201, 0, 0, 0, 0, [], [])),
  (200, (.iconst (-1), 1, 0, 0, 0, (-1), 0, [], [0, 1, 2, 3, 4])),
  (201, (.ireturn, 1, 0, 0, 0, 0, 0, [], [0, 1, 2, 3, 4])),
  (202, (.aload_n 0, 1, 0, 0, 0, 0, 0, [], [1, 3, 4])),
  (203, (.getfield 7, 3, 8, 0, 0, 0, 0, [], [])),
  (206, (.iconst 3, 1, 0, 0, 0, 3, 0, [], [])),
  (207, (.iload_n 2, 1, 2, 0, 0, 0, 0, [], [])),
  (208, (.iadd, 1, 0, 0, 0, 0, 0, [], [])),
  (209, (.iaload, 1, 0, 0, 0, 0, 0, [], [])),
  (210, (.ireturn, 1, 0, 0, 0, 0, 0, [], [])),
  (211, (.ldc 87, 2, 0, 0, 0, (-1000000002), 0, [], [0, 1, 2, 3, 4])),
  (213, (.ireturn, 1, 0, 0, 0, 0, 0, [], []))
  ]
def tbX8_grew : List (Nat × jm_I) := [
  (0, (.aload_n 0, 1, 0, 0, 0, 0, 0, [], [])),
  (1, (.iload_n 1, 1, 1, 0, 0, 0, 0, [], [])),
  (2, (.iload_n 2, 1, 2, 0, 0, 0, 0, [], [])),
  (3, (.invokevirtual 168, 3, 130, 3, 8, 0, 0, [], [])),
  (6, (.istore_n 3, 1, 3, 0, 0, 0, 0, [], [])),
  (7, (.aload_n 0, 1, 0, 0, 0, 0, 0, [], [])),
  (8, (.aload_n 0, 1, 0, 0, 0, 0, 0, [], [])),
  (9, (.iload_n 1, 1, 1, 0, 0, 0, 0, [], [])),
  (10, (.iload_n 2, 1, 2, 0, 0, 0, 0, [], [])),
  (11, (.invokevirtual 159, 3, 127, 3, 8, 0, 0, [], [])),
  (14, (.invokevirtual 143, 3, 119, 2, 8, 0, 0, [], [])),
  (17, (.iload_n 3, 1, 3, 0, 0, 0, 0, [], [])),
  (18, (.iconst (-1), 1, 0, 0, 0, (-1), 0, [], [])),
  (19, (.if_icmp .ne 7, 3, 26, 0, 0, 0, 0, [], [])),
  (22, (.iconst 0, 1, 0, 0, 0, 0, 0, [], [])),
  (23, (.goto 15, 3, 38, 0, 0, 0, 0, [], [])),
  (26, (.aload_n 0, 1, 0, 0, 0, 0, 0, [], [2])),
  (27, (.aload_n 0, 1, 0, 0, 0, 0, 0, [], [])),
  (28, (.iload_n 1, 1, 1, 0, 0, 0, 0, [], [])),
  (29, (.iconst 1, 1, 0, 0, 0, 1, 0, [], [])),
  (30, (.isub, 1, 0, 0, 0, 0, 0, [], [])),
  (31, (.iload_n 3, 1, 3, 0, 0, 0, 0, [], [])),
  (32, (.invokevirtual 159, 3, 127, 3, 8, 0, 0, [], [])),
  (35, (.invokevirtual 143, 3, 119, 2, 8, 0, 0, [], [])),
  (38, (.isub, 1, 0, 0, 0, 0, 0, [], [0, 1, 2, 3])),
  (39, (.ireturn, 1, 0, 0, 0, 0, 0, [], []))
  ]
def tbX8_halo : List (Nat × jm_I) := [
  (0, (.aload_n 0, 1, 0, 0, 0, 0, 0, [], [])),
  (1, (.iload_n 1, 1, 1, 0, 0, 0, 0, [], [])),
  (2, (.iload_n 2, 1, 2, 0, 0, 0, 0, [], [])),
  (3, (.invokevirtual 204, 3, 126, 3, 8, 0, 0, [], [])),
  (6, (.ifCond .ne 6, 3, 12, 0, 0, 0, 0, [], [])),
  (9, (.ldc 83, 2, 0, 0, 0, (-1000000001), 0, [], [])),
  (11, (.ireturn, 1, 0, 0, 0, 0, 0, [], [])),
  (12, (.iload_n 3, 1, 3, 0, 0, 0, 0, [], [])),
  (13, (.tableswitch 110 0 7 #[47, 54, 65, 72, 82, 89, 96, 103], 47, 123, 0, 0, 0, 0, [(0, 60), (1, 67), (2, 78), (3, 85), (4, 95), (5, 102), (6, 109), (7, 116)], [])),
  (60, (.aload_n 0, 1, 0, 0, 0, 0, 0, [], [3])),
  (61, (.iload_n 1, 1, 1, 0, 0, 0, 0, [], [])),
  (62, (.iload_n 2, 1, 2, 0, 0, 0, 0, [], [])),
  (63, (.invokevirtual 159, 3, 127, 3, 8, 0, 0, [], [])),
  (66, (.ireturn, 1, 0, 0, 0, 0, 0, [], [])),
  (67, (.aload_n 0, 1, 0, 0, 0, 0, 0, [], [3])),
  (68, (.aload_n 0, 1, 0, 0, 0, 0, 0, [], [])),
  (69, (.iload_n 1, 1, 1, 0, 0, 0, 0, [], [])),
  (70, (.iload_n 2, 1, 2, 0, 0, 0, 0, [], [])),
  (71, (.invokevirtual 159, 3, 127, 3, 8, 0, 0, [], [])),
  (74, (.invokevirtual 143, 3, 119, 2, 8, 0, 0, [], [])),
  (77, (.ireturn, 1, 0, 0, 0, 0, 0, [], [])),
  (78, (.aload_n 0, 1, 0, 0, 0, 0, 0, [], [3])),
  (79, (.iload_n 1, 1, 1, 0, 0, 0, 0, [], [])),
  (80, (.iload_n 2, 1, 2, 0, 0, 0, 0, [], [])),
  (81, (.invokevirtual 162, 3, 128, 3, 8, 0, 0, [], [])),
  (84, (.ireturn, 1, 0, 0, 0, 0, 0, [], [])),
  (85, (.aload_n 0, 1, 0, 0, 0, 0, 0, [], [3])),
  (86, (.iload_n 1, 1, 1, 0, 0, 0, 0, [], [])),
  (87, (.iload_n 2, 1, 2, 0, 0, 0, 0, [], [])),
  (88, (.invokevirtual 165, 3, 129, 3, 8, 0, 0, [], [])),
  (91, (.invokestatic 99, 3, 95, 1, 0, 0, 0, [], [])),
  (94, (.ireturn, 1, 0, 0, 0, 0, 0, [], [])),
  (95, (.aload_n 0, 1, 0, 0, 0, 0, 0, [], [3])),
  (96, (.iload_n 1, 1, 1, 0, 0, 0, 0, [], [])),
  (97, (.iload_n 2, 1, 2, 0, 0, 0, 0, [], [])),
  (98, (.invokevirtual 168, 3, 130, 3, 8, 0, 0, [], [])),
  (101, (.ireturn, 1, 0, 0, 0, 0, 0, [], [])),
  (102, (.aload_n 0, 1, 0, 0, 0, 0, 0, [], [3])),
  (103, (.iload_n 1, 1, 1, 0, 0, 0, 0, [], [])),
  (104, (.iload_n 2, 1, 2, 0, 0, 0, 0, [], [])),
  (105, (.invokevirtual 171, 3, 131, 3, 8, 0, 0, [], [])),
  (108, (.ireturn, 1, 0, 0, 0, 0, 0, [], [])),
  (109, (.aload_n 0, 1, 0, 0, 0, 0, 0, [], [3])),
  (110, (.iload_n 1, 1, 1, 0, 0, 0, 0, [], [])),
  (111, (.iload_n 2, 1, 2, 0, 0, 0, 0, [], [])),
  (112, (.invokevirtual 207, 3, 142, 3, 8, 0, 0, [], [])),
  (115, (.ireturn, 1, 0, 0, 0, 0, 0, [], [])),
  (116, (.aload_n 0, 1, 0, 0, 0, 0, 0, [], [3])),
  (117, (.iload_n 1, 1, 1, 0, 0, 0, 0, [], [])),
  (118, (.iload_n 2, 1, 2, 0, 0, 0, 0, [], [])),
  (119, (.invokevirtual 210, 3, 132, 3, 8, 0, 0, [], [])),
  (122, (.ireturn, 1, 0, 0, 0, 0, 0, [], [])),
  (123, (.ldc 87, 2, 0, 0, 0, (-1000000002), 0, [], [0, 1, 2, 3])),
  (125, (.ireturn, 1, 0, 0, 0, 0, 0, [], []))
  ]
def tbX8_from : List (Nat × jm_I) := [
  (0, (.aload_n 0, 1, 0, 0, 0, 0, 0, [], [])),
  (1, (.iload_n 1, 1, 1, 0, 0, 0, 0, [], [])),
  (2, (.iload_n 2, 1, 2, 0, 0, 0, 0, [], [])),
  (3, (.invokevirtual 204, 3, 126, 3, 8, 0, 0, [], [])),
  (6, (.ifCond .eq 12, 3, 18, 0, 0, 0, 0, [], [])),
  (9, (.aload_n 0, 1, 0, 0, 0, 0, 0, [], [])),
  (10, (.iload_n 1, 1, 1, 0, 0, 0, 0, [], [])),
  (11, (.iload_n 2, 1, 2, 0, 0, 0, 0, [], [])),
  (12, (.invokevirtual 165, 3, 129, 3, 8, 0, 0, [], [])),
  (15, (.goto 5, 3, 20, 0, 0, 0, 0, [], [])),
  (18, (.ldc 83, 2, 0, 0, 0, (-1000000001), 0, [], [0, 1, 2])),
  (20, (.ireturn, 1, 0, 0, 0, 0, 0, [], [0, 1, 2]))
  ]
def tbX8_branch : List (Nat × jm_I) := [
  (0, (.aload_n 0, 1, 0, 0, 0, 0, 0, [], [])),
  (1, (.iload_n 1, 1, 1, 0, 0, 0, 0, [], [])),
  (2, (.iload_n 2, 1, 2, 0, 0, 0, 0, [], [])),
  (3, (.invokevirtual 204, 3, 126, 3, 8, 0, 0, [], [])),
  (6, (.ifCond .ne 6, 3, 12, 0, 0, 0, 0, [], [])),
  (9, (.ldc 83, 2, 0, 0, 0, (-1000000001), 0, [], [])),
  (11, (.ireturn, 1, 0, 0, 0, 0, 0, [], [])),
  (12, (.iload_n 3, 1, 3, 0, 0, 0, 0, [], [4, 5])),
  (13, (.ifCond .ge 6, 3, 19, 0, 0, 0, 0, [], [])),
  (16, (.ldc 87, 2, 0, 0, 0, (-1000000002), 0, [], [])),
  (18, (.ireturn, 1, 0, 0, 0, 0, 0, [], [])),
  (19, (.iload_n 2, 1, 2, 0, 0, 0, 0, [], [4, 5])),
  (20, (.istore 4, 2, 4, 0, 0, 0, 0, [], [])),
  (22, (.iconst 0, 1, 0, 0, 0, 0, 0, [], [])),
  (23, (.istore 5, 2, 5, 0, 0, 0, 0, [], [])),
  (25, (.iload 5, 2, 5, 0, 0, 0, 0, [], [2])),
  (27, (.iload_n 3, 1, 3, 0, 0, 0, 0, [], [])),
  (28, (.if_icmp .ge 27, 3, 55, 0, 0, 0, 0, [], [])),
  (31, (.iload 4, 2, 4, 0, 0, 0, 0, [], [])),
  (33, (.iconst (-1), 1, 0, 0, 0, (-1), 0, [], [])),
  (34, (.if_icmp .eq 21, 3, 55, 0, 0, 0, 0, [], [])),
  (37, (.aload_n 0, 1, 0, 0, 0, 0, 0, [], [])),
  (38, (.iload_n 1, 1, 1, 0, 0, 0, 0, [], [])),
  (39, (.iload 5, 2, 5, 0, 0, 0, 0, [], [])),
  (41, (.isub, 1, 0, 0, 0, 0, 0, [], [])),
  (42, (.iload 4, 2, 4, 0, 0, 0, 0, [], [])),
  (44, (.invokevirtual 168, 3, 130, 3, 8, 0, 0, [], [])),
  (47, (.istore 4, 2, 4, 0, 0, 0, 0, [], [])),
  (49, (.iinc 5 1, 3, 5, 0, 0, 1, 0, [], [])),
  (52, (.goto (-27), 3, 25, 0, 0, 0, 0, [], [])),
  (55, (.iload 4, 2, 4, 0, 0, 0, 0, [], [0, 1, 2, 3, 5])),
  (57, (.ireturn, 1, 0, 0, 0, 0, 0, [], []))
  ]
def tbX8_common : List (Nat × jm_I) := [
  (0, (.aload_n 0, 1, 0, 0, 0, 0, 0, [], [])),
  (1, (.iload_n 1, 1, 1, 0, 0, 0, 0, [], [])),
  (2, (.iload_n 2, 1, 2, 0, 0, 0, 0, [], [])),
  (3, (.invokevirtual 204, 3, 126, 3, 8, 0, 0, [], [])),
  (6, (.ifCond .eq 26, 3, 32, 0, 0, 0, 0, [], [])),
  (9, (.iload_n 1, 1, 1, 0, 0, 0, 0, [], [])),
  (10, (.iconst 1, 1, 0, 0, 0, 1, 0, [], [])),
  (11, (.iadd, 1, 0, 0, 0, 0, 0, [], [])),
  (12, (.aload_n 0, 1, 0, 0, 0, 0, 0, [], [])),
  (13, (.getfield 7, 3, 8, 0, 0, 0, 0, [], [])),
  (16, (.iconst 2, 1, 0, 0, 0, 2, 0, [], [])),
  (17, (.iaload, 1, 0, 0, 0, 0, 0, [], [])),
  (18, (.if_icmp .ge 14, 3, 32, 0, 0, 0, 0, [], [])),
  (21, (.aload_n 0, 1, 0, 0, 0, 0, 0, [], [])),
  (22, (.iload_n 1, 1, 1, 0, 0, 0, 0, [], [])),
  (23, (.iconst 1, 1, 0, 0, 0, 1, 0, [], [])),
  (24, (.iadd, 1, 0, 0, 0, 0, 0, [], [])),
  (25, (.iload_n 3, 1, 3, 0, 0, 0, 0, [], [])),
  (26, (.invokevirtual 204, 3, 126, 3, 8, 0, 0, [], [])),
  (29, (.ifCond .ne 6, 3, 35, 0, 0, 0, 0, [], [])),
  (32, (.ldc 83, 2, 0, 0, 0, (-1000000001), 0, [], [0, 1, 2, 3])),
  (34, (.ireturn, 1, 0, 0, 0, 0, 0, [], [])),
  (35, (.aload_n 0, 1, 0, 0, 0, 0, 0, [], [])),
  (36, (.aload_n 0, 1, 0, 0, 0, 0, 0, [], [])),
  (37, (.iload_n 1, 1, 1, 0, 0, 0, 0, [], [])),
  (38, (.iload_n 2, 1, 2, 0, 0, 0, 0, [], [])),
  (39, (.invokevirtual 159, 3, 127, 3, 8, 0, 0, [], [])),
  (42, (.aload_n 0, 1, 0, 0, 0, 0, 0, [], [])),
  (43, (.iload_n 1, 1, 1, 0, 0, 0, 0, [], [])),
  (44, (.iconst 1, 1, 0, 0, 0, 1, 0, [], [])),
  (45, (.iadd, 1, 0, 0, 0, 0, 0, [], [])),
  (46, (.iload_n 3, 1, 3, 0, 0, 0, 0, [], [])),
  (47, (.invokevirtual 159, 3, 127, 3, 8, 0, 0, [], [])),
  (50, (.iand, 1, 0, 0, 0, 0, 0, [], [])),
  (51, (.invokevirtual 143, 3, 119, 2, 8, 0, 0, [], [])),
  (54, (.ireturn, 1, 0, 0, 0, 0, 0, [], []))
  ]
def tbX8_key : List (Nat × jm_I) := [
  (0, (.iload_n 3, 1, 3, 0, 0, 0, 0, [], [])),
  (1, (.iconst 2, 1, 0, 0, 0, 2, 0, [], [])),
  (2, (.irem, 1, 0, 0, 0, 0, 0, [], [])),
  (3, (.ifCond .ne 27, 3, 30, 0, 0, 0, 0, [], [])),
  (6, (.ldc 213, 2, 0, 0, 0, 100000, 0, [], [])),
  (8, (.aload_n 0, 1, 0, 0, 0, 0, 0, [], [])),
  (9, (.iload_n 1, 1, 1, 0, 0, 0, 0, [], [])),
  (10, (.iload_n 2, 1, 2, 0, 0, 0, 0, [], [])),
  (11, (.invokevirtual 121, 3, 103, 3, 8, 0, 0, [], [])),
  (14, (.imul, 1, 0, 0, 0, 0, 0, [], [])),
  (15, (.bipush 100, 2, 0, 0, 0, 100, 0, [], [])),
  (17, (.aload_n 0, 1, 0, 0, 0, 0, 0, [], [])),
  (18, (.iload_n 1, 1, 1, 0, 0, 0, 0, [], [])),
  (19, (.iload_n 2, 1, 2, 0, 0, 0, 0, [], [])),
  (20, (.invokevirtual 128, 3, 104, 3, 8, 0, 0, [], [])),
  (23, (.imul, 1, 0, 0, 0, 0, 0, [], [])),
  (24, (.iadd, 1, 0, 0, 0, 0, 0, [], [])),
  (25, (.iload_n 2, 1, 2, 0, 0, 0, 0, [], [])),
  (26, (.iadd, 1, 0, 0, 0, 0, 0, [], [])),
  (27, (.goto 24, 3, 51, 0, 0, 0, 0, [], [])),
  (30, (.ldc 213, 2, 0, 0, 0, 100000, 0, [], [3])),
  (32, (.aload_n 0, 1, 0, 0, 0, 0, 0, [], [])),
  (33, (.iload_n 1, 1, 1, 0, 0, 0, 0, [], [])),
  (34, (.iload_n 2, 1, 2, 0, 0, 0, 0, [], [])),
  (35, (.invokevirtual 128, 3, 104, 3, 8, 0, 0, [], [])),
  (38, (.imul, 1, 0, 0, 0, 0, 0, [], [])),
  (39, (.bipush 100, 2, 0, 0, 0, 100, 0, [], [])),
  (41, (.aload_n 0, 1, 0, 0, 0, 0, 0, [], [])),
  (42, (.iload_n 1, 1, 1, 0, 0, 0, 0, [], [])),
  (43, (.iload_n 2, 1, 2, 0, 0, 0, 0, [], [])),
  (44, (.invokevirtual 121, 3, 103, 3, 8, 0, 0, [], [])),
  (47, (.imul, 1, 0, 0, 0, 0, 0, [], [])),
  (48, (.iadd, 1, 0, 0, 0, 0, 0, [], [])),
  (49, (.iload_n 2, 1, 2, 0, 0, 0, 0, [], [])),
  (50, (.iadd, 1, 0, 0, 0, 0, 0, [], [])),
  (51, (.ireturn, 1, 0, 0, 0, 0, 0, [], [0, 1, 2, 3]))
  ]
def tbX8_sorts : List (Nat × jm_I) := [
  (0, (.iload_n 2, 1, 2, 0, 0, 0, 0, [], [])),
  (1, (.iconst 1, 1, 0, 0, 0, 1, 0, [], [])),
  (2, (.iadd, 1, 0, 0, 0, 0, 0, [], [])),
  (3, (.istore 5, 2, 5, 0, 0, 0, 0, [], [])),
  (5, (.iload 5, 2, 5, 0, 0, 0, 0, [], [6, 7])),
  (7, (.iload_n 3, 1, 3, 0, 0, 0, 0, [], [])),
  (8, (.if_icmp .ge 87, 3, 95, 0, 0, 0, 0, [], [])),
  (11, (.aload_n 0, 1, 0, 0, 0, 0, 0, [], [])),
  (12, (.getfield 32, 3, 8, 10, 0, 0, 0, [], [])),
  (15, (.iload 5, 2, 5, 0, 0, 0, 0, [], [])),
  (17, (.iaload, 1, 0, 0, 0, 0, 0, [], [])),
  (18, (.istore 6, 2, 6, 0, 0, 0, 0, [], [])),
  (20, (.iload 5, 2, 5, 0, 0, 0, 0, [], [])),
  (22, (.istore 7, 2, 7, 0, 0, 0, 0, [], [])),
  (24, (.iload 7, 2, 7, 0, 0, 0, 0, [], [])),
  (26, (.iload_n 2, 1, 2, 0, 0, 0, 0, [], [])),
  (27, (.if_icmp .le 53, 3, 80, 0, 0, 0, 0, [], [])),
  (30, (.aload_n 0, 1, 0, 0, 0, 0, 0, [], [])),
  (31, (.iload_n 1, 1, 1, 0, 0, 0, 0, [], [])),
  (32, (.aload_n 0, 1, 0, 0, 0, 0, 0, [], [])),
  (33, (.getfield 32, 3, 8, 10, 0, 0, 0, [], [])),
  (36, (.iload 7, 2, 7, 0, 0, 0, 0, [], [])),
  (38, (.iconst 1, 1, 0, 0, 0, 1, 0, [], [])),
  (39, (.isub, 1, 0, 0, 0, 0, 0, [], [])),
  (40, (.iaload, 1, 0, 0, 0, 0, 0, [], [])),
  (41, (.iload 4, 2, 4, 0, 0, 0, 0, [], [])),
  (43, (.invokevirtual 214, 3, 147, 4, 8, 0, 0, [], [])),
  (46, (.aload_n 0, 1, 0, 0, 0, 0, 0, [], [])),
  (47, (.iload_n 1, 1, 1, 0, 0, 0, 0, [], [])),
  (48, (.iload 6, 2, 6, 0, 0, 0, 0, [], [])),
  (50, (.iload 4, 2, 4, 0, 0, 0, 0, [], [])),
  (52, (.invokevirtual 214, 3, 147, 4, 8, 0, 0, [], [])),
  (55, (.if_icmp .le 25, 3, 80, 0, 0, 0, 0, [], [])),
  (58, (.aload_n 0, 1, 0, 0, 0, 0, 0, [], [])),
  (59, (.getfield 32, 3, 8, 10, 0, 0, 0, [], [])),
  (62, (.iload 7, 2, 7, 0, 0, 0, 0, [], [])),
  (64, (.aload_n 0, 1, 0, 0, 0, 0, 0, [], [])),
  (65, (.getfield 32, 3, 8, 10, 0, 0, 0, [], [])),
  (68, (.iload 7, 2, 7, 0, 0, 0, 0, [], [])),
  (70, (.iconst 1, 1, 0, 0, 0, 1, 0, [], [])),
  (71, (.isub, 1, 0, 0, 0, 0, 0, [], [])),
  (72, (.iaload, 1, 0, 0, 0, 0, 0, [], [])),
  (73, (.iastore, 1, 0, 0, 0, 0, 0, [], [])),
  (74, (.iinc 7 (-1), 3, 7, 0, 0, (-1), 0, [], [])),
  (77, (.goto (-53), 3, 24, 0, 0, 0, 0, [], [])),
  (80, (.aload_n 0, 1, 0, 0, 0, 0, 0, [], [])),
  (81, (.getfield 32, 3, 8, 10, 0, 0, 0, [], [])),
  (84, (.iload 7, 2, 7, 0, 0, 0, 0, [], [])),
  (86, (.iload 6, 2, 6, 0, 0, 0, 0, [], [])),
  (88, (.iastore, 1, 0, 0, 0, 0, 0, [], [])),
  (89, (.iinc 5 1, 3, 5, 0, 0, 1, 0, [], [])),
  (92, (.goto (-87), 3, 5, 0, 0, 0, 0, [], [])),
  (95, (.return_, 1, 0, 0, 0, 0, 0, [], [0, 1, 2, 3, 4, 5, 6, 7]))
  ]
def tbX8_adds : List (Nat × jm_I) := [
  (0, (.aload_n 0, 1, 0, 0, 0, 0, 0, [], [])),
  (1, (.getfield 35, 3, 8, 12, 0, 0, 0, [], [])),
  (4, (.aload_n 0, 1, 0, 0, 0, 0, 0, [], [])),
  (5, (.getfield 217, 3, 8, 11, 0, 0, 0, [], [])),
  (8, (.iload_n 1, 1, 1, 0, 0, 0, 0, [], [])),
  (9, (.iastore, 1, 0, 0, 0, 0, 0, [], [])),
  (10, (.aload_n 0, 1, 0, 0, 0, 0, 0, [], [])),
  (11, (.getfield 38, 3, 8, 13, 0, 0, 0, [], [])),
  (14, (.aload_n 0, 1, 0, 0, 0, 0, 0, [], [])),
  (15, (.getfield 217, 3, 8, 11, 0, 0, 0, [], [])),
  (18, (.iload_n 2, 1, 2, 0, 0, 0, 0, [], [])),
  (19, (.iastore, 1, 0, 0, 0, 0, 0, [], [])),
  (20, (.aload_n 0, 1, 0, 0, 0, 0, 0, [], [])),
  (21, (.getfield 41, 3, 8, 14, 0, 0, 0, [], [])),
  (24, (.aload_n 0, 1, 0, 0, 0, 0, 0, [], [])),
  (25, (.getfield 217, 3, 8, 11, 0, 0, 0, [], [])),
  (28, (.iload_n 3, 1, 3, 0, 0, 0, 0, [], [])),
  (29, (.iastore, 1, 0, 0, 0, 0, 0, [], [])),
  (30, (.aload_n 0, 1, 0, 0, 0, 0, 0, [], [])),
  (31, (.getfield 44, 3, 8, 15, 0, 0, 0, [], [])),
  (34, (.aload_n 0, 1, 0, 0, 0, 0, 0, [], [])),
  (35, (.getfield 217, 3, 8, 11, 0, 0, 0, [], [])),
  (38, (.iload 4, 2, 4, 0, 0, 0, 0, [], [])),
  (40, (.iastore, 1, 0, 0, 0, 0, 0, [], [])),
  (41, (.aload_n 0, 1, 0, 0, 0, 0, 0, [], [])),
  (42, (.dup, 1, 0, 0, 0, 0, 0, [], [])),
  (43, (.getfield 217, 3, 8, 11, 0, 0, 0, [], [])),
  (46, (.iconst 1, 1, 0, 0, 0, 1, 0, [], [])),
  (47, (.iadd, 1, 0, 0, 0, 0, 0, [], [])),
  (48, (.putfield 217, 3, 8, 11, 0, 0, 0, [], [])),
  (51, (.return_, 1, 0, 0, 0, 0, 0, [], []))
  ]
def tbX8_layTree : List (Nat × jm_I) := [
  (0, (.iconst 0, 1, 0, 0, 0, 0, 0, [], [])),
  (1, (.istore_n 2, 1, 2, 0, 0, 0, 0, [], [])),
  (2, (.iconst 0, 1, 0, 0, 0, 0, 0, [], [])),
  (3, (.istore_n 3, 1, 3, 0, 0, 0, 0, [], [])),
  (4, (.iload_n 3, 1, 3, 0, 0, 0, 0, [], [4, 5, 6, 7, 8])),
  (5, (.bipush 24, 2, 0, 0, 0, 24, 0, [], [])),
  (7, (.if_icmp .ge 52, 3, 59, 0, 0, 0, 0, [], [])),
  (10, (.aload_n 0, 1, 0, 0, 0, 0, 0, [], [])),
  (11, (.getfield 23, 3, 8, 7, 0, 0, 0, [], [])),
  (14, (.iload_n 3, 1, 3, 0, 0, 0, 0, [], [])),
  (15, (.iconst (-1), 1, 0, 0, 0, (-1), 0, [], [])),
  (16, (.iastore, 1, 0, 0, 0, 0, 0, [], [])),
  (17, (.aload_n 0, 1, 0, 0, 0, 0, 0, [], [])),
  (18, (.getfield 26, 3, 8, 8, 0, 0, 0, [], [])),
  (21, (.iload_n 3, 1, 3, 0, 0, 0, 0, [], [])),
  (22, (.iconst (-1), 1, 0, 0, 0, (-1), 0, [], [])),
  (23, (.iastore, 1, 0, 0, 0, 0, 0, [], [])),
  (24, (.aload_n 0, 1, 0, 0, 0, 0, 0, [], [])),
  (25, (.getfield 29, 3, 8, 9, 0, 0, 0, [], [])),
  (28, (.iload_n 3, 1, 3, 0, 0, 0, 0, [], [])),
  (29, (.iconst (-1), 1, 0, 0, 0, (-1), 0, [], [])),
  (30, (.iastore, 1, 0, 0, 0, 0, 0, [], [])),
  (31, (.aload_n 0, 1, 0, 0, 0, 0, 0, [], [])),
  (32, (.iload_n 1, 1, 1, 0, 0, 0, 0, [], [])),
  (33, (.invokevirtual 88, 3, 102, 2, 8, 0, 0, [], [])),
  (36, (.iload_n 3, 1, 3, 0, 0, 0, 0, [], [])),
  (37, (.invokestatic 91, 3, 94, 2, 0, 0, 0, [], [])),
  (40, (.ifCond .eq 13, 3, 53, 0, 0, 0, 0, [], [])),
  (43, (.aload_n 0, 1, 0, 0, 0, 0, 0, [], [])),
  (44, (.getfield 32, 3, 8, 10, 0, 0, 0, [], [])),
  (47, (.iload_n 2, 1, 2, 0, 0, 0, 0, [], [])),
  (48, (.iload_n 3, 1, 3, 0, 0, 0, 0, [], [])),
  (49, (.iastore, 1, 0, 0, 0, 0, 0, [], [])),
  (50, (.iinc 2 1, 3, 2, 0, 0, 1, 0, [], [])),
  (53, (.iinc 3 1, 3, 3, 0, 0, 1, 0, [], [4, 5, 6, 7, 8])),
  (56, (.goto (-52), 3, 4, 0, 0, 0, 0, [], [])),
  (59, (.aload_n 0, 1, 0, 0, 0, 0, 0, [], [3, 4, 5, 6, 7, 8])),
  (60, (.iconst (-1), 1, 0, 0, 0, (-1), 0, [], [])),
  (61, (.putfield 220, 3, 8, 6, 0, 0, 0, [], [])),
  (64, (.aload_n 0, 1, 0, 0, 0, 0, 0, [], [])),
  (65, (.iconst 0, 1, 0, 0, 0, 0, 0, [], [])),
  (66, (.putfield 217, 3, 8, 11, 0, 0, 0, [], [])),
  (69, (.aload_n 0, 1, 0, 0, 0, 0, 0, [], [])),
  (70, (.iconst 0, 1, 0, 0, 0, 0, 0, [], [])),
  (71, (.iload_n 2, 1, 2, 0, 0, 0, 0, [], [])),
  (72, (.iconst 0, 1, 0, 0, 0, 0, 0, [], [])),
  (73, (.iconst (-1), 1, 0, 0, 0, (-1), 0, [], [])),
  (74, (.invokevirtual 223, 3, 149, 5, 8, 0, 0, [], [])),
  (77, (.aload_n 0, 1, 0, 0, 0, 0, 0, [], [2, 3, 4, 5, 6, 7, 8])),
  (78, (.getfield 217, 3, 8, 11, 0, 0, 0, [], [])),
  (81, (.ifCond .le 185, 3, 266, 0, 0, 0, 0, [], [])),
  (84, (.aload_n 0, 1, 0, 0, 0, 0, 0, [], [])),
  (85, (.dup, 1, 0, 0, 0, 0, 0, [], [])),
  (86, (.getfield 217, 3, 8, 11, 0, 0, 0, [], [])),
  (89, (.iconst 1, 1, 0, 0, 0, 1, 0, [], [])),
  (90, (.isub, 1, 0, 0, 0, 0, 0, [], [])),
  (91, (.putfield 217, 3, 8, 11, 0, 0, 0, [], [])),
  (94, (.aload_n 0, 1, 0, 0, 0, 0, 0, [], [])),
  (95, (.getfield 35, 3, 8, 12, 0, 0, 0, [], [])),
  (98, (.aload_n 0, 1, 0, 0, 0, 0, 0, [], [])),
  (99, (.getfield 217, 3, 8, 11, 0, 0, 0, [], [])),
  (102, (.iaload, 1, 0, 0, 0, 0, 0, [], [])),
  (103, (.istore_n 3, 1, 3, 0, 0, 0, 0, [], [])),
  (104, (.aload_n 0, 1, 0, 0, 0, 0, 0, [], [])),
  (105, (.getfield 38, 3, 8, 13, 0, 0, 0, [], [])),
  (108, (.aload_n 0, 1, 0, 0, 0, 0, 0, [], [])),
  (109, (.getfield 217, 3, 8, 11, 0, 0, 0, [], [])),
  (112, (.iaload, 1, 0, 0, 0, 0, 0, [], [])),
  (113, (.istore 4, 2, 4, 0, 0, 0, 0, [], [])),
  (115, (.aload_n 0, 1, 0, 0, 0, 0, 0, [], [])),
  (116, (.getfield 41, 3, 8, 14, 0, 0, 0, [], [])),
  (119, (.aload_n 0, 1, 0, 0, 0, 0, 0, [], [])),
  (120, (.getfield 217, 3, 8, 11, 0, 0, 0, [], [])),
  (123, (.iaload, 1, 0, 0, 0, 0, 0, [], [])),
  (124, (.istore 5, 2, 5, 0, 0, 0, 0, [], [])),
  (126, (.aload_n 0, 1, 0, 0, 0, 0, 0, [], [])),
  (127, (.getfield 44, 3, 8, 15, 0, 0, 0, [], [])),
  (130, (.aload_n 0, 1, 0, 0, 0, 0, 0, [], [])),
  (131, (.getfield 217, 3, 8, 11, 0, 0, 0, [], [])),
  (134, (.iaload, 1, 0, 0, 0, 0, 0, [], [])),
  (135, (.istore 6, 2, 6, 0, 0, 0, 0, [], [])),
  (137, (.iload_n 3, 1, 3, 0, 0, 0, 0, [], [])),
  (138, (.iload 4, 2, 4, 0, 0, 0, 0, [], [])),
  (140, (.if_icmp .ge 123, 3, 263, 0, 0, 0, 0, [], [])),
  (143, (.aload_n 0, 1, 0, 0, 0, 0, 0, [], [])),
  (144, (.iload_n 1, 1, 1, 0, 0, 0, 0, [], [])),
  (145, (.iload_n 3, 1, 3, 0, 0, 0, 0, [], [])),
  (146, (.iload 4, 2, 4, 0, 0, 0, 0, [], [])),
  (148, (.iload 5, 2, 5, 0, 0, 0, 0, [], [])),
  (150, (.invokevirtual 226, 3, 148, 5, 8, 0, 0, [], [])),
  (153, (.iload_n 3, 1, 3, 0, 0, 0, 0, [], [])),
  (154, (.iload 4, 2, 4, 0, 0, 0, 0, [], [])),
  (156, (.iload_n 3, 1, 3, 0, 0, 0, 0, [], [])),
  (157, (.isub, 1, 0, 0, 0, 0, 0, [], [])),
  (158, (.iconst 2, 1, 0, 0, 0, 2, 0, [], [])),
  (159, (.idiv, 1, 0, 0, 0, 0, 0, [], [])),
  (160, (.iadd, 1, 0, 0, 0, 0, 0, [], [])),
  (161, (.istore 7, 2, 7, 0, 0, 0, 0, [], [])),
  (163, (.aload_n 0, 1, 0, 0, 0, 0, 0, [], [])),
  (164, (.getfield 32, 3, 8, 10, 0, 0, 0, [], [])),
  (167, (.iload 7, 2, 7, 0, 0, 0, 0, [], [])),
  (169, (.iaload, 1, 0, 0, 0, 0, 0, [], [])),
  (170, (.istore 8, 2, 8, 0, 0, 0, 0, [], [])),
  (172, (.aload_n 0, 1, 0, 0, 0, 0, 0, [], [])),
  (173, (.getfield 29, 3, 8, 9, 0, 0, 0, [], [])),
  (176, (.iload 8, 2, 8, 0, 0, 0, 0, [], [])),
  (178, (.iload 5, 2, 5, 0, 0, 0, 0, [], [])),
  (180, (.iastore, 1, 0, 0, 0, 0, 0, [], [])),
  (181, (.iload 6, 2, 6, 0, 0, 0, 0, [], [])),
  (183, (.iconst (-1), 1, 0, 0, 0, (-1), 0, [], [])),
  (184, (.if_icmp .ne 12, 3, 196, 0, 0, 0, 0, [], [])),
  (187, (.aload_n 0, 1, 0, 0, 0, 0, 0, [], [])),
  (188, (.iload 8, 2, 8, 0, 0, 0, 0, [], [])),
  (190, (.putfield 220, 3, 8, 6, 0, 0, 0, [], [])),
  (193, (.goto 35, 3, 228, 0, 0, 0, 0, [], [])),
  (196, (.iload 6, 2, 6, 0, 0, 0, 0, [], [2])),
  (198, (.iconst 2, 1, 0, 0, 0, 2, 0, [], [])),
  (199, (.irem, 1, 0, 0, 0, 0, 0, [], [])),
  (200, (.ifCond .ne 17, 3, 217, 0, 0, 0, 0, [], [])),
  (203, (.aload_n 0, 1, 0, 0, 0, 0, 0, [], [])),
  (204, (.getfield 23, 3, 8, 7, 0, 0, 0, [], [])),
  (207, (.iload 6, 2, 6, 0, 0, 0, 0, [], [])),
  (209, (.iconst 2, 1, 0, 0, 0, 2, 0, [], [])),
  (210, (.idiv, 1, 0, 0, 0, 0, 0, [], [])),
  (211, (.iload 8, 2, 8, 0, 0, 0, 0, [], [])),
  (213, (.iastore, 1, 0, 0, 0, 0, 0, [], [])),
  (214, (.goto 14, 3, 228, 0, 0, 0, 0, [], [])),
  (217, (.aload_n 0, 1, 0, 0, 0, 0, 0, [], [2])),
  (218, (.getfield 26, 3, 8, 8, 0, 0, 0, [], [])),
  (221, (.iload 6, 2, 6, 0, 0, 0, 0, [], [])),
  (223, (.iconst 2, 1, 0, 0, 0, 2, 0, [], [])),
  (224, (.idiv, 1, 0, 0, 0, 0, 0, [], [])),
  (225, (.iload 8, 2, 8, 0, 0, 0, 0, [], [])),
  (227, (.iastore, 1, 0, 0, 0, 0, 0, [], [])),
  (228, (.aload_n 0, 1, 0, 0, 0, 0, 0, [], [2, 6])),
  (229, (.iload_n 3, 1, 3, 0, 0, 0, 0, [], [])),
  (230, (.iload 7, 2, 7, 0, 0, 0, 0, [], [])),
  (232, (.iload 5, 2, 5, 0, 0, 0, 0, [], [])),
  (234, (.iconst 1, 1, 0, 0, 0, 1, 0, [], [])),
  (235, (.iadd, 1, 0, 0, 0, 0, 0, [], [])),
  (236, (.iconst 2, 1, 0, 0, 0, 2, 0, [], [])),
  (237, (.iload 8, 2, 8, 0, 0, 0, 0, [], [])),
  (239, (.imul, 1, 0, 0, 0, 0, 0, [], [])),
  (240, (.invokevirtual 223, 3, 149, 5, 8, 0, 0, [], [])),
  (243, (.aload_n 0, 1, 0, 0, 0, 0, 0, [], [])),
  (244, (.iload 7, 2, 7, 0, 0, 0, 0, [], [])),
  (246, (.iconst 1, 1, 0, 0, 0, 1, 0, [], [])),
  (247, (.iadd, 1, 0, 0, 0, 0, 0, [], [])),
  (248, (.iload 4, 2, 4, 0, 0, 0, 0, [], [])),
  (250, (.iload 5, 2, 5, 0, 0, 0, 0, [], [])),
  (252, (.iconst 1, 1, 0, 0, 0, 1, 0, [], [])),
  (253, (.iadd, 1, 0, 0, 0, 0, 0, [], [])),
  (254, (.iconst 2, 1, 0, 0, 0, 2, 0, [], [])),
  (255, (.iload 8, 2, 8, 0, 0, 0, 0, [], [])),
  (257, (.imul, 1, 0, 0, 0, 0, 0, [], [])),
  (258, (.iconst 1, 1, 0, 0, 0, 1, 0, [], [])),
  (259, (.iadd, 1, 0, 0, 0, 0, 0, [], [])),
  (260, (.invokevirtual 223, 3, 149, 5, 8, 0, 0, [], [])),
  (263, (.goto (-186), 3, 77, 0, 0, 0, 0, [], [2, 3, 4, 5, 6, 7, 8])),
  (266, (.return_, 1, 0, 0, 0, 0, 0, [], [0, 1, 2, 3, 4, 5, 6, 7, 8]))
  ]
def tbX8_longest : List (Nat × jm_I) := [
  (0, (.aload_n 0, 1, 0, 0, 0, 0, 0, [], [])),
  (1, (.iload_n 1, 1, 1, 0, 0, 0, 0, [], [])),
  (2, (.invokevirtual 229, 3, 150, 2, 8, 0, 0, [], [])),
  (5, (.iconst 0, 1, 0, 0, 0, 0, 0, [], [])),
  (6, (.istore_n 2, 1, 2, 0, 0, 0, 0, [], [])),
  (7, (.iconst 0, 1, 0, 0, 0, 0, 0, [], [])),
  (8, (.istore_n 3, 1, 3, 0, 0, 0, 0, [], [])),
  (9, (.iload_n 3, 1, 3, 0, 0, 0, 0, [], [1])),
  (10, (.bipush 24, 2, 0, 0, 0, 24, 0, [], [])),
  (12, (.if_icmp .ge 34, 3, 46, 0, 0, 0, 0, [], [])),
  (15, (.aload_n 0, 1, 0, 0, 0, 0, 0, [], [])),
  (16, (.getfield 29, 3, 8, 9, 0, 0, 0, [], [])),
  (19, (.iload_n 3, 1, 3, 0, 0, 0, 0, [], [])),
  (20, (.iaload, 1, 0, 0, 0, 0, 0, [], [])),
  (21, (.iconst 1, 1, 0, 0, 0, 1, 0, [], [])),
  (22, (.iadd, 1, 0, 0, 0, 0, 0, [], [])),
  (23, (.iload_n 2, 1, 2, 0, 0, 0, 0, [], [])),
  (24, (.if_icmp .le 14, 3, 38, 0, 0, 0, 0, [], [])),
  (27, (.aload_n 0, 1, 0, 0, 0, 0, 0, [], [])),
  (28, (.getfield 29, 3, 8, 9, 0, 0, 0, [], [])),
  (31, (.iload_n 3, 1, 3, 0, 0, 0, 0, [], [])),
  (32, (.iaload, 1, 0, 0, 0, 0, 0, [], [])),
  (33, (.iconst 1, 1, 0, 0, 0, 1, 0, [], [])),
  (34, (.iadd, 1, 0, 0, 0, 0, 0, [], [])),
  (35, (.goto 4, 3, 39, 0, 0, 0, 0, [], [])),
  (38, (.iload_n 2, 1, 2, 0, 0, 0, 0, [], [1])),
  (39, (.istore_n 2, 1, 2, 0, 0, 0, 0, [], [1, 2])),
  (40, (.iinc 3 1, 3, 3, 0, 0, 1, 0, [], [])),
  (43, (.goto (-34), 3, 9, 0, 0, 0, 0, [], [])),
  (46, (.iload_n 2, 1, 2, 0, 0, 0, 0, [], [0, 1, 3])),
  (47, (.ireturn, 1, 0, 0, 0, 0, 0, [], []))
  ]
def tbX8_topOf : List (Nat × jm_I) := [
  (0, (.aload_n 0, 1, 0, 0, 0, 0, 0, [], [])),
  (1, (.iload_n 1, 1, 1, 0, 0, 0, 0, [], [])),
  (2, (.invokevirtual 229, 3, 150, 2, 8, 0, 0, [], [])),
  (5, (.aload_n 0, 1, 0, 0, 0, 0, 0, [], [])),
  (6, (.getfield 220, 3, 8, 6, 0, 0, 0, [], [])),
  (9, (.ireturn, 1, 0, 0, 0, 0, 0, [], []))
  ]
def tbX8_depthOf : List (Nat × jm_I) := [
  (0, (.aload_n 0, 1, 0, 0, 0, 0, 0, [], [])),
  (1, (.iload_n 1, 1, 1, 0, 0, 0, 0, [], [])),
  (2, (.invokevirtual 229, 3, 150, 2, 8, 0, 0, [], [])),
  (5, (.aload_n 0, 1, 0, 0, 0, 0, 0, [], [])),
  (6, (.getfield 29, 3, 8, 9, 0, 0, 0, [], [])),
  (9, (.iload_n 2, 1, 2, 0, 0, 0, 0, [], [])),
  (10, (.iaload, 1, 0, 0, 0, 0, 0, [], [])),
  (11, (.ireturn, 1, 0, 0, 0, 0, 0, [], []))
  ]
def tbX8_farFrom : List (Nat × jm_I) := [
  (0, (.iload_n 3, 1, 3, 0, 0, 0, 0, [], [])),
  (1, (.aload_n 0, 1, 0, 0, 0, 0, 0, [], [])),
  (2, (.iload_n 1, 1, 1, 0, 0, 0, 0, [], [])),
  (3, (.iload_n 2, 1, 2, 0, 0, 0, 0, [], [])),
  (4, (.invokevirtual 121, 3, 103, 3, 8, 0, 0, [], [])),
  (7, (.isub, 1, 0, 0, 0, 0, 0, [], [])),
  (8, (.istore 5, 2, 5, 0, 0, 0, 0, [], [])),
  (10, (.iload 4, 2, 4, 0, 0, 0, 0, [], [])),
  (12, (.aload_n 0, 1, 0, 0, 0, 0, 0, [], [])),
  (13, (.iload_n 1, 1, 1, 0, 0, 0, 0, [], [])),
  (14, (.iload_n 2, 1, 2, 0, 0, 0, 0, [], [])),
  (15, (.invokevirtual 128, 3, 104, 3, 8, 0, 0, [], [])),
  (18, (.isub, 1, 0, 0, 0, 0, 0, [], [])),
  (19, (.istore 6, 2, 6, 0, 0, 0, 0, [], [])),
  (21, (.iload 5, 2, 5, 0, 0, 0, 0, [], [])),
  (23, (.iload 5, 2, 5, 0, 0, 0, 0, [], [])),
  (25, (.imul, 1, 0, 0, 0, 0, 0, [], [])),
  (26, (.iload 6, 2, 6, 0, 0, 0, 0, [], [])),
  (28, (.iload 6, 2, 6, 0, 0, 0, 0, [], [])),
  (30, (.imul, 1, 0, 0, 0, 0, 0, [], [])),
  (31, (.iadd, 1, 0, 0, 0, 0, 0, [], [])),
  (32, (.ireturn, 1, 0, 0, 0, 0, 0, [], []))
  ]
def tbX8_looked : List (Nat × jm_I) := [
  (0, (.aload_n 0, 1, 0, 0, 0, 0, 0, [], [])),
  (1, (.iload_n 1, 1, 1, 0, 0, 0, 0, [], [])),
  (2, (.invokevirtual 229, 3, 150, 2, 8, 0, 0, [], [])),
  (5, (.iconst 0, 1, 0, 0, 0, 0, 0, [], [])),
  (6, (.istore 5, 2, 5, 0, 0, 0, 0, [], [])),
  (8, (.aload_n 0, 1, 0, 0, 0, 0, 0, [], [])),
  (9, (.iconst 0, 1, 0, 0, 0, 0, 0, [], [])),
  (10, (.putfield 217, 3, 8, 11, 0, 0, 0, [], [])),
  (13, (.aload_n 0, 1, 0, 0, 0, 0, 0, [], [])),
  (14, (.getfield 220, 3, 8, 6, 0, 0, 0, [], [])),
  (17, (.iconst (-1), 1, 0, 0, 0, (-1), 0, [], [])),
  (18, (.if_icmp .eq 14, 3, 32, 0, 0, 0, 0, [], [])),
  (21, (.aload_n 0, 1, 0, 0, 0, 0, 0, [], [])),
  (22, (.aload_n 0, 1, 0, 0, 0, 0, 0, [], [])),
  (23, (.getfield 220, 3, 8, 6, 0, 0, 0, [], [])),
  (26, (.iconst 0, 1, 0, 0, 0, 0, 0, [], [])),
  (27, (.iconst 0, 1, 0, 0, 0, 0, 0, [], [])),
  (28, (.iconst 0, 1, 0, 0, 0, 0, 0, [], [])),
  (29, (.invokevirtual 223, 3, 149, 5, 8, 0, 0, [], [])),
  (32, (.aload_n 0, 1, 0, 0, 0, 0, 0, [], [6, 7])),
  (33, (.getfield 217, 3, 8, 11, 0, 0, 0, [], [])),
  (36, (.ifCond .le 145, 3, 181, 0, 0, 0, 0, [], [])),
  (39, (.aload_n 0, 1, 0, 0, 0, 0, 0, [], [])),
  (40, (.dup, 1, 0, 0, 0, 0, 0, [], [])),
  (41, (.getfield 217, 3, 8, 11, 0, 0, 0, [], [])),
  (44, (.iconst 1, 1, 0, 0, 0, 1, 0, [], [])),
  (45, (.isub, 1, 0, 0, 0, 0, 0, [], [])),
  (46, (.putfield 217, 3, 8, 11, 0, 0, 0, [], [])),
  (49, (.aload_n 0, 1, 0, 0, 0, 0, 0, [], [])),
  (50, (.getfield 35, 3, 8, 12, 0, 0, 0, [], [])),
  (53, (.aload_n 0, 1, 0, 0, 0, 0, 0, [], [])),
  (54, (.getfield 217, 3, 8, 11, 0, 0, 0, [], [])),
  (57, (.iaload, 1, 0, 0, 0, 0, 0, [], [])),
  (58, (.istore 6, 2, 6, 0, 0, 0, 0, [], [])),
  (60, (.iinc 5 1, 3, 5, 0, 0, 1, 0, [], [])),
  (63, (.aload_n 0, 1, 0, 0, 0, 0, 0, [], [])),
  (64, (.getfield 29, 3, 8, 9, 0, 0, 0, [], [])),
  (67, (.iload 6, 2, 6, 0, 0, 0, 0, [], [])),
  (69, (.iaload, 1, 0, 0, 0, 0, 0, [], [])),
  (70, (.iconst 2, 1, 0, 0, 0, 2, 0, [], [])),
  (71, (.irem, 1, 0, 0, 0, 0, 0, [], [])),
  (72, (.ifCond .ne 15, 3, 87, 0, 0, 0, 0, [], [])),
  (75, (.iload_n 2, 1, 2, 0, 0, 0, 0, [], [])),
  (76, (.aload_n 0, 1, 0, 0, 0, 0, 0, [], [])),
  (77, (.iload_n 1, 1, 1, 0, 0, 0, 0, [], [])),
  (78, (.iload 6, 2, 6, 0, 0, 0, 0, [], [])),
  (80, (.invokevirtual 121, 3, 103, 3, 8, 0, 0, [], [])),
  (83, (.isub, 1, 0, 0, 0, 0, 0, [], [])),
  (84, (.goto 12, 3, 96, 0, 0, 0, 0, [], [])),
  (87, (.iload_n 3, 1, 3, 0, 0, 0, 0, [], [7])),
  (88, (.aload_n 0, 1, 0, 0, 0, 0, 0, [], [])),
  (89, (.iload_n 1, 1, 1, 0, 0, 0, 0, [], [])),
  (90, (.iload 6, 2, 6, 0, 0, 0, 0, [], [])),
  (92, (.invokevirtual 128, 3, 104, 3, 8, 0, 0, [], [])),
  (95, (.isub, 1, 0, 0, 0, 0, 0, [], [])),
  (96, (.istore 7, 2, 7, 0, 0, 0, 0, [], [7])),
  (98, (.aload_n 0, 1, 0, 0, 0, 0, 0, [], [])),
  (99, (.getfield 23, 3, 8, 7, 0, 0, 0, [], [])),
  (102, (.iload 6, 2, 6, 0, 0, 0, 0, [], [])),
  (104, (.iaload, 1, 0, 0, 0, 0, 0, [], [])),
  (105, (.iconst (-1), 1, 0, 0, 0, (-1), 0, [], [])),
  (106, (.if_icmp .eq 32, 3, 138, 0, 0, 0, 0, [], [])),
  (109, (.iload 7, 2, 7, 0, 0, 0, 0, [], [])),
  (111, (.ifCond .le 13, 3, 124, 0, 0, 0, 0, [], [])),
  (114, (.iload 7, 2, 7, 0, 0, 0, 0, [], [])),
  (116, (.iload 7, 2, 7, 0, 0, 0, 0, [], [])),
  (118, (.imul, 1, 0, 0, 0, 0, 0, [], [])),
  (119, (.iload 4, 2, 4, 0, 0, 0, 0, [], [])),
  (121, (.if_icmp .gt 17, 3, 138, 0, 0, 0, 0, [], [])),
  (124, (.aload_n 0, 1, 0, 0, 0, 0, 0, [], [])),
  (125, (.aload_n 0, 1, 0, 0, 0, 0, 0, [], [])),
  (126, (.getfield 23, 3, 8, 7, 0, 0, 0, [], [])),
  (129, (.iload 6, 2, 6, 0, 0, 0, 0, [], [])),
  (131, (.iaload, 1, 0, 0, 0, 0, 0, [], [])),
  (132, (.iconst 0, 1, 0, 0, 0, 0, 0, [], [])),
  (133, (.iconst 0, 1, 0, 0, 0, 0, 0, [], [])),
  (134, (.iconst 0, 1, 0, 0, 0, 0, 0, [], [])),
  (135, (.invokevirtual 223, 3, 149, 5, 8, 0, 0, [], [])),
  (138, (.aload_n 0, 1, 0, 0, 0, 0, 0, [], [])),
  (139, (.getfield 26, 3, 8, 8, 0, 0, 0, [], [])),
  (142, (.iload 6, 2, 6, 0, 0, 0, 0, [], [])),
  (144, (.iaload, 1, 0, 0, 0, 0, 0, [], [])),
  (145, (.iconst (-1), 1, 0, 0, 0, (-1), 0, [], [])),
  (146, (.if_icmp .eq 32, 3, 178, 0, 0, 0, 0, [], [])),
  (149, (.iload 7, 2, 7, 0, 0, 0, 0, [], [])),
  (151, (.ifCond .ge 13, 3, 164, 0, 0, 0, 0, [], [])),
  (154, (.iload 7, 2, 7, 0, 0, 0, 0, [], [])),
  (156, (.iload 7, 2, 7, 0, 0, 0, 0, [], [])),
  (158, (.imul, 1, 0, 0, 0, 0, 0, [], [])),
  (159, (.iload 4, 2, 4, 0, 0, 0, 0, [], [])),
  (161, (.if_icmp .gt 17, 3, 178, 0, 0, 0, 0, [], [])),
  (164, (.aload_n 0, 1, 0, 0, 0, 0, 0, [], [7])),
  (165, (.aload_n 0, 1, 0, 0, 0, 0, 0, [], [])),
  (166, (.getfield 26, 3, 8, 8, 0, 0, 0, [], [])),
  (169, (.iload 6, 2, 6, 0, 0, 0, 0, [], [])),
  (171, (.iaload, 1, 0, 0, 0, 0, 0, [], [])),
  (172, (.iconst 0, 1, 0, 0, 0, 0, 0, [], [])),
  (173, (.iconst 0, 1, 0, 0, 0, 0, 0, [], [])),
  (174, (.iconst 0, 1, 0, 0, 0, 0, 0, [], [])),
  (175, (.invokevirtual 223, 3, 149, 5, 8, 0, 0, [], [])),
  (178, (.goto (-146), 3, 32, 0, 0, 0, 0, [], [6, 7])),
  (181, (.iload 5, 2, 5, 0, 0, 0, 0, [], [0, 1, 2, 3, 4, 6, 7])),
  (183, (.ireturn, 1, 0, 0, 0, 0, 0, [], []))
  ]
def tbX8_within : List (Nat × jm_I) := [
  (0, (.aload_n 0, 1, 0, 0, 0, 0, 0, [], [])),
  (1, (.iload_n 1, 1, 1, 0, 0, 0, 0, [], [])),
  (2, (.invokevirtual 76, 3, 96, 2, 8, 0, 0, [], [])),
  (5, (.ifCond .ne 6, 3, 11, 0, 0, 0, 0, [], [])),
  (8, (.ldc 83, 2, 0, 0, 0, (-1000000001), 0, [], [])),
  (10, (.ireturn, 1, 0, 0, 0, 0, 0, [], [])),
  (11, (.iload_n 2, 1, 2, 0, 0, 0, 0, [], [6, 7])),
  (12, (.invokestatic 84, 3, 98, 1, 0, 0, 0, [], [])),
  (15, (.ifCond .eq 36, 3, 51, 0, 0, 0, 0, [], [])),
  (18, (.iload_n 3, 1, 3, 0, 0, 0, 0, [], [])),
  (19, (.invokestatic 84, 3, 98, 1, 0, 0, 0, [], [])),
  (22, (.ifCond .eq 29, 3, 51, 0, 0, 0, 0, [], [])),
  (25, (.iload 4, 2, 4, 0, 0, 0, 0, [], [])),
  (27, (.i2l, 1, 0, 0, 0, 0, 0, [], [])),
  (28, (.lconst 0, 1, 0, 0, 0, 0, 0, [], [])),
  (29, (.ldc2_w 232, 3, 0, 0, 0, 0, 9999, [], [])),
  (32, (.invokestatic 47, 3, 93, 3, 0, 0, 0, [], [])),
  (35, (.ifCond .eq 16, 3, 51, 0, 0, 0, 0, [], [])),
  (38, (.iload 5, 2, 5, 0, 0, 0, 0, [], [])),
  (40, (.i2l, 1, 0, 0, 0, 0, 0, [], [])),
  (41, (.lconst 0, 1, 0, 0, 0, 0, 0, [], [])),
  (42, (.ldc2_w 234, 3, 0, 0, 0, 0, 3, [], [])),
  (45, (.invokestatic 47, 3, 93, 3, 0, 0, 0, [], [])),
  (48, (.ifCond .ne 6, 3, 54, 0, 0, 0, 0, [], [])),
  (51, (.ldc 87, 2, 0, 0, 0, (-1000000002), 0, [], [0, 1, 2, 3, 4, 5, 6, 7])),
  (53, (.ireturn, 1, 0, 0, 0, 0, 0, [], [])),
  (54, (.iconst 0, 1, 0, 0, 0, 0, 0, [], [6, 7])),
  (55, (.istore 6, 2, 6, 0, 0, 0, 0, [], [])),
  (57, (.iconst 0, 1, 0, 0, 0, 0, 0, [], [])),
  (58, (.istore 7, 2, 7, 0, 0, 0, 0, [], [])),
  (60, (.iload 7, 2, 7, 0, 0, 0, 0, [], [])),
  (62, (.bipush 24, 2, 0, 0, 0, 24, 0, [], [])),
  (64, (.if_icmp .ge 49, 3, 113, 0, 0, 0, 0, [], [])),
  (67, (.iload 6, 2, 6, 0, 0, 0, 0, [], [])),
  (69, (.aload_n 0, 1, 0, 0, 0, 0, 0, [], [])),
  (70, (.iload_n 1, 1, 1, 0, 0, 0, 0, [], [])),
  (71, (.invokevirtual 88, 3, 102, 2, 8, 0, 0, [], [])),
  (74, (.iload 7, 2, 7, 0, 0, 0, 0, [], [])),
  (76, (.invokestatic 91, 3, 94, 2, 0, 0, 0, [], [])),
  (79, (.ifCond .eq 24, 3, 103, 0, 0, 0, 0, [], [])),
  (82, (.aload_n 0, 1, 0, 0, 0, 0, 0, [], [])),
  (83, (.iload_n 1, 1, 1, 0, 0, 0, 0, [], [])),
  (84, (.iload 7, 2, 7, 0, 0, 0, 0, [], [])),
  (86, (.iload_n 2, 1, 2, 0, 0, 0, 0, [], [])),
  (87, (.iload_n 3, 1, 3, 0, 0, 0, 0, [], [])),
  (88, (.invokevirtual 236, 3, 154, 5, 8, 0, 0, [], [])),
  (91, (.iload 4, 2, 4, 0, 0, 0, 0, [], [])),
  (93, (.if_icmp .gt 10, 3, 103, 0, 0, 0, 0, [], [])),
  (96, (.iconst 1, 1, 0, 0, 0, 1, 0, [], [])),
  (97, (.iload 7, 2, 7, 0, 0, 0, 0, [], [])),
  (99, (.ishl, 1, 0, 0, 0, 0, 0, [], [])),
  (100, (.goto 4, 3, 104, 0, 0, 0, 0, [], [])),
  (103, (.iconst 0, 1, 0, 0, 0, 0, 0, [], [6])),
  (104, (.ior, 1, 0, 0, 0, 0, 0, [], [6])),
  (105, (.istore 6, 2, 6, 0, 0, 0, 0, [], [])),
  (107, (.iinc 7 1, 3, 7, 0, 0, 1, 0, [], [])),
  (110, (.goto (-50), 3, 60, 0, 0, 0, 0, [], [])),
  (113, (.iload 5, 2, 5, 0, 0, 0, 0, [], [7])),
  (115, (.ifCond .ne 11, 3, 126, 0, 0, 0, 0, [], [])),
  (118, (.iload 6, 2, 6, 0, 0, 0, 0, [], [])),
  (120, (.invokestatic 99, 3, 95, 1, 0, 0, 0, [], [])),
  (123, (.goto 38, 3, 161, 0, 0, 0, 0, [], [])),
  (126, (.iload 5, 2, 5, 0, 0, 0, 0, [], [7])),
  (128, (.iconst 1, 1, 0, 0, 0, 1, 0, [], [])),
  (129, (.if_icmp .ne 8, 3, 137, 0, 0, 0, 0, [], [])),
  (132, (.iload 6, 2, 6, 0, 0, 0, 0, [], [])),
  (134, (.goto 27, 3, 161, 0, 0, 0, 0, [], [])),
  (137, (.iload 5, 2, 5, 0, 0, 0, 0, [], [7])),
  (139, (.iconst 2, 1, 0, 0, 0, 2, 0, [], [])),
  (140, (.if_icmp .ne 12, 3, 152, 0, 0, 0, 0, [], [])),
  (143, (.aload_n 0, 1, 0, 0, 0, 0, 0, [], [])),
  (144, (.iload 6, 2, 6, 0, 0, 0, 0, [], [])),
  (146, (.invokevirtual 143, 3, 119, 2, 8, 0, 0, [], [])),
  (149, (.goto 12, 3, 161, 0, 0, 0, 0, [], [])),
  (152, (.aload_n 0, 1, 0, 0, 0, 0, 0, [], [5, 6, 7])),
  (153, (.iload_n 1, 1, 1, 0, 0, 0, 0, [], [])),
  (154, (.iload_n 2, 1, 2, 0, 0, 0, 0, [], [])),
  (155, (.iload_n 3, 1, 3, 0, 0, 0, 0, [], [])),
  (156, (.iload 4, 2, 4, 0, 0, 0, 0, [], [])),
  (158, (.invokevirtual 239, 3, 155, 5, 8, 0, 0, [], [])),
  (161, (.ireturn, 1, 0, 0, 0, 0, 0, [], [0, 1, 2, 3, 4, 5, 6, 7]))
  ]
def tbX8_nearest : List (Nat × jm_I) := [
  (0, (.aload_n 0, 1, 0, 0, 0, 0, 0, [], [])),
  (1, (.iload_n 1, 1, 1, 0, 0, 0, 0, [], [])),
  (2, (.invokevirtual 76, 3, 96, 2, 8, 0, 0, [], [])),
  (5, (.ifCond .ne 6, 3, 11, 0, 0, 0, 0, [], [])),
  (8, (.ldc 83, 2, 0, 0, 0, (-1000000001), 0, [], [])),
  (10, (.ireturn, 1, 0, 0, 0, 0, 0, [], [])),
  (11, (.iload_n 2, 1, 2, 0, 0, 0, 0, [], [4, 5, 6])),
  (12, (.invokestatic 84, 3, 98, 1, 0, 0, 0, [], [])),
  (15, (.ifCond .eq 10, 3, 25, 0, 0, 0, 0, [], [])),
  (18, (.iload_n 3, 1, 3, 0, 0, 0, 0, [], [])),
  (19, (.invokestatic 84, 3, 98, 1, 0, 0, 0, [], [])),
  (22, (.ifCond .ne 6, 3, 28, 0, 0, 0, 0, [], [])),
  (25, (.ldc 87, 2, 0, 0, 0, (-1000000002), 0, [], [0, 1, 2, 3, 4, 5, 6])),
  (27, (.ireturn, 1, 0, 0, 0, 0, 0, [], [])),
  (28, (.iconst (-1), 1, 0, 0, 0, (-1), 0, [], [4, 5, 6])),
  (29, (.istore 4, 2, 4, 0, 0, 0, 0, [], [])),
  (31, (.iconst 0, 1, 0, 0, 0, 0, 0, [], [])),
  (32, (.istore 5, 2, 5, 0, 0, 0, 0, [], [])),
  (34, (.iload 5, 2, 5, 0, 0, 0, 0, [], [6])),
  (36, (.bipush 24, 2, 0, 0, 0, 24, 0, [], [])),
  (38, (.if_icmp .ge 70, 3, 108, 0, 0, 0, 0, [], [])),
  (41, (.aload_n 0, 1, 0, 0, 0, 0, 0, [], [])),
  (42, (.iload_n 1, 1, 1, 0, 0, 0, 0, [], [])),
  (43, (.invokevirtual 88, 3, 102, 2, 8, 0, 0, [], [])),
  (46, (.iload 5, 2, 5, 0, 0, 0, 0, [], [])),
  (48, (.invokestatic 91, 3, 94, 2, 0, 0, 0, [], [])),
  (51, (.ifCond .eq 34, 3, 85, 0, 0, 0, 0, [], [])),
  (54, (.iload 4, 2, 4, 0, 0, 0, 0, [], [])),
  (56, (.iconst (-1), 1, 0, 0, 0, (-1), 0, [], [])),
  (57, (.if_icmp .eq 24, 3, 81, 0, 0, 0, 0, [], [])),
  (60, (.aload_n 0, 1, 0, 0, 0, 0, 0, [], [])),
  (61, (.iload_n 1, 1, 1, 0, 0, 0, 0, [], [])),
  (62, (.iload 5, 2, 5, 0, 0, 0, 0, [], [])),
  (64, (.iload_n 2, 1, 2, 0, 0, 0, 0, [], [])),
  (65, (.iload_n 3, 1, 3, 0, 0, 0, 0, [], [])),
  (66, (.invokevirtual 236, 3, 154, 5, 8, 0, 0, [], [])),
  (69, (.aload_n 0, 1, 0, 0, 0, 0, 0, [], [])),
  (70, (.iload_n 1, 1, 1, 0, 0, 0, 0, [], [])),
  (71, (.iload 4, 2, 4, 0, 0, 0, 0, [], [])),
  (73, (.iload_n 2, 1, 2, 0, 0, 0, 0, [], [])),
  (74, (.iload_n 3, 1, 3, 0, 0, 0, 0, [], [])),
  (75, (.invokevirtual 236, 3, 154, 5, 8, 0, 0, [], [])),
  (78, (.if_icmp .ge 7, 3, 85, 0, 0, 0, 0, [], [])),
  (81, (.iconst 1, 1, 0, 0, 0, 1, 0, [], [6])),
  (82, (.goto 4, 3, 86, 0, 0, 0, 0, [], [])),
  (85, (.iconst 0, 1, 0, 0, 0, 0, 0, [], [6])),
  (86, (.istore 6, 2, 6, 0, 0, 0, 0, [], [6])),
  (88, (.iload 6, 2, 6, 0, 0, 0, 0, [], [])),
  (90, (.ifCond .eq 8, 3, 98, 0, 0, 0, 0, [], [])),
  (93, (.iload 5, 2, 5, 0, 0, 0, 0, [], [])),
  (95, (.goto 5, 3, 100, 0, 0, 0, 0, [], [])),
  (98, (.iload 4, 2, 4, 0, 0, 0, 0, [], [6])),
  (100, (.istore 4, 2, 4, 0, 0, 0, 0, [], [4, 6])),
  (102, (.iinc 5 1, 3, 5, 0, 0, 1, 0, [], [])),
  (105, (.goto (-71), 3, 34, 0, 0, 0, 0, [], [])),
  (108, (.iload 4, 2, 4, 0, 0, 0, 0, [], [0, 1, 2, 3, 5, 6])),
  (110, (.ireturn, 1, 0, 0, 0, 0, 0, [], []))
  ]
def tbX8_below : List (Nat × jm_I) := [
  (0, (.aload_n 0, 1, 0, 0, 0, 0, 0, [], [])),
  (1, (.iload_n 1, 1, 1, 0, 0, 0, 0, [], [])),
  (2, (.invokevirtual 76, 3, 96, 2, 8, 0, 0, [], [])),
  (5, (.ifCond .eq 10, 3, 15, 0, 0, 0, 0, [], [])),
  (8, (.iload_n 2, 1, 2, 0, 0, 0, 0, [], [])),
  (9, (.invokestatic 80, 3, 97, 1, 0, 0, 0, [], [])),
  (12, (.ifCond .ne 6, 3, 18, 0, 0, 0, 0, [], [])),
  (15, (.ldc 83, 2, 0, 0, 0, (-1000000001), 0, [], [0, 1, 2, 3])),
  (17, (.ireturn, 1, 0, 0, 0, 0, 0, [], [])),
  (18, (.iload_n 3, 1, 3, 0, 0, 0, 0, [], [])),
  (19, (.i2l, 1, 0, 0, 0, 0, 0, [], [])),
  (20, (.lconst 0, 1, 0, 0, 0, 0, 0, [], [])),
  (21, (.lconst 1, 1, 0, 0, 0, 0, 1, [], [])),
  (22, (.invokestatic 47, 3, 93, 3, 0, 0, 0, [], [])),
  (25, (.ifCond .ne 6, 3, 31, 0, 0, 0, 0, [], [])),
  (28, (.ldc 87, 2, 0, 0, 0, (-1000000002), 0, [], [])),
  (30, (.ireturn, 1, 0, 0, 0, 0, 0, [], [])),
  (31, (.aload_n 0, 1, 0, 0, 0, 0, 0, [], [])),
  (32, (.iload_n 1, 1, 1, 0, 0, 0, 0, [], [])),
  (33, (.invokevirtual 229, 3, 150, 2, 8, 0, 0, [], [])),
  (36, (.iload_n 3, 1, 3, 0, 0, 0, 0, [], [])),
  (37, (.ifCond .ne 12, 3, 49, 0, 0, 0, 0, [], [])),
  (40, (.aload_n 0, 1, 0, 0, 0, 0, 0, [], [])),
  (41, (.getfield 23, 3, 8, 7, 0, 0, 0, [], [])),
  (44, (.iload_n 2, 1, 2, 0, 0, 0, 0, [], [])),
  (45, (.iaload, 1, 0, 0, 0, 0, 0, [], [])),
  (46, (.goto 9, 3, 55, 0, 0, 0, 0, [], [])),
  (49, (.aload_n 0, 1, 0, 0, 0, 0, 0, [], [1, 3])),
  (50, (.getfield 26, 3, 8, 8, 0, 0, 0, [], [])),
  (53, (.iload_n 2, 1, 2, 0, 0, 0, 0, [], [])),
  (54, (.iaload, 1, 0, 0, 0, 0, 0, [], [])),
  (55, (.ireturn, 1, 0, 0, 0, 0, 0, [], [0, 1, 2, 3]))
  ]
def tbX8_steps : List (Nat × jm_I) := [
  (0, (.aload_n 0, 1, 0, 0, 0, 0, 0, [], [])),
  (1, (.iload_n 1, 1, 1, 0, 0, 0, 0, [], [])),
  (2, (.invokevirtual 76, 3, 96, 2, 8, 0, 0, [], [])),
  (5, (.ifCond .eq 17, 3, 22, 0, 0, 0, 0, [], [])),
  (8, (.iload_n 2, 1, 2, 0, 0, 0, 0, [], [])),
  (9, (.invokestatic 80, 3, 97, 1, 0, 0, 0, [], [])),
  (12, (.ifCond .eq 10, 3, 22, 0, 0, 0, 0, [], [])),
  (15, (.iload_n 3, 1, 3, 0, 0, 0, 0, [], [])),
  (16, (.invokestatic 80, 3, 97, 1, 0, 0, 0, [], [])),
  (19, (.ifCond .ne 6, 3, 25, 0, 0, 0, 0, [], [])),
  (22, (.ldc 83, 2, 0, 0, 0, (-1000000001), 0, [], [0, 1, 2, 3, 4, 5, 6, 7])),
  (24, (.ireturn, 1, 0, 0, 0, 0, 0, [], [])),
  (25, (.aload_n 0, 1, 0, 0, 0, 0, 0, [], [4, 5, 6, 7])),
  (26, (.iload_n 1, 1, 1, 0, 0, 0, 0, [], [])),
  (27, (.invokevirtual 88, 3, 102, 2, 8, 0, 0, [], [])),
  (30, (.iload_n 2, 1, 2, 0, 0, 0, 0, [], [])),
  (31, (.invokestatic 91, 3, 94, 2, 0, 0, 0, [], [])),
  (34, (.ifCond .eq 9, 3, 43, 0, 0, 0, 0, [], [])),
  (37, (.iconst 1, 1, 0, 0, 0, 1, 0, [], [])),
  (38, (.iload_n 2, 1, 2, 0, 0, 0, 0, [], [])),
  (39, (.ishl, 1, 0, 0, 0, 0, 0, [], [])),
  (40, (.goto 4, 3, 44, 0, 0, 0, 0, [], [])),
  (43, (.iconst 0, 1, 0, 0, 0, 0, 0, [], [2, 4, 5, 6, 7])),
  (44, (.istore 4, 2, 4, 0, 0, 0, 0, [], [2, 4, 5, 6, 7])),
  (46, (.iconst 0, 1, 0, 0, 0, 0, 0, [], [])),
  (47, (.istore 5, 2, 5, 0, 0, 0, 0, [], [])),
  (49, (.iload 5, 2, 5, 0, 0, 0, 0, [], [2, 6, 7])),
  (51, (.bipush 24, 2, 0, 0, 0, 24, 0, [], [])),
  (53, (.if_icmp .ge 71, 3, 124, 0, 0, 0, 0, [], [])),
  (56, (.iload 4, 2, 4, 0, 0, 0, 0, [], [])),
  (58, (.iload_n 3, 1, 3, 0, 0, 0, 0, [], [])),
  (59, (.invokestatic 91, 3, 94, 2, 0, 0, 0, [], [])),
  (62, (.ifCond .eq 6, 3, 68, 0, 0, 0, 0, [], [])),
  (65, (.iload 5, 2, 5, 0, 0, 0, 0, [], [])),
  (67, (.ireturn, 1, 0, 0, 0, 0, 0, [], [])),
  (68, (.iload 4, 2, 4, 0, 0, 0, 0, [], [2, 6, 7])),
  (70, (.istore 6, 2, 6, 0, 0, 0, 0, [], [])),
  (72, (.iconst 0, 1, 0, 0, 0, 0, 0, [], [])),
  (73, (.istore 7, 2, 7, 0, 0, 0, 0, [], [])),
  (75, (.iload 7, 2, 7, 0, 0, 0, 0, [], [2])),
  (77, (.bipush 24, 2, 0, 0, 0, 24, 0, [], [])),
  (79, (.if_icmp .ge 35, 3, 114, 0, 0, 0, 0, [], [])),
  (82, (.iload 6, 2, 6, 0, 0, 0, 0, [], [])),
  (84, (.iload 4, 2, 4, 0, 0, 0, 0, [], [])),
  (86, (.iload 7, 2, 7, 0, 0, 0, 0, [], [])),
  (88, (.invokestatic 91, 3, 94, 2, 0, 0, 0, [], [])),
  (91, (.ifCond .eq 13, 3, 104, 0, 0, 0, 0, [], [])),
  (94, (.aload_n 0, 1, 0, 0, 0, 0, 0, [], [])),
  (95, (.iload_n 1, 1, 1, 0, 0, 0, 0, [], [])),
  (96, (.iload 7, 2, 7, 0, 0, 0, 0, [], [])),
  (98, (.invokevirtual 177, 3, 135, 3, 8, 0, 0, [], [])),
  (101, (.goto 4, 3, 105, 0, 0, 0, 0, [], [])),
  (104, (.iconst 0, 1, 0, 0, 0, 0, 0, [], [2, 6])),
  (105, (.ior, 1, 0, 0, 0, 0, 0, [], [2, 6])),
  (106, (.istore 6, 2, 6, 0, 0, 0, 0, [], [])),
  (108, (.iinc 7 1, 3, 7, 0, 0, 1, 0, [], [])),
  (111, (.goto (-36), 3, 75, 0, 0, 0, 0, [], [])),
  (114, (.iload 6, 2, 6, 0, 0, 0, 0, [], [2, 4, 7])),
  (116, (.istore 4, 2, 4, 0, 0, 0, 0, [], [])),
  (118, (.iinc 5 1, 3, 5, 0, 0, 1, 0, [], [])),
  (121, (.goto (-72), 3, 49, 0, 0, 0, 0, [], [])),
  (124, (.iconst (-1), 1, 0, 0, 0, (-1), 0, [], [0, 1, 2, 3, 4, 5, 6, 7])),
  (125, (.ireturn, 1, 0, 0, 0, 0, 0, [], []))
  ]
def tbX8_clumps : List (Nat × jm_I) := [
  (0, (.aload_n 0, 1, 0, 0, 0, 0, 0, [], [])),
  (1, (.iload_n 1, 1, 1, 0, 0, 0, 0, [], [])),
  (2, (.invokevirtual 76, 3, 96, 2, 8, 0, 0, [], [])),
  (5, (.ifCond .ne 6, 3, 11, 0, 0, 0, 0, [], [])),
  (8, (.ldc 83, 2, 0, 0, 0, (-1000000001), 0, [], [])),
  (10, (.ireturn, 1, 0, 0, 0, 0, 0, [], [])),
  (11, (.iload_n 2, 1, 2, 0, 0, 0, 0, [], [])),
  (12, (.i2l, 1, 0, 0, 0, 0, 0, [], [])),
  (13, (.lconst 0, 1, 0, 0, 0, 0, 0, [], [])),
  (14, (.ldc2_w 242, 3, 0, 0, 0, 0, 90, [], [])),
  (17, (.invokestatic 47, 3, 93, 3, 0, 0, 0, [], [])),
  (20, (.ifCond .eq 17, 3, 37, 0, 0, 0, 0, [], [])),
  (23, (.aload_n 0, 1, 0, 0, 0, 0, 0, [], [])),
  (24, (.iload_n 1, 1, 1, 0, 0, 0, 0, [], [])),
  (25, (.aload_n 0, 1, 0, 0, 0, 0, 0, [], [])),
  (26, (.iload_n 1, 1, 1, 0, 0, 0, 0, [], [])),
  (27, (.invokevirtual 88, 3, 102, 2, 8, 0, 0, [], [])),
  (30, (.iload_n 2, 1, 2, 0, 0, 0, 0, [], [])),
  (31, (.invokevirtual 183, 3, 121, 4, 8, 0, 0, [], [])),
  (34, (.goto 5, 3, 39, 0, 0, 0, 0, [], [])),
  (37, (.ldc 87, 2, 0, 0, 0, (-1000000002), 0, [], [0, 1, 2])),
  (39, (.ireturn, 1, 0, 0, 0, 0, 0, [], [0, 1, 2]))
  ]
def tbX8_join : List (Nat × jm_I) := [
  (0, (.aload_n 0, 1, 0, 0, 0, 0, 0, [], [])),
  (1, (.iload_n 1, 1, 1, 0, 0, 0, 0, [], [])),
  (2, (.invokevirtual 76, 3, 96, 2, 8, 0, 0, [], [])),
  (5, (.ifCond .eq 22, 3, 27, 0, 0, 0, 0, [], [])),
  (8, (.iload_n 2, 1, 2, 0, 0, 0, 0, [], [])),
  (9, (.invokestatic 80, 3, 97, 1, 0, 0, 0, [], [])),
  (12, (.ifCond .eq 15, 3, 27, 0, 0, 0, 0, [], [])),
  (15, (.iload_n 3, 1, 3, 0, 0, 0, 0, [], [])),
  (16, (.invokestatic 80, 3, 97, 1, 0, 0, 0, [], [])),
  (19, (.ifCond .eq 8, 3, 27, 0, 0, 0, 0, [], [])),
  (22, (.iload_n 2, 1, 2, 0, 0, 0, 0, [], [])),
  (23, (.iload_n 3, 1, 3, 0, 0, 0, 0, [], [])),
  (24, (.if_icmp .ne 6, 3, 30, 0, 0, 0, 0, [], [])),
  (27, (.ldc 83, 2, 0, 0, 0, (-1000000001), 0, [], [0, 1, 2, 3, 4, 5])),
  (29, (.ireturn, 1, 0, 0, 0, 0, 0, [], [])),
  (30, (.aload_n 0, 1, 0, 0, 0, 0, 0, [], [4, 5])),
  (31, (.iload_n 1, 1, 1, 0, 0, 0, 0, [], [])),
  (32, (.invokevirtual 88, 3, 102, 2, 8, 0, 0, [], [])),
  (35, (.istore 4, 2, 4, 0, 0, 0, 0, [], [])),
  (37, (.iload 4, 2, 4, 0, 0, 0, 0, [], [])),
  (39, (.iload_n 2, 1, 2, 0, 0, 0, 0, [], [])),
  (40, (.invokestatic 91, 3, 94, 2, 0, 0, 0, [], [])),
  (43, (.ifCond .eq 12, 3, 55, 0, 0, 0, 0, [], [])),
  (46, (.iload 4, 2, 4, 0, 0, 0, 0, [], [])),
  (48, (.iload_n 3, 1, 3, 0, 0, 0, 0, [], [])),
  (49, (.invokestatic 91, 3, 94, 2, 0, 0, 0, [], [])),
  (52, (.ifCond .ne 5, 3, 57, 0, 0, 0, 0, [], [])),
  (55, (.iconst (-1), 1, 0, 0, 0, (-1), 0, [], [0, 1, 2, 3, 4, 5])),
  (56, (.ireturn, 1, 0, 0, 0, 0, 0, [], [])),
  (57, (.iconst 0, 1, 0, 0, 0, 0, 0, [], [5])),
  (58, (.istore 5, 2, 5, 0, 0, 0, 0, [], [])),
  (60, (.aload_n 0, 1, 0, 0, 0, 0, 0, [], [])),
  (61, (.iload_n 1, 1, 1, 0, 0, 0, 0, [], [])),
  (62, (.iload_n 2, 1, 2, 0, 0, 0, 0, [], [])),
  (63, (.iload 4, 2, 4, 0, 0, 0, 0, [], [])),
  (65, (.iload 5, 2, 5, 0, 0, 0, 0, [], [])),
  (67, (.invokevirtual 139, 3, 120, 5, 8, 0, 0, [], [])),
  (70, (.iload_n 3, 1, 3, 0, 0, 0, 0, [], [])),
  (71, (.invokestatic 91, 3, 94, 2, 0, 0, 0, [], [])),
  (74, (.ifCond .ne 9, 3, 83, 0, 0, 0, 0, [], [])),
  (77, (.iinc 5 1, 3, 5, 0, 0, 1, 0, [], [])),
  (80, (.goto (-20), 3, 60, 0, 0, 0, 0, [], [])),
  (83, (.iload 5, 2, 5, 0, 0, 0, 0, [], [0, 1, 2, 3, 4])),
  (85, (.ireturn, 1, 0, 0, 0, 0, 0, [], []))
  ]
def tbX8_keep : List (Nat × jm_I) := [
  (0, (.iload_n 1, 1, 1, 0, 0, 0, 0, [], [])),
  (1, (.i2l, 1, 0, 0, 0, 0, 0, [], [])),
  (2, (.lconst 0, 1, 0, 0, 0, 0, 0, [], [])),
  (3, (.lconst 1, 1, 0, 0, 0, 0, 1, [], [])),
  (4, (.invokestatic 47, 3, 93, 3, 0, 0, 0, [], [])),
  (7, (.ifCond .ne 6, 3, 13, 0, 0, 0, 0, [], [])),
  (10, (.ldc 83, 2, 0, 0, 0, (-1000000001), 0, [], [])),
  (12, (.ireturn, 1, 0, 0, 0, 0, 0, [], [])),
  (13, (.aload_n 0, 1, 0, 0, 0, 0, 0, [], [])),
  (14, (.iconst 0, 1, 0, 0, 0, 0, 0, [], [])),
  (15, (.sipush 321, 3, 0, 0, 0, 321, 0, [], [])),
  (18, (.sipush 321, 3, 0, 0, 0, 321, 0, [], [])),
  (21, (.iload_n 1, 1, 1, 0, 0, 0, 0, [], [])),
  (22, (.imul, 1, 0, 0, 0, 0, 0, [], [])),
  (23, (.iadd, 1, 0, 0, 0, 0, 0, [], [])),
  (24, (.invokevirtual 59, 3, 99, 3, 8, 0, 0, [], [])),
  (27, (.aload_n 0, 1, 0, 0, 0, 0, 0, [], [])),
  (28, (.getfield 13, 3, 8, 1, 0, 0, 0, [], [])),
  (31, (.iload_n 1, 1, 1, 0, 0, 0, 0, [], [])),
  (32, (.iconst 1, 1, 0, 0, 0, 1, 0, [], [])),
  (33, (.bastore, 1, 0, 0, 0, 0, 0, [], [])),
  (34, (.aload_n 0, 1, 0, 0, 0, 0, 0, [], [])),
  (35, (.iconst 0, 1, 0, 0, 0, 0, 0, [], [])),
  (36, (.putfield 55, 3, 8, 2, 0, 0, 0, [], [])),
  (39, (.aload_n 0, 1, 0, 0, 0, 0, 0, [], [])),
  (40, (.getfield 7, 3, 8, 0, 0, 0, 0, [], [])),
  (43, (.iconst 2, 1, 0, 0, 0, 2, 0, [], [])),
  (44, (.iaload, 1, 0, 0, 0, 0, 0, [], [])),
  (45, (.ireturn, 1, 0, 0, 0, 0, 0, [], []))
  ]
def tbX8_goBack : List (Nat × jm_I) := [
  (0, (.iload_n 1, 1, 1, 0, 0, 0, 0, [], [])),
  (1, (.i2l, 1, 0, 0, 0, 0, 0, [], [])),
  (2, (.lconst 0, 1, 0, 0, 0, 0, 0, [], [])),
  (3, (.lconst 1, 1, 0, 0, 0, 0, 1, [], [])),
  (4, (.invokestatic 47, 3, 93, 3, 0, 0, 0, [], [])),
  (7, (.ifCond .ne 6, 3, 13, 0, 0, 0, 0, [], [])),
  (10, (.ldc 83, 2, 0, 0, 0, (-1000000001), 0, [], [])),
  (12, (.ireturn, 1, 0, 0, 0, 0, 0, [], [])),
  (13, (.aload_n 0, 1, 0, 0, 0, 0, 0, [], [])),
  (14, (.getfield 13, 3, 8, 1, 0, 0, 0, [], [])),
  (17, (.iload_n 1, 1, 1, 0, 0, 0, 0, [], [])),
  (18, (.baload, 1, 0, 0, 0, 0, 0, [], [])),
  (19, (.ifCond .ne 6, 3, 25, 0, 0, 0, 0, [], [])),
  (22, (.ldc 75, 2, 0, 0, 0, (-1000000003), 0, [], [])),
  (24, (.ireturn, 1, 0, 0, 0, 0, 0, [], [])),
  (25, (.aload_n 0, 1, 0, 0, 0, 0, 0, [], [])),
  (26, (.sipush 321, 3, 0, 0, 0, 321, 0, [], [])),
  (29, (.sipush 321, 3, 0, 0, 0, 321, 0, [], [])),
  (32, (.iload_n 1, 1, 1, 0, 0, 0, 0, [], [])),
  (33, (.imul, 1, 0, 0, 0, 0, 0, [], [])),
  (34, (.iadd, 1, 0, 0, 0, 0, 0, [], [])),
  (35, (.iconst 0, 1, 0, 0, 0, 0, 0, [], [])),
  (36, (.invokevirtual 59, 3, 99, 3, 8, 0, 0, [], [])),
  (39, (.aload_n 0, 1, 0, 0, 0, 0, 0, [], [])),
  (40, (.iconst 0, 1, 0, 0, 0, 0, 0, [], [])),
  (41, (.putfield 55, 3, 8, 2, 0, 0, 0, [], [])),
  (44, (.aload_n 0, 1, 0, 0, 0, 0, 0, [], [])),
  (45, (.getfield 7, 3, 8, 0, 0, 0, 0, [], [])),
  (48, (.iconst 2, 1, 0, 0, 0, 2, 0, [], [])),
  (49, (.iaload, 1, 0, 0, 0, 0, 0, [], [])),
  (50, (.ireturn, 1, 0, 0, 0, 0, 0, [], []))
  ]
end
section
/-! the program as the small machine reads it: printed by wip/whole/gen/tables.py -/
def tbJ6_bitCount_0f7a4 : List (Nat × jm_I) := [
  (0, (.iload_n 0, 1, 0, 0, 0, 0, 0, [], [])),
  (1, (.iload_n 0, 1, 0, 0, 0, 0, 0, [], [])),
  (2, (.iconst 1, 1, 0, 0, 0, 1, 0, [], [])),
  (3, (.iushr, 1, 0, 0, 0, 0, 0, [], [])),
  (4, (.ldc_w 265, 3, 0, 0, 0, 1431655765, 0, [], [])),
  (7, (.iand, 1, 0, 0, 0, 0, 0, [], [])),
  (8, (.isub, 1, 0, 0, 0, 0, 0, [], [])),
  (9, (.istore_n 0, 1, 0, 0, 0, 0, 0, [], [])),
  (10, (.iload_n 0, 1, 0, 0, 0, 0, 0, [], [])),
  (11, (.ldc_w 266, 3, 0, 0, 0, 858993459, 0, [], [])),
  (14, (.iand, 1, 0, 0, 0, 0, 0, [], [])),
  (15, (.iload_n 0, 1, 0, 0, 0, 0, 0, [], [])),
  (16, (.iconst 2, 1, 0, 0, 0, 2, 0, [], [])),
  (17, (.iushr, 1, 0, 0, 0, 0, 0, [], [])),
  (18, (.ldc_w 266, 3, 0, 0, 0, 858993459, 0, [], [])),
  (21, (.iand, 1, 0, 0, 0, 0, 0, [], [])),
  (22, (.iadd, 1, 0, 0, 0, 0, 0, [], [])),
  (23, (.istore_n 0, 1, 0, 0, 0, 0, 0, [], [])),
  (24, (.iload_n 0, 1, 0, 0, 0, 0, 0, [], [])),
  (25, (.iload_n 0, 1, 0, 0, 0, 0, 0, [], [])),
  (26, (.iconst 4, 1, 0, 0, 0, 4, 0, [], [])),
  (27, (.iushr, 1, 0, 0, 0, 0, 0, [], [])),
  (28, (.iadd, 1, 0, 0, 0, 0, 0, [], [])),
  (29, (.ldc_w 267, 3, 0, 0, 0, 252645135, 0, [], [])),
  (32, (.iand, 1, 0, 0, 0, 0, 0, [], [])),
  (33, (.istore_n 0, 1, 0, 0, 0, 0, 0, [], [])),
  (34, (.iload_n 0, 1, 0, 0, 0, 0, 0, [], [])),
  (35, (.iload_n 0, 1, 0, 0, 0, 0, 0, [], [])),
  (36, (.bipush 8, 2, 0, 0, 0, 8, 0, [], [])),
  (38, (.iushr, 1, 0, 0, 0, 0, 0, [], [])),
  (39, (.iadd, 1, 0, 0, 0, 0, 0, [], [])),
  (40, (.istore_n 0, 1, 0, 0, 0, 0, 0, [], [])),
  (41, (.iload_n 0, 1, 0, 0, 0, 0, 0, [], [])),
  (42, (.iload_n 0, 1, 0, 0, 0, 0, 0, [], [])),
  (43, (.bipush 16, 2, 0, 0, 0, 16, 0, [], [])),
  (45, (.iushr, 1, 0, 0, 0, 0, 0, [], [])),
  (46, (.iadd, 1, 0, 0, 0, 0, 0, [], [])),
  (47, (.istore_n 0, 1, 0, 0, 0, 0, 0, [], [])),
  (48, (.iload_n 0, 1, 0, 0, 0, 0, 0, [], [])),
  (49, (.bipush 63, 2, 0, 0, 0, 63, 0, [], [])),
  (51, (.iand, 1, 0, 0, 0, 0, 0, [], [])),
  (52, (.ireturn, 1, 0, 0, 0, 0, 0, [], []))
  ]
def tbJ7_fill_53178 : List (Nat × jm_I) := [
  (0, (.iconst 0, 1, 0, 0, 0, 0, 0, [], [])),
  (1, (.istore_n 2, 1, 2, 0, 0, 0, 0, [], [])),
  (2, (.aload_n 0, 1, 0, 0, 0, 0, 0, [], [])),
  (3, (.arraylength, 1, 0, 0, 0, 0, 0, [], [])),
  (4, (.istore_n 3, 1, 3, 0, 0, 0, 0, [], [])),
  (5, (.iload_n 2, 1, 2, 0, 0, 0, 0, [], [])),
  (6, (.iload_n 3, 1, 3, 0, 0, 0, 0, [], [])),
  (7, (.if_icmp .ge 13, 3, 20, 0, 0, 0, 0, [], [])),
  (10, (.aload_n 0, 1, 0, 0, 0, 0, 0, [], [])),
  (11, (.iload_n 2, 1, 2, 0, 0, 0, 0, [], [])),
  (12, (.iload_n 1, 1, 1, 0, 0, 0, 0, [], [])),
  (13, (.iastore, 1, 0, 0, 0, 0, 0, [], [])),
  (14, (.iinc 2 1, 3, 2, 0, 0, 1, 0, [], [])),
  (17, (.goto (-12), 3, 5, 0, 0, 0, 0, [], [])),
  (20, (.return_, 1, 0, 0, 0, 0, 0, [], [0, 1, 2, 3]))
  ]
def tbL_law : List (Nat × jm_I) := [
  (0, (.new 7, 3, 7, 0, 0, 0, 0, [], [])),
  (3, (.dup, 1, 0, 0, 0, 0, 0, [], [])),
  (4, (.invokespecial 9, 3, 56, 1, 0, 0, 0, [], [])),
  (7, (.astore_n 1, 1, 1, 0, 0, 0, 0, [], [])),
  (8, (.new 10, 3, 8, 0, 0, 0, 0, [], [])),
  (11, (.dup, 1, 0, 0, 0, 0, 0, [], [])),
  (12, (.invokespecial 12, 3, 92, 1, 0, 0, 0, [], [])),
  (15, (.astore_n 2, 1, 2, 0, 0, 0, 0, [], [])),
  (16, (.iconst 0, 1, 0, 0, 0, 0, 0, [], [])),
  (17, (.istore_n 3, 1, 3, 0, 0, 0, 0, [], [])),
  (18, (.iload_n 3, 1, 3, 0, 0, 0, 0, [], [])),
  (19, (.aload_n 0, 1, 0, 0, 0, 0, 0, [], [])),
  (20, (.arraylength, 1, 0, 0, 1, 0, 0, [], [])),
  (21, (.bipush 6, 2, 0, 0, 0, 6, 0, [], [])),
  (23, (.isub, 1, 0, 0, 0, 0, 0, [], [])),
  (24, (.if_icmp .gt 911, 3, 935, 0, 0, 0, 0, [], [])),
  (27, (.aload_n 0, 1, 0, 0, 0, 0, 0, [], [])),
  (28, (.iload_n 3, 1, 3, 0, 0, 0, 0, [], [])),
  (29, (.iaload, 1, 0, 0, 1, 0, 0, [], [])),
  (30, (.bipush 31, 2, 0, 0, 0, 31, 0, [], [])),
  (32, (.iand, 1, 0, 0, 0, 0, 0, [], [])),
  (33, (.tableswitch 896 0 22 #[107, 120, 133, 186, 219, 252, 285, 308, 321, 344, 377, 420, 463, 496, 539, 582, 645, 688, 731, 774, 807, 850, 873], 107, 929, 0, 0, 0, 0, [(0, 140), (1, 153), (2, 166), (3, 219), (4, 252), (5, 285), (6, 318), (7, 341), (8, 354), (9, 377), (10, 410), (11, 453), (12, 496), (13, 529), (14, 572), (15, 615), (16, 678), (17, 721), (18, 764), (19, 807), (20, 840), (21, 883), (22, 906)], [])),
  (140, (.aload_n 1, 1, 1, 0, 0, 0, 0, [], [])),
  (141, (.invokevirtual 13, 3, 57, 1, 7, 0, 0, [], [])),
  (144, (.aload_n 2, 1, 2, 0, 0, 0, 0, [], [])),
  (145, (.invokevirtual 17, 3, 107, 1, 8, 0, 0, [], [])),
  (148, (.if_icmp .eq 781, 3, 929, 0, 0, 0, 0, [], [])),
  (151, (.iconst 0, 1, 0, 0, 0, 0, 0, [], [])),
  (152, (.ireturn, 1, 0, 0, 0, 0, 0, [], [])),
  (153, (.aload_n 1, 1, 1, 0, 0, 0, 0, [], [])),
  (154, (.invokevirtual 18, 3, 58, 1, 7, 0, 0, [], [])),
  (157, (.aload_n 2, 1, 2, 0, 0, 0, 0, [], [])),
  (158, (.invokevirtual 21, 3, 108, 1, 8, 0, 0, [], [])),
  (161, (.if_icmp .eq 768, 3, 929, 0, 0, 0, 0, [], [])),
  (164, (.iconst 0, 1, 0, 0, 0, 0, 0, [], [])),
  (165, (.ireturn, 1, 0, 0, 0, 0, 0, [], [])),
  (166, (.aload_n 1, 1, 1, 0, 0, 0, 0, [], [])),
  (167, (.aload_n 0, 1, 0, 0, 0, 0, 0, [], [])),
  (168, (.iload_n 3, 1, 3, 0, 0, 0, 0, [], [])),
  (169, (.iconst 1, 1, 0, 0, 0, 1, 0, [], [])),
  (170, (.iadd, 1, 0, 0, 0, 0, 0, [], [])),
  (171, (.iaload, 1, 0, 0, 1, 0, 0, [], [])),
  (172, (.aload_n 0, 1, 0, 0, 0, 0, 0, [], [])),
  (173, (.iload_n 3, 1, 3, 0, 0, 0, 0, [], [])),
  (174, (.iconst 2, 1, 0, 0, 0, 2, 0, [], [])),
  (175, (.iadd, 1, 0, 0, 0, 0, 0, [], [])),
  (176, (.iaload, 1, 0, 0, 1, 0, 0, [], [])),
  (177, (.aload_n 0, 1, 0, 0, 0, 0, 0, [], [])),
  (178, (.iload_n 3, 1, 3, 0, 0, 0, 0, [], [])),
  (179, (.iconst 3, 1, 0, 0, 0, 3, 0, [], [])),
  (180, (.iadd, 1, 0, 0, 0, 0, 0, [], [])),
  (181, (.iaload, 1, 0, 0, 1, 0, 0, [], [])),
  (182, (.aload_n 0, 1, 0, 0, 0, 0, 0, [], [])),
  (183, (.iload_n 3, 1, 3, 0, 0, 0, 0, [], [])),
  (184, (.iconst 4, 1, 0, 0, 0, 4, 0, [], [])),
  (185, (.iadd, 1, 0, 0, 0, 0, 0, [], [])),
  (186, (.iaload, 1, 0, 0, 1, 0, 0, [], [])),
  (187, (.invokevirtual 22, 3, 59, 5, 7, 0, 0, [], [])),
  (190, (.aload_n 2, 1, 2, 0, 0, 0, 0, [], [])),
  (191, (.aload_n 0, 1, 0, 0, 0, 0, 0, [], [])),
  (192, (.iload_n 3, 1, 3, 0, 0, 0, 0, [], [])),
  (193, (.iconst 1, 1, 0, 0, 0, 1, 0, [], [])),
  (194, (.iadd, 1, 0, 0, 0, 0, 0, [], [])),
  (195, (.iaload, 1, 0, 0, 1, 0, 0, [], [])),
  (196, (.aload_n 0, 1, 0, 0, 0, 0, 0, [], [])),
  (197, (.iload_n 3, 1, 3, 0, 0, 0, 0, [], [])),
  (198, (.iconst 2, 1, 0, 0, 0, 2, 0, [], [])),
  (199, (.iadd, 1, 0, 0, 0, 0, 0, [], [])),
  (200, (.iaload, 1, 0, 0, 1, 0, 0, [], [])),
  (201, (.aload_n 0, 1, 0, 0, 0, 0, 0, [], [])),
  (202, (.iload_n 3, 1, 3, 0, 0, 0, 0, [], [])),
  (203, (.iconst 3, 1, 0, 0, 0, 3, 0, [], [])),
  (204, (.iadd, 1, 0, 0, 0, 0, 0, [], [])),
  (205, (.iaload, 1, 0, 0, 1, 0, 0, [], [])),
  (206, (.aload_n 0, 1, 0, 0, 0, 0, 0, [], [])),
  (207, (.iload_n 3, 1, 3, 0, 0, 0, 0, [], [])),
  (208, (.iconst 4, 1, 0, 0, 0, 4, 0, [], [])),
  (209, (.iadd, 1, 0, 0, 0, 0, 0, [], [])),
  (210, (.iaload, 1, 0, 0, 1, 0, 0, [], [])),
  (211, (.invokevirtual 26, 3, 109, 5, 8, 0, 0, [], [])),
  (214, (.if_icmp .eq 715, 3, 929, 0, 0, 0, 0, [], [])),
  (217, (.iconst 0, 1, 0, 0, 0, 0, 0, [], [])),
  (218, (.ireturn, 1, 0, 0, 0, 0, 0, [], [])),
  (219, (.aload_n 1, 1, 1, 0, 0, 0, 0, [], [])),
  (220, (.aload_n 0, 1, 0, 0, 0, 0, 0, [], [])),
  (221, (.iload_n 3, 1, 3, 0, 0, 0, 0, [], [])),
  (222, (.iconst 1, 1, 0, 0, 0, 1, 0, [], [])),
  (223, (.iadd, 1, 0, 0, 0, 0, 0, [], [])),
  (224, (.iaload, 1, 0, 0, 1, 0, 0, [], [])),
  (225, (.aload_n 0, 1, 0, 0, 0, 0, 0, [], [])),
  (226, (.iload_n 3, 1, 3, 0, 0, 0, 0, [], [])),
  (227, (.iconst 2, 1, 0, 0, 0, 2, 0, [], [])),
  (228, (.iadd, 1, 0, 0, 0, 0, 0, [], [])),
  (229, (.iaload, 1, 0, 0, 1, 0, 0, [], [])),
  (230, (.invokevirtual 27, 3, 60, 3, 7, 0, 0, [], [])),
  (233, (.aload_n 2, 1, 2, 0, 0, 0, 0, [], [])),
  (234, (.aload_n 0, 1, 0, 0, 0, 0, 0, [], [])),
  (235, (.iload_n 3, 1, 3, 0, 0, 0, 0, [], [])),
  (236, (.iconst 1, 1, 0, 0, 0, 1, 0, [], [])),
  (237, (.iadd, 1, 0, 0, 0, 0, 0, [], [])),
  (238, (.iaload, 1, 0, 0, 1, 0, 0, [], [])),
  (239, (.aload_n 0, 1, 0, 0, 0, 0, 0, [], [])),
  (240, (.iload_n 3, 1, 3, 0, 0, 0, 0, [], [])),
  (241, (.iconst 2, 1, 0, 0, 0, 2, 0, [], [])),
  (242, (.iadd, 1, 0, 0, 0, 0, 0, [], [])),
  (243, (.iaload, 1, 0, 0, 1, 0, 0, [], [])),
  (244, (.invokevirtual 31, 3, 110, 3, 8, 0, 0, [], [])),
  (247, (.if_icmp .eq 682, 3, 929, 0, 0, 0, 0, [], [])),
  (250, (.iconst 0, 1, 0, 0, 0, 0, 0, [], [])),
  (251, (.ireturn, 1, 0, 0, 0, 0, 0, [], [])),
  (252, (.aload_n 1, 1, 1, 0, 0, 0, 0, [], [])),
  (253, (.aload_n 0, 1, 0, 0, 0, 0, 0, [], [])),
  (254, (.iload_n 3, 1, 3, 0, 0, 0, 0, [], [])),
  (255, (.iconst 1, 1, 0, 0, 0, 1, 0, [], [])),
  (256, (.iadd, 1, 0, 0, 0, 0, 0, [], [])),
  (257, (.iaload, 1, 0, 0, 1, 0, 0, [], [])),
  (258, (.aload_n 0, 1, 0, 0, 0, 0, 0, [], [])),
  (259, (.iload_n 3, 1, 3, 0, 0, 0, 0, [], [])),
  (260, (.iconst 2, 1, 0, 0, 0, 2, 0, [], [])),
  (261, (.iadd, 1, 0, 0, 0, 0, 0, [], [])),
  (262, (.iaload, 1, 0, 0, 1, 0, 0, [], [])),
  (263, (.invokevirtual 32, 3, 61, 3, 7, 0, 0, [], [])),
  (266, (.aload_n 2, 1, 2, 0, 0, 0, 0, [], [])),
  (267, (.aload_n 0, 1, 0, 0, 0, 0, 0, [], [])),
  (268, (.iload_n 3, 1, 3, 0, 0, 0, 0, [], [])),
  (269, (.iconst 1, 1, 0, 0, 0, 1, 0, [], [])),
  (270, (.iadd, 1, 0, 0, 0, 0, 0, [], [])),
  (271, (.iaload, 1, 0, 0, 1, 0, 0, [], [])),
  (272, (.aload_n 0, 1, 0, 0, 0, 0, 0, [], [])),
  (273, (.iload_n 3, 1, 3, 0, 0, 0, 0, [], [])),
  (274, (.iconst 2, 1, 0, 0, 0, 2, 0, [], [])),
  (275, (.iadd, 1, 0, 0, 0, 0, 0, [], [])),
  (276, (.iaload, 1, 0, 0, 1, 0, 0, [], [])),
  (277, (.invokevirtual 35, 3, 111, 3, 8, 0, 0, [], [])),
  (280, (.if_icmp .eq 649, 3, 929, 0, 0, 0, 0, [], [])),
  (283, (.iconst 0, 1, 0, 0, 0, 0, 0, [], [])),
  (284, (.ireturn, 1, 0, 0, 0, 0, 0, [], [])),
  (285, (.aload_n 1, 1, 1, 0, 0, 0, 0, [], [])),
  (286, (.aload_n 0, 1, 0, 0, 0, 0, 0, [], [])),
  (287, (.iload_n 3, 1, 3, 0, 0, 0, 0, [], [])),
  (288, (.iconst 1, 1, 0, 0, 0, 1, 0, [], [])),
  (289, (.iadd, 1, 0, 0, 0, 0, 0, [], [])),
  (290, (.iaload, 1, 0, 0, 1, 0, 0, [], [])),
  (291, (.aload_n 0, 1, 0, 0, 0, 0, 0, [], [])),
  (292, (.iload_n 3, 1, 3, 0, 0, 0, 0, [], [])),
  (293, (.iconst 2, 1, 0, 0, 0, 2, 0, [], [])),
  (294, (.iadd, 1, 0, 0, 0, 0, 0, [], [])),
  (295, (.iaload, 1, 0, 0, 1, 0, 0, [], [])),
  (296, (.invokevirtual 36, 3, 62, 3, 7, 0, 0, [], [])),
  (299, (.aload_n 2, 1, 2, 0, 0, 0, 0, [], [])),
  (300, (.aload_n 0, 1, 0, 0, 0, 0, 0, [], [])),
  (301, (.iload_n 3, 1, 3, 0, 0, 0, 0, [], [])),
  (302, (.iconst 1, 1, 0, 0, 0, 1, 0, [], [])),
  (303, (.iadd, 1, 0, 0, 0, 0, 0, [], [])),
  (304, (.iaload, 1, 0, 0, 1, 0, 0, [], [])),
  (305, (.aload_n 0, 1, 0, 0, 0, 0, 0, [], [])),
  (306, (.iload_n 3, 1, 3, 0, 0, 0, 0, [], [])),
  (307, (.iconst 2, 1, 0, 0, 0, 2, 0, [], [])),
  (308, (.iadd, 1, 0, 0, 0, 0, 0, [], [])),
  (309, (.iaload, 1, 0, 0, 1, 0, 0, [], [])),
  (310, (.invokevirtual 39, 3, 112, 3, 8, 0, 0, [], [])),
  (313, (.if_icmp .eq 616, 3, 929, 0, 0, 0, 0, [], [])),
  (316, (.iconst 0, 1, 0, 0, 0, 0, 0, [], [])),
  (317, (.ireturn, 1, 0, 0, 0, 0, 0, [], [])),
  (318, (.aload_n 1, 1, 1, 0, 0, 0, 0, [], [])),
  (319, (.aload_n 0, 1, 0, 0, 0, 0, 0, [], [])),
  (320, (.iload_n 3, 1, 3, 0, 0, 0, 0, [], [])),
  (321, (.iconst 1, 1, 0, 0, 0, 1, 0, [], [])),
  (322, (.iadd, 1, 0, 0, 0, 0, 0, [], [])),
  (323, (.iaload, 1, 0, 0, 1, 0, 0, [], [])),
  (324, (.invokevirtual 40, 3, 63, 2, 7, 0, 0, [], [])),
  (327, (.aload_n 2, 1, 2, 0, 0, 0, 0, [], [])),
  (328, (.aload_n 0, 1, 0, 0, 0, 0, 0, [], [])),
  (329, (.iload_n 3, 1, 3, 0, 0, 0, 0, [], [])),
  (330, (.iconst 1, 1, 0, 0, 0, 1, 0, [], [])),
  (331, (.iadd, 1, 0, 0, 0, 0, 0, [], [])),
  (332, (.iaload, 1, 0, 0, 1, 0, 0, [], [])),
  (333, (.invokevirtual 44, 3, 115, 2, 8, 0, 0, [], [])),
  (336, (.if_icmp .eq 593, 3, 929, 0, 0, 0, 0, [], [])),
  (339, (.iconst 0, 1, 0, 0, 0, 0, 0, [], [])),
  (340, (.ireturn, 1, 0, 0, 0, 0, 0, [], [])),
  (341, (.aload_n 1, 1, 1, 0, 0, 0, 0, [], [])),
  (342, (.invokevirtual 45, 3, 64, 1, 7, 0, 0, [], [])),
  (345, (.aload_n 2, 1, 2, 0, 0, 0, 0, [], [])),
  (346, (.invokevirtual 48, 3, 116, 1, 8, 0, 0, [], [])),
  (349, (.if_icmp .eq 580, 3, 929, 0, 0, 0, 0, [], [])),
  (352, (.iconst 0, 1, 0, 0, 0, 0, 0, [], [])),
  (353, (.ireturn, 1, 0, 0, 0, 0, 0, [], [])),
  (354, (.aload_n 1, 1, 1, 0, 0, 0, 0, [], [])),
  (355, (.aload_n 0, 1, 0, 0, 0, 0, 0, [], [])),
  (356, (.iload_n 3, 1, 3, 0, 0, 0, 0, [], [])),
  (357, (.iconst 1, 1, 0, 0, 0, 1, 0, [], [])),
  (358, (.iadd, 1, 0, 0, 0, 0, 0, [], [])),
  (359, (.iaload, 1, 0, 0, 1, 0, 0, [], [])),
  (360, (.invokevirtual 49, 3, 65, 2, 7, 0, 0, [], [])),
  (363, (.aload_n 2, 1, 2, 0, 0, 0, 0, [], [])),
  (364, (.aload_n 0, 1, 0, 0, 0, 0, 0, [], [])),
  (365, (.iload_n 3, 1, 3, 0, 0, 0, 0, [], [])),
  (366, (.iconst 1, 1, 0, 0, 0, 1, 0, [], [])),
  (367, (.iadd, 1, 0, 0, 0, 0, 0, [], [])),
  (368, (.iaload, 1, 0, 0, 1, 0, 0, [], [])),
  (369, (.invokevirtual 52, 3, 134, 2, 8, 0, 0, [], [])),
  (372, (.if_icmp .eq 557, 3, 929, 0, 0, 0, 0, [], [])),
  (375, (.iconst 0, 1, 0, 0, 0, 0, 0, [], [])),
  (376, (.ireturn, 1, 0, 0, 0, 0, 0, [], [])),
  (377, (.aload_n 1, 1, 1, 0, 0, 0, 0, [], [])),
  (378, (.aload_n 0, 1, 0, 0, 0, 0, 0, [], [])),
  (379, (.iload_n 3, 1, 3, 0, 0, 0, 0, [], [])),
  (380, (.iconst 1, 1, 0, 0, 0, 1, 0, [], [])),
  (381, (.iadd, 1, 0, 0, 0, 0, 0, [], [])),
  (382, (.iaload, 1, 0, 0, 1, 0, 0, [], [])),
  (383, (.aload_n 0, 1, 0, 0, 0, 0, 0, [], [])),
  (384, (.iload_n 3, 1, 3, 0, 0, 0, 0, [], [])),
  (385, (.iconst 2, 1, 0, 0, 0, 2, 0, [], [])),
  (386, (.iadd, 1, 0, 0, 0, 0, 0, [], [])),
  (387, (.iaload, 1, 0, 0, 1, 0, 0, [], [])),
  (388, (.invokevirtual 53, 3, 66, 3, 7, 0, 0, [], [])),
  (391, (.aload_n 2, 1, 2, 0, 0, 0, 0, [], [])),
  (392, (.aload_n 0, 1, 0, 0, 0, 0, 0, [], [])),
  (393, (.iload_n 3, 1, 3, 0, 0, 0, 0, [], [])),
  (394, (.iconst 1, 1, 0, 0, 0, 1, 0, [], [])),
  (395, (.iadd, 1, 0, 0, 0, 0, 0, [], [])),
  (396, (.iaload, 1, 0, 0, 1, 0, 0, [], [])),
  (397, (.aload_n 0, 1, 0, 0, 0, 0, 0, [], [])),
  (398, (.iload_n 3, 1, 3, 0, 0, 0, 0, [], [])),
  (399, (.iconst 2, 1, 0, 0, 0, 2, 0, [], [])),
  (400, (.iadd, 1, 0, 0, 0, 0, 0, [], [])),
  (401, (.iaload, 1, 0, 0, 1, 0, 0, [], [])),
  (402, (.invokevirtual 56, 3, 138, 3, 8, 0, 0, [], [])),
  (405, (.if_icmp .eq 524, 3, 929, 0, 0, 0, 0, [], [])),
  (408, (.iconst 0, 1, 0, 0, 0, 0, 0, [], [])),
  (409, (.ireturn, 1, 0, 0, 0, 0, 0, [], [])),
  (410, (.aload_n 1, 1, 1, 0, 0, 0, 0, [], [])),
  (411, (.aload_n 0, 1, 0, 0, 0, 0, 0, [], [])),
  (412, (.iload_n 3, 1, 3, 0, 0, 0, 0, [], [])),
  (413, (.iconst 1, 1, 0, 0, 0, 1, 0, [], [])),
  (414, (.iadd, 1, 0, 0, 0, 0, 0, [], [])),
  (415, (.iaload, 1, 0, 0, 1, 0, 0, [], [])),
  (416, (.aload_n 0, 1, 0, 0, 0, 0, 0, [], [])),
  (417, (.iload_n 3, 1, 3, 0, 0, 0, 0, [], [])),
  (418, (.iconst 2, 1, 0, 0, 0, 2, 0, [], [])),
  (419, (.iadd, 1, 0, 0, 0, 0, 0, [], [])),
  (420, (.iaload, 1, 0, 0, 1, 0, 0, [], [])),
  (421, (.aload_n 0, 1, 0, 0, 0, 0, 0, [], [])),
  (422, (.iload_n 3, 1, 3, 0, 0, 0, 0, [], [])),
  (423, (.iconst 3, 1, 0, 0, 0, 3, 0, [], [])),
  (424, (.iadd, 1, 0, 0, 0, 0, 0, [], [])),
  (425, (.iaload, 1, 0, 0, 1, 0, 0, [], [])),
  (426, (.invokevirtual 57, 3, 67, 4, 7, 0, 0, [], [])),
  (429, (.aload_n 2, 1, 2, 0, 0, 0, 0, [], [])),
  (430, (.aload_n 0, 1, 0, 0, 0, 0, 0, [], [])),
  (431, (.iload_n 3, 1, 3, 0, 0, 0, 0, [], [])),
  (432, (.iconst 1, 1, 0, 0, 0, 1, 0, [], [])),
  (433, (.iadd, 1, 0, 0, 0, 0, 0, [], [])),
  (434, (.iaload, 1, 0, 0, 1, 0, 0, [], [])),
  (435, (.aload_n 0, 1, 0, 0, 0, 0, 0, [], [])),
  (436, (.iload_n 3, 1, 3, 0, 0, 0, 0, [], [])),
  (437, (.iconst 2, 1, 0, 0, 0, 2, 0, [], [])),
  (438, (.iadd, 1, 0, 0, 0, 0, 0, [], [])),
  (439, (.iaload, 1, 0, 0, 1, 0, 0, [], [])),
  (440, (.aload_n 0, 1, 0, 0, 0, 0, 0, [], [])),
  (441, (.iload_n 3, 1, 3, 0, 0, 0, 0, [], [])),
  (442, (.iconst 3, 1, 0, 0, 0, 3, 0, [], [])),
  (443, (.iadd, 1, 0, 0, 0, 0, 0, [], [])),
  (444, (.iaload, 1, 0, 0, 1, 0, 0, [], [])),
  (445, (.invokevirtual 61, 3, 141, 4, 8, 0, 0, [], [])),
  (448, (.if_icmp .eq 481, 3, 929, 0, 0, 0, 0, [], [])),
  (451, (.iconst 0, 1, 0, 0, 0, 0, 0, [], [])),
  (452, (.ireturn, 1, 0, 0, 0, 0, 0, [], [])),
  (453, (.aload_n 1, 1, 1, 0, 0, 0, 0, [], [])),
  (454, (.aload_n 0, 1, 0, 0, 0, 0, 0, [], [])),
  (455, (.iload_n 3, 1, 3, 0, 0, 0, 0, [], [])),
  (456, (.iconst 1, 1, 0, 0, 0, 1, 0, [], [])),
  (457, (.iadd, 1, 0, 0, 0, 0, 0, [], [])),
  (458, (.iaload, 1, 0, 0, 1, 0, 0, [], [])),
  (459, (.aload_n 0, 1, 0, 0, 0, 0, 0, [], [])),
  (460, (.iload_n 3, 1, 3, 0, 0, 0, 0, [], [])),
  (461, (.iconst 2, 1, 0, 0, 0, 2, 0, [], [])),
  (462, (.iadd, 1, 0, 0, 0, 0, 0, [], [])),
  (463, (.iaload, 1, 0, 0, 1, 0, 0, [], [])),
  (464, (.aload_n 0, 1, 0, 0, 0, 0, 0, [], [])),
  (465, (.iload_n 3, 1, 3, 0, 0, 0, 0, [], [])),
  (466, (.iconst 3, 1, 0, 0, 0, 3, 0, [], [])),
  (467, (.iadd, 1, 0, 0, 0, 0, 0, [], [])),
  (468, (.iaload, 1, 0, 0, 1, 0, 0, [], [])),
  (469, (.invokevirtual 62, 3, 68, 4, 7, 0, 0, [], [])),
  (472, (.aload_n 2, 1, 2, 0, 0, 0, 0, [], [])),
  (473, (.aload_n 0, 1, 0, 0, 0, 0, 0, [], [])),
  (474, (.iload_n 3, 1, 3, 0, 0, 0, 0, [], [])),
  (475, (.iconst 1, 1, 0, 0, 0, 1, 0, [], [])),
  (476, (.iadd, 1, 0, 0, 0, 0, 0, [], [])),
  (477, (.iaload, 1, 0, 0, 1, 0, 0, [], [])),
  (478, (.aload_n 0, 1, 0, 0, 0, 0, 0, [], [])),
  (479, (.iload_n 3, 1, 3, 0, 0, 0, 0, [], [])),
  (480, (.iconst 2, 1, 0, 0, 0, 2, 0, [], [])),
  (481, (.iadd, 1, 0, 0, 0, 0, 0, [], [])),
  (482, (.iaload, 1, 0, 0, 1, 0, 0, [], [])),
  (483, (.aload_n 0, 1, 0, 0, 0, 0, 0, [], [])),
  (484, (.iload_n 3, 1, 3, 0, 0, 0, 0, [], [])),
  (485, (.iconst 3, 1, 0, 0, 0, 3, 0, [], [])),
  (486, (.iadd, 1, 0, 0, 0, 0, 0, [], [])),
  (487, (.iaload, 1, 0, 0, 1, 0, 0, [], [])),
  (488, (.invokevirtual 65, 3, 143, 4, 8, 0, 0, [], [])),
  (491, (.if_icmp .eq 438, 3, 929, 0, 0, 0, 0, [], [])),
  (494, (.iconst 0, 1, 0, 0, 0, 0, 0, [], [])),
  (495, (.ireturn, 1, 0, 0, 0, 0, 0, [], [])),
  (496, (.aload_n 1, 1, 1, 0, 0, 0, 0, [], [])),
  (497, (.aload_n 0, 1, 0, 0, 0, 0, 0, [], [])),
  (498, (.iload_n 3, 1, 3, 0, 0, 0, 0, [], [])),
  (499, (.iconst 1, 1, 0, 0, 0, 1, 0, [], [])),
  (500, (.iadd, 1, 0, 0, 0, 0, 0, [], [])),
  (501, (.iaload, 1, 0, 0, 1, 0, 0, [], [])),
  (502, (.aload_n 0, 1, 0, 0, 0, 0, 0, [], [])),
  (503, (.iload_n 3, 1, 3, 0, 0, 0, 0, [], [])),
  (504, (.iconst 2, 1, 0, 0, 0, 2, 0, [], [])),
  (505, (.iadd, 1, 0, 0, 0, 0, 0, [], [])),
  (506, (.iaload, 1, 0, 0, 1, 0, 0, [], [])),
  (507, (.invokevirtual 66, 3, 69, 3, 7, 0, 0, [], [])),
  (510, (.aload_n 2, 1, 2, 0, 0, 0, 0, [], [])),
  (511, (.aload_n 0, 1, 0, 0, 0, 0, 0, [], [])),
  (512, (.iload_n 3, 1, 3, 0, 0, 0, 0, [], [])),
  (513, (.iconst 1, 1, 0, 0, 0, 1, 0, [], [])),
  (514, (.iadd, 1, 0, 0, 0, 0, 0, [], [])),
  (515, (.iaload, 1, 0, 0, 1, 0, 0, [], [])),
  (516, (.aload_n 0, 1, 0, 0, 0, 0, 0, [], [])),
  (517, (.iload_n 3, 1, 3, 0, 0, 0, 0, [], [])),
  (518, (.iconst 2, 1, 0, 0, 0, 2, 0, [], [])),
  (519, (.iadd, 1, 0, 0, 0, 0, 0, [], [])),
  (520, (.iaload, 1, 0, 0, 1, 0, 0, [], [])),
  (521, (.invokevirtual 69, 3, 144, 3, 8, 0, 0, [], [])),
  (524, (.if_icmp .eq 405, 3, 929, 0, 0, 0, 0, [], [])),
  (527, (.iconst 0, 1, 0, 0, 0, 0, 0, [], [])),
  (528, (.ireturn, 1, 0, 0, 0, 0, 0, [], [])),
  (529, (.aload_n 1, 1, 1, 0, 0, 0, 0, [], [])),
  (530, (.aload_n 0, 1, 0, 0, 0, 0, 0, [], [])),
  (531, (.iload_n 3, 1, 3, 0, 0, 0, 0, [], [])),
  (532, (.iconst 1, 1, 0, 0, 0, 1, 0, [], [])),
  (533, (.iadd, 1, 0, 0, 0, 0, 0, [], [])),
  (534, (.iaload, 1, 0, 0, 1, 0, 0, [], [])),
  (535, (.aload_n 0, 1, 0, 0, 0, 0, 0, [], [])),
  (536, (.iload_n 3, 1, 3, 0, 0, 0, 0, [], [])),
  (537, (.iconst 2, 1, 0, 0, 0, 2, 0, [], [])),
  (538, (.iadd, 1, 0, 0, 0, 0, 0, [], [])),
  (539, (.iaload, 1, 0, 0, 1, 0, 0, [], [])),
  (540, (.aload_n 0, 1, 0, 0, 0, 0, 0, [], [])),
  (541, (.iload_n 3, 1, 3, 0, 0, 0, 0, [], [])),
  (542, (.iconst 3, 1, 0, 0, 0, 3, 0, [], [])),
  (543, (.iadd, 1, 0, 0, 0, 0, 0, [], [])),
  (544, (.iaload, 1, 0, 0, 1, 0, 0, [], [])),
  (545, (.invokevirtual 70, 3, 70, 4, 7, 0, 0, [], [])),
  (548, (.aload_n 2, 1, 2, 0, 0, 0, 0, [], [])),
  (549, (.aload_n 0, 1, 0, 0, 0, 0, 0, [], [])),
  (550, (.iload_n 3, 1, 3, 0, 0, 0, 0, [], [])),
  (551, (.iconst 1, 1, 0, 0, 0, 1, 0, [], [])),
  (552, (.iadd, 1, 0, 0, 0, 0, 0, [], [])),
  (553, (.iaload, 1, 0, 0, 1, 0, 0, [], [])),
  (554, (.aload_n 0, 1, 0, 0, 0, 0, 0, [], [])),
  (555, (.iload_n 3, 1, 3, 0, 0, 0, 0, [], [])),
  (556, (.iconst 2, 1, 0, 0, 0, 2, 0, [], [])),
  (557, (.iadd, 1, 0, 0, 0, 0, 0, [], [])),
  (558, (.iaload, 1, 0, 0, 1, 0, 0, [], [])),
  (559, (.aload_n 0, 1, 0, 0, 0, 0, 0, [], [])),
  (560, (.iload_n 3, 1, 3, 0, 0, 0, 0, [], [])),
  (561, (.iconst 3, 1, 0, 0, 0, 3, 0, [], [])),
  (562, (.iadd, 1, 0, 0, 0, 0, 0, [], [])),
  (563, (.iaload, 1, 0, 0, 1, 0, 0, [], [])),
  (564, (.invokevirtual 73, 3, 145, 4, 8, 0, 0, [], [])),
  (567, (.if_icmp .eq 362, 3, 929, 0, 0, 0, 0, [], [])),
  (570, (.iconst 0, 1, 0, 0, 0, 0, 0, [], [])),
  (571, (.ireturn, 1, 0, 0, 0, 0, 0, [], [])),
  (572, (.aload_n 1, 1, 1, 0, 0, 0, 0, [], [])),
  (573, (.aload_n 0, 1, 0, 0, 0, 0, 0, [], [])),
  (574, (.iload_n 3, 1, 3, 0, 0, 0, 0, [], [])),
  (575, (.iconst 1, 1, 0, 0, 0, 1, 0, [], [])),
  (576, (.iadd, 1, 0, 0, 0, 0, 0, [], [])),
  (577, (.iaload, 1, 0, 0, 1, 0, 0, [], [])),
  (578, (.aload_n 0, 1, 0, 0, 0, 0, 0, [], [])),
  (579, (.iload_n 3, 1, 3, 0, 0, 0, 0, [], [])),
  (580, (.iconst 2, 1, 0, 0, 0, 2, 0, [], [])),
  (581, (.iadd, 1, 0, 0, 0, 0, 0, [], [])),
  (582, (.iaload, 1, 0, 0, 1, 0, 0, [], [])),
  (583, (.aload_n 0, 1, 0, 0, 0, 0, 0, [], [])),
  (584, (.iload_n 3, 1, 3, 0, 0, 0, 0, [], [])),
  (585, (.iconst 3, 1, 0, 0, 0, 3, 0, [], [])),
  (586, (.iadd, 1, 0, 0, 0, 0, 0, [], [])),
  (587, (.iaload, 1, 0, 0, 1, 0, 0, [], [])),
  (588, (.invokevirtual 74, 3, 71, 4, 7, 0, 0, [], [])),
  (591, (.aload_n 2, 1, 2, 0, 0, 0, 0, [], [])),
  (592, (.aload_n 0, 1, 0, 0, 0, 0, 0, [], [])),
  (593, (.iload_n 3, 1, 3, 0, 0, 0, 0, [], [])),
  (594, (.iconst 1, 1, 0, 0, 0, 1, 0, [], [])),
  (595, (.iadd, 1, 0, 0, 0, 0, 0, [], [])),
  (596, (.iaload, 1, 0, 0, 1, 0, 0, [], [])),
  (597, (.aload_n 0, 1, 0, 0, 0, 0, 0, [], [])),
  (598, (.iload_n 3, 1, 3, 0, 0, 0, 0, [], [])),
  (599, (.iconst 2, 1, 0, 0, 0, 2, 0, [], [])),
  (600, (.iadd, 1, 0, 0, 0, 0, 0, [], [])),
  (601, (.iaload, 1, 0, 0, 1, 0, 0, [], [])),
  (602, (.aload_n 0, 1, 0, 0, 0, 0, 0, [], [])),
  (603, (.iload_n 3, 1, 3, 0, 0, 0, 0, [], [])),
  (604, (.iconst 3, 1, 0, 0, 0, 3, 0, [], [])),
  (605, (.iadd, 1, 0, 0, 0, 0, 0, [], [])),
  (606, (.iaload, 1, 0, 0, 1, 0, 0, [], [])),
  (607, (.invokevirtual 77, 3, 146, 4, 8, 0, 0, [], [])),
  (610, (.if_icmp .eq 319, 3, 929, 0, 0, 0, 0, [], [])),
  (613, (.iconst 0, 1, 0, 0, 0, 0, 0, [], [])),
  (614, (.ireturn, 1, 0, 0, 0, 0, 0, [], [])),
  (615, (.aload_n 1, 1, 1, 0, 0, 0, 0, [], [])),
  (616, (.aload_n 0, 1, 0, 0, 0, 0, 0, [], [])),
  (617, (.iload_n 3, 1, 3, 0, 0, 0, 0, [], [])),
  (618, (.iconst 1, 1, 0, 0, 0, 1, 0, [], [])),
  (619, (.iadd, 1, 0, 0, 0, 0, 0, [], [])),
  (620, (.iaload, 1, 0, 0, 1, 0, 0, [], [])),
  (621, (.aload_n 0, 1, 0, 0, 0, 0, 0, [], [])),
  (622, (.iload_n 3, 1, 3, 0, 0, 0, 0, [], [])),
  (623, (.iconst 2, 1, 0, 0, 0, 2, 0, [], [])),
  (624, (.iadd, 1, 0, 0, 0, 0, 0, [], [])),
  (625, (.iaload, 1, 0, 0, 1, 0, 0, [], [])),
  (626, (.aload_n 0, 1, 0, 0, 0, 0, 0, [], [])),
  (627, (.iload_n 3, 1, 3, 0, 0, 0, 0, [], [])),
  (628, (.iconst 3, 1, 0, 0, 0, 3, 0, [], [])),
  (629, (.iadd, 1, 0, 0, 0, 0, 0, [], [])),
  (630, (.iaload, 1, 0, 0, 1, 0, 0, [], [])),
  (631, (.aload_n 0, 1, 0, 0, 0, 0, 0, [], [])),
  (632, (.iload_n 3, 1, 3, 0, 0, 0, 0, [], [])),
  (633, (.iconst 4, 1, 0, 0, 0, 4, 0, [], [])),
  (634, (.iadd, 1, 0, 0, 0, 0, 0, [], [])),
  (635, (.iaload, 1, 0, 0, 1, 0, 0, [], [])),
  (636, (.aload_n 0, 1, 0, 0, 0, 0, 0, [], [])),
  (637, (.iload_n 3, 1, 3, 0, 0, 0, 0, [], [])),
  (638, (.iconst 5, 1, 0, 0, 0, 5, 0, [], [])),
  (639, (.iadd, 1, 0, 0, 0, 0, 0, [], [])),
  (640, (.iaload, 1, 0, 0, 1, 0, 0, [], [])),
  (641, (.invokevirtual 78, 3, 72, 6, 7, 0, 0, [], [])),
  (644, (.aload_n 2, 1, 2, 0, 0, 0, 0, [], [])),
  (645, (.aload_n 0, 1, 0, 0, 0, 0, 0, [], [])),
  (646, (.iload_n 3, 1, 3, 0, 0, 0, 0, [], [])),
  (647, (.iconst 1, 1, 0, 0, 0, 1, 0, [], [])),
  (648, (.iadd, 1, 0, 0, 0, 0, 0, [], [])),
  (649, (.iaload, 1, 0, 0, 1, 0, 0, [], [])),
  (650, (.aload_n 0, 1, 0, 0, 0, 0, 0, [], [])),
  (651, (.iload_n 3, 1, 3, 0, 0, 0, 0, [], [])),
  (652, (.iconst 2, 1, 0, 0, 0, 2, 0, [], [])),
  (653, (.iadd, 1, 0, 0, 0, 0, 0, [], [])),
  (654, (.iaload, 1, 0, 0, 1, 0, 0, [], [])),
  (655, (.aload_n 0, 1, 0, 0, 0, 0, 0, [], [])),
  (656, (.iload_n 3, 1, 3, 0, 0, 0, 0, [], [])),
  (657, (.iconst 3, 1, 0, 0, 0, 3, 0, [], [])),
  (658, (.iadd, 1, 0, 0, 0, 0, 0, [], [])),
  (659, (.iaload, 1, 0, 0, 1, 0, 0, [], [])),
  (660, (.aload_n 0, 1, 0, 0, 0, 0, 0, [], [])),
  (661, (.iload_n 3, 1, 3, 0, 0, 0, 0, [], [])),
  (662, (.iconst 4, 1, 0, 0, 0, 4, 0, [], [])),
  (663, (.iadd, 1, 0, 0, 0, 0, 0, [], [])),
  (664, (.iaload, 1, 0, 0, 1, 0, 0, [], [])),
  (665, (.aload_n 0, 1, 0, 0, 0, 0, 0, [], [])),
  (666, (.iload_n 3, 1, 3, 0, 0, 0, 0, [], [])),
  (667, (.iconst 5, 1, 0, 0, 0, 5, 0, [], [])),
  (668, (.iadd, 1, 0, 0, 0, 0, 0, [], [])),
  (669, (.iaload, 1, 0, 0, 1, 0, 0, [], [])),
  (670, (.invokevirtual 82, 3, 156, 6, 8, 0, 0, [], [])),
  (673, (.if_icmp .eq 256, 3, 929, 0, 0, 0, 0, [], [])),
  (676, (.iconst 0, 1, 0, 0, 0, 0, 0, [], [])),
  (677, (.ireturn, 1, 0, 0, 0, 0, 0, [], [])),
  (678, (.aload_n 1, 1, 1, 0, 0, 0, 0, [], [])),
  (679, (.aload_n 0, 1, 0, 0, 0, 0, 0, [], [])),
  (680, (.iload_n 3, 1, 3, 0, 0, 0, 0, [], [])),
  (681, (.iconst 1, 1, 0, 0, 0, 1, 0, [], [])),
  (682, (.iadd, 1, 0, 0, 0, 0, 0, [], [])),
  (683, (.iaload, 1, 0, 0, 1, 0, 0, [], [])),
  (684, (.aload_n 0, 1, 0, 0, 0, 0, 0, [], [])),
  (685, (.iload_n 3, 1, 3, 0, 0, 0, 0, [], [])),
  (686, (.iconst 2, 1, 0, 0, 0, 2, 0, [], [])),
  (687, (.iadd, 1, 0, 0, 0, 0, 0, [], [])),
  (688, (.iaload, 1, 0, 0, 1, 0, 0, [], [])),
  (689, (.aload_n 0, 1, 0, 0, 0, 0, 0, [], [])),
  (690, (.iload_n 3, 1, 3, 0, 0, 0, 0, [], [])),
  (691, (.iconst 3, 1, 0, 0, 0, 3, 0, [], [])),
  (692, (.iadd, 1, 0, 0, 0, 0, 0, [], [])),
  (693, (.iaload, 1, 0, 0, 1, 0, 0, [], [])),
  (694, (.invokevirtual 83, 3, 73, 4, 7, 0, 0, [], [])),
  (697, (.aload_n 2, 1, 2, 0, 0, 0, 0, [], [])),
  (698, (.aload_n 0, 1, 0, 0, 0, 0, 0, [], [])),
  (699, (.iload_n 3, 1, 3, 0, 0, 0, 0, [], [])),
  (700, (.iconst 1, 1, 0, 0, 0, 1, 0, [], [])),
  (701, (.iadd, 1, 0, 0, 0, 0, 0, [], [])),
  (702, (.iaload, 1, 0, 0, 1, 0, 0, [], [])),
  (703, (.aload_n 0, 1, 0, 0, 0, 0, 0, [], [])),
  (704, (.iload_n 3, 1, 3, 0, 0, 0, 0, [], [])),
  (705, (.iconst 2, 1, 0, 0, 0, 2, 0, [], [])),
  (706, (.iadd, 1, 0, 0, 0, 0, 0, [], [])),
  (707, (.iaload, 1, 0, 0, 1, 0, 0, [], [])),
  (708, (.aload_n 0, 1, 0, 0, 0, 0, 0, [], [])),
  (709, (.iload_n 3, 1, 3, 0, 0, 0, 0, [], [])),
  (710, (.iconst 3, 1, 0, 0, 0, 3, 0, [], [])),
  (711, (.iadd, 1, 0, 0, 0, 0, 0, [], [])),
  (712, (.iaload, 1, 0, 0, 1, 0, 0, [], [])),
  (713, (.invokevirtual 86, 3, 157, 4, 8, 0, 0, [], [])),
  (716, (.if_icmp .eq 213, 3, 929, 0, 0, 0, 0, [], [])),
  (719, (.iconst 0, 1, 0, 0, 0, 0, 0, [], [])),
  (720, (.ireturn, 1, 0, 0, 0, 0, 0, [], [])),
  (721, (.aload_n 1, 1, 1, 0, 0, 0, 0, [], [])),
  (722, (.aload_n 0, 1, 0, 0, 0, 0, 0, [], [])),
  (723, (.iload_n 3, 1, 3, 0, 0, 0, 0, [], [])),
  (724, (.iconst 1, 1, 0, 0, 0, 1, 0, [], [])),
  (725, (.iadd, 1, 0, 0, 0, 0, 0, [], [])),
  (726, (.iaload, 1, 0, 0, 1, 0, 0, [], [])),
  (727, (.aload_n 0, 1, 0, 0, 0, 0, 0, [], [])),
  (728, (.iload_n 3, 1, 3, 0, 0, 0, 0, [], [])),
  (729, (.iconst 2, 1, 0, 0, 0, 2, 0, [], [])),
  (730, (.iadd, 1, 0, 0, 0, 0, 0, [], [])),
  (731, (.iaload, 1, 0, 0, 1, 0, 0, [], [])),
  (732, (.aload_n 0, 1, 0, 0, 0, 0, 0, [], [])),
  (733, (.iload_n 3, 1, 3, 0, 0, 0, 0, [], [])),
  (734, (.iconst 3, 1, 0, 0, 0, 3, 0, [], [])),
  (735, (.iadd, 1, 0, 0, 0, 0, 0, [], [])),
  (736, (.iaload, 1, 0, 0, 1, 0, 0, [], [])),
  (737, (.invokevirtual 87, 3, 74, 4, 7, 0, 0, [], [])),
  (740, (.aload_n 2, 1, 2, 0, 0, 0, 0, [], [])),
  (741, (.aload_n 0, 1, 0, 0, 0, 0, 0, [], [])),
  (742, (.iload_n 3, 1, 3, 0, 0, 0, 0, [], [])),
  (743, (.iconst 1, 1, 0, 0, 0, 1, 0, [], [])),
  (744, (.iadd, 1, 0, 0, 0, 0, 0, [], [])),
  (745, (.iaload, 1, 0, 0, 1, 0, 0, [], [])),
  (746, (.aload_n 0, 1, 0, 0, 0, 0, 0, [], [])),
  (747, (.iload_n 3, 1, 3, 0, 0, 0, 0, [], [])),
  (748, (.iconst 2, 1, 0, 0, 0, 2, 0, [], [])),
  (749, (.iadd, 1, 0, 0, 0, 0, 0, [], [])),
  (750, (.iaload, 1, 0, 0, 1, 0, 0, [], [])),
  (751, (.aload_n 0, 1, 0, 0, 0, 0, 0, [], [])),
  (752, (.iload_n 3, 1, 3, 0, 0, 0, 0, [], [])),
  (753, (.iconst 3, 1, 0, 0, 0, 3, 0, [], [])),
  (754, (.iadd, 1, 0, 0, 0, 0, 0, [], [])),
  (755, (.iaload, 1, 0, 0, 1, 0, 0, [], [])),
  (756, (.invokevirtual 90, 3, 158, 4, 8, 0, 0, [], [])),
  (759, (.if_icmp .eq 170, 3, 929, 0, 0, 0, 0, [], [])),
  (762, (.iconst 0, 1, 0, 0, 0, 0, 0, [], [])),
  (763, (.ireturn, 1, 0, 0, 0, 0, 0, [], [])),
  (764, (.aload_n 1, 1, 1, 0, 0, 0, 0, [], [])),
  (765, (.aload_n 0, 1, 0, 0, 0, 0, 0, [], [])),
  (766, (.iload_n 3, 1, 3, 0, 0, 0, 0, [], [])),
  (767, (.iconst 1, 1, 0, 0, 0, 1, 0, [], [])),
  (768, (.iadd, 1, 0, 0, 0, 0, 0, [], [])),
  (769, (.iaload, 1, 0, 0, 1, 0, 0, [], [])),
  (770, (.aload_n 0, 1, 0, 0, 0, 0, 0, [], [])),
  (771, (.iload_n 3, 1, 3, 0, 0, 0, 0, [], [])),
  (772, (.iconst 2, 1, 0, 0, 0, 2, 0, [], [])),
  (773, (.iadd, 1, 0, 0, 0, 0, 0, [], [])),
  (774, (.iaload, 1, 0, 0, 1, 0, 0, [], [])),
  (775, (.aload_n 0, 1, 0, 0, 0, 0, 0, [], [])),
  (776, (.iload_n 3, 1, 3, 0, 0, 0, 0, [], [])),
  (777, (.iconst 3, 1, 0, 0, 0, 3, 0, [], [])),
  (778, (.iadd, 1, 0, 0, 0, 0, 0, [], [])),
  (779, (.iaload, 1, 0, 0, 1, 0, 0, [], [])),
  (780, (.invokevirtual 91, 3, 75, 4, 7, 0, 0, [], [])),
  (783, (.aload_n 2, 1, 2, 0, 0, 0, 0, [], [])),
  (784, (.aload_n 0, 1, 0, 0, 0, 0, 0, [], [])),
  (785, (.iload_n 3, 1, 3, 0, 0, 0, 0, [], [])),
  (786, (.iconst 1, 1, 0, 0, 0, 1, 0, [], [])),
  (787, (.iadd, 1, 0, 0, 0, 0, 0, [], [])),
  (788, (.iaload, 1, 0, 0, 1, 0, 0, [], [])),
  (789, (.aload_n 0, 1, 0, 0, 0, 0, 0, [], [])),
  (790, (.iload_n 3, 1, 3, 0, 0, 0, 0, [], [])),
  (791, (.iconst 2, 1, 0, 0, 0, 2, 0, [], [])),
  (792, (.iadd, 1, 0, 0, 0, 0, 0, [], [])),
  (793, (.iaload, 1, 0, 0, 1, 0, 0, [], [])),
  (794, (.aload_n 0, 1, 0, 0, 0, 0, 0, [], [])),
  (795, (.iload_n 3, 1, 3, 0, 0, 0, 0, [], [])),
  (796, (.iconst 3, 1, 0, 0, 0, 3, 0, [], [])),
  (797, (.iadd, 1, 0, 0, 0, 0, 0, [], [])),
  (798, (.iaload, 1, 0, 0, 1, 0, 0, [], [])),
  (799, (.invokevirtual 94, 3, 159, 4, 8, 0, 0, [], [])),
  (802, (.if_icmp .eq 127, 3, 929, 0, 0, 0, 0, [], [])),
  (805, (.iconst 0, 1, 0, 0, 0, 0, 0, [], [])),
  (806, (.ireturn, 1, 0, 0, 0, 0, 0, [], [])),
  (807, (.aload_n 1, 1, 1, 0, 0, 0, 0, [], [])),
  (808, (.aload_n 0, 1, 0, 0, 0, 0, 0, [], [])),
  (809, (.iload_n 3, 1, 3, 0, 0, 0, 0, [], [])),
  (810, (.iconst 1, 1, 0, 0, 0, 1, 0, [], [])),
  (811, (.iadd, 1, 0, 0, 0, 0, 0, [], [])),
  (812, (.iaload, 1, 0, 0, 1, 0, 0, [], [])),
  (813, (.aload_n 0, 1, 0, 0, 0, 0, 0, [], [])),
  (814, (.iload_n 3, 1, 3, 0, 0, 0, 0, [], [])),
  (815, (.iconst 2, 1, 0, 0, 0, 2, 0, [], [])),
  (816, (.iadd, 1, 0, 0, 0, 0, 0, [], [])),
  (817, (.iaload, 1, 0, 0, 1, 0, 0, [], [])),
  (818, (.invokevirtual 95, 3, 76, 3, 7, 0, 0, [], [])),
  (821, (.aload_n 2, 1, 2, 0, 0, 0, 0, [], [])),
  (822, (.aload_n 0, 1, 0, 0, 0, 0, 0, [], [])),
  (823, (.iload_n 3, 1, 3, 0, 0, 0, 0, [], [])),
  (824, (.iconst 1, 1, 0, 0, 0, 1, 0, [], [])),
  (825, (.iadd, 1, 0, 0, 0, 0, 0, [], [])),
  (826, (.iaload, 1, 0, 0, 1, 0, 0, [], [])),
  (827, (.aload_n 0, 1, 0, 0, 0, 0, 0, [], [])),
  (828, (.iload_n 3, 1, 3, 0, 0, 0, 0, [], [])),
  (829, (.iconst 2, 1, 0, 0, 0, 2, 0, [], [])),
  (830, (.iadd, 1, 0, 0, 0, 0, 0, [], [])),
  (831, (.iaload, 1, 0, 0, 1, 0, 0, [], [])),
  (832, (.invokevirtual 98, 3, 160, 3, 8, 0, 0, [], [])),
  (835, (.if_icmp .eq 94, 3, 929, 0, 0, 0, 0, [], [])),
  (838, (.iconst 0, 1, 0, 0, 0, 0, 0, [], [])),
  (839, (.ireturn, 1, 0, 0, 0, 0, 0, [], [])),
  (840, (.aload_n 1, 1, 1, 0, 0, 0, 0, [], [])),
  (841, (.aload_n 0, 1, 0, 0, 0, 0, 0, [], [])),
  (842, (.iload_n 3, 1, 3, 0, 0, 0, 0, [], [])),
  (843, (.iconst 1, 1, 0, 0, 0, 1, 0, [], [])),
  (844, (.iadd, 1, 0, 0, 0, 0, 0, [], [])),
  (845, (.iaload, 1, 0, 0, 1, 0, 0, [], [])),
  (846, (.aload_n 0, 1, 0, 0, 0, 0, 0, [], [])),
  (847, (.iload_n 3, 1, 3, 0, 0, 0, 0, [], [])),
  (848, (.iconst 2, 1, 0, 0, 0, 2, 0, [], [])),
  (849, (.iadd, 1, 0, 0, 0, 0, 0, [], [])),
  (850, (.iaload, 1, 0, 0, 1, 0, 0, [], [])),
  (851, (.aload_n 0, 1, 0, 0, 0, 0, 0, [], [])),
  (852, (.iload_n 3, 1, 3, 0, 0, 0, 0, [], [])),
  (853, (.iconst 3, 1, 0, 0, 0, 3, 0, [], [])),
  (854, (.iadd, 1, 0, 0, 0, 0, 0, [], [])),
  (855, (.iaload, 1, 0, 0, 1, 0, 0, [], [])),
  (856, (.invokevirtual 99, 3, 77, 4, 7, 0, 0, [], [])),
  (859, (.aload_n 2, 1, 2, 0, 0, 0, 0, [], [])),
  (860, (.aload_n 0, 1, 0, 0, 0, 0, 0, [], [])),
  (861, (.iload_n 3, 1, 3, 0, 0, 0, 0, [], [])),
  (862, (.iconst 1, 1, 0, 0, 0, 1, 0, [], [])),
  (863, (.iadd, 1, 0, 0, 0, 0, 0, [], [])),
  (864, (.iaload, 1, 0, 0, 1, 0, 0, [], [])),
  (865, (.aload_n 0, 1, 0, 0, 0, 0, 0, [], [])),
  (866, (.iload_n 3, 1, 3, 0, 0, 0, 0, [], [])),
  (867, (.iconst 2, 1, 0, 0, 0, 2, 0, [], [])),
  (868, (.iadd, 1, 0, 0, 0, 0, 0, [], [])),
  (869, (.iaload, 1, 0, 0, 1, 0, 0, [], [])),
  (870, (.aload_n 0, 1, 0, 0, 0, 0, 0, [], [])),
  (871, (.iload_n 3, 1, 3, 0, 0, 0, 0, [], [])),
  (872, (.iconst 3, 1, 0, 0, 0, 3, 0, [], [])),
  (873, (.iadd, 1, 0, 0, 0, 0, 0, [], [])),
  (874, (.iaload, 1, 0, 0, 1, 0, 0, [], [])),
  (875, (.invokevirtual 102, 3, 161, 4, 8, 0, 0, [], [])),
  (878, (.if_icmp .eq 51, 3, 929, 0, 0, 0, 0, [], [])),
  (881, (.iconst 0, 1, 0, 0, 0, 0, 0, [], [])),
  (882, (.ireturn, 1, 0, 0, 0, 0, 0, [], [])),
  (883, (.aload_n 1, 1, 1, 0, 0, 0, 0, [], [])),
  (884, (.aload_n 0, 1, 0, 0, 0, 0, 0, [], [])),
  (885, (.iload_n 3, 1, 3, 0, 0, 0, 0, [], [])),
  (886, (.iconst 1, 1, 0, 0, 0, 1, 0, [], [])),
  (887, (.iadd, 1, 0, 0, 0, 0, 0, [], [])),
  (888, (.iaload, 1, 0, 0, 1, 0, 0, [], [])),
  (889, (.invokevirtual 103, 3, 78, 2, 7, 0, 0, [], [])),
  (892, (.aload_n 2, 1, 2, 0, 0, 0, 0, [], [])),
  (893, (.aload_n 0, 1, 0, 0, 0, 0, 0, [], [])),
  (894, (.iload_n 3, 1, 3, 0, 0, 0, 0, [], [])),
  (895, (.iconst 1, 1, 0, 0, 0, 1, 0, [], [])),
  (896, (.iadd, 1, 0, 0, 0, 0, 0, [], [])),
  (897, (.iaload, 1, 0, 0, 1, 0, 0, [], [])),
  (898, (.invokevirtual 106, 3, 162, 2, 8, 0, 0, [], [])),
  (901, (.if_icmp .eq 28, 3, 929, 0, 0, 0, 0, [], [])),
  (904, (.iconst 0, 1, 0, 0, 0, 0, 0, [], [])),
  (905, (.ireturn, 1, 0, 0, 0, 0, 0, [], [])),
  (906, (.aload_n 1, 1, 1, 0, 0, 0, 0, [], [])),
  (907, (.aload_n 0, 1, 0, 0, 0, 0, 0, [], [])),
  (908, (.iload_n 3, 1, 3, 0, 0, 0, 0, [], [])),
  (909, (.iconst 1, 1, 0, 0, 0, 1, 0, [], [])),
  (910, (.iadd, 1, 0, 0, 0, 0, 0, [], [])),
  (911, (.iaload, 1, 0, 0, 1, 0, 0, [], [])),
  (912, (.invokevirtual 107, 3, 79, 2, 7, 0, 0, [], [])),
  (915, (.aload_n 2, 1, 2, 0, 0, 0, 0, [], [])),
  (916, (.aload_n 0, 1, 0, 0, 0, 0, 0, [], [])),
  (917, (.iload_n 3, 1, 3, 0, 0, 0, 0, [], [])),
  (918, (.iconst 1, 1, 0, 0, 0, 1, 0, [], [])),
  (919, (.iadd, 1, 0, 0, 0, 0, 0, [], [])),
  (920, (.iaload, 1, 0, 0, 1, 0, 0, [], [])),
  (921, (.invokevirtual 110, 3, 163, 2, 8, 0, 0, [], [])),
  (924, (.if_icmp .eq 5, 3, 929, 0, 0, 0, 0, [], [])),
  (927, (.iconst 0, 1, 0, 0, 0, 0, 0, [], [])),
  (928, (.ireturn, 1, 0, 0, 0, 0, 0, [], [])),
  (929, (.iinc 3 6, 3, 3, 0, 0, 6, 0, [], [])),
  (932, (.goto (-914), 3, 18, 0, 0, 0, 0, [], [])),
  (935, (.iconst 1, 1, 0, 0, 0, 1, 0, [], [0, 1, 2, 3])),
  (936, (.ireturn, 1, 0, 0, 0, 0, 0, [], []))
  ]
/-- every method: its name, its bytes, its return type, how it is read, its class, how many it takes, static or not -/
def jm_gl : List (MethodName × ByteArray × Option FieldType × jm_M × Nat × Nat × Bool) := [
  (yX0_init, cX0_init, none, (1, 0, tbX0_init), 0, 0, false),
  (yX0_link, cX0_link, none, (5, 0, tbX0_link), 0, 3, false),
  (yX0_linkToLesser, cX0_linkToLesser, none, (8, 0, tbX0_linkToLesser), 0, 4, false),
  (yX0_gatherClumps, cX0_gatherClumps, none, (3, 0, tbX0_gatherClumps), 0, 1, false),
  (yX0_tellMembers, cX0_tellMembers, none, (3, 0, tbX0_tellMembers), 0, 1, false),
  (yX0_reachedFrom, cX0_reachedFrom, (some .int), (6, 1, tbX0_reachedFrom), 0, 2, false),
  (yX0_linkedToAny, cX0_linkedToAny, (some .int), (4, 1, tbX0_linkedToAny), 0, 1, false),
  (yX0_countSteps, cX0_countSteps, (some .int), (5, 1, tbX0_countSteps), 0, 2, false),
  (yX0_isHolding, cX0_isHolding, (some .boolean), (4, 2, tbX0_isHolding), 0, 1, false),
  (yX1_init, cX1_init, none, (1, 0, tbX1_init), 1, 0, false),
  (yX1_become, cX1_become, none, (2, 0, tbX1_become), 1, 1, false),
  (yX1_addPicture, cX1_addPicture, (some .int), (3, 1, tbX1_addPicture), 1, 0, false),
  (yX1_lay, cX1_lay, none, (5, 0, tbX1_lay), 1, 4, false),
  (yX1_takeAway, cX1_takeAway, none, (3, 0, tbX1_takeAway), 1, 2, false),
  (yX1_isIn, cX1_isIn, (some .boolean), (3, 2, tbX1_isIn), 1, 2, false),
  (yX1_xOf, cX1_xOf, (some .int), (3, 1, tbX1_xOf), 1, 2, false),
  (yX1_yOf, cX1_yOf, (some .int), (3, 1, tbX1_yOf), 1, 2, false),
  (yX1_way, cX1_way, (some .int), (7, 1, tbX1_way), 1, 4, false),
  (yX1_grainsOf, cX1_grainsOf, (some .int), (4, 1, tbX1_grainsOf), 1, 1, false),
  (yX1_near, cX1_near, (some .int), (7, 1, tbX1_near), 1, 4, false),
  (yX1_weightOf, cX1_weightOf, (some .int), (4, 1, tbX1_weightOf), 1, 1, false),
  (yX2_init, cX2_init, none, (2, 0, tbX2_init), 2, 0, false),
  (yX2_surveyed, cX2_surveyed, (some (.object "HaloTrees$Forest")), (3, 3, tbX2_surveyed), 2, 1, false),
  (yX2_branchBack, cX2_branchBack, (some .int), (6, 1, tbX2_branchBack), 2, 3, false),
  (yX2_weightOfMain, cX2_weightOfMain, (some .int), (4, 1, tbX2_weightOfMain), 2, 2, false),
  (yX2_countHalos, cX2_countHalos, (some .int), (3, 1, tbX2_countHalos), 2, 0, false),
  (yX2_countEnding, cX2_countEnding, (some .int), (4, 1, tbX2_countEnding), 2, 0, false),
  (yX2_countBeginning, cX2_countBeginning, (some .int), (4, 1, tbX2_countBeginning), 2, 0, false),
  (yX2_longestBranch, cX2_longestBranch, (some .int), (4, 1, tbX2_longestBranch), 2, 0, false),
  (yX3_init, cX3_init, none, (1, 0, tbX3_init), 3, 0, false),
  (yX3_gather, cX3_gather, none, (7, 0, tbX3_gather), 3, 2, false),
  (yX3_insert, cX3_insert, none, (4, 0, tbX3_insert), 3, 2, false),
  (yX3_numberOf, cX3_numberOf, (some .int), (3, 1, tbX3_numberOf), 3, 1, false),
  (yX3_goOnNowhere, cX3_goOnNowhere, none, (1, 0, tbX3_goOnNowhere), 3, 0, false),
  (yX3_goOnIn, cX3_goOnIn, none, (4, 0, tbX3_goOnIn), 3, 2, false),
  (yX3_withMostOf, cX3_withMostOf, (some .int), (8, 1, tbX3_withMostOf), 3, 2, false),
  (yX3_comeFromNowhere, cX3_comeFromNowhere, none, (1, 0, tbX3_comeFromNowhere), 3, 0, false),
  (yX3_comeFromThose, cX3_comeFromThose, none, (4, 0, tbX3_comeFromThose), 3, 1, false),
  (yX4_init, cX4_init, none, (1, 0, tbX4_init), 4, 0, false),
  (yX4_begin, cX4_begin, none, (2, 0, tbX4_begin), 4, 1, false),
  (yX4_draw, cX4_draw, (some .int), (1, 1, tbX4_draw), 4, 0, false),
  (yX4_scatter, cX4_scatter, none, (4, 0, tbX4_scatter), 4, 3, false),
  (yX4_carryOn, cX4_carryOn, none, (8, 0, tbX4_carryOn), 4, 3, false),
  (yX4_layAnywhere, cX4_layAnywhere, none, (6, 0, tbX4_layAnywhere), 4, 3, false),
  (yX4_shifted, cX4_shifted, (some .int), (2, 1, tbX4_shifted), 4, 1, false),
  (yX5_init, cX5_init, none, (2, 0, tbX5_init), 5, 0, false),
  (yX5_take, cX5_take, none, (2, 0, tbX5_take), 5, 1, false),
  (yX5_bringBack, cX5_bringBack, none, (2, 0, tbX5_bringBack), 5, 1, false),
  (yX5_forget, cX5_forget, none, (1, 0, tbX5_forget), 5, 0, false),
  (yX6_init, cX6_init, none, (1, 0, tbX6_init), 6, 0, false),
  (yX6_build, cX6_build, none, (5, 0, tbX6_build), 6, 2, false),
  (yX6_split, cX6_split, (some .int), (6, 1, tbX6_split), 6, 3, false),
  (yX6_sort, cX6_sort, none, (8, 0, tbX6_sort), 6, 3, false),
  (yX6_rankOf, cX6_rankOf, (some .int), (6, 1, tbX6_rankOf), 6, 2, false),
  (yX6_countLookedAt, cX6_countLookedAt, (some .int), (4, 1, tbX6_countLookedAt), 6, 3, false),
  (yX6_lookedAtFrom, cX6_lookedAtFrom, (some .int), (9, 1, tbX6_lookedAtFrom), 6, 5, false),
  (yX7_init, cX7_init, none, (2, 0, tbX7_init), 7, 0, false),
  (yX7_picture, cX7_picture, (some .int), (1, 1, tbX7_picture), 7, 0, false),
  (yX7_drop, cX7_drop, (some .int), (1, 1, tbX7_drop), 7, 0, false),
  (yX7_put, cX7_put, (some .int), (6, 1, tbX7_put), 7, 4, false),
  (yX7_lose, cX7_lose, (some .int), (3, 1, tbX7_lose), 7, 2, false),
  (yX7_weigh, cX7_weigh, (some .int), (4, 1, tbX7_weigh), 7, 2, false),
  (yX7_bound, cX7_bound, (some .int), (5, 1, tbX7_bound), 7, 2, false),
  (yX7_drift, cX7_drift, (some .int), (4, 1, tbX7_drift), 7, 1, false),
  (yX7_undo, cX7_undo, (some .int), (1, 1, tbX7_undo), 7, 0, false),
  (yX7_told, cX7_told, (some .int), (2, 1, tbX7_told), 7, 1, false),
  (yX7_ofPicture, cX7_ofPicture, (some .int), (3, 1, tbX7_ofPicture), 7, 2, false),
  (yX7_grain, cX7_grain, (some .int), (5, 1, tbX7_grain), 7, 3, false),
  (yX7_halo, cX7_halo, (some .int), (5, 1, tbX7_halo), 7, 3, false),
  (yX7_from, cX7_from, (some .int), (3, 1, tbX7_from), 7, 2, false),
  (yX7_branch, cX7_branch, (some .int), (4, 1, tbX7_branch), 7, 3, false),
  (yX7_common, cX7_common, (some .int), (5, 1, tbX7_common), 7, 3, false),
  (yX7_within, cX7_within, (some .int), (6, 1, tbX7_within), 7, 5, false),
  (yX7_nearest, cX7_nearest, (some .int), (8, 1, tbX7_nearest), 7, 3, false),
  (yX7_below, cX7_below, (some .int), (4, 1, tbX7_below), 7, 3, false),
  (yX7_steps, cX7_steps, (some .int), (4, 1, tbX7_steps), 7, 3, false),
  (yX7_clumps, cX7_clumps, (some .int), (3, 1, tbX7_clumps), 7, 2, false),
  (yX7_join, cX7_join, (some .int), (8, 1, tbX7_join), 7, 3, false),
  (yX7_keep, cX7_keep, (some .int), (2, 1, tbX7_keep), 7, 1, false),
  (yX7_goBack, cX7_goBack, (some .int), (2, 1, tbX7_goBack), 7, 1, false),
  (yX7_isPicture, cX7_isPicture, (some .boolean), (2, 2, tbX7_isPicture), 7, 1, false),
  (yX7_isGrainOfPicture, cX7_isGrainOfPicture, (some .boolean), (3, 2, tbX7_isGrainOfPicture), 7, 2, false),
  (yX7_isHalo, cX7_isHalo, (some .boolean), (3, 2, tbX7_isHalo), 7, 2, false),
  (yX7_isGrain, cX7_isGrain, (some .boolean), (1, 2, tbX7_isGrain), 7, 1, true),
  (yX7_isImage, cX7_isImage, (some .boolean), (1, 2, tbX7_isImage), 7, 1, true),
  (yX7_isOnField, cX7_isOnField, (some .boolean), (2, 2, tbX7_isOnField), 7, 2, true),
  (yX7_isBetween, cX7_isBetween, (some .boolean), (3, 2, tbX7_isBetween), 7, 3, true),
  (yX7_has, cX7_has, (some .boolean), (2, 2, tbX7_has), 7, 2, true),
  (yX7_remember, cX7_remember, none, (1, 0, tbX7_remember), 7, 0, false),
  (yX7_clumpedBy, cX7_clumpedBy, (some (.object "HaloTrees$Clumping")), (3, 3, tbX7_clumpedBy), 7, 2, false),
  (yX7_treeOf, cX7_treeOf, (some (.object "HaloTrees$SplittingTree")), (2, 3, tbX7_treeOf), 7, 1, false),
  (yX7_strayed, cX7_strayed, (some .int), (7, 1, tbX7_strayed), 7, 2, false),
  (yX8_init, cX8_init, none, (2, 0, tbX8_init), 8, 0, false),
  (yX8_in, cX8_in, (some .boolean), (6, 2, tbX8_in), 8, 3, true),
  (yX8_has, cX8_has, (some .boolean), (2, 2, tbX8_has), 8, 2, true),
  (yX8_ones, cX8_ones, (some .int), (3, 1, tbX8_ones), 8, 1, true),
  (yX8_isPicture, cX8_isPicture, (some .boolean), (2, 2, tbX8_isPicture), 8, 1, false),
  (yX8_isGrain, cX8_isGrain, (some .boolean), (1, 2, tbX8_isGrain), 8, 1, true),
  (yX8_isPlace, cX8_isPlace, (some .boolean), (1, 2, tbX8_isPlace), 8, 1, true),
  (yX8_copy, cX8_copy, none, (4, 0, tbX8_copy), 8, 2, false),
  (yX8_minds, cX8_minds, none, (2, 0, tbX8_minds), 8, 0, false),
  (yX8_of, cX8_of, (some .int), (1, 1, tbX8_of), 8, 1, true),
  (yX8_setOf, cX8_setOf, (some .int), (2, 1, tbX8_setOf), 8, 1, false),
  (yX8_x, cX8_x, (some .int), (3, 1, tbX8_x), 8, 2, false),
  (yX8_y, cX8_y, (some .int), (3, 1, tbX8_y), 8, 2, false),
  (yX8_lays, cX8_lays, none, (5, 0, tbX8_lays), 8, 4, false),
  (yX8_begins, cX8_begins, (some .int), (3, 1, tbX8_begins), 8, 0, false),
  (yX8_picture, cX8_picture, (some .int), (1, 1, tbX8_picture), 8, 0, false),
  (yX8_drop, cX8_drop, (some .int), (1, 1, tbX8_drop), 8, 0, false),
  (yX8_put, cX8_put, (some .int), (6, 1, tbX8_put), 8, 4, false),
  (yX8_lose, cX8_lose, (some .int), (3, 1, tbX8_lose), 8, 2, false),
  (yX8_weigh, cX8_weigh, (some .int), (4, 1, tbX8_weigh), 8, 2, false),
  (yX8_bound, cX8_bound, (some .int), (5, 1, tbX8_bound), 8, 2, false),
  (yX8_draw, cX8_draw, (some .int), (2, 1, tbX8_draw), 8, 1, false),
  (yX8_bounded, cX8_bounded, (some .int), (1, 1, tbX8_bounded), 8, 1, true),
  (yX8_drift, cX8_drift, (some .int), (9, 1, tbX8_drift), 8, 1, false),
  (yX8_undo, cX8_undo, (some .int), (1, 1, tbX8_undo), 8, 0, false),
  (yX8_way, cX8_way, (some .int), (6, 1, tbX8_way), 8, 3, false),
  (yX8_isLinked, cX8_isLinked, (some .boolean), (5, 2, tbX8_isLinked), 8, 4, false),
  (yX8_weight, cX8_weight, (some .int), (4, 1, tbX8_weight), 8, 1, false),
  (yX8_clumpOf, cX8_clumpOf, (some .int), (9, 1, tbX8_clumpOf), 8, 4, false),
  (yX8_clumpsOf, cX8_clumpsOf, (some .int), (7, 1, tbX8_clumpsOf), 8, 3, false),
  (yX8_lowest, cX8_lowest, (some .int), (2, 1, tbX8_lowest), 8, 1, true),
  (yX8_isAhead, cX8_isAhead, (some .boolean), (3, 2, tbX8_isAhead), 8, 2, false),
  (yX8_layHalos, cX8_layHalos, none, (6, 0, tbX8_layHalos), 8, 1, false),
  (yX8_layAll, cX8_layAll, none, (2, 0, tbX8_layAll), 8, 0, false),
  (yX8_isHalo, cX8_isHalo, (some .boolean), (3, 2, tbX8_isHalo), 8, 2, false),
  (yX8_haloSet, cX8_haloSet, (some .int), (3, 1, tbX8_haloSet), 8, 2, false),
  (yX8_goesOn, cX8_goesOn, (some .int), (7, 1, tbX8_goesOn), 8, 2, false),
  (yX8_comesFrom, cX8_comesFrom, (some .int), (5, 1, tbX8_comesFrom), 8, 2, false),
  (yX8_mainOf, cX8_mainOf, (some .int), (4, 1, tbX8_mainOf), 8, 2, false),
  (yX8_branchLong, cX8_branchLong, (some .int), (6, 1, tbX8_branchLong), 8, 2, false),
  (yX8_strayed, cX8_strayed, (some .int), (5, 1, tbX8_strayed), 8, 2, false),
  (yX8_countHalos, cX8_countHalos, (some .int), (7, 1, tbX8_countHalos), 8, 1, false),
  (yX8_told, cX8_told, (some .int), (2, 1, tbX8_told), 8, 1, false),
  (yX8_linksOf, cX8_linksOf, (some .int), (5, 1, tbX8_linksOf), 8, 2, false),
  (yX8_links, cX8_links, (some .int), (4, 1, tbX8_links), 8, 1, false),
  (yX8_halosOf, cX8_halosOf, (some .int), (2, 1, tbX8_halosOf), 8, 1, false),
  (yX8_ofPicture, cX8_ofPicture, (some .int), (3, 1, tbX8_ofPicture), 8, 2, false),
  (yX8_haloIn, cX8_haloIn, (some .int), (5, 1, tbX8_haloIn), 8, 2, false),
  (yX8_holds, cX8_holds, (some .int), (4, 1, tbX8_holds), 8, 2, false),
  (yX8_grain, cX8_grain, (some .int), (5, 1, tbX8_grain), 8, 3, false),
  (yX8_grew, cX8_grew, (some .int), (4, 1, tbX8_grew), 8, 2, false),
  (yX8_halo, cX8_halo, (some .int), (4, 1, tbX8_halo), 8, 3, false),
  (yX8_from, cX8_from, (some .int), (3, 1, tbX8_from), 8, 2, false),
  (yX8_branch, cX8_branch, (some .int), (6, 1, tbX8_branch), 8, 3, false),
  (yX8_common, cX8_common, (some .int), (4, 1, tbX8_common), 8, 3, false),
  (yX8_key, cX8_key, (some .int), (4, 1, tbX8_key), 8, 3, false),
  (yX8_sorts, cX8_sorts, none, (8, 0, tbX8_sorts), 8, 4, false),
  (yX8_adds, cX8_adds, none, (5, 0, tbX8_adds), 8, 4, false),
  (yX8_layTree, cX8_layTree, none, (9, 0, tbX8_layTree), 8, 1, false),
  (yX8_longest, cX8_longest, (some .int), (4, 1, tbX8_longest), 8, 1, false),
  (yX8_topOf, cX8_topOf, (some .int), (2, 1, tbX8_topOf), 8, 1, false),
  (yX8_depthOf, cX8_depthOf, (some .int), (3, 1, tbX8_depthOf), 8, 2, false),
  (yX8_farFrom, cX8_farFrom, (some .int), (7, 1, tbX8_farFrom), 8, 4, false),
  (yX8_looked, cX8_looked, (some .int), (8, 1, tbX8_looked), 8, 4, false),
  (yX8_within, cX8_within, (some .int), (8, 1, tbX8_within), 8, 5, false),
  (yX8_nearest, cX8_nearest, (some .int), (7, 1, tbX8_nearest), 8, 3, false),
  (yX8_below, cX8_below, (some .int), (4, 1, tbX8_below), 8, 3, false),
  (yX8_steps, cX8_steps, (some .int), (8, 1, tbX8_steps), 8, 3, false),
  (yX8_clumps, cX8_clumps, (some .int), (3, 1, tbX8_clumps), 8, 2, false),
  (yX8_join, cX8_join, (some .int), (6, 1, tbX8_join), 8, 3, false),
  (yX8_keep, cX8_keep, (some .int), (2, 1, tbX8_keep), 8, 1, false),
  (yX8_goBack, cX8_goBack, (some .int), (2, 1, tbX8_goBack), 8, 1, false),
  (yJ6_bitCount_0f7a4, cJ6_bitCount_0f7a4, (some .int), (1, 1, tbJ6_bitCount_0f7a4), 10, 1, true),
  (yJ7_fill_53178, cJ7_fill_53178, none, (4, 0, tbJ7_fill_53178), 12, 2, true),
  (yL_law, cL_law, (some .boolean), (4, 2, tbL_law), 9, 1, false)
  ]
def jm_g (y : Nat) : MethodName × ByteArray × Option FieldType × jm_M × Nat × Nat × Bool := jm_gl.getD y (objectInit, ⟨#[]⟩, none, (0, 0, []), 0, 0, false)
def jm_nm (y : Nat) : MethodName := (jm_g y).1
def jm_cd (y : Nat) : ByteArray := (jm_g y).2.1
def jm_rt0 (y : Nat) : Option FieldType := (jm_g y).2.2.1
def jm_G (y : Nat) : jm_M := (jm_g y).2.2.2.1
def jm_oc (y : Nat) : Nat := (jm_g y).2.2.2.2.1
def jm_ar (y : Nat) : Nat := (jm_g y).2.2.2.2.2.1
def jm_sf (y : Nat) : Bool := (jm_g y).2.2.2.2.2.2
def jm_law : Nat := 166
def jm_on (o : Nat) : String := match o with
  | 9 => RL | 10 => RJ6 | 11 => RJ9 | 12 => RJ7 | o => jm_cn o
def jm_flp : List (Nat × Nat × Nat × Nat × Nat) := [(91, (1, 9, 1, 0)), (92, (7, 59, 1, 0)), (93, (2, 33, 1, 0)), (94, (1, 15, 1, 1)), (95, (2, 36, 1, 1)), (96, (7, 113, 1, 1)), (97, (1, 18, 1, 2)), (98, (3, 49, 1, 2)), (99, (7, 116, 1, 2)), (100, (1, 21, 1, 3)), (101, (7, 109, 1, 3)), (102, (1, 25, 1, 4)), (124, (5, 11, 5, 0)), (125, (5, 17, 5, 1)), (126, (5, 21, 5, 2)), (127, (7, 131, 5, 2)), (150, (0, 9, 0, 0)), (151, (7, 165, 0, 0)), (152, (0, 15, 0, 1)), (153, (7, 168, 0, 1)), (154, (0, 18, 0, 2)), (155, (7, 202, 0, 2)), (156, (0, 22, 0, 3)), (157, (3, 34, 0, 3)), (158, (7, 196, 0, 3)), (174, (3, 9, 3, 0)), (175, (2, 79, 3, 0)), (176, (7, 173, 3, 0)), (177, (3, 15, 3, 1)), (178, (7, 214, 3, 1)), (179, (3, 19, 3, 2)), (180, (2, 76, 3, 2)), (181, (7, 217, 3, 2)), (182, (3, 22, 3, 3)), (183, (2, 82, 3, 3)), (184, (7, 218, 3, 3)), (185, (3, 25, 3, 4)), (186, (2, 85, 3, 4)), (187, (7, 221, 3, 4)), (188, (3, 28, 3, 5)), (189, (2, 73, 3, 5)), (190, (7, 224, 3, 5)), (191, (3, 31, 3, 6)), (192, (2, 69, 3, 6)), (193, (7, 227, 3, 6)), (209, (2, 9, 2, 0)), (210, (7, 138, 2, 0)), (211, (2, 15, 2, 1)), (212, (2, 21, 2, 2)), (213, (7, 161, 2, 2)), (214, (2, 27, 2, 3)), (215, (7, 169, 2, 3)), (233, (6, 9, 6, 0)), (234, (7, 183, 6, 0)), (235, (6, 15, 6, 1)), (236, (7, 180, 6, 1)), (237, (6, 18, 6, 2)), (238, (7, 250, 6, 2)), (239, (6, 22, 6, 3)), (240, (7, 253, 6, 3)), (241, (6, 25, 6, 4)), (242, (7, 208, 6, 4)), (243, (6, 28, 6, 5)), (244, (6, 31, 6, 6)), (245, (6, 34, 6, 7)), (269, (4, 9, 4, 0)), (273, (7, 10, 7, 0)), (274, (7, 19, 7, 1)), (275, (7, 23, 7, 2)), (276, (7, 27, 7, 3)), (277, (7, 34, 7, 4)), (278, (7, 41, 7, 5)), (279, (7, 48, 7, 6)), (280, (7, 55, 7, 7)), (687, (8, 7, 8, 0)), (688, (8, 13, 8, 1)), (689, (8, 55, 8, 2)), (690, (8, 108, 8, 3)), (691, (8, 17, 8, 4)), (692, (8, 20, 8, 5)), (693, (8, 220, 8, 6)), (694, (8, 23, 8, 7)), (695, (8, 26, 8, 8)), (696, (8, 29, 8, 9)), (697, (8, 32, 8, 10)), (698, (8, 217, 8, 11)), (699, (8, 35, 8, 12)), (700, (8, 38, 8, 13)), (701, (8, 41, 8, 14)), (702, (8, 44, 8, 15))]
def jm_mlp : List (Nat × Nat × Nat × Nat) := [(76, (9, 9, 56)), (84, (7, 9, 9)), (88, (1, 28, 165)), (117, (7, 18, 45)), (123, (5, 24, 9)), (137, (7, 33, 21)), (298, (9, 13, 57)), (303, (7, 64, 88)), (307, (7, 275, 46)), (311, (5, 25, 10)), (318, (7, 67, 11)), (322, (1, 40, 13)), (326, (9, 18, 58)), (331, (9, 22, 59)), (335, (7, 72, 81)), (339, (7, 158, 80)), (343, (7, 101, 83)), (346, (7, 105, 86)), (350, (7, 77, 85)), (354, (7, 81, 14)), (358, (7, 84, 12)), (362, (9, 27, 60)), (366, (7, 88, 13)), (367, (7, 92, 18)), (371, (1, 51, 14)), (372, (7, 96, 164)), (378, (9, 32, 61)), (382, (9, 36, 62)), (386, (9, 40, 63)), (391, (7, 120, 39)), (395, (7, 124, 41)), (399, (4, 19, 40)), (405, (4, 23, 43)), (409, (4, 44, 12)), (410, (7, 128, 42)), (414, (4, 27, 14)), (415, (4, 33, 15)), (419, (4, 37, 44)), (429, (4, 41, 16)), (433, (9, 45, 64)), (437, (7, 134, 47)), (441, (9, 49, 65)), (445, (7, 142, 22)), (449, (2, 39, 1)), (453, (0, 25, 165)), (454, (0, 31, 14)), (455, (0, 37, 2)), (459, (0, 41, 15)), (460, (0, 45, 16)), (461, (0, 48, 17)), (465, (1, 44, 15)), (466, (1, 48, 16)), (467, (2, 43, 18)), (468, (2, 47, 3)), (475, (0, 55, 5)), (479, (0, 62, 6)), (483, (0, 58, 4)), (487, (2, 51, 30)), (492, (3, 43, 20)), (497, (3, 52, 31)), (501, (2, 55, 33)), (505, (3, 56, 165)), (506, (2, 58, 36)), (510, (2, 61, 34)), (514, (3, 62, 35)), (518, (2, 65, 37)), (522, (3, 66, 36)), (523, (7, 146, 25)), (527, (7, 149, 26)), (531, (7, 152, 27)), (535, (7, 155, 28)), (540, (9, 53, 66)), (544, (7, 176, 90)), (548, (7, 284, 50)), (552, (6, 37, 165)), (553, (6, 43, 14)), (554, (6, 49, 15)), (555, (6, 53, 16)), (556, (6, 56, 51)), (560, (6, 60, 52)), (564, (6, 69, 53)), (569, (7, 186, 20)), (570, (9, 57, 67)), (574, (7, 189, 15)), (575, (7, 193, 16)), (576, (7, 199, 32)), (580, (7, 205, 8)), (584, (9, 62, 68)), (588, (7, 211, 82)), (592, (7, 230, 24)), (596, (7, 233, 91)), (600, (9, 66, 69)), (604, (9, 70, 70)), (608, (7, 236, 23)), (612, (9, 74, 71)), (616, (9, 78, 72)), (620, (7, 240, 19)), (624, (1, 55, 17)), (625, (7, 244, 54)), (629, (6, 72, 55)), (633, (9, 83, 73)), (637, (7, 247, 17)), (638, (9, 87, 74)), (642, (9, 91, 75)), (646, (7, 256, 7)), (650, (9, 95, 76)), (654, (7, 259, 89)), (658, (7, 278, 1)), (659, (7, 281, 3)), (660, (9, 99, 77)), (664, (7, 263, 87)), (665, (9, 103, 78)), (669, (7, 266, 84)), (672, (7, 269, 10)), (673, (7, 272, 48)), (677, (9, 107, 79)), (683, (9, 12, 92)), (736, (9, 17, 107)), (741, (8, 68, 100)), (745, (8, 59, 99)), (749, (8, 71, 106)), (753, (8, 63, 101)), (756, (9, 21, 108)), (761, (9, 26, 109)), (765, (8, 76, 96)), (769, (8, 47, 93)), (772, (8, 80, 97)), (777, (8, 84, 98)), (782, (8, 88, 102)), (786, (8, 91, 94)), (789, (8, 95, 105)), (793, (9, 31, 110)), (797, (8, 99, 95)), (800, (9, 35, 111)), (805, (9, 39, 112)), (811, (9, 44, 115)), (816, (8, 118, 113)), (822, (8, 121, 103)), (826, (8, 125, 114)), (829, (8, 128, 104)), (833, (9, 48, 116)), (837, (9, 52, 134)), (841, (8, 174, 133)), (845, (8, 156, 125)), (849, (8, 152, 124)), (853, (8, 139, 120)), (857, (8, 135, 118)), (861, (8, 131, 117)), (865, (8, 143, 119)), (869, (8, 149, 123)), (873, (8, 146, 122)), (876, (8, 162, 128)), (880, (8, 159, 127)), (884, (8, 165, 129)), (888, (8, 171, 131)), (892, (8, 168, 130)), (896, (9, 56, 138)), (900, (8, 180, 136)), (904, (8, 177, 135)), (908, (8, 183, 121)), (912, (8, 186, 137)), (916, (8, 189, 151)), (920, (8, 229, 150)), (924, (8, 223, 149)), (928, (8, 226, 148)), (932, (8, 214, 147)), (937, (8, 192, 152)), (941, (9, 61, 141)), (945, (8, 195, 139)), (949, (8, 198, 140)), (953, (8, 201, 153)), (957, (9, 65, 143)), (961, (8, 204, 126)), (965, (8, 207, 142)), (969, (8, 210, 132)), (973, (9, 69, 144)), (977, (9, 73, 145)), (981, (9, 77, 146)), (985, (9, 82, 156)), (991, (8, 236, 154)), (995, (8, 239, 155)), (999, (9, 86, 157)), (1003, (9, 90, 158)), (1007, (9, 94, 159)), (1011, (9, 98, 160)), (1016, (9, 102, 161)), (1020, (9, 106, 162)), (1024, (9, 110, 163))]
def jm_nl : List (Nat × Nat × Nat) := [(0, 52, 87), (1, 59, 87), (2, 31, 0), (2, 32, 29), (3, 39, 87), (7, 40, 0), (7, 47, 49), (7, 54, 38)]
def jm_olp : List (Nat × Nat × Nat) := [(79, (7, 1)), (87, (1, 3)), (120, (5, 3)), (140, (2, 3)), (149, (0, 3)), (173, (3, 3)), (232, (6, 3)), (268, (4, 3)), (686, (8, 1))]
def jm_cpp : List (Nat × Nat × Nat) := [(315, (1, 34))]
def jm_mxp : List (Nat × Nat × Nat) := [(426, (4, 53)), (539, (2, 88)), (568, (6, 64))]
def jm_mnp : List (Nat × Nat × Nat) := [(423, (4, 48))]
def jm_kcp : List (Nat × Nat × Nat × Nat) := [(74, (9, 7, 7)), (82, (7, 7, 1)), (115, (7, 16, 5)), (121, (5, 9, 1)), (135, (7, 31, 2)), (141, (2, 19, 0)), (143, (2, 25, 3)), (225, (7, 38, 0)), (227, (7, 45, 6)), (263, (7, 52, 4)), (681, (9, 10, 8))]
def jm_kip : List (Nat × Nat × Nat × Int32) := [(302, (7, 63, (-1000000004))), (330, (7, 71, (-1000000003))), (349, (7, 76, (-1000000001))), (353, (7, 80, (-1000000002))), (375, (10, 265, 1431655765)), (376, (10, 266, 858993459)), (377, (10, 267, 252645135)), (390, (7, 119, 999999)), (740, (8, 67, (-1000000004))), (760, (8, 75, (-1000000003))), (776, (8, 83, (-1000000001))), (781, (8, 87, (-1000000002))), (936, (8, 213, 100000))]
def jm_kjp : List (Nat × Nat × Nat × Int64) := [(403, (4, 15, 16807)), (404, (4, 17, 2147483647)), (775, (8, 51, 23)), (780, (8, 53, 63)), (804, (8, 102, 9)), (809, (8, 104, 40)), (810, (8, 106, 99)), (815, (8, 116, 999999)), (820, (8, 112, 16807)), (821, (8, 114, 2147483647)), (989, (8, 232, 9999)), (990, (8, 234, 3)), (1015, (8, 242, 90))]
/-- where the words of each method stand: static or instance, selects, code, initialized -/
def jm_mpl : List (Nat × Nat × Nat × Nat) := [(147, 0, 148, 66), (450, 451, 452, 66), (457, 6, 458, 66), (469, 470, 471, 66), (485, 9, 486, 66), (477, 7, 478, 66), (481, 8, 482, 66), (647, 648, 649, 66), (581, 582, 583, 66), (85, 0, 86, 62), (312, 313, 314, 62), (319, 320, 321, 62), (359, 360, 361, 62), (323, 324, 325, 62), (355, 356, 357, 62), (416, 417, 418, 62), (430, 431, 432, 62), (462, 463, 464, 62), (368, 369, 370, 62), (621, 622, 623, 62), (493, 494, 495, 62), (138, 0, 139, 65), (446, 447, 448, 65), (609, 610, 611, 65), (593, 594, 595, 65), (524, 525, 526, 65), (528, 529, 530, 65), (532, 533, 534, 65), (536, 537, 538, 65), (171, 0, 172, 67), (488, 489, 490, 67), (499, 10, 500, 67), (577, 578, 579, 67), (502, 503, 504, 67), (511, 512, 513, 67), (516, 11, 517, 67), (507, 508, 509, 67), (519, 520, 521, 67), (266, 0, 267, 69), (392, 393, 394, 69), (401, 3, 402, 69), (396, 397, 398, 69), (411, 412, 413, 69), (407, 4, 408, 69), (421, 5, 422, 69), (118, 0, 119, 64), (308, 309, 310, 64), (438, 439, 440, 64), (674, 675, 676, 64), (230, 0, 231, 68), (549, 550, 551, 68), (558, 13, 559, 68), (562, 14, 563, 68), (566, 15, 567, 68), (626, 627, 628, 68), (631, 18, 632, 68), (77, 0, 78, 61), (299, 300, 301, 61), (327, 328, 329, 61), (332, 333, 334, 61), (363, 364, 365, 61), (379, 380, 381, 61), (383, 384, 385, 61), (387, 388, 389, 61), (434, 435, 436, 61), (442, 443, 444, 61), (541, 542, 543, 61), (571, 572, 573, 61), (585, 586, 587, 61), (601, 602, 603, 61), (605, 606, 607, 61), (613, 614, 615, 61), (617, 618, 619, 61), (634, 635, 636, 61), (639, 640, 641, 61), (643, 644, 645, 61), (651, 652, 653, 61), (661, 662, 663, 61), (666, 667, 668, 61), (678, 679, 680, 61), (341, 2, 342, 61), (337, 1, 338, 61), (590, 16, 591, 61), (344, 0, 345, 61), (670, 0, 671, 61), (351, 0, 352, 61), (347, 0, 348, 61), (473, 0, 474, 61), (305, 0, 306, 61), (656, 19, 657, 61), (546, 12, 547, 61), (598, 17, 599, 61), (684, 0, 685, 70), (770, 0, 771, 70), (787, 0, 788, 70), (798, 0, 799, 70), (767, 23, 768, 70), (773, 0, 774, 70), (778, 0, 779, 70), (747, 21, 748, 70), (743, 20, 744, 70), (754, 0, 755, 70), (784, 24, 785, 70), (824, 27, 825, 70), (831, 28, 832, 70), (791, 25, 792, 70), (751, 22, 752, 70), (737, 738, 739, 70), (757, 758, 759, 70), (762, 763, 764, 70), (794, 795, 796, 70), (801, 802, 803, 70), (806, 807, 808, 70), (818, 26, 819, 70), (827, 0, 828, 70), (812, 813, 814, 70), (834, 835, 836, 70), (863, 34, 864, 70), (859, 33, 860, 70), (867, 35, 868, 70), (855, 32, 856, 70), (910, 44, 911, 70), (874, 0, 875, 70), (871, 36, 872, 70), (851, 31, 852, 70), (847, 30, 848, 70), (963, 55, 964, 70), (882, 38, 883, 70), (878, 37, 879, 70), (886, 39, 887, 70), (894, 41, 895, 70), (890, 40, 891, 70), (971, 57, 972, 70), (843, 29, 844, 70), (838, 839, 840, 70), (906, 43, 907, 70), (902, 42, 903, 70), (914, 45, 915, 70), (897, 898, 899, 70), (947, 52, 948, 70), (951, 53, 952, 70), (942, 943, 944, 70), (967, 56, 968, 70), (958, 959, 960, 70), (974, 975, 976, 70), (978, 979, 980, 70), (982, 983, 984, 70), (934, 50, 935, 70), (930, 49, 931, 70), (926, 48, 927, 70), (922, 47, 923, 70), (918, 46, 919, 70), (939, 51, 940, 70), (955, 54, 956, 70), (993, 58, 994, 70), (997, 59, 998, 70), (986, 987, 988, 70), (1000, 1001, 1002, 70), (1004, 1005, 1006, 70), (1008, 1009, 1010, 70), (1012, 1013, 1014, 70), (1017, 1018, 1019, 70), (1021, 1022, 1023, 70), (1025, 1026, 1027, 70), (373, 0, 374, 72), (89, 0, 90, 63)]
def jm_fl := jm_flp.map (fun q => q.2)
def jm_ml := jm_mlp.map (fun q => q.2)
def jm_ol := jm_olp.map (fun q => q.2)
def jm_cp := jm_cpp.map (fun q => q.2)
def jm_mx := jm_mxp.map (fun q => q.2)
def jm_mn := jm_mnp.map (fun q => q.2)
def jm_kc := jm_kcp.map (fun q => q.2)
def jm_ki := jm_kip.map (fun q => q.2)
def jm_kj := jm_kjp.map (fun q => q.2)
end
section
/-! the tables are the program's: a check that the kernel runs -/
def jm_wp (i : Nat) (w : Jvm.Cond) : Bool := decide (lw_tbl[i]? = some w) && goodWord w
theorem jm_wp_ok {i : Nat} {w : Jvm.Cond} (h : jm_wp i w = true) : w ∈ jm_tb := by
  simp only [jm_wp, Bool.and_eq_true, decide_eq_true_eq] at h
  exact jm_tb_in (List.mem_of_getElem? h.1) h.2
set_option maxRecDepth 100000 in
theorem jm_flp_ck : jm_flp.all (fun q => decide (q.2.2.2.1 < 9) && decide (q.2.2.2.2 < jm_nf q.2.2.2.1) && jm_wp q.1 (Jvm.Cond.fieldLink (jm_on q.2.1) q.2.2.1 (jm_cn q.2.2.2.1) (jm_cT q.2.2.2.1 q.2.2.2.2).2.1 (jm_cT q.2.2.2.1 q.2.2.2.2).2.2.1)) = true := by decide +kernel
theorem jm_fl_ok : ∀ q ∈ jm_fl, q.2.2.1 < 9 ∧ q.2.2.2 < jm_nf q.2.2.1 ∧ Jvm.Cond.fieldLink (jm_on q.1) q.2.1 (jm_cn q.2.2.1) (jm_cT q.2.2.1 q.2.2.2).2.1 (jm_cT q.2.2.1 q.2.2.2).2.2.1 ∈ jm_tb := by
  intro q hq
  obtain ⟨z, hz, rfl⟩ := List.mem_map.mp hq
  have h := List.all_eq_true.mp jm_flp_ck z hz
  simp only [Bool.and_eq_true, decide_eq_true_eq] at h
  exact ⟨h.1.1, h.1.2, jm_wp_ok h.2⟩
set_option maxRecDepth 100000 in
theorem jm_mlp_ck : jm_mlp.all (fun q => jm_wp q.1 (Jvm.Cond.methodLink (jm_on q.2.1) q.2.2.1 (jm_nm q.2.2.2))) = true := by decide +kernel
theorem jm_ml_ok : ∀ q ∈ jm_ml, Jvm.Cond.methodLink (jm_on q.1) q.2.1 (jm_nm q.2.2) ∈ jm_tb := by
  intro q hq
  obtain ⟨z, hz, rfl⟩ := List.mem_map.mp hq
  exact jm_wp_ok (List.all_eq_true.mp jm_mlp_ck z hz)
set_option maxRecDepth 100000 in
theorem jm_nl_ok : ∀ q ∈ jm_nl, (jm_on q.1, q.2.1, jm_nm q.2.2, RX7) ∈ jm_nst := by decide +kernel
set_option maxRecDepth 100000 in
theorem jm_olp_ck : jm_olp.all (fun q => jm_wp q.1 (Jvm.Cond.methodLink (jm_on q.2.1) q.2.2 objectInit)) = true := by decide +kernel
theorem jm_ol_ok : ∀ q ∈ jm_ol, Jvm.Cond.methodLink (jm_on q.1) q.2 objectInit ∈ jm_tb := by
  intro q hq
  obtain ⟨z, hz, rfl⟩ := List.mem_map.mp hq
  exact jm_wp_ok (List.all_eq_true.mp jm_olp_ck z hz)
set_option maxRecDepth 100000 in
theorem jm_cpp_ck : jm_cpp.all (fun q => jm_wp q.1 (Jvm.Cond.methodLink (jm_on q.2.1) q.2.2 arraycopyName)) = true := by decide +kernel
theorem jm_cp_ok : ∀ q ∈ jm_cp, Jvm.Cond.methodLink (jm_on q.1) q.2 arraycopyName ∈ jm_tb := by
  intro q hq
  obtain ⟨z, hz, rfl⟩ := List.mem_map.mp hq
  exact jm_wp_ok (List.all_eq_true.mp jm_cpp_ck z hz)
set_option maxRecDepth 100000 in
theorem jm_mxp_ck : jm_mxp.all (fun q => jm_wp q.1 (Jvm.Cond.methodLink (jm_on q.2.1) q.2.2 Lib.Math.max.name)) = true := by decide +kernel
theorem jm_mx_ok : ∀ q ∈ jm_mx, Jvm.Cond.methodLink (jm_on q.1) q.2 Lib.Math.max.name ∈ jm_tb := by
  intro q hq
  obtain ⟨z, hz, rfl⟩ := List.mem_map.mp hq
  exact jm_wp_ok (List.all_eq_true.mp jm_mxp_ck z hz)
set_option maxRecDepth 100000 in
theorem jm_mnp_ck : jm_mnp.all (fun q => jm_wp q.1 (Jvm.Cond.methodLink (jm_on q.2.1) q.2.2 Lib.Math.min.name)) = true := by decide +kernel
theorem jm_mn_ok : ∀ q ∈ jm_mn, Jvm.Cond.methodLink (jm_on q.1) q.2 Lib.Math.min.name ∈ jm_tb := by
  intro q hq
  obtain ⟨z, hz, rfl⟩ := List.mem_map.mp hq
  exact jm_wp_ok (List.all_eq_true.mp jm_mnp_ck z hz)
set_option maxRecDepth 100000 in
theorem jm_kcp_ck : jm_kcp.all (fun q => decide (q.2.2.2 < 9) && jm_wp q.1 (Jvm.Cond.classLink (jm_on q.2.1) q.2.2.1 (jm_cn q.2.2.2))) = true := by decide +kernel
theorem jm_kc_ok : ∀ q ∈ jm_kc, q.2.2 < 9 ∧ Jvm.Cond.classLink (jm_on q.1) q.2.1 (jm_cn q.2.2) ∈ jm_tb := by
  intro q hq
  obtain ⟨z, hz, rfl⟩ := List.mem_map.mp hq
  have h := List.all_eq_true.mp jm_kcp_ck z hz
  simp only [Bool.and_eq_true, decide_eq_true_eq] at h
  exact ⟨h.1, jm_wp_ok h.2⟩
set_option maxRecDepth 100000 in
theorem jm_kip_ck : jm_kip.all (fun q => jm_wp q.1 (Jvm.Cond.constant (jm_on q.2.1) q.2.2.1 q.2.2.2)) = true := by decide +kernel
theorem jm_ki_ok : ∀ q ∈ jm_ki, Jvm.Cond.constant (jm_on q.1) q.2.1 q.2.2 ∈ jm_tb := by
  intro q hq
  obtain ⟨z, hz, rfl⟩ := List.mem_map.mp hq
  exact jm_wp_ok (List.all_eq_true.mp jm_kip_ck z hz)
set_option maxRecDepth 100000 in
theorem jm_kjp_ck : jm_kjp.all (fun q => jm_wp q.1 (Jvm.Cond.constantLong (jm_on q.2.1) q.2.2.1 q.2.2.2)) = true := by decide +kernel
theorem jm_kj_ok : ∀ q ∈ jm_kj, Jvm.Cond.constantLong (jm_on q.1) q.2.1 q.2.2 ∈ jm_tb := by
  intro q hq
  obtain ⟨z, hz, rfl⟩ := List.mem_map.mp hq
  exact jm_wp_ok (List.all_eq_true.mp jm_kjp_ck z hz)
set_option maxRecDepth 100000 in
theorem jm_m_oc : ∀ y, y < 167 → (jm_nm y).cls = jm_on (jm_oc y) := by decide +kernel
def jm_mpp (y : Nat) : Nat × Nat × Nat × Nat := jm_mpl.getD y (0, 0, 0, 0)
set_option maxRecDepth 100000 in
theorem jm_mp1 : ∀ y, y < 166 → jm_wp (jm_mpp y).1 (bif jm_sf y then Jvm.Cond.static (jm_nm y) else Jvm.Cond.instanceMethod (jm_nm y)) = true := by decide +kernel
set_option maxRecDepth 100000 in
theorem jm_mp2 : ∀ y, y < 166 → jm_sf y = false → (jm_nm y).name ≠ "<init>" → jm_oc y < 9 ∧ jm_wp (jm_mpp y).2.1 (Jvm.Cond.selects (jm_cn (jm_oc y)) (jm_nm y) (jm_nm y)) = true := by decide +kernel
set_option maxRecDepth 100000 in
theorem jm_mp3 : ∀ y, y < 166 → lw_tbl[(jm_mpp y).2.2.1]? = some (Jvm.Cond.code (jm_nm y) (jm_cd y) (jm_G y).1 (jm_rt0 y))
  | 0, _ => rfl
  | 1, _ => rfl
  | 2, _ => rfl
  | 3, _ => rfl
  | 4, _ => rfl
  | 5, _ => rfl
  | 6, _ => rfl
  | 7, _ => rfl
  | 8, _ => rfl
  | 9, _ => rfl
  | 10, _ => rfl
  | 11, _ => rfl
  | 12, _ => rfl
  | 13, _ => rfl
  | 14, _ => rfl
  | 15, _ => rfl
  | 16, _ => rfl
  | 17, _ => rfl
  | 18, _ => rfl
  | 19, _ => rfl
  | 20, _ => rfl
  | 21, _ => rfl
  | 22, _ => rfl
  | 23, _ => rfl
  | 24, _ => rfl
  | 25, _ => rfl
  | 26, _ => rfl
  | 27, _ => rfl
  | 28, _ => rfl
  | 29, _ => rfl
  | 30, _ => rfl
  | 31, _ => rfl
  | 32, _ => rfl
  | 33, _ => rfl
  | 34, _ => rfl
  | 35, _ => rfl
  | 36, _ => rfl
  | 37, _ => rfl
  | 38, _ => rfl
  | 39, _ => rfl
  | 40, _ => rfl
  | 41, _ => rfl
  | 42, _ => rfl
  | 43, _ => rfl
  | 44, _ => rfl
  | 45, _ => rfl
  | 46, _ => rfl
  | 47, _ => rfl
  | 48, _ => rfl
  | 49, _ => rfl
  | 50, _ => rfl
  | 51, _ => rfl
  | 52, _ => rfl
  | 53, _ => rfl
  | 54, _ => rfl
  | 55, _ => rfl
  | 56, _ => rfl
  | 57, _ => rfl
  | 58, _ => rfl
  | 59, _ => rfl
  | 60, _ => rfl
  | 61, _ => rfl
  | 62, _ => rfl
  | 63, _ => rfl
  | 64, _ => rfl
  | 65, _ => rfl
  | 66, _ => rfl
  | 67, _ => rfl
  | 68, _ => rfl
  | 69, _ => rfl
  | 70, _ => rfl
  | 71, _ => rfl
  | 72, _ => rfl
  | 73, _ => rfl
  | 74, _ => rfl
  | 75, _ => rfl
  | 76, _ => rfl
  | 77, _ => rfl
  | 78, _ => rfl
  | 79, _ => rfl
  | 80, _ => rfl
  | 81, _ => rfl
  | 82, _ => rfl
  | 83, _ => rfl
  | 84, _ => rfl
  | 85, _ => rfl
  | 86, _ => rfl
  | 87, _ => rfl
  | 88, _ => rfl
  | 89, _ => rfl
  | 90, _ => rfl
  | 91, _ => rfl
  | 92, _ => rfl
  | 93, _ => rfl
  | 94, _ => rfl
  | 95, _ => rfl
  | 96, _ => rfl
  | 97, _ => rfl
  | 98, _ => rfl
  | 99, _ => rfl
  | 100, _ => rfl
  | 101, _ => rfl
  | 102, _ => rfl
  | 103, _ => rfl
  | 104, _ => rfl
  | 105, _ => rfl
  | 106, _ => rfl
  | 107, _ => rfl
  | 108, _ => rfl
  | 109, _ => rfl
  | 110, _ => rfl
  | 111, _ => rfl
  | 112, _ => rfl
  | 113, _ => rfl
  | 114, _ => rfl
  | 115, _ => rfl
  | 116, _ => rfl
  | 117, _ => rfl
  | 118, _ => rfl
  | 119, _ => rfl
  | 120, _ => rfl
  | 121, _ => rfl
  | 122, _ => rfl
  | 123, _ => rfl
  | 124, _ => rfl
  | 125, _ => rfl
  | 126, _ => rfl
  | 127, _ => rfl
  | 128, _ => rfl
  | 129, _ => rfl
  | 130, _ => rfl
  | 131, _ => rfl
  | 132, _ => rfl
  | 133, _ => rfl
  | 134, _ => rfl
  | 135, _ => rfl
  | 136, _ => rfl
  | 137, _ => rfl
  | 138, _ => rfl
  | 139, _ => rfl
  | 140, _ => rfl
  | 141, _ => rfl
  | 142, _ => rfl
  | 143, _ => rfl
  | 144, _ => rfl
  | 145, _ => rfl
  | 146, _ => rfl
  | 147, _ => rfl
  | 148, _ => rfl
  | 149, _ => rfl
  | 150, _ => rfl
  | 151, _ => rfl
  | 152, _ => rfl
  | 153, _ => rfl
  | 154, _ => rfl
  | 155, _ => rfl
  | 156, _ => rfl
  | 157, _ => rfl
  | 158, _ => rfl
  | 159, _ => rfl
  | 160, _ => rfl
  | 161, _ => rfl
  | 162, _ => rfl
  | 163, _ => rfl
  | 164, _ => rfl
  | 165, _ => rfl
  | _ + 166, h => absurd h (by omega)
set_option maxRecDepth 100000 in
theorem jm_mp4 : ∀ y, y < 166 → jm_wp (jm_mpp y).2.2.2 (Jvm.Cond.initialized (jm_nm y).cls) = true := by decide +kernel
theorem jm_m_st (y : Nat) (h : y < 166) (hs : jm_sf y = true) : Jvm.Cond.static (jm_nm y) ∈ jm_tb := by
  have := jm_wp_ok (jm_mp1 y h)
  rw [hs] at this
  exact this
theorem jm_m_in (y : Nat) (h : y < 166) (hs : jm_sf y = false) : Jvm.Cond.instanceMethod (jm_nm y) ∈ jm_tb := by
  have := jm_wp_ok (jm_mp1 y h)
  rw [hs] at this
  exact this
theorem jm_m_se (y : Nat) (h : y < 166) (hs : jm_sf y = false) (hn : (jm_nm y).name ≠ "<init>") : jm_oc y < 9 ∧ Jvm.Cond.selects (jm_cn (jm_oc y)) (jm_nm y) (jm_nm y) ∈ jm_tb := ⟨(jm_mp2 y h hs hn).1, jm_wp_ok (jm_mp2 y h hs hn).2⟩
set_option maxRecDepth 100000 in
theorem jm_m_pl : ∀ y, y < 166 → ((jm_nm y).cls ≠ "java/lang/invoke/MethodHandle" ∧ (jm_nm y).cls ≠ "java/lang/invoke/VarHandle") ∧ plainName (jm_nm y).cls = true ∧ (parseMethodDescriptor (jm_nm y).desc).map (fun d => d.parameters.length) = some (jm_ar y) ∧ jm_rk (jm_G y).2.1 (jm_rt0 y) = true ∧ (jm_G y).1 ≤ 40 := by decide +kernel
theorem jm_m_mk {y n : Nat} (h : y < 166) (hn : jm_ar y = n) : jm_mk jm_G jm_nm jm_cd jm_rt0 y n := by
  obtain ⟨a, b, c, d, e⟩ := jm_m_pl y h
  exact ⟨jm_tb_in (List.mem_of_getElem? (jm_mp3 y h)) rfl, jm_wp_ok (jm_mp4 y h), a, b, by rw [c, hn], d, e⟩
end
section
/-! the check of one instruction -/
/-- an instruction of method y, of a class with number o, at pc -/
def jm_ib (y o pc : Nat) (op : Instr) (len u v w : Nat) (c : Int32) (cl : Int64) (ts : List (Int32 × Nat)) : Bool := match op with
  | .iconst n => decide (len = 1 ∧ Int32.ofInt n = c)
  | .bipush n => decide (len = 2 ∧ (Int8.ofInt n).toInt32 = c)
  | .sipush n => decide (len = 3 ∧ (Int16.ofInt n).toInt32 = c)
  | .ldc i => decide (len = 2) && decide ((o, i, c) ∈ jm_ki)
  | .ldc_w i => decide (len = 3) && decide ((o, i, c) ∈ jm_ki)
  | .ldc2_w i => decide (len = 3) && decide ((o, i, cl) ∈ jm_kj)
  | .lconst n => decide (len = 1 ∧ Int64.ofNat (n : Nat) = cl)
  | .iload i => decide (len = 2 ∧ i = u)
  | .lload i => decide (len = 2 ∧ i = u)
  | .aload i => decide (len = 2 ∧ i = u)
  | .iload_n i => decide (len = 1 ∧ (i : Nat) = u)
  | .lload_n i => decide (len = 1 ∧ (i : Nat) = u)
  | .aload_n i => decide (len = 1 ∧ (i : Nat) = u)
  | .istore i => decide (len = 2 ∧ i = u ∧ u < (jm_G y).1)
  | .astore i => decide (len = 2 ∧ i = u ∧ u < (jm_G y).1)
  | .istore_n i => decide (len = 1 ∧ (i : Nat) = u ∧ u < (jm_G y).1)
  | .astore_n i => decide (len = 1 ∧ (i : Nat) = u ∧ u < (jm_G y).1)
  | .iinc i n => decide (len = 3 ∧ i = u ∧ Int32.ofInt n = c ∧ u < (jm_G y).1)
  | .goto q => decide (len = 3 ∧ (pc : Int) + q = (u : Int))
  | .ifCond _ q => decide (len = 3 ∧ (pc : Int) + q = (u : Int))
  | .if_icmp _ q => decide (len = 3 ∧ (pc : Int) + q = (u : Int))
  | .tableswitch df lo hi offs => decide ((pc : Int) + df = (u : Int) ∧ jm_tsok pc lo offs.toList ts = true ∧ hi + 1 = lo + offs.toList.length)
  | .lookupswitch df ps => decide ((pc : Int) + df = (u : Int) ∧ jm_lsok pc ps.toList ts = true ∧ (ps.toList.zip (ps.toList.drop 1)).all (fun (a, next) => a.1 < next.1) = true)
  | .getfield i => decide (len = 3) && decide ((o, i, u, v) ∈ jm_fl)
  | .putfield i => decide (len = 3) && decide ((o, i, u, v) ∈ jm_fl) && decide (jm_ft u v = 1 → (jm_nm y).name = "<init>" ∧ o = u)
  | .arraylength => decide (len = 1 ∧ (w = 1 → y = jm_law))
  | .iaload => decide (len = 1 ∧ (w = 1 → y = jm_law))
  | .newarray a => decide (len = 2 ∧ ((a = .int ∧ u = 9) ∨ (a = .boolean ∧ u = 10)))
  | .anewarray i => decide (len = 3 ∧ (11 ≤ u ∧ u ≤ 13)) && decide ((o, i, jm_ec u) ∈ jm_kc)
  | .new i => decide (len = 3) && decide ((o, i, u) ∈ jm_kc)
  | .invokevirtual i => decide (len = 3) && decide ((o, i, u) ∈ jm_ml) && decide (u < 166 ∧ 0 < v ∧ jm_ar u = v - 1 ∧ jm_sf u = false ∧ jm_oc u = w ∧ (jm_nm u).name ≠ "<init>")
  | .invokestatic i => decide (len = 3) && (bif decide (w = 7) then decide ((o, i) ∈ jm_cp) else bif decide (w = 8) then decide ((o, i) ∈ jm_mx) else bif decide (w = 9) then decide ((o, i) ∈ jm_mn) else (decide ((o, i, u) ∈ jm_ml) || decide ((o, i, u) ∈ jm_nl)) && decide (u < 166 ∧ jm_ar u = v ∧ jm_sf u = true))
  | .invokespecial i => decide (len = 3) && (bif decide (w = 7) then decide ((o, i) ∈ jm_ol) else (decide ((o, i, u) ∈ jm_ml) || decide ((o, i, u) ∈ jm_nl)) && decide (u < 166 ∧ 0 < v ∧ jm_ar u = v - 1 ∧ jm_sf u = false ∧ (jm_nm u).name = "<init>" ∧ jm_rt0 u = none))
  | _ => decide (len = 1)
theorem jm_ib_ok {y pc : Nat} {op : Instr} {len u v w : Nat} {c : Int32} {cl : Int64} {ts : List (Int32 × Nat)} (hy : y < 167) (h : jm_ib y (jm_oc y) pc op len u v w c cl ts = true) : jm_iok jm_G jm_nm jm_cd jm_rt0 jm_law y pc op len u v w c cl ts := by
  have ho := jm_m_oc y hy
  cases op with
  | ldc i =>
    simp only [jm_ib, Bool.and_eq_true, decide_eq_true_eq] at h
    exact ⟨h.1, by rw [ho]; exact jm_ki_ok _ h.2⟩
  | ldc_w i =>
    simp only [jm_ib, Bool.and_eq_true, decide_eq_true_eq] at h
    exact ⟨h.1, by rw [ho]; exact jm_ki_ok _ h.2⟩
  | ldc2_w i =>
    simp only [jm_ib, Bool.and_eq_true, decide_eq_true_eq] at h
    exact ⟨h.1, by rw [ho]; exact jm_kj_ok _ h.2⟩
  | getfield i =>
    simp only [jm_ib, Bool.and_eq_true, decide_eq_true_eq] at h
    obtain ⟨a, b, d⟩ := jm_fl_ok _ h.2
    exact ⟨h.1, a, b, by rw [ho]; exact d⟩
  | putfield i =>
    simp only [jm_ib, Bool.and_eq_true, decide_eq_true_eq] at h
    obtain ⟨a, b, d⟩ := jm_fl_ok _ h.1.2
    refine ⟨h.1.1, a, b, by rw [ho]; exact d, fun q => ⟨(h.2 q).1, ?_⟩⟩
    rw [ho, (h.2 q).2]
    dsimp only at a
    unfold jm_on
    split <;> first | omega | rfl
  | anewarray i =>
    simp only [jm_ib, Bool.and_eq_true, decide_eq_true_eq] at h
    exact ⟨h.1.1, h.1.2, by rw [ho]; exact (jm_kc_ok _ h.2).2⟩
  | new i =>
    simp only [jm_ib, Bool.and_eq_true, decide_eq_true_eq] at h
    exact ⟨h.1, (jm_kc_ok _ h.2).1, by rw [ho]; exact (jm_kc_ok _ h.2).2⟩
  | invokevirtual i =>
    simp only [jm_ib, Bool.and_eq_true, decide_eq_true_eq] at h
    obtain ⟨⟨h1, h2⟩, h3, h4, h5, h6, h7, h8⟩ := h
    have hs := jm_m_se u h3 h6 h8
    subst h7
    refine ⟨h1, h4, hs.1, fun q => ?_, ?_, by rw [ho]; exact jm_ml_ok _ h2, jm_m_in u h3 h6, hs.2, jm_m_mk h3 h5⟩
    · subst q; exact absurd h3 (by decide)
    · rw [jm_m_oc u (by omega)]
      unfold jm_on
      split <;> first | omega | rfl
  | invokestatic i =>
    simp only [jm_ib, Bool.and_eq_true, decide_eq_true_eq] at h
    obtain ⟨h1, h2⟩ := h
    refine ⟨h1, fun q => ?_, fun q => ?_, fun q => ?_, fun q q8 q9 => ?_⟩
    · rw [decide_eq_true q] at h2
      rw [ho]
      exact jm_cp_ok _ (of_decide_eq_true h2)
    · rw [decide_eq_false (show ¬ w = 7 by omega), decide_eq_true q] at h2
      rw [ho]
      exact jm_mx_ok _ (of_decide_eq_true h2)
    · rw [decide_eq_false (show ¬ w = 7 by omega), decide_eq_false (show ¬ w = 8 by omega), decide_eq_true q] at h2
      rw [ho]
      exact jm_mn_ok _ (of_decide_eq_true h2)
    · rw [decide_eq_false q, decide_eq_false q8, decide_eq_false q9] at h2
      simp only [cond_false, Bool.and_eq_true, Bool.or_eq_true, decide_eq_true_eq] at h2
      obtain ⟨h2, h3, h4, h5⟩ := h2
      refine ⟨fun q => ?_, jm_m_st u h3 h5, ?_, jm_m_mk h3 h4⟩
      · subst q; exact absurd h3 (by decide)
      · rw [ho]
        rcases h2 with h2 | h2
        · exact Or.inl (jm_ml_ok _ h2)
        · exact Or.inr (jm_nl_ok _ h2)
  | invokespecial i =>
    simp only [jm_ib, Bool.and_eq_true, decide_eq_true_eq] at h
    obtain ⟨h1, h2⟩ := h
    refine ⟨h1, fun q => ?_, fun q => ?_⟩
    · rw [decide_eq_true q] at h2
      rw [ho]
      exact jm_ol_ok _ (of_decide_eq_true h2)
    · rw [decide_eq_false q] at h2
      simp only [cond_false, Bool.and_eq_true, Bool.or_eq_true, decide_eq_true_eq] at h2
      obtain ⟨h2, h3, h4, h5, h6, h7, h8⟩ := h2
      refine ⟨h4, fun q => ?_, h7, jm_m_in u h3 h6, ?_, h8, jm_m_mk h3 h5⟩
      · subst q; exact absurd h3 (by decide)
      · rw [ho]
        rcases h2 with h2 | h2
        · exact Or.inl (jm_ml_ok _ h2)
        · exact Or.inr (jm_nl_ok _ h2)
  | _ =>
    simp only [jm_ib, decide_eq_true_eq] at h
    exact h
def jm_ck (y : Nat) (e : Nat × jm_I) : Bool := match e with
  | (pc, op, len, u, v, w, c, cl, ts, _) => decide (decode (jm_cd y) pc = .ok (op, len)) && jm_ib y (jm_oc y) pc op len u v w c cl ts
def jm_ckm (y : Nat) : Bool := (jm_G y).2.2.all (jm_ck y)
end
section
/-! every method's table is its bytecode -/
set_option maxRecDepth 100000 in
theorem jm_ck0 : ∀ k, k < 10 → jm_ckm (0 + k) = true := by decide +kernel
set_option maxRecDepth 100000 in
theorem jm_ck10 : ∀ k, k < 10 → jm_ckm (10 + k) = true := by decide +kernel
set_option maxRecDepth 100000 in
theorem jm_ck20 : ∀ k, k < 10 → jm_ckm (20 + k) = true := by decide +kernel
set_option maxRecDepth 100000 in
theorem jm_ck30 : ∀ k, k < 10 → jm_ckm (30 + k) = true := by decide +kernel
set_option maxRecDepth 100000 in
theorem jm_ck40 : ∀ k, k < 10 → jm_ckm (40 + k) = true := by decide +kernel
set_option maxRecDepth 100000 in
theorem jm_ck50 : ∀ k, k < 10 → jm_ckm (50 + k) = true := by decide +kernel
set_option maxRecDepth 100000 in
theorem jm_ck60 : ∀ k, k < 10 → jm_ckm (60 + k) = true := by decide +kernel
set_option maxRecDepth 100000 in
theorem jm_ck70 : ∀ k, k < 10 → jm_ckm (70 + k) = true := by decide +kernel
set_option maxRecDepth 100000 in
theorem jm_ck80 : ∀ k, k < 10 → jm_ckm (80 + k) = true := by decide +kernel
set_option maxRecDepth 100000 in
theorem jm_ck90 : ∀ k, k < 10 → jm_ckm (90 + k) = true := by decide +kernel
set_option maxRecDepth 100000 in
theorem jm_ck100 : ∀ k, k < 10 → jm_ckm (100 + k) = true := by decide +kernel
set_option maxRecDepth 100000 in
theorem jm_ck110 : ∀ k, k < 10 → jm_ckm (110 + k) = true := by decide +kernel
set_option maxRecDepth 100000 in
theorem jm_ck120 : ∀ k, k < 10 → jm_ckm (120 + k) = true := by decide +kernel
set_option maxRecDepth 100000 in
theorem jm_ck130 : ∀ k, k < 10 → jm_ckm (130 + k) = true := by decide +kernel
set_option maxRecDepth 100000 in
theorem jm_ck140 : ∀ k, k < 10 → jm_ckm (140 + k) = true := by decide +kernel
set_option maxRecDepth 100000 in
theorem jm_ck150 : ∀ k, k < 10 → jm_ckm (150 + k) = true := by decide +kernel
set_option maxRecDepth 100000 in
theorem jm_ck160 : ∀ k, k < 6 → jm_ckm (160 + k) = true := by decide +kernel
end
section
/-! the law's table is its bytecode -/
set_option maxRecDepth 100000 in
theorem jm_cl0 : ((tbL_law.drop 0).take 40).all (jm_ck 166) = true := by decide +kernel
set_option maxRecDepth 100000 in
theorem jm_cl1 : ((tbL_law.drop 40).take 40).all (jm_ck 166) = true := by decide +kernel
set_option maxRecDepth 100000 in
theorem jm_cl2 : ((tbL_law.drop 80).take 40).all (jm_ck 166) = true := by decide +kernel
set_option maxRecDepth 100000 in
theorem jm_cl3 : ((tbL_law.drop 120).take 40).all (jm_ck 166) = true := by decide +kernel
set_option maxRecDepth 100000 in
theorem jm_cl4 : ((tbL_law.drop 160).take 40).all (jm_ck 166) = true := by decide +kernel
set_option maxRecDepth 100000 in
theorem jm_cl5 : ((tbL_law.drop 200).take 40).all (jm_ck 166) = true := by decide +kernel
set_option maxRecDepth 100000 in
theorem jm_cl6 : ((tbL_law.drop 240).take 40).all (jm_ck 166) = true := by decide +kernel
set_option maxRecDepth 100000 in
theorem jm_cl7 : ((tbL_law.drop 280).take 40).all (jm_ck 166) = true := by decide +kernel
set_option maxRecDepth 100000 in
theorem jm_cl8 : ((tbL_law.drop 320).take 40).all (jm_ck 166) = true := by decide +kernel
set_option maxRecDepth 100000 in
theorem jm_cl9 : ((tbL_law.drop 360).take 40).all (jm_ck 166) = true := by decide +kernel
set_option maxRecDepth 100000 in
theorem jm_cl10 : ((tbL_law.drop 400).take 40).all (jm_ck 166) = true := by decide +kernel
set_option maxRecDepth 100000 in
theorem jm_cl11 : ((tbL_law.drop 440).take 40).all (jm_ck 166) = true := by decide +kernel
set_option maxRecDepth 100000 in
theorem jm_cl12 : ((tbL_law.drop 480).take 40).all (jm_ck 166) = true := by decide +kernel
set_option maxRecDepth 100000 in
theorem jm_cl13 : ((tbL_law.drop 520).take 40).all (jm_ck 166) = true := by decide +kernel
set_option maxRecDepth 100000 in
theorem jm_cl14 : ((tbL_law.drop 560).take 40).all (jm_ck 166) = true := by decide +kernel
set_option maxRecDepth 100000 in
theorem jm_cl15 : ((tbL_law.drop 600).take 40).all (jm_ck 166) = true := by decide +kernel
set_option maxRecDepth 100000 in
theorem jm_cl16 : ((tbL_law.drop 640).take 40).all (jm_ck 166) = true := by decide +kernel
theorem jm_seg {α : Type} (f : α → Bool) (n : Nat) (hn : 0 < n) : ∀ (k : Nat) (l : List α), (∀ i, i < k → ((l.drop (n * i)).take n).all f = true) → l.length ≤ n * k → l.all f = true
  | 0, l, _, hl => by
    have : l = [] := List.length_eq_zero_iff.mp (by omega)
    rw [this]; rfl
  | k + 1, l, h, hl => by
    rw [← List.take_append_drop n l, List.all_append, Bool.and_eq_true]
    refine ⟨by simpa using h 0 (by omega), jm_seg f n hn k (l.drop n) (fun i hi => ?_) ?_⟩
    · have := h (i + 1) (by omega)
      rw [List.drop_drop]
      rw [Nat.mul_add, Nat.mul_one, Nat.add_comm] at this
      exact this
    · rw [List.length_drop, Nat.mul_add] at *
      omega
theorem jm_ckl : jm_ckm 166 = true := by
  have hl : tbL_law.length ≤ 40 * 17 := by decide +kernel
  refine jm_seg (jm_ck 166) 40 (by omega) 17 tbL_law (fun i hi => ?_) hl
  match i, hi with
  | 0, _ => exact jm_cl0
  | 1, _ => exact jm_cl1
  | 2, _ => exact jm_cl2
  | 3, _ => exact jm_cl3
  | 4, _ => exact jm_cl4
  | 5, _ => exact jm_cl5
  | 6, _ => exact jm_cl6
  | 7, _ => exact jm_cl7
  | 8, _ => exact jm_cl8
  | 9, _ => exact jm_cl9
  | 10, _ => exact jm_cl10
  | 11, _ => exact jm_cl11
  | 12, _ => exact jm_cl12
  | 13, _ => exact jm_cl13
  | 14, _ => exact jm_cl14
  | 15, _ => exact jm_cl15
  | 16, _ => exact jm_cl16
  | _ + 17, h => exact absurd h (by omega)
end
section
/-! all of it -/
theorem jm_cka : ∀ y, y < 167 → jm_ckm y = true := by
  intro y hy
  by_cases h0 : y < 10
  · have := jm_ck0 (y - 0) (by omega)
    rwa [show 0 + (y - 0) = y by omega] at this
  by_cases h10 : y < 20
  · have := jm_ck10 (y - 10) (by omega)
    rwa [show 10 + (y - 10) = y by omega] at this
  by_cases h20 : y < 30
  · have := jm_ck20 (y - 20) (by omega)
    rwa [show 20 + (y - 20) = y by omega] at this
  by_cases h30 : y < 40
  · have := jm_ck30 (y - 30) (by omega)
    rwa [show 30 + (y - 30) = y by omega] at this
  by_cases h40 : y < 50
  · have := jm_ck40 (y - 40) (by omega)
    rwa [show 40 + (y - 40) = y by omega] at this
  by_cases h50 : y < 60
  · have := jm_ck50 (y - 50) (by omega)
    rwa [show 50 + (y - 50) = y by omega] at this
  by_cases h60 : y < 70
  · have := jm_ck60 (y - 60) (by omega)
    rwa [show 60 + (y - 60) = y by omega] at this
  by_cases h70 : y < 80
  · have := jm_ck70 (y - 70) (by omega)
    rwa [show 70 + (y - 70) = y by omega] at this
  by_cases h80 : y < 90
  · have := jm_ck80 (y - 80) (by omega)
    rwa [show 80 + (y - 80) = y by omega] at this
  by_cases h90 : y < 100
  · have := jm_ck90 (y - 90) (by omega)
    rwa [show 90 + (y - 90) = y by omega] at this
  by_cases h100 : y < 110
  · have := jm_ck100 (y - 100) (by omega)
    rwa [show 100 + (y - 100) = y by omega] at this
  by_cases h110 : y < 120
  · have := jm_ck110 (y - 110) (by omega)
    rwa [show 110 + (y - 110) = y by omega] at this
  by_cases h120 : y < 130
  · have := jm_ck120 (y - 120) (by omega)
    rwa [show 120 + (y - 120) = y by omega] at this
  by_cases h130 : y < 140
  · have := jm_ck130 (y - 130) (by omega)
    rwa [show 130 + (y - 130) = y by omega] at this
  by_cases h140 : y < 150
  · have := jm_ck140 (y - 140) (by omega)
    rwa [show 140 + (y - 140) = y by omega] at this
  by_cases h150 : y < 160
  · have := jm_ck150 (y - 150) (by omega)
    rwa [show 150 + (y - 150) = y by omega] at this
  by_cases h160 : y < 166
  · have := jm_ck160 (y - 160) (by omega)
    rwa [show 160 + (y - 160) = y by omega] at this
  rw [show y = 166 by omega]
  exact jm_ckl
theorem jm_at_mem : ∀ {l : List (Nat × jm_I)} {pc : Nat} {i : jm_I}, jm_at l pc = some i → (pc, i) ∈ l
  | [], _, _, h => by cases h
  | (k, j) :: r, pc, i, h => by
    unfold jm_at at h
    by_cases hk : Nat.beq k pc = true
    · rw [hk] at h
      have e : k = pc := Nat.eq_of_beq_eq_true hk
      have e2 : j = i := Option.some.inj h
      rw [e, e2]
      exact List.mem_cons_self
    · rw [Bool.not_eq_true _ |>.mp hk] at h
      exact List.mem_cons_of_mem _ (jm_at_mem h)
theorem jm_ok : jm_Ok jm_G jm_nm jm_cd jm_rt0 jm_law := by
  intro y pc op len u v w c cl ts kl h
  by_cases hy : y < 167
  · have h1 := List.all_eq_true.mp (jm_cka y hy) _ (jm_at_mem h)
    simp only [jm_ck, Bool.and_eq_true, decide_eq_true_eq] at h1
    exact ⟨h1.1, jm_ib_ok hy h1.2⟩
  · have e : jm_gl.length = 167 := by decide +kernel
    have h2 : jm_G y = (0, 0, []) := by
      unfold jm_G jm_g
      rw [List.getD_eq_getElem?_getD, List.getElem?_eq_none (by omega)]
      rfl
    rw [h2] at h
    cases h
end
section
/-! THE CLAIM OUT OF ONE WALK OF THE LAW'S BODY. Your part is whole_start (and what it stands on); all else here is the same for every law, but numbers. -/
def R_law : String := "HaloTreesLaw"
def lw_P (b : Addr) (xs : List Int32) (args : Array Value) (s : State) : Prop := args = #[.ref b] ∧ s.IntsAt b xs ∧ xs.length ≤ 3072 ∧ (Jvm.Cond.and given_1 narrow_1).before args s = true
def lw_Q (_ : Array Value) (s : State) (o : Outcome) (t : State) : Prop := o = .returned (some (.int 1)) ∧ Framed s o t [] 600000 7302250
def lw_Z (below : List Frame) (a : Array Value) (s : State) : State → Prop := fun t => ∃ o, t.status = .running ∧ Ended t below o ∧ lw_Q a s o t
/-- the law's own end, with 1 on the stack, nothing written that was there before, its room as the claim has it -/
theorem lw_ret {p : Program} {l : Launch} {e : Env} {s : State} {m : MethodId} {below : List Frame} {meth : Method} {c : Code} {b : Nat} (hx : p.tables.exec = Jvm.exec) (hb : c.code = code) (hr : meth.sig.returnType = ret) (hlocks : meth.locks = false) {pc : Nat} {H : Heap} {ls : Array Slot} (hdg : decode code pc = .ok (.ireturn, 1)) : W p l e room_1 s m #[Value.ref b] below meth c H [] 600000 7302250 (lw_Z below #[Value.ref b] s) (F0 m pc ls [.int 1]) := by
  intro T hT X
  obtain ⟨fs, hret, hrun, hended, hW, hframe⟩ := X.leave (v := some (.int 1)) (hlocks := hlocks) (fun h => by rw [hr] at h; cases h)
  have hmeth' : T.vm.method? m = some meth := X.method'
  refine ⟨T.setFrames fs, ?_, .returned (some (.int 1)), hrun, hended, rfl, ⟨_, rfl⟩, hW, hframe⟩
  jvm_step X.here [X.here.top, hx, hb, hdg, hmeth', hr, ret, narrow_b1]
  (try refine ⟨rfl, ?_⟩); (try refine ⟨rfl, ?_⟩)
  first | (intro acts; rw [hret _ acts rfl rfl rfl]) | rw [hret _ _ rfl rfl rfl]
  exact Steps.refl _
/-- what holds at the law's entry: the machine, the code, the tables' words (any of lw_tbl by 'hts w (by decide +kernel)'), the script of L ints xs at the cell b, what the Statement gives of the start (any of its parts by flat_of_before) -/
def lw_At (p : Program) (s : State) (m : MethodId) (meth : Method) (c : Code) (b L : Nat) (xs : Nat → Int32) : Prop :=
  p.tables.exec = Jvm.exec ∧ c.code = code ∧ meth.sig.returnType = ret ∧ c.maxLocals = 4 ∧ s.vm.findClass R_law = some m.cls ∧ (∀ w ∈ lw_tbl, w.before #[Value.ref b] s = true) ∧ va_X b L xs s s.heap ∧ b < s.heap.size ∧ meth.locks = false ∧ (Jvm.Cond.and given_1 narrow_1).before #[Value.ref b] s = true
end
section
/-! from a run of the small machine to the law's walk -/
def jm_t0 (L : Nat) (xs : Nat → Int32) : jm_T := ((0, 0, fun _ => 99, fun a => bif Nat.beq a 0 then L else 0, fun _ _ => none), (fun a => bif Nat.beq a 0 then xs else fun _ => 0), fun _ _ => 0)
/-- what the pure part owes: the law's run, on every script -/
def jm_Law : Prop := ∀ (L : Nat) (xs : Nat → Int32), L ≤ 3072 → ∃ (n : Nat) (tt : jm_T), jm_run jm_G n 60 (jm_G jm_law) 0 (jm_en 4 [.ref 0]) [] (jm_t0 L xs) = some (some (.int 1), tt) ∧ tt.1.1 ≤ 600000 ∧ tt.1.2.1 ≤ 7302250
theorem jm_K0 {s : State} {args : Array Value} (hts : ∀ w ∈ lw_tbl, w.before args s = true) : ∃ (D : va_G) (ca : Nat → ClassId), ∀ b z L xs, va_K D jm_cl (jm_tys (b, z, D, ca, L, xs)) s := by
  have hcls : ∀ c, ∃ (cC : ClassId) (iS : Nat → Nat), c < 9 → u_Kn s (jm_cn c) (jm_cT c) (jm_nf c) cC iS := by
    intro c
    by_cases hc : c < 9
    · obtain ⟨cC, iS, h⟩ := u_known (C := jm_cn c) (T := jm_cT c) (N := jm_nf c) (n := jm_nf c) hts (fun w hw => (jm_tb_of (jm_wu c hc w hw)).1) (hts _ (jm_tb_of (jm_w_inst c hc)).1)
      exact ⟨cC, iS, fun _ => h⟩
    · exact ⟨0, fun _ => 0, fun h => absurd h hc⟩
  have harr : ∀ k, ∃ cA : ClassId, (k = 9 → ArrOfT s cA .int ∧ va_RA s cA .int) ∧ (k = 10 → ArrOfT s cA .boolean ∧ va_RA s cA .boolean) ∧ (11 ≤ k ∧ k ≤ 13 → ArrOfT s cA (.object (jm_cn (jm_ec k))) ∧ va_RA s cA (.object (jm_cn (jm_ec k)))) := by
    intro k
    by_cases h9 : k = 9
    · obtain ⟨c, kA, comp, h1, h2, h3⟩ := Cond.arrayClass_spec (hts _ (jm_tb_of jm_w_ai).1)
      exact ⟨c, fun _ => ⟨fun n z => ⟨fun k h => (by cases h), kA, h2, comp, h3⟩, h1⟩, fun h => by omega, fun h => by omega⟩
    · by_cases h10 : k = 10
      · obtain ⟨c, kA, comp, h1, h2, h3⟩ := Cond.arrayClass_spec (hts _ (jm_tb_of jm_w_az).1)
        exact ⟨c, fun h => by omega, fun _ => ⟨fun n z => ⟨fun k h => (by cases h), kA, h2, comp, h3⟩, h1⟩, fun h => by omega⟩
      · obtain ⟨comp, c, kA, h1, h2, h3, h4, h5⟩ := Cond.arrayOver_spec (hts _ (jm_ao_in _ (jm_ec_in k)))
        exact ⟨c, fun h => absurd h h9, fun h => absurd h h10, fun _ => ⟨fun n z => ⟨fun k h => (by cases h), kA, h3, comp, h4⟩, kA, comp, h3, h4, h1, h5⟩⟩
  refine ⟨(fun c => (hcls c).choose, fun c => (hcls c).choose_spec.choose), fun k => (harr k).choose, fun b z L xs => ⟨fun c q hq => ?_, fun k q hq => ?_⟩⟩
  · have hc : c < 9 := (List.getElem?_eq_some_iff.mp hq).1
    rw [jm_cl_at c hc] at hq
    cases hq
    exact (hcls c).choose_spec.choose_spec hc
  · have hk : k < 5 := (List.getElem?_eq_some_iff.mp hq).1
    rcases (show k = 0 ∨ k = 1 ∨ k = 2 ∨ k = 3 ∨ k = 4 by omega) with rfl | rfl | rfl | rfl | rfl
    · cases hq; exact (harr 9).choose_spec.1 rfl
    · cases hq; exact (harr 10).choose_spec.2.1 rfl
    · cases hq; exact (harr 11).choose_spec.2.2 (by omega)
    · cases hq; exact (harr 12).choose_spec.2.2 (by omega)
    · cases hq; exact (harr 13).choose_spec.2.2 (by omega)
set_option maxRecDepth 20000 in
theorem jm_start (HL : jm_Law) {p : Program} {e : Env} {s : State} {m : MethodId} {below : List Frame} {meth : Method} {c : Code} (l : Launch) {b L : Nat} {xs : Nat → Int32} (hL : L ≤ 3072) (C0 : lw_At p s m meth c b L xs) : W p l e room_1 s m #[Value.ref b] below meth c s.heap [] 0 0 (lw_Z below #[Value.ref b] s) (entryFrame m ([Value.ref b] : List Value).toArray 4) := by
  obtain ⟨hx, hb, hr, hml, hown, hts, hX, hbl, hlocks, hgv⟩ := C0
  obtain ⟨D, ca, hK⟩ := jm_K0 hts
  obtain ⟨n, tt, hrun, hc1, hc2⟩ := HL L xs hL
  rw [lg_entry_eq]
  have hname : (jm_nm jm_law).name = "<init>" → meth.name = "<init>" := fun h => absurd h (by decide +kernel)
  refine jm_snd (l := l) (E := (b, s.heap.size, D, ca, L, xs)) jm_ok n jm_law 60 0 (jm_en 4 [.ref 0]) [] (jm_t0 L xs) (some (.int 1), tt) hrun (n0 := 0) (s0 := 0) ⟨hx, hb, hml, hown, fun w hw => hts w (jm_tb_of hw).1, hK _ _ _ _, jm_N.of hts, rfl, hname, fun _ => ⟨hX, hbl, hbl⟩⟩ ⟨Nat.le_of_ble_eq_true rfl, Nat.le_of_ble_eq_true rfl, hc1, hc2⟩ ?_ s.heap [] _ 0 0 ⟨fun k q h => (by simp [jm_ws, jm_t0] at h), rfl, rfl⟩ va_S.rf (jm_L_entry (b, s.heap.size, D, ca, L, xs) [.ref 0] (Nat.le_of_ble_eq_true rfl)) rfl rfl
  intro pc op v t2 hvr hdc hrt lsA H locs cells slots hP' hS' hc' hs'
  cases hvr
  rcases hrt with ⟨rfl, x, hxx, hkk⟩ | ⟨rfl, hkk, a, hxx⟩ | ⟨rfl, hkk, hxx⟩
  · refine va_forget (fun q hq => hS'.2.2 q hq) ?_
    refine W.widen (k := 600000) (n := 7302250) (by omega) (by omega) ?_
    exact lw_ret hx hb hr hlocks hdc
  · cases hxx
  · cases hxx
end
section
/-! more fuel does no harm -/
theorem jm_ifm {b : Bool} {x y : Option jm_R} {r : jm_R} (h : jm_if b x = some r) (hx : x = some r → y = some r) : jm_if b y = some r := by
  cases b
  · cases h
  · exact hx h
theorem jm_bim {b : Bool} {A B A' B' : Option jm_R} {r : jm_R} (h : (bif b then A else B) = some r) (hA : A = some r → A' = some r) (hB : B = some r → B' = some r) : (bif b then A' else B') = some r := by
  cases b
  · exact hB h
  · exact hA h
theorem jm_swm {k k' : Nat → Option jm_R} {x : Int32} {d : Nat} {r : jm_R} (hk : ∀ q, k q = some r → k' q = some r) : ∀ {ts : List (Int32 × Nat)}, jm_sw k x d ts = some r → jm_sw k' x d ts = some r
  | [], h => hk d h
  | (c, q) :: ts, h => jm_bim (b := decide (x = c)) h (hk q) (fun h => jm_swm hk h)
set_option maxHeartbeats 4000000 in
theorem jm_stepm {op : Instr} {u v w : Nat} {cc : Int32} {cl : Int64} {ts : List (Int32 × Nat)} {d ret pc : Nat} {ls : jm_V} {st : List Value} {t : jm_T} {r : jm_R} {k k' : Nat → jm_V → List Value → jm_T → Option jm_R} {C C' : Nat → List Value → jm_T → Option jm_R}
    (hk : ∀ pc' ls' st' t', k pc' ls' st' t' = some r → k' pc' ls' st' t' = some r)
    (hC : ∀ u' as t' r', C u' as t' = some r' → C' u' as t' = some r')
    (h : jm_step op u v w cc cl ts d ret pc ls st t k C = some r) : jm_step op u v w cc cl ts d ret pc ls st t k' C' = some r := by
  cases op with
  | ifCond q o =>
    dsimp only [jm_step] at h ⊢
    split at h
    · exact jm_bim h (hk _ _ _ _) (hk _ _ _ _)
    · cases h
  | if_icmp q o =>
    dsimp only [jm_step] at h ⊢
    split at h
    · exact jm_bim h (hk _ _ _ _) (hk _ _ _ _)
    · cases h
  | tableswitch a b e f =>
    dsimp only [jm_step] at h ⊢
    split at h
    · exact jm_swm (fun q => hk q _ _ _) h
    · cases h
  | lookupswitch a b =>
    dsimp only [jm_step] at h ⊢
    split at h
    · exact jm_swm (fun q => hk q _ _ _) h
    · cases h
  | getfield i =>
    dsimp only [jm_step] at h ⊢
    split at h
    · refine jm_ifm h (fun h => ?_)
      split at h
      · rename_i e
        split at h
        · rename_i e2
          try simp only [e, e2]
          exact hk _ _ _ _ h
        · cases h
      · rename_i e
        try simp only [e]
        exact hk _ _ _ _ h
      · rename_i e1 e2
        exact hk _ _ _ _ h
    · cases h
  | putfield i =>
    dsimp only [jm_step] at h ⊢
    split at h
    · rename_i e
      try simp only [e]
      split at h
      · exact jm_ifm h (hk _ _ _ _)
      · cases h
    · rename_i e
      try simp only [e]
      split at h
      · exact jm_ifm h (hk _ _ _ _)
      · cases h
    · rename_i e
      try simp only [e]
      split at h
      · exact jm_ifm h (hk _ _ _ _)
      · cases h
    · rename_i e
      try simp only [e]
      split at h
      · exact jm_ifm h (hk _ _ _ _)
      · cases h
    · cases h
  | aaload =>
    dsimp only [jm_step] at h ⊢
    split at h
    · refine jm_ifm h (fun h => ?_)
      split at h
      · rename_i e
        try simp only [e]
        exact hk _ _ _ _ h
      · cases h
    · cases h
  | invokevirtual i =>
    dsimp only [jm_step] at h ⊢
    split at h
    · rename_i e
      try simp only [e]
      refine jm_ifm h (fun h => ?_)
      split at h
      · rename_i r' e
        simp only [hC _ _ _ _ e]
        exact hk _ _ _ _ h
      · cases h
    · cases h
  | invokestatic i =>
    dsimp only [jm_step] at h ⊢
    split at h
    · split at h
      · exact jm_ifm h (hk _ _ _ _)
      · cases h
    · split at h
      · exact jm_ifm h (hk _ _ _ _)
      · cases h
    · split at h
      · exact jm_ifm h (hk _ _ _ _)
      · cases h
    · refine jm_ifm h (fun h => ?_)
      split at h
      · rename_i r' e
        simp only [hC _ _ _ _ e]
        exact hk _ _ _ _ h
      · cases h
  | invokespecial i =>
    dsimp only [jm_step] at h ⊢
    split at h
    · split at h
      · exact jm_ifm h (hk _ _ _ _)
      · cases h
    · split at h
      · rename_i e
        try simp only [e]
        refine jm_ifm h (fun h => ?_)
        split at h
        · rename_i r' e
          simp only [hC _ _ _ _ e]
          exact hk _ _ _ _ h
        · cases h
      · cases h
  | iload i =>
    dsimp only [jm_step] at h ⊢
    split at h
    · exact hk _ _ _ _ h
    · cases h
  | lload i =>
    dsimp only [jm_step] at h ⊢
    split at h
    · exact hk _ _ _ _ h
    · cases h
  | aload i =>
    dsimp only [jm_step] at h ⊢
    split at h
    · exact hk _ _ _ _ h
    · cases h
  | iload_n i =>
    dsimp only [jm_step] at h ⊢
    split at h
    · exact hk _ _ _ _ h
    · cases h
  | lload_n i =>
    dsimp only [jm_step] at h ⊢
    split at h
    · exact hk _ _ _ _ h
    · cases h
  | aload_n i =>
    dsimp only [jm_step] at h ⊢
    split at h
    · exact hk _ _ _ _ h
    · cases h
  | iinc i n =>
    dsimp only [jm_step] at h ⊢
    split at h
    · exact hk _ _ _ _ h
    · cases h
  | ireturn => exact h
  | areturn => exact h
  | return_ => exact h
  | _ => first
    | (cases h; done)
    | exact hk _ _ _ _ h
    | (dsimp only [jm_step] at h ⊢
       split at h
       · first
         | exact hk _ _ _ _ h
         | exact jm_ifm h (hk _ _ _ _)
       · cases h)
theorem jm_fuel1 {G : Nat → jm_M} : ∀ (n d : Nat) (Y : jm_M) (pc : Nat) (ls : jm_V) (st : List Value) (t : jm_T) (r : jm_R), jm_run G n d Y pc ls st t = some r → jm_run G (n + 1) d Y pc ls st t = some r
  | 0, _, _, _, _, _, _, _, h => by cases h
  | n + 1, d, Y, pc, ls, st, t, r, h => by
    unfold jm_run at h ⊢
    split at h
    · cases h
    · rename_i e
      try simp only [e]
      refine jm_stepm (fun pc' ls' st' t' h' => jm_fuel1 n d Y pc' ls' st' t' r h') (fun u as t' r' h' => ?_) h
      split at h'
      · cases h'
      · exact jm_ifm h' (fun h' => jm_fuel1 n _ _ _ _ _ _ _ h')
theorem jm_fuel {G : Nat → jm_M} {n d : Nat} {Y : jm_M} {pc : Nat} {ls : jm_V} {st : List Value} {t : jm_T} {r : jm_R} (h : jm_run G n d Y pc ls st t = some r) : ∀ k, jm_run G (n + k) d Y pc ls st t = some r
  | 0 => h
  | k + 1 => jm_fuel1 _ _ _ _ _ _ _ _ (jm_fuel h k)
/-! a run that ends -/
def jm_go (d : Nat) (Y : jm_M) (pc : Nat) (ls : jm_V) (st : List Value) (t : jm_T) (r : jm_R) : Prop := ∃ n, jm_run jm_G n d Y pc ls st t = some r
/-- k instructions, then K; the last of them may call -/
def jm_ks (d : Nat) (Y : jm_M) (K : Nat → jm_V → List Value → jm_T → Option jm_R) (C : Nat → List Value → jm_T → Option jm_R) : Nat → Nat → jm_V → List Value → jm_T → Option jm_R
  | 0, pc, ls, st, t => K pc ls st t
  | k + 1, pc, ls, st, t => match jm_at Y.2.2 pc with
    | none => none
    | some (op, _, u, v, w, c, cl, ts, kl) => jm_step op u v w c cl ts d Y.2.1 pc (jm_kl kl ls) st t (fun pc ls st t => jm_ks d Y K C k pc ls st t) (match k with | 0 => C | _ + 1 => fun _ _ _ => none)
def jm_cf (n d : Nat) : Nat → List Value → jm_T → Option jm_R := fun y as t => match d with
  | 0 => none
  | d + 1 => jm_if (Nat.ble (lg_sl as).length (jm_G y).1) (jm_run jm_G n d (jm_G y) 0 (jm_en (jm_G y).1 as) [] t)
theorem jm_ks_run {n d : Nat} {Y : jm_M} {r : jm_R} : ∀ (k pc : Nat) (ls : jm_V) (st : List Value) (t : jm_T), jm_ks d Y (fun pc ls st t => jm_run jm_G n d Y pc ls st t) (jm_cf n d) k pc ls st t = some r → jm_run jm_G (n + k) d Y pc ls st t = some r
  | 0, _, _, _, _, h => h
  | k + 1, pc, ls, st, t, h => by
    show jm_run jm_G (n + k + 1) d Y pc ls st t = some r
    unfold jm_ks at h
    unfold jm_run
    split at h
    · cases h
    · rename_i e
      try simp only [e]
      refine jm_stepm (fun pc' ls' st' t' h' => jm_ks_run k pc' ls' st' t' h') (fun u as t' r' h' => ?_) h
      cases k with
      | zero => exact h'
      | succ k => cases h'
/-- a stretch of k instructions -/
theorem jm_go.blk (k : Nat) {d : Nat} {Y : jm_M} {pc pc' : Nat} {ls ls' : jm_V} {st st' : List Value} {t t' : jm_T} {r : jm_R} (h : ∀ K C, jm_ks d Y K C k pc ls st t = K pc' ls' st' t') (g : jm_go d Y pc' ls' st' t' r) : jm_go d Y pc ls st t r := by
  obtain ⟨n, g⟩ := g
  exact ⟨n + k, jm_ks_run k pc ls st t ((h _ _).trans g)⟩
/-- a stretch whose last instruction asks something -/
theorem jm_go.grd (k : Nat) {b : Bool} {d : Nat} {Y : jm_M} {pc pc' : Nat} {ls ls' : jm_V} {st st' : List Value} {t t' : jm_T} {r : jm_R} (h : ∀ K C, jm_ks d Y K C k pc ls st t = jm_if b (K pc' ls' st' t')) (hb : b = true) (g : jm_go d Y pc' ls' st' t' r) : jm_go d Y pc ls st t r := by
  obtain ⟨n, g⟩ := g
  exact ⟨n + k, jm_ks_run k pc ls st t ((h _ _).trans (by rw [hb]; exact g))⟩
/-- a stretch that ends in a branch -/
theorem jm_go.brt (k : Nat) {b : Bool} {d : Nat} {Y : jm_M} {pc p1 p2 : Nat} {ls l1 l2 : jm_V} {st s1 s2 : List Value} {t t1 t2 : jm_T} {r : jm_R} (h : ∀ K C, jm_ks d Y K C k pc ls st t = bif b then K p1 l1 s1 t1 else K p2 l2 s2 t2) (hb : b = true) (g : jm_go d Y p1 l1 s1 t1 r) : jm_go d Y pc ls st t r := by
  obtain ⟨n, g⟩ := g
  exact ⟨n + k, jm_ks_run k pc ls st t ((h _ _).trans (by rw [hb]; exact g))⟩
theorem jm_go.brf (k : Nat) {b : Bool} {d : Nat} {Y : jm_M} {pc p1 p2 : Nat} {ls l1 l2 : jm_V} {st s1 s2 : List Value} {t t1 t2 : jm_T} {r : jm_R} (h : ∀ K C, jm_ks d Y K C k pc ls st t = bif b then K p1 l1 s1 t1 else K p2 l2 s2 t2) (hb : b = false) (g : jm_go d Y p2 l2 s2 t2 r) : jm_go d Y pc ls st t r := by
  obtain ⟨n, g⟩ := g
  exact ⟨n + k, jm_ks_run k pc ls st t ((h _ _).trans (by rw [hb]; exact g))⟩
/-- a stretch that ends in a call -/
theorem jm_go.call (k : Nat) {b : Bool} {d u : Nat} {Y : jm_M} {as : List Value} {pc pc' : Nat} {ls ls' : jm_V} {st st' : List Value} {t t' : jm_T} {r r' : jm_R}
    (h : ∀ K C, jm_ks (d + 1) Y K C k pc ls st t = jm_if b (match C u as t' with | some q => K pc' ls' (q.1.toList ++ st') q.2 | none => none)) (hb : b = true) (hl : Nat.ble (lg_sl as).length (jm_G u).1 = true)
    (hc : jm_go d (jm_G u) 0 (jm_en (jm_G u).1 as) [] t' r') (g : jm_go (d + 1) Y pc' ls' (r'.1.toList ++ st') r'.2 r) : jm_go (d + 1) Y pc ls st t r := by
  obtain ⟨n1, hc⟩ := hc
  obtain ⟨n2, g⟩ := g
  have hc' : jm_cf (n1 + n2) (d + 1) u as t' = some r' := by
    unfold jm_cf
    rw [hl]
    exact jm_fuel hc n2
  have hg : jm_run jm_G (n1 + n2) (d + 1) Y pc' ls' (r'.1.toList ++ st') r'.2 = some r := by
    rw [Nat.add_comm n1 n2]
    exact jm_fuel g n1
  refine ⟨n1 + n2 + k, jm_ks_run k pc ls st t ((h _ _).trans ?_)⟩
  rw [hb, hc']
  exact hg
/-- the end of a method -/
theorem jm_go.ret (k : Nat) {d : Nat} {Y : jm_M} {pc : Nat} {ls : jm_V} {st : List Value} {t : jm_T} {r : jm_R} (h : ∀ K C, jm_ks d Y K C k pc ls st t = some r) : jm_go d Y pc ls st t r := ⟨0 + k, jm_ks_run k pc ls st t (h _ _)⟩
theorem jm_go.retz (k : Nat) {b : Bool} {d : Nat} {Y : jm_M} {pc : Nat} {ls : jm_V} {st : List Value} {t : jm_T} {r : jm_R} (h : ∀ K C, jm_ks d Y K C k pc ls st t = jm_if b (some r)) (hb : b = true) : jm_go d Y pc ls st t r := ⟨0 + k, jm_ks_run k pc ls st t ((h _ _).trans (by rw [hb]; rfl))⟩
end
section
/-! the shape of the heap behind both constructors: printed by wip/whole/gen/shape.py -/
def sh_k : List Nat := [99, 7, 1, 9, 9, 5, 12, 1, 9, 9, 1, 9, 9, 1, 9, 9, 1, 9, 9, 1, 9, 9, 1, 9, 9, 1, 9, 9, 1, 9, 9, 12, 1, 9, 9, 1, 9, 9, 10, 2, 11, 13, 0, 9, 9, 3, 9, 9, 9, 9, 9, 9, 0, 9, 9, 3, 9, 9, 9, 9, 9, 9, 0, 9, 9, 3, 9, 9, 9, 9, 9, 9, 0, 9, 9, 3, 9, 9, 9, 9, 9, 9, 0, 9, 9, 3, 9, 9, 9, 9, 9, 9, 0, 9, 9, 3, 9, 9, 9, 9, 9, 9, 0, 9, 9, 6, 9, 9, 9, 9, 9, 9, 4, 8, 9, 10, 9, 9, 9, 9, 9, 9, 9, 9, 9, 9]
def sh_l : List Nat := [0, 0, 0, 24, 144, 0, 8, 0, 24, 144, 0, 24, 144, 0, 24, 144, 0, 24, 144, 0, 24, 144, 0, 24, 144, 0, 24, 144, 0, 24, 144, 2, 0, 24, 144, 0, 24, 144, 2, 0, 6, 6, 0, 24, 24, 0, 24, 24, 24, 24, 24, 24, 0, 24, 24, 0, 24, 24, 24, 24, 24, 24, 0, 24, 24, 0, 24, 24, 24, 24, 24, 24, 0, 24, 24, 0, 24, 24, 24, 24, 24, 24, 0, 24, 24, 0, 24, 24, 24, 24, 24, 24, 0, 24, 24, 0, 24, 24, 24, 24, 24, 24, 0, 24, 24, 0, 24, 24, 24, 24, 24, 24, 0, 0, 3531, 2, 144, 6, 24, 24, 24, 24, 48, 48, 48, 48]
def sh_r : List (List (Option Nat)) := [[], [some 2, some 5, some 31, some 38, some 39, some 102, some 105, some 112], [none, none, none, some 3, some 4], [], [], [some 6], [some 7, some 10, some 13, some 16, some 19, some 22, some 25, some 28], [none, none, none, some 8, some 9], [], [], [none, none, none, some 11, some 12], [], [], [none, none, none, some 14, some 15], [], [], [none, none, none, some 17, some 18], [], [], [none, none, none, some 20, some 21], [], [], [none, none, none, some 23, some 24], [], [], [none, none, none, some 26, some 27], [], [], [none, none, none, some 29, some 30], [], [], [some 32, some 35], [none, none, none, some 33, some 34], [], [], [none, none, none, some 36, some 37], [], [], [], [none, none, some 40, some 41], [some 42, some 52, some 62, some 72, some 82, some 92], [some 45, some 55, some 65, some 75, some 85, some 95], [none, none, some 43, some 44], [], [], [none, some 46, some 47, some 48, some 49, some 50, some 51], [], [], [], [], [], [], [none, none, some 53, some 54], [], [], [none, some 56, some 57, some 58, some 59, some 60, some 61], [], [], [], [], [], [], [none, none, some 63, some 64], [], [], [none, some 66, some 67, some 68, some 69, some 70, some 71], [], [], [], [], [], [], [none, none, some 73, some 74], [], [], [none, some 76, some 77, some 78, some 79, some 80, some 81], [], [], [], [], [], [], [none, none, some 83, some 84], [], [], [none, some 86, some 87, some 88, some 89, some 90, some 91], [], [], [], [], [], [], [none, none, some 93, some 94], [], [], [none, some 96, some 97, some 98, some 99, some 100, some 101], [], [], [], [], [], [], [none, none, some 103, some 104], [], [], [none, none, some 106, some 107, some 108, some 109, some 110, some 111], [], [], [], [], [], [], [], [some 114, some 115, none, none, some 116, some 117, none, some 118, some 119, some 120, some 121, none, some 122, some 123, some 124, some 125], [], [], [], [], [], [], [], [], [], [], [], []]
def sh_n : Nat := 125
def sh_s : Nat := 7352
def jm_S0 (L : Nat) : jm_S := (125, 7352, fun a => sh_k.getD a 99, fun a => bif Nat.beq a 0 then L else sh_l.getD a 0, fun a j => (sh_r.getD a []).getD j none)
end
section
/-! words for the functions that the generator prints, and the facts of the shape -/
abbrev jm_MM : Type := Nat → Nat → Int32
abbrev jm_JJ : Type := Nat → Nat → Int64
def jm_F : Nat := 5000
def jm_gd {α : Type} (b : Bool) (x : Option α) : Option α := bif b then x else none
def jm_bd {α β : Type} (x : Option α) (f : α → Option β) : Option β := match x with
  | some a => f a
  | none => none
theorem jm_gdo {α : Type} {b : Bool} {x : Option α} {r : α} (h : jm_gd b x = some r) : b = true ∧ x = some r := by
  cases b
  · cases h
  · exact ⟨rfl, h⟩
theorem jm_bro {α : Type} {b : Bool} {x y : Option α} {r : α} (h : (bif b then x else y) = some r) : (b = true ∧ x = some r) ∨ (b = false ∧ y = some r) := by
  cases b
  · exact Or.inr ⟨rfl, h⟩
  · exact Or.inl ⟨rfl, h⟩
theorem jm_bdo {α β : Type} {x : Option α} {f : α → Option β} {r : β} (h : jm_bd x f = some r) : ∃ a, x = some a ∧ f a = some r := by
  cases x with
  | none => cases h
  | some a => exact ⟨a, rfl, h⟩
/-- dead locals at a label -/
theorem jm_go.lab {d : Nat} {Y : jm_M} {pc : Nat} {ls ls' : jm_V} {st : List Value} {t : jm_T} {r : jm_R} (h : ∀ i, jm_at Y.2.2 pc = some i → jm_kl i.2.2.2.2.2.2.2.2 ls = jm_kl i.2.2.2.2.2.2.2.2 ls') (g : jm_go d Y pc ls' st t r) : jm_go d Y pc ls st t r := by
  obtain ⟨n, g⟩ := g
  cases n with
  | zero => cases g
  | succ n =>
    refine ⟨n + 1, ?_⟩
    unfold jm_run at g ⊢
    split at g
    · cases g
    · rename_i e
      have h2 := h _ e
      dsimp only at h2
      rw [h2]
      exact g
/-- a stretch that ends in the reading of a reference -/
theorem jm_go.gfr (k : Nat) {b : Bool} {o : Option Nat} {q d : Nat} {Y : jm_M} {pc pc' : Nat} {ls ls' : jm_V} {st st' : List Value} {t t' : jm_T} {r : jm_R} (h : ∀ K C, jm_ks d Y K C k pc ls st t = jm_if b (match o with | some x => K pc' ls' (.ref x :: st') t' | none => none)) (hb : b = true) (ho : o = some q) (g : jm_go d Y pc' ls' (.ref q :: st') t' r) : jm_go d Y pc ls st t r := by
  obtain ⟨n, g⟩ := g
  refine ⟨n + k, jm_ks_run k pc ls st t ((h _ _).trans ?_)⟩
  rw [hb, ho]
  exact g
def jm_tgt (x : Int32) (u : Nat) : List (Int32 × Nat) → Nat
  | [] => u
  | (c, q) :: r => bif decide (x = c) then q else jm_tgt x u r
theorem jm_sw_tgt {k : Nat → Option jm_R} {x : Int32} {u : Nat} : ∀ ts : List (Int32 × Nat), jm_sw k x u ts = k (jm_tgt x u ts)
  | [] => rfl
  | (c, q) :: r => by
    unfold jm_sw jm_tgt
    cases decide (x = c)
    · exact jm_sw_tgt r
    · rfl
theorem jm_go.sw (k : Nat) {x : Int32} {u q d : Nat} {ts : List (Int32 × Nat)} {Y : jm_M} {pc : Nat} {ls ls' : jm_V} {st st' : List Value} {t t' : jm_T} {r : jm_R} (h : ∀ K C, jm_ks d Y K C k pc ls st t = jm_sw (fun q => K q ls' st' t') x u ts) (hq : jm_tgt x u ts = q) (g : jm_go d Y q ls' st' t' r) : jm_go d Y pc ls st t r := by
  obtain ⟨n, g⟩ := g
  refine ⟨n + k, jm_ks_run k pc ls st t ((h _ _).trans ?_)⟩
  rw [jm_sw_tgt, hq]
  exact g
/-! the shape -/
def jm_isI (L a n : Nat) : Prop := jm_is (jm_S0 L) a 9 = true ∧ (jm_S0 L).2.2.2.1 a = n
def jm_isC (a : Nat) : Prop := a ∈ [42, 52, 62, 72, 82, 92, 102]
def jm_isH (a : Nat) : Prop := a ∈ [45, 55, 65, 75, 85, 95]
def jm_isF (a : Nat) : Prop := a ∈ [2, 7, 10, 13, 16, 19, 22, 25, 28, 32, 35]
theorem jm_isC_ind {P : Nat → Prop} {a : Nat} (h : jm_isC a) (h0 : P 42) (h1 : P 52) (h2 : P 62) (h3 : P 72) (h4 : P 82) (h5 : P 92) (h6 : P 102) : P a := by
  simp only [jm_isC, List.mem_cons, List.not_mem_nil, or_false] at h
  rcases h with rfl | rfl | rfl | rfl | rfl | rfl | rfl <;> assumption
theorem jm_isH_ind {P : Nat → Prop} {a : Nat} (h : jm_isH a) (h0 : P 45) (h1 : P 55) (h2 : P 65) (h3 : P 75) (h4 : P 85) (h5 : P 95) : P a := by
  simp only [jm_isH, List.mem_cons, List.not_mem_nil, or_false] at h
  rcases h with rfl | rfl | rfl | rfl | rfl | rfl <;> assumption
theorem jm_isF_ind {P : Nat → Prop} {a : Nat} (h : jm_isF a) (h0 : P 2) (h1 : P 7) (h2 : P 10) (h3 : P 13) (h4 : P 16) (h5 : P 19) (h6 : P 22) (h7 : P 25) (h8 : P 28) (h9 : P 32) (hA : P 35) : P a := by
  simp only [jm_isF, List.mem_cons, List.not_mem_nil, or_false] at h
  rcases h with rfl | rfl | rfl | rfl | rfl | rfl | rfl | rfl | rfl | rfl | rfl <;> assumption
theorem jm_fC (L : Nat) {a : Nat} (h : jm_isC a) : jm_is (jm_S0 L) a 0 = true := jm_isC_ind (P := fun a => jm_is (jm_S0 L) a 0 = true) h rfl rfl rfl rfl rfl rfl rfl
theorem jm_rC1 (L : Nat) {a : Nat} (h : jm_isC a) : (jm_S0 L).2.2.2.2 a 2 = some (a + 1) := jm_isC_ind (P := fun a => (jm_S0 L).2.2.2.2 a 2 = some (a + 1)) h rfl rfl rfl rfl rfl rfl rfl
theorem jm_rC2 (L : Nat) {a : Nat} (h : jm_isC a) : (jm_S0 L).2.2.2.2 a 3 = some (a + 2) := jm_isC_ind (P := fun a => (jm_S0 L).2.2.2.2 a 3 = some (a + 2)) h rfl rfl rfl rfl rfl rfl rfl
theorem jm_fC1 (L : Nat) {a : Nat} (h : jm_isC a) : jm_isI L (a + 1) 24 := jm_isC_ind (P := fun a => jm_isI L (a + 1) 24) h ⟨rfl, rfl⟩ ⟨rfl, rfl⟩ ⟨rfl, rfl⟩ ⟨rfl, rfl⟩ ⟨rfl, rfl⟩ ⟨rfl, rfl⟩ ⟨rfl, rfl⟩
theorem jm_fC2 (L : Nat) {a : Nat} (h : jm_isC a) : jm_isI L (a + 2) 24 := jm_isC_ind (P := fun a => jm_isI L (a + 2) 24) h ⟨rfl, rfl⟩ ⟨rfl, rfl⟩ ⟨rfl, rfl⟩ ⟨rfl, rfl⟩ ⟨rfl, rfl⟩ ⟨rfl, rfl⟩ ⟨rfl, rfl⟩
theorem jm_fH (L : Nat) {a : Nat} (h : jm_isH a) : jm_is (jm_S0 L) a 3 = true := jm_isH_ind (P := fun a => jm_is (jm_S0 L) a 3 = true) h rfl rfl rfl rfl rfl rfl
theorem jm_rHk (L : Nat) {a : Nat} (h : jm_isH a) : ∀ k, k < 7 → 0 < k → (jm_S0 L).2.2.2.2 a k = some (a + k) := by
  refine jm_isH_ind (P := fun a => ∀ k, k < 7 → 0 < k → (jm_S0 L).2.2.2.2 a k = some (a + k)) h ?_ ?_ ?_ ?_ ?_ ?_ <;>
  · intro k h1 h2
    rcases (show k = 1 ∨ k = 2 ∨ k = 3 ∨ k = 4 ∨ k = 5 ∨ k = 6 by omega) with rfl | rfl | rfl | rfl | rfl | rfl <;> rfl
theorem jm_rH1 (L : Nat) {a : Nat} (h : jm_isH a) : (jm_S0 L).2.2.2.2 a 1 = some (a + 1) := jm_rHk L h 1 (by omega) (by omega)
theorem jm_rH2 (L : Nat) {a : Nat} (h : jm_isH a) : (jm_S0 L).2.2.2.2 a 2 = some (a + 2) := jm_rHk L h 2 (by omega) (by omega)
theorem jm_rH3 (L : Nat) {a : Nat} (h : jm_isH a) : (jm_S0 L).2.2.2.2 a 3 = some (a + 3) := jm_rHk L h 3 (by omega) (by omega)
theorem jm_rH4 (L : Nat) {a : Nat} (h : jm_isH a) : (jm_S0 L).2.2.2.2 a 4 = some (a + 4) := jm_rHk L h 4 (by omega) (by omega)
theorem jm_rH5 (L : Nat) {a : Nat} (h : jm_isH a) : (jm_S0 L).2.2.2.2 a 5 = some (a + 5) := jm_rHk L h 5 (by omega) (by omega)
theorem jm_rH6 (L : Nat) {a : Nat} (h : jm_isH a) : (jm_S0 L).2.2.2.2 a 6 = some (a + 6) := jm_rHk L h 6 (by omega) (by omega)
theorem jm_fHk (L : Nat) {a : Nat} (h : jm_isH a) : ∀ k, k < 7 → 0 < k → jm_isI L (a + k) 24 := by
  refine jm_isH_ind (P := fun a => ∀ k, k < 7 → 0 < k → jm_isI L (a + k) 24) h ?_ ?_ ?_ ?_ ?_ ?_ <;>
  · intro k h1 h2
    rcases (show k = 1 ∨ k = 2 ∨ k = 3 ∨ k = 4 ∨ k = 5 ∨ k = 6 by omega) with rfl | rfl | rfl | rfl | rfl | rfl <;> exact ⟨rfl, rfl⟩
theorem jm_fH1 (L : Nat) {a : Nat} (h : jm_isH a) : jm_isI L (a + 1) 24 := jm_fHk L h 1 (by omega) (by omega)
theorem jm_fH2 (L : Nat) {a : Nat} (h : jm_isH a) : jm_isI L (a + 2) 24 := jm_fHk L h 2 (by omega) (by omega)
theorem jm_fH3 (L : Nat) {a : Nat} (h : jm_isH a) : jm_isI L (a + 3) 24 := jm_fHk L h 3 (by omega) (by omega)
theorem jm_fH4 (L : Nat) {a : Nat} (h : jm_isH a) : jm_isI L (a + 4) 24 := jm_fHk L h 4 (by omega) (by omega)
theorem jm_fH5 (L : Nat) {a : Nat} (h : jm_isH a) : jm_isI L (a + 5) 24 := jm_fHk L h 5 (by omega) (by omega)
theorem jm_fH6 (L : Nat) {a : Nat} (h : jm_isH a) : jm_isI L (a + 6) 24 := jm_fHk L h 6 (by omega) (by omega)
theorem jm_fF (L : Nat) {a : Nat} (h : jm_isF a) : jm_is (jm_S0 L) a 1 = true := jm_isF_ind (P := fun a => jm_is (jm_S0 L) a 1 = true) h rfl rfl rfl rfl rfl rfl rfl rfl rfl rfl rfl
theorem jm_rF1 (L : Nat) {a : Nat} (h : jm_isF a) : (jm_S0 L).2.2.2.2 a 3 = some (a + 1) := jm_isF_ind (P := fun a => (jm_S0 L).2.2.2.2 a 3 = some (a + 1)) h rfl rfl rfl rfl rfl rfl rfl rfl rfl rfl rfl
theorem jm_rF2 (L : Nat) {a : Nat} (h : jm_isF a) : (jm_S0 L).2.2.2.2 a 4 = some (a + 2) := jm_isF_ind (P := fun a => (jm_S0 L).2.2.2.2 a 4 = some (a + 2)) h rfl rfl rfl rfl rfl rfl rfl rfl rfl rfl rfl
theorem jm_fF1 (L : Nat) {a : Nat} (h : jm_isF a) : jm_isI L (a + 1) 24 := jm_isF_ind (P := fun a => jm_isI L (a + 1) 24) h ⟨rfl, rfl⟩ ⟨rfl, rfl⟩ ⟨rfl, rfl⟩ ⟨rfl, rfl⟩ ⟨rfl, rfl⟩ ⟨rfl, rfl⟩ ⟨rfl, rfl⟩ ⟨rfl, rfl⟩ ⟨rfl, rfl⟩ ⟨rfl, rfl⟩ ⟨rfl, rfl⟩
theorem jm_fF2 (L : Nat) {a : Nat} (h : jm_isF a) : jm_isI L (a + 2) 144 := jm_isF_ind (P := fun a => jm_isI L (a + 2) 144) h ⟨rfl, rfl⟩ ⟨rfl, rfl⟩ ⟨rfl, rfl⟩ ⟨rfl, rfl⟩ ⟨rfl, rfl⟩ ⟨rfl, rfl⟩ ⟨rfl, rfl⟩ ⟨rfl, rfl⟩ ⟨rfl, rfl⟩ ⟨rfl, rfl⟩ ⟨rfl, rfl⟩
theorem jm_inb_lt {i : Int32} {n : Nat} (h : jm_inb i n = true) : i.toNatClampNeg < n := by
  simp only [jm_inb, Bool.and_eq_true, Nat.blt_eq] at h
  exact h.2
theorem jm_aC6 : ∀ j, j < 6 → jm_isC (42 + 10 * j) := by unfold jm_isC; decide
theorem jm_aH6 : ∀ j, j < 6 → jm_isH (45 + 10 * j) := by unfold jm_isH; decide
theorem jm_aF8 : ∀ j, j < 8 → jm_isF (7 + 3 * j) := by unfold jm_isF; decide
theorem jm_aF2' : ∀ j, j < 2 → jm_isF (32 + 3 * j) := by unfold jm_isF; decide
theorem jm_aC {i : Int32} (h : jm_inb i 6 = true) : jm_isC (42 + 10 * i.toNatClampNeg) := jm_aC6 _ (jm_inb_lt h)
theorem jm_aH {i : Int32} (h : jm_inb i 6 = true) : jm_isH (45 + 10 * i.toNatClampNeg) := jm_aH6 _ (jm_inb_lt h)
theorem jm_aF1 {i : Int32} (h : jm_inb i 8 = true) : jm_isF (7 + 3 * i.toNatClampNeg) := jm_aF8 _ (jm_inb_lt h)
theorem jm_aF2 {i : Int32} (h : jm_inb i 2 = true) : jm_isF (32 + 3 * i.toNatClampNeg) := jm_aF2' _ (jm_inb_lt h)
theorem jm_aCr (L : Nat) {i : Int32} (h : jm_inb i 6 = true) : (jm_S0 L).2.2.2.2 40 i.toNatClampNeg = some (42 + 10 * i.toNatClampNeg) := by
  have h1 := jm_inb_lt h
  generalize i.toNatClampNeg = j at h1 ⊢
  rcases (show j = 0 ∨ j = 1 ∨ j = 2 ∨ j = 3 ∨ j = 4 ∨ j = 5 by omega) with rfl | rfl | rfl | rfl | rfl | rfl <;> rfl
theorem jm_aHr (L : Nat) {i : Int32} (h : jm_inb i 6 = true) : (jm_S0 L).2.2.2.2 41 i.toNatClampNeg = some (45 + 10 * i.toNatClampNeg) := by
  have h1 := jm_inb_lt h
  generalize i.toNatClampNeg = j at h1 ⊢
  rcases (show j = 0 ∨ j = 1 ∨ j = 2 ∨ j = 3 ∨ j = 4 ∨ j = 5 by omega) with rfl | rfl | rfl | rfl | rfl | rfl <;> rfl
theorem jm_aF1r (L : Nat) {i : Int32} (h : jm_inb i 8 = true) : (jm_S0 L).2.2.2.2 6 i.toNatClampNeg = some (7 + 3 * i.toNatClampNeg) := by
  have h1 := jm_inb_lt h
  generalize i.toNatClampNeg = j at h1 ⊢
  rcases (show j = 0 ∨ j = 1 ∨ j = 2 ∨ j = 3 ∨ j = 4 ∨ j = 5 ∨ j = 6 ∨ j = 7 by omega) with rfl | rfl | rfl | rfl | rfl | rfl | rfl | rfl <;> rfl
theorem jm_aF2r (L : Nat) {i : Int32} (h : jm_inb i 2 = true) : (jm_S0 L).2.2.2.2 31 i.toNatClampNeg = some (32 + 3 * i.toNatClampNeg) := by
  have h1 := jm_inb_lt h
  generalize i.toNatClampNeg = j at h1 ⊢
  rcases (show j = 0 ∨ j = 1 by omega) with rfl | rfl <;> rfl
theorem jm_gia {L a n : Nat} {i : Int32} (h : jm_isI L a n) (hi : jm_inb i n = true) : (((Nat.beq 0 1 && Nat.beq a 0) || (Nat.beq 0 0 && jm_is (jm_S0 L) a 9)) && jm_inb i ((jm_S0 L).2.2.2.1 a)) = true := by
  rw [h.1, h.2, hi]
  simp
theorem jm_gis {L a n : Nat} {i : Int32} (h : jm_isI L a n) (hi : jm_inb i n = true) : (jm_is (jm_S0 L) a 9 && jm_inb i ((jm_S0 L).2.2.2.1 a)) = true := by
  rw [h.1, h.2, hi]
  rfl
theorem jm_gcp24 {L a b D : Nat} {st : List Value} (ha : jm_isI L a 24) (hb : jm_isI L b 24) (h1 : Nat.blt 0 D = true := by rfl) (h2 : Nat.ble (jm_sum st) 8 = true := by rfl) : (Nat.blt 0 D && Nat.ble (jm_sum st) 8 && jm_is (jm_S0 L) a 9 && jm_is (jm_S0 L) b 9 && !decide ((24 : Int32) < 0) && !decide ((0 : Int32) < 0) && !decide ((0 : Int32) < 0) && Nat.ble ((0 : Int32).toNatClampNeg + (24 : Int32).toNatClampNeg) ((jm_S0 L).2.2.2.1 b) && Nat.ble ((0 : Int32).toNatClampNeg + (24 : Int32).toNatClampNeg) ((jm_S0 L).2.2.2.1 a)) = true := by
  rw [ha.1, ha.2, hb.1, hb.2, h1, h2]
  decide +kernel
theorem jm_gcp144 {L a b D : Nat} {st : List Value} (ha : jm_isI L a 144) (hb : jm_isI L b 144) (h1 : Nat.blt 0 D = true := by rfl) (h2 : Nat.ble (jm_sum st) 8 = true := by rfl) : (Nat.blt 0 D && Nat.ble (jm_sum st) 8 && jm_is (jm_S0 L) a 9 && jm_is (jm_S0 L) b 9 && !decide ((144 : Int32) < 0) && !decide ((0 : Int32) < 0) && !decide ((0 : Int32) < 0) && Nat.ble ((0 : Int32).toNatClampNeg + (144 : Int32).toNatClampNeg) ((jm_S0 L).2.2.2.1 b) && Nat.ble ((0 : Int32).toNatClampNeg + (144 : Int32).toNatClampNeg) ((jm_S0 L).2.2.2.1 a)) = true := by
  rw [ha.1, ha.2, hb.1, hb.2, h1, h2]
  decide +kernel
/-! Arrays.fill, over any shape -/
def jm_fl1 (f : Nat → Int32) (v : Int32) (i : Nat) : Nat → Int32 := fun j => if j < i then v else f j
theorem jm_inb_nI {i n : Nat} (h : i < n) (hn : n < 2 ^ 31) : jm_inb (nI i) n = true := by
  have h1 : ¬ nI i < 0 := nI_pos (by omega)
  simp only [jm_inb, Bool.and_eq_true, Nat.blt_eq, Bool.not_eq_true', decide_eq_false_iff_not]
  exact ⟨h1, by rw [nI_clamp (by omega)]; exact h⟩
theorem jm_fill_loop (d : Nat) (S : jm_S) (J : jm_JJ) (a n : Nat) (v : Int32) (hk : jm_is S a 9 = true) (hl : S.2.2.2.1 a = n) (hn : n < 2 ^ 31) : ∀ (m i : Nat) (M : jm_MM), i + m = n → jm_go d (jm_G 165) 5 [some (.ref a), some (.int v), some (.int (nI i)), some (.int (nI n))] [] (S, M, J) (none, (S, va_up M a (fun j => if i ≤ j ∧ j < n then v else M a j), J))
  | 0, i, M, h => by
    have e : va_up M a (fun j => if i ≤ j ∧ j < n then v else M a j) = M := by
      funext b j
      by_cases hb : b = a
      · subst hb
        rw [va_up_eq', if_neg (by omega)]
      · rw [va_up_ne' hb]
    rw [e]
    refine jm_go.brt 3 (b := decide (nI n ≤ nI i)) (p1 := 20) (l1 := [some (.ref a), some (.int v), some (.int (nI i)), some (.int (nI n))]) (s1 := []) (t1 := (S, M, J)) (p2 := 10) (l2 := [some (.ref a), some (.int v), some (.int (nI i)), some (.int (nI n))]) (s2 := []) (t2 := (S, M, J)) (fun _ _ => rfl) (decide_eq_true (nI_le (by omega) (by omega))) ?_
    exact jm_go.ret 1 (fun _ _ => rfl)
  | m + 1, i, M, h => by
    refine jm_go.brf 3 (b := decide (nI n ≤ nI i)) (p1 := 20) (l1 := [some (.ref a), some (.int v), some (.int (nI i)), some (.int (nI n))]) (s1 := []) (t1 := (S, M, J)) (p2 := 10) (l2 := [some (.ref a), some (.int v), some (.int (nI i)), some (.int (nI n))]) (s2 := []) (t2 := (S, M, J)) (fun _ _ => rfl) (decide_eq_false (nI_ge (by omega) (by omega))) ?_
    refine jm_go.grd 4 (b := jm_is S a 9 && jm_inb (nI i) (S.2.2.2.1 a)) (pc' := 14) (ls' := [some (.ref a), some (.int v), some (.int (nI i)), some (.int (nI n))]) (st' := []) (t' := (S, jm_up M a (nI i).toNatClampNeg v, J)) (fun _ _ => rfl) (by rw [hk, hl, jm_inb_nI (by omega) hn]; rfl) ?_
    refine jm_go.blk 2 (pc' := 5) (ls' := [some (.ref a), some (.int v), some (.int (nI i + 1)), some (.int (nI n))]) (st' := []) (t' := (S, jm_up M a (nI i).toNatClampNeg v, J)) (fun _ _ => rfl) ?_
    rw [nI_1, nI_clamp (by omega)]
    have hh := jm_fill_loop d S J a n v hk hl hn m (i + 1) (jm_up M a i v) (by omega)
    have e : va_up (jm_up M a i v) a (fun j => if i + 1 ≤ j ∧ j < n then v else jm_up M a i v a j) = va_up M a (fun j => if i ≤ j ∧ j < n then v else M a j) := by
      funext b j
      by_cases hb : b = a
      · subst hb
        rw [va_up_eq', va_up_eq']
        unfold jm_up
        rw [va_up_eq']
        unfold upd
        by_cases hj : j = i
        · subst hj
          rw [if_neg (by omega), if_pos rfl, if_pos (by omega)]
        · rw [if_neg hj]
          by_cases h3 : i + 1 ≤ j ∧ j < n
          · rw [if_pos h3, if_pos (by omega)]
          · rw [if_neg h3, if_neg (by omega)]
      · rw [va_up_ne' hb, va_up_ne' hb]
        unfold jm_up
        rw [va_up_ne' hb]
    rw [e] at hh
    exact hh
def f165 (M : jm_MM) (a n : Nat) (v : Int32) : Option jm_MM := some (va_up M a (fun j => if j < n then v else M a j))
theorem jm_fill (d : Nat) (S : jm_S) (M : jm_MM) (J : jm_JJ) (a n : Nat) (v : Int32) (hk : jm_is S a 9 = true) (hl : S.2.2.2.1 a = n) (hn : n < 2 ^ 31) : jm_go d (jm_G 165) 0 (jm_en 4 [.ref a, .int v]) [] (S, M, J) (none, (S, va_up M a (fun j => if j < n then v else M a j), J)) := by
  refine jm_go.grd 4 (b := jm_is S a 9) (pc' := 4) (ls' := [some (.ref a), some (.int v), some (.int 0), none]) (st' := [.int (Int32.ofNat (S.2.2.2.1 a))]) (t' := (S, M, J)) (fun _ _ => rfl) hk ?_
  refine jm_go.blk 1 (pc' := 5) (ls' := [some (.ref a), some (.int v), some (.int 0), some (.int (Int32.ofNat (S.2.2.2.1 a)))]) (st' := []) (t' := (S, M, J)) (fun _ _ => rfl) ?_
  rw [hl]
  have hh := jm_fill_loop d S J a n v hk hl hn n 0 M (by omega)
  simp only [Nat.zero_le, true_and] at hh
  rw [nI_0] at hh
  exact hh
theorem g165 (L d : Nat) (M : jm_MM) (J : jm_JJ) (a : Nat) (v : Int32) {n : Nat} (pf : jm_isI L a n) {r : jm_MM} (H : f165 M a n v = some r) (hn : n < 2 ^ 31 := by decide) : jm_go d (jm_G 165) 0 (jm_en 4 [.ref a, .int v]) [] (jm_S0 L, M, J) (none, (jm_S0 L, r, J)) := by
  cases H
  exact jm_fill d (jm_S0 L) M J a n v pf.1 pf.2 hn
end
section
/-! methods as functions: printed by wip/whole/gen/lay.py (funs.py) -/

/-- X1_isIn -/
def f14 (M : jm_MM) (x0 : Int32) (x1 : Int32) : Option (Int32) := jm_gd (jm_inb ((x0 * 24) + x1) 144) (bif decide ((M 4 (((x0 * 24) + x1).toNatClampNeg)) = (-1)) then (some 0) else (some 1))
theorem g14 (L : Nat) (d : Nat) (M : jm_MM) (J : jm_JJ) (x0 : Int32) (x1 : Int32) (r : Int32) (H : f14 M x0 x1 = some r) : jm_go d (jm_G 14) 0 (jm_en 3 [.ref 2, .int x0, .int x1]) [] (jm_S0 L, M, J) (some (.int r), (jm_S0 L, M, J)) := by
  unfold f14 at H
  obtain ⟨h1, H⟩ := jm_gdo H
  refine jm_go.grd 8 (b := jm_inb ((x0 * 24) + x1) 144) (pc' := 11) (ls' := [some (.ref 2), some (.int x0), some (.int x1)]) (st' := [.int (M 4 (((x0 * 24) + x1).toNatClampNeg))]) (t' := (jm_S0 L, M, J)) (fun _ _ => rfl) h1 ?_
  rcases jm_bro H with ⟨h2, H⟩ | ⟨h2, H⟩
  · refine jm_go.brt 2 (b := decide ((M 4 (((x0 * 24) + x1).toNatClampNeg)) = (-1))) (p1 := 19) (l1 := [some (.ref 2), some (.int x0), some (.int x1)]) (s1 := []) (t1 := (jm_S0 L, M, J)) (p2 := 15) (l2 := [some (.ref 2), some (.int x0), some (.int x1)]) (s2 := []) (t2 := (jm_S0 L, M, J)) (fun _ _ => rfl) h2 ?_
    cases H
    exact jm_go.retz 2 (b := jm_z1 0) (fun _ _ => rfl) rfl
  · refine jm_go.brf 2 (b := decide ((M 4 (((x0 * 24) + x1).toNatClampNeg)) = (-1))) (p1 := 19) (l1 := [some (.ref 2), some (.int x0), some (.int x1)]) (s1 := []) (t1 := (jm_S0 L, M, J)) (p2 := 15) (l2 := [some (.ref 2), some (.int x0), some (.int x1)]) (s2 := []) (t2 := (jm_S0 L, M, J)) (fun _ _ => rfl) h2 ?_
    cases H
    exact jm_go.retz 3 (b := jm_z1 1) (fun _ _ => rfl) rfl


/-- X1_xOf -/
def f15 (M : jm_MM) (x0 : Int32) (x1 : Int32) : Option (Int32) := jm_gd (jm_inb ((x0 * 24) + x1) 144) (some ((M 4 (((x0 * 24) + x1).toNatClampNeg)) / 64))
theorem g15 (L : Nat) (d : Nat) (M : jm_MM) (J : jm_JJ) (x0 : Int32) (x1 : Int32) (r : Int32) (H : f15 M x0 x1 = some r) : jm_go d (jm_G 15) 0 (jm_en 3 [.ref 2, .int x0, .int x1]) [] (jm_S0 L, M, J) (some (.int r), (jm_S0 L, M, J)) := by
  unfold f15 at H
  obtain ⟨h1, H⟩ := jm_gdo H
  refine jm_go.grd 8 (b := jm_inb ((x0 * 24) + x1) 144) (pc' := 11) (ls' := [some (.ref 2), some (.int x0), some (.int x1)]) (st' := [.int (M 4 (((x0 * 24) + x1).toNatClampNeg))]) (t' := (jm_S0 L, M, J)) (fun _ _ => rfl) h1 ?_
  cases H
  exact jm_go.ret 3 (fun _ _ => rfl)


/-- X1_yOf -/
def f16 (M : jm_MM) (x0 : Int32) (x1 : Int32) : Option (Int32) := jm_gd (jm_inb ((x0 * 24) + x1) 144) (some ((M 4 (((x0 * 24) + x1).toNatClampNeg)) - (M 4 (((x0 * 24) + x1).toNatClampNeg)) / 64 * 64))
theorem g16 (L : Nat) (d : Nat) (M : jm_MM) (J : jm_JJ) (x0 : Int32) (x1 : Int32) (r : Int32) (H : f16 M x0 x1 = some r) : jm_go d (jm_G 16) 0 (jm_en 3 [.ref 2, .int x0, .int x1]) [] (jm_S0 L, M, J) (some (.int r), (jm_S0 L, M, J)) := by
  unfold f16 at H
  obtain ⟨h1, H⟩ := jm_gdo H
  refine jm_go.grd 8 (b := jm_inb ((x0 * 24) + x1) 144) (pc' := 11) (ls' := [some (.ref 2), some (.int x0), some (.int x1)]) (st' := [.int (M 4 (((x0 * 24) + x1).toNatClampNeg))]) (t' := (jm_S0 L, M, J)) (fun _ _ => rfl) h1 ?_
  cases H
  exact jm_go.ret 3 (fun _ _ => rfl)


/-- X1_way -/
def f17 (M : jm_MM) (x0 : Int32) (x1 : Int32) (x2 : Int32) (x3 : Int32) : Option (Int32) := jm_bd (f15 M x0 x1) (fun q1 => jm_bd (f16 M x0 x1) (fun q3 => some (((q1 - x2) * (q1 - x2)) + ((q3 - x3) * (q3 - x3)))))
theorem g17 (L : Nat) (d : Nat) (M : jm_MM) (J : jm_JJ) (x0 : Int32) (x1 : Int32) (x2 : Int32) (x3 : Int32) (r : Int32) (H : f17 M x0 x1 x2 x3 = some r) : jm_go (d + 1) (jm_G 17) 0 (jm_en 7 [.ref 2, .int x0, .int x1, .int x2, .int x3]) [] (jm_S0 L, M, J) (some (.int r), (jm_S0 L, M, J)) := by
  unfold f17 at H
  obtain ⟨q1, h2, H⟩ := jm_bdo H
  refine jm_go.call 4 (d := d) (b := true) (u := 15) (as := [.ref 2, .int x0, .int x1]) (pc' := 6) (ls' := [some (.ref 2), some (.int x0), some (.int x1), some (.int x2), some (.int x3), none, none]) (st' := []) (t' := (jm_S0 L, M, J)) (fun _ _ => rfl) rfl rfl (g15 L d M J x0 x1 _ h2) ?_
  obtain ⟨q3, h4, H⟩ := jm_bdo H
  refine jm_go.call 7 (d := d) (b := true) (u := 16) (as := [.ref 2, .int x0, .int x1]) (pc' := 16) (ls' := [some (.ref 2), some (.int x0), some (.int x1), some (.int x2), some (.int x3), some (.int (q1 - x2)), none]) (st' := []) (t' := (jm_S0 L, M, J)) (fun _ _ => rfl) rfl rfl (g16 L d M J x0 x1 _ h4) ?_
  cases H
  exact jm_go.ret 11 (fun _ _ => rfl)

def f2_19 (a0 : Nat) (ke0 : jm_MM → Option (jm_MM)) : Nat → jm_MM → Int32 → Int32 → Int32 → Int32 → Int32 → Int32 → Option (jm_MM)
  | 0, _, _, _, _, _, _, _ => none
  | n0 + 1, M, v2, v3, v4, v5, v6, v7 => bif decide (v3 ≤ v7) then (ke0 M) else (jm_bd (f14 M v2 v7) (fun q6 => bif decide (q6 = 0) then ((f2_19 a0 ke0 n0) M v2 v3 v4 v5 v6 (v7 + 1)) else (jm_bd (f17 M v2 v7 v5 v6) (fun q9 => bif decide (v4 < q9) then ((f2_19 a0 ke0 n0) M v2 v3 v4 v5 v6 (v7 + 1)) else (jm_gd (jm_inb v3 24) (jm_gd (jm_inb v3 24) (jm_gd (jm_inb v7 24) (jm_gd (jm_inb v7 24) ((f2_19 a0 ke0 n0) (jm_up (jm_up (jm_up M (a0 + 1) v3.toNatClampNeg ((M (a0 + 1) v3.toNatClampNeg) ||| (1 <<< (v7 &&& 31)))) (a0 + 1) v7.toNatClampNeg (((jm_up M (a0 + 1) v3.toNatClampNeg ((M (a0 + 1) v3.toNatClampNeg) ||| (1 <<< (v7 &&& 31)))) (a0 + 1) v7.toNatClampNeg) ||| (1 <<< (v3 &&& 31)))) a0 0 (((jm_up (jm_up M (a0 + 1) v3.toNatClampNeg ((M (a0 + 1) v3.toNatClampNeg) ||| (1 <<< (v7 &&& 31)))) (a0 + 1) v7.toNatClampNeg (((jm_up M (a0 + 1) v3.toNatClampNeg ((M (a0 + 1) v3.toNatClampNeg) ||| (1 <<< (v7 &&& 31)))) (a0 + 1) v7.toNatClampNeg) ||| (1 <<< (v3 &&& 31)))) a0 0) + 1)) v2 v3 v4 v5 v6 (v7 + 1))))))))))
theorem g2_19 (L : Nat) (d : Nat) (_M : jm_MM) (J : jm_JJ) (a0 : Nat) (ha0 : jm_isC a0) (ke0 : jm_MM → Option (jm_MM)) (hke0 : ∀ (M : jm_MM) (r : jm_MM), ke0 M = some r → jm_go (d + 2) (jm_G 2) 93 [none, none, none, none, none, none, none, none] [] (jm_S0 L, M, J) (none, (jm_S0 L, r, J))) : ∀ (n0 : Nat) (M : jm_MM) (v2 : Int32) (v3 : Int32) (v4 : Int32) (v5 : Int32) (v6 : Int32) (v7 : Int32) (r : jm_MM), f2_19 a0 ke0 n0 M v2 v3 v4 v5 v6 v7 = some r → jm_go (d + 2) (jm_G 2) 19 [some (.ref a0), some (.ref 2), some (.int v2), some (.int v3), some (.int v4), some (.int v5), some (.int v6), some (.int v7)] [] (jm_S0 L, M, J) (none, (jm_S0 L, r, J)) := by
  intro n0
  induction n0 with
  | zero => intro M v2 v3 v4 v5 v6 v7 r H; cases H
  | succ n0 ih =>
    intro M v2 v3 v4 v5 v6 v7 r H
    have hkb := ih
    unfold f2_19 at H
    rcases jm_bro H with ⟨h5, H⟩ | ⟨h5, H⟩
    · refine jm_go.brt 3 (b := decide (v3 ≤ v7)) (p1 := 93) (l1 := [some (.ref a0), some (.ref 2), some (.int v2), some (.int v3), some (.int v4), some (.int v5), some (.int v6), some (.int v7)]) (s1 := []) (t1 := (jm_S0 L, M, J)) (p2 := 25) (l2 := [some (.ref a0), some (.ref 2), some (.int v2), some (.int v3), some (.int v4), some (.int v5), some (.int v6), some (.int v7)]) (s2 := []) (t2 := (jm_S0 L, M, J)) (fun _ _ => rfl) h5 ?_
      refine jm_go.lab (ls' := [none, none, none, none, none, none, none, none]) (fun i hi => by cases hi; rfl) ?_
      exact hke0 M _ H
    · refine jm_go.brf 3 (b := decide (v3 ≤ v7)) (p1 := 93) (l1 := [some (.ref a0), some (.ref 2), some (.int v2), some (.int v3), some (.int v4), some (.int v5), some (.int v6), some (.int v7)]) (s1 := []) (t1 := (jm_S0 L, M, J)) (p2 := 25) (l2 := [some (.ref a0), some (.ref 2), some (.int v2), some (.int v3), some (.int v4), some (.int v5), some (.int v6), some (.int v7)]) (s2 := []) (t2 := (jm_S0 L, M, J)) (fun _ _ => rfl) h5 ?_
      obtain ⟨q6, h7, H⟩ := jm_bdo H
      refine jm_go.call 4 (d := d + 1) (b := true) (u := 14) (as := [.ref 2, .int v2, .int v7]) (pc' := 32) (ls' := [some (.ref a0), some (.ref 2), some (.int v2), some (.int v3), some (.int v4), some (.int v5), some (.int v6), some (.int v7)]) (st' := []) (t' := (jm_S0 L, M, J)) (fun _ _ => rfl) rfl rfl (g14 L (d + 1) M J v2 v7 _ h7) ?_
      rcases jm_bro H with ⟨h8, H⟩ | ⟨h8, H⟩
      · refine jm_go.brt 1 (b := decide (q6 = 0)) (p1 := 87) (l1 := [some (.ref a0), some (.ref 2), some (.int v2), some (.int v3), some (.int v4), some (.int v5), some (.int v6), some (.int v7)]) (s1 := []) (t1 := (jm_S0 L, M, J)) (p2 := 35) (l2 := [some (.ref a0), some (.ref 2), some (.int v2), some (.int v3), some (.int v4), some (.int v5), some (.int v6), some (.int v7)]) (s2 := []) (t2 := (jm_S0 L, M, J)) (fun _ _ => rfl) h8 ?_
        refine jm_go.blk 2 (pc' := 19) (ls' := [some (.ref a0), some (.ref 2), some (.int v2), some (.int v3), some (.int v4), some (.int v5), some (.int v6), some (.int (v7 + 1))]) (st' := []) (t' := (jm_S0 L, M, J)) (fun _ _ => rfl) ?_
        exact hkb M v2 v3 v4 v5 v6 (v7 + 1) _ H
      · refine jm_go.brf 1 (b := decide (q6 = 0)) (p1 := 87) (l1 := [some (.ref a0), some (.ref 2), some (.int v2), some (.int v3), some (.int v4), some (.int v5), some (.int v6), some (.int v7)]) (s1 := []) (t1 := (jm_S0 L, M, J)) (p2 := 35) (l2 := [some (.ref a0), some (.ref 2), some (.int v2), some (.int v3), some (.int v4), some (.int v5), some (.int v6), some (.int v7)]) (s2 := []) (t2 := (jm_S0 L, M, J)) (fun _ _ => rfl) h8 ?_
        obtain ⟨q9, h10, H⟩ := jm_bdo H
        refine jm_go.call 6 (d := d + 1) (b := true) (u := 17) (as := [.ref 2, .int v2, .int v7, .int v5, .int v6]) (pc' := 46) (ls' := [some (.ref a0), some (.ref 2), some (.int v2), some (.int v3), some (.int v4), some (.int v5), some (.int v6), some (.int v7)]) (st' := []) (t' := (jm_S0 L, M, J)) (fun _ _ => rfl) rfl rfl (g17 L d M J v2 v7 v5 v6 _ h10) ?_
        rcases jm_bro H with ⟨h11, H⟩ | ⟨h11, H⟩
        · refine jm_go.brt 2 (b := decide (v4 < q9)) (p1 := 87) (l1 := [some (.ref a0), some (.ref 2), some (.int v2), some (.int v3), some (.int v4), some (.int v5), some (.int v6), some (.int v7)]) (s1 := []) (t1 := (jm_S0 L, M, J)) (p2 := 51) (l2 := [some (.ref a0), some (.ref 2), some (.int v2), some (.int v3), some (.int v4), some (.int v5), some (.int v6), some (.int v7)]) (s2 := []) (t2 := (jm_S0 L, M, J)) (fun _ _ => rfl) h11 ?_
          refine jm_go.blk 2 (pc' := 19) (ls' := [some (.ref a0), some (.ref 2), some (.int v2), some (.int v3), some (.int v4), some (.int v5), some (.int v6), some (.int (v7 + 1))]) (st' := []) (t' := (jm_S0 L, M, J)) (fun _ _ => rfl) ?_
          exact hkb M v2 v3 v4 v5 v6 (v7 + 1) _ H
        · refine jm_go.brf 2 (b := decide (v4 < q9)) (p1 := 87) (l1 := [some (.ref a0), some (.ref 2), some (.int v2), some (.int v3), some (.int v4), some (.int v5), some (.int v6), some (.int v7)]) (s1 := []) (t1 := (jm_S0 L, M, J)) (p2 := 51) (l2 := [some (.ref a0), some (.ref 2), some (.int v2), some (.int v3), some (.int v4), some (.int v5), some (.int v6), some (.int v7)]) (s2 := []) (t2 := (jm_S0 L, M, J)) (fun _ _ => rfl) h11 ?_
          refine jm_go.gfr 2 (b := jm_is (jm_S0 L) a0 0) (o := (jm_S0 L).2.2.2.2 a0 2) (q := a0 + 1) (pc' := 55) (ls' := [some (.ref a0), some (.ref 2), some (.int v2), some (.int v3), some (.int v4), some (.int v5), some (.int v6), some (.int v7)]) (st' := []) (t' := (jm_S0 L, M, J)) (fun _ _ => rfl) (jm_fC L ha0) (jm_rC1 L ha0) ?_
          obtain ⟨h12, H⟩ := jm_gdo H
          refine jm_go.grd 3 (b := ((Nat.beq 0 1 && Nat.beq (a0 + 1) 0) || (Nat.beq 0 0 && jm_is (jm_S0 L) (a0 + 1) 9)) && jm_inb v3 ((jm_S0 L).2.2.2.1 (a0 + 1))) (pc' := 58) (ls' := [some (.ref a0), some (.ref 2), some (.int v2), some (.int v3), some (.int v4), some (.int v5), some (.int v6), some (.int v7)]) (st' := [.int (M (a0 + 1) v3.toNatClampNeg), .int v3, .ref (a0 + 1)]) (t' := (jm_S0 L, M, J)) (fun _ _ => rfl) (jm_gia (jm_fC1 L ha0) h12) ?_
          obtain ⟨h13, H⟩ := jm_gdo H
          refine jm_go.grd 5 (b := jm_is (jm_S0 L) (a0 + 1) 9 && jm_inb v3 ((jm_S0 L).2.2.2.1 (a0 + 1))) (pc' := 64) (ls' := [some (.ref a0), some (.ref 2), some (.int v2), some (.int v3), some (.int v4), some (.int v5), some (.int v6), some (.int v7)]) (st' := []) (t' := (jm_S0 L, (jm_up M (a0 + 1) v3.toNatClampNeg ((M (a0 + 1) v3.toNatClampNeg) ||| (1 <<< (v7 &&& 31)))), J)) (fun _ _ => rfl) (jm_gis (jm_fC1 L ha0) h13) ?_
          refine jm_go.gfr 2 (b := jm_is (jm_S0 L) a0 0) (o := (jm_S0 L).2.2.2.2 a0 2) (q := a0 + 1) (pc' := 68) (ls' := [some (.ref a0), some (.ref 2), some (.int v2), some (.int v3), some (.int v4), some (.int v5), some (.int v6), some (.int v7)]) (st' := []) (t' := (jm_S0 L, (jm_up M (a0 + 1) v3.toNatClampNeg ((M (a0 + 1) v3.toNatClampNeg) ||| (1 <<< (v7 &&& 31)))), J)) (fun _ _ => rfl) (jm_fC L ha0) (jm_rC1 L ha0) ?_
          obtain ⟨h14, H⟩ := jm_gdo H
          refine jm_go.grd 3 (b := ((Nat.beq 0 1 && Nat.beq (a0 + 1) 0) || (Nat.beq 0 0 && jm_is (jm_S0 L) (a0 + 1) 9)) && jm_inb v7 ((jm_S0 L).2.2.2.1 (a0 + 1))) (pc' := 72) (ls' := [some (.ref a0), some (.ref 2), some (.int v2), some (.int v3), some (.int v4), some (.int v5), some (.int v6), some (.int v7)]) (st' := [.int ((jm_up M (a0 + 1) v3.toNatClampNeg ((M (a0 + 1) v3.toNatClampNeg) ||| (1 <<< (v7 &&& 31)))) (a0 + 1) v7.toNatClampNeg), .int v7, .ref (a0 + 1)]) (t' := (jm_S0 L, (jm_up M (a0 + 1) v3.toNatClampNeg ((M (a0 + 1) v3.toNatClampNeg) ||| (1 <<< (v7 &&& 31)))), J)) (fun _ _ => rfl) (jm_gia (jm_fC1 L ha0) h14) ?_
          obtain ⟨h15, H⟩ := jm_gdo H
          refine jm_go.grd 5 (b := jm_is (jm_S0 L) (a0 + 1) 9 && jm_inb v7 ((jm_S0 L).2.2.2.1 (a0 + 1))) (pc' := 77) (ls' := [some (.ref a0), some (.ref 2), some (.int v2), some (.int v3), some (.int v4), some (.int v5), some (.int v6), some (.int v7)]) (st' := []) (t' := (jm_S0 L, (jm_up (jm_up M (a0 + 1) v3.toNatClampNeg ((M (a0 + 1) v3.toNatClampNeg) ||| (1 <<< (v7 &&& 31)))) (a0 + 1) v7.toNatClampNeg (((jm_up M (a0 + 1) v3.toNatClampNeg ((M (a0 + 1) v3.toNatClampNeg) ||| (1 <<< (v7 &&& 31)))) (a0 + 1) v7.toNatClampNeg) ||| (1 <<< (v3 &&& 31)))), J)) (fun _ _ => rfl) (jm_gis (jm_fC1 L ha0) h15) ?_
          refine jm_go.grd 3 (b := jm_is (jm_S0 L) a0 0) (pc' := 82) (ls' := [some (.ref a0), some (.ref 2), some (.int v2), some (.int v3), some (.int v4), some (.int v5), some (.int v6), some (.int v7)]) (st' := [.int ((jm_up (jm_up M (a0 + 1) v3.toNatClampNeg ((M (a0 + 1) v3.toNatClampNeg) ||| (1 <<< (v7 &&& 31)))) (a0 + 1) v7.toNatClampNeg (((jm_up M (a0 + 1) v3.toNatClampNeg ((M (a0 + 1) v3.toNatClampNeg) ||| (1 <<< (v7 &&& 31)))) (a0 + 1) v7.toNatClampNeg) ||| (1 <<< (v3 &&& 31)))) a0 0), .ref a0]) (t' := (jm_S0 L, (jm_up (jm_up M (a0 + 1) v3.toNatClampNeg ((M (a0 + 1) v3.toNatClampNeg) ||| (1 <<< (v7 &&& 31)))) (a0 + 1) v7.toNatClampNeg (((jm_up M (a0 + 1) v3.toNatClampNeg ((M (a0 + 1) v3.toNatClampNeg) ||| (1 <<< (v7 &&& 31)))) (a0 + 1) v7.toNatClampNeg) ||| (1 <<< (v3 &&& 31)))), J)) (fun _ _ => rfl) (jm_fC L ha0) ?_
          refine jm_go.grd 3 (b := jm_is (jm_S0 L) a0 0) (pc' := 87) (ls' := [some (.ref a0), some (.ref 2), some (.int v2), some (.int v3), some (.int v4), some (.int v5), some (.int v6), some (.int v7)]) (st' := []) (t' := (jm_S0 L, (jm_up (jm_up (jm_up M (a0 + 1) v3.toNatClampNeg ((M (a0 + 1) v3.toNatClampNeg) ||| (1 <<< (v7 &&& 31)))) (a0 + 1) v7.toNatClampNeg (((jm_up M (a0 + 1) v3.toNatClampNeg ((M (a0 + 1) v3.toNatClampNeg) ||| (1 <<< (v7 &&& 31)))) (a0 + 1) v7.toNatClampNeg) ||| (1 <<< (v3 &&& 31)))) a0 0 (((jm_up (jm_up M (a0 + 1) v3.toNatClampNeg ((M (a0 + 1) v3.toNatClampNeg) ||| (1 <<< (v7 &&& 31)))) (a0 + 1) v7.toNatClampNeg (((jm_up M (a0 + 1) v3.toNatClampNeg ((M (a0 + 1) v3.toNatClampNeg) ||| (1 <<< (v7 &&& 31)))) (a0 + 1) v7.toNatClampNeg) ||| (1 <<< (v3 &&& 31)))) a0 0) + 1)), J)) (fun _ _ => rfl) (jm_fC L ha0) ?_
          refine jm_go.blk 2 (pc' := 19) (ls' := [some (.ref a0), some (.ref 2), some (.int v2), some (.int v3), some (.int v4), some (.int v5), some (.int v6), some (.int (v7 + 1))]) (st' := []) (t' := (jm_S0 L, (jm_up (jm_up (jm_up M (a0 + 1) v3.toNatClampNeg ((M (a0 + 1) v3.toNatClampNeg) ||| (1 <<< (v7 &&& 31)))) (a0 + 1) v7.toNatClampNeg (((jm_up M (a0 + 1) v3.toNatClampNeg ((M (a0 + 1) v3.toNatClampNeg) ||| (1 <<< (v7 &&& 31)))) (a0 + 1) v7.toNatClampNeg) ||| (1 <<< (v3 &&& 31)))) a0 0 (((jm_up (jm_up M (a0 + 1) v3.toNatClampNeg ((M (a0 + 1) v3.toNatClampNeg) ||| (1 <<< (v7 &&& 31)))) (a0 + 1) v7.toNatClampNeg (((jm_up M (a0 + 1) v3.toNatClampNeg ((M (a0 + 1) v3.toNatClampNeg) ||| (1 <<< (v7 &&& 31)))) (a0 + 1) v7.toNatClampNeg) ||| (1 <<< (v3 &&& 31)))) a0 0) + 1)), J)) (fun _ _ => rfl) ?_
          exact hkb (jm_up (jm_up (jm_up M (a0 + 1) v3.toNatClampNeg ((M (a0 + 1) v3.toNatClampNeg) ||| (1 <<< (v7 &&& 31)))) (a0 + 1) v7.toNatClampNeg (((jm_up M (a0 + 1) v3.toNatClampNeg ((M (a0 + 1) v3.toNatClampNeg) ||| (1 <<< (v7 &&& 31)))) (a0 + 1) v7.toNatClampNeg) ||| (1 <<< (v3 &&& 31)))) a0 0 (((jm_up (jm_up M (a0 + 1) v3.toNatClampNeg ((M (a0 + 1) v3.toNatClampNeg) ||| (1 <<< (v7 &&& 31)))) (a0 + 1) v7.toNatClampNeg (((jm_up M (a0 + 1) v3.toNatClampNeg ((M (a0 + 1) v3.toNatClampNeg) ||| (1 <<< (v7 &&& 31)))) (a0 + 1) v7.toNatClampNeg) ||| (1 <<< (v3 &&& 31)))) a0 0) + 1)) v2 v3 v4 v5 v6 (v7 + 1) _ H

/-- X0_linkToLesser -/
def f2 (M : jm_MM) (a0 : Nat) (x1 : Int32) (x2 : Int32) (x3 : Int32) : Option (jm_MM) := jm_bd (f15 M x1 x2) (fun q1 => jm_bd (f16 M x1 x2) (fun q3 => f2_19 a0 (fun Me16 => some Me16) jm_F M x1 x2 x3 q1 q3 0))
theorem g2 (L : Nat) (d : Nat) (M : jm_MM) (J : jm_JJ) (a0 : Nat) (ha0 : jm_isC a0) (x1 : Int32) (x2 : Int32) (x3 : Int32) (r : jm_MM) (H : f2 M a0 x1 x2 x3 = some r) : jm_go (d + 2) (jm_G 2) 0 (jm_en 8 [.ref a0, .ref 2, .int x1, .int x2, .int x3]) [] (jm_S0 L, M, J) (none, (jm_S0 L, r, J)) := by
  unfold f2 at H
  obtain ⟨q1, h2, H⟩ := jm_bdo H
  refine jm_go.call 4 (d := d + 1) (b := true) (u := 15) (as := [.ref 2, .int x1, .int x2]) (pc' := 6) (ls' := [some (.ref a0), some (.ref 2), some (.int x1), some (.int x2), some (.int x3), none, none, none]) (st' := []) (t' := (jm_S0 L, M, J)) (fun _ _ => rfl) rfl rfl (g15 L (d + 1) M J x1 x2 _ h2) ?_
  obtain ⟨q3, h4, H⟩ := jm_bdo H
  refine jm_go.call 5 (d := d + 1) (b := true) (u := 16) (as := [.ref 2, .int x1, .int x2]) (pc' := 14) (ls' := [some (.ref a0), some (.ref 2), some (.int x1), some (.int x2), some (.int x3), some (.int q1), none, none]) (st' := []) (t' := (jm_S0 L, M, J)) (fun _ _ => rfl) rfl rfl (g16 L (d + 1) M J x1 x2 _ h4) ?_
  refine jm_go.blk 3 (pc' := 19) (ls' := [some (.ref a0), some (.ref 2), some (.int x1), some (.int x2), some (.int x3), some (.int q1), some (.int q3), some (.int 0)]) (st' := []) (t' := (jm_S0 L, M, J)) (fun _ _ => rfl) ?_
  exact g2_19 L d M J a0 ha0
    _ (fun Me16 r H => by
      cases H
      exact jm_go.ret 1 (fun _ _ => rfl)
      )
    _ M x1 x2 x3 q1 q3 0 _ H

def f1_16 (a0 : Nat) (ke0 : jm_MM → Option (jm_MM)) : Nat → jm_MM → Int32 → Int32 → Int32 → Option (jm_MM)
  | 0, _, _, _, _ => none
  | n0 + 1, M, v2, v3, v4 => bif decide (24 ≤ v4) then (ke0 M) else (jm_bd (f14 M v2 v4) (fun q4 => bif decide (q4 = 0) then ((f1_16 a0 ke0 n0) M v2 v3 (v4 + 1)) else (jm_bd (f2 M a0 v2 v4 (v3 * v3)) (fun q7 => (f1_16 a0 ke0 n0) q7 v2 v3 (v4 + 1)))))
theorem g1_16 (L : Nat) (d : Nat) (_M : jm_MM) (J : jm_JJ) (a0 : Nat) (ha0 : jm_isC a0) (ke0 : jm_MM → Option (jm_MM)) (hke0 : ∀ (M : jm_MM) (r : jm_MM), ke0 M = some r → jm_go (d + 3) (jm_G 1) 50 [none, none, none, none, none] [] (jm_S0 L, M, J) (none, (jm_S0 L, r, J))) : ∀ (n0 : Nat) (M : jm_MM) (v2 : Int32) (v3 : Int32) (v4 : Int32) (r : jm_MM), f1_16 a0 ke0 n0 M v2 v3 v4 = some r → jm_go (d + 3) (jm_G 1) 16 [some (.ref a0), some (.ref 2), some (.int v2), some (.int v3), some (.int v4)] [] (jm_S0 L, M, J) (none, (jm_S0 L, r, J)) := by
  intro n0
  induction n0 with
  | zero => intro M v2 v3 v4 r H; cases H
  | succ n0 ih =>
    intro M v2 v3 v4 r H
    have hkb := ih
    unfold f1_16 at H
    rcases jm_bro H with ⟨h3, H⟩ | ⟨h3, H⟩
    · refine jm_go.brt 3 (b := decide (24 ≤ v4)) (p1 := 50) (l1 := [some (.ref a0), some (.ref 2), some (.int v2), some (.int v3), some (.int v4)]) (s1 := []) (t1 := (jm_S0 L, M, J)) (p2 := 23) (l2 := [some (.ref a0), some (.ref 2), some (.int v2), some (.int v3), some (.int v4)]) (s2 := []) (t2 := (jm_S0 L, M, J)) (fun _ _ => rfl) h3 ?_
      refine jm_go.lab (ls' := [none, none, none, none, none]) (fun i hi => by cases hi; rfl) ?_
      exact hke0 M _ H
    · refine jm_go.brf 3 (b := decide (24 ≤ v4)) (p1 := 50) (l1 := [some (.ref a0), some (.ref 2), some (.int v2), some (.int v3), some (.int v4)]) (s1 := []) (t1 := (jm_S0 L, M, J)) (p2 := 23) (l2 := [some (.ref a0), some (.ref 2), some (.int v2), some (.int v3), some (.int v4)]) (s2 := []) (t2 := (jm_S0 L, M, J)) (fun _ _ => rfl) h3 ?_
      obtain ⟨q4, h5, H⟩ := jm_bdo H
      refine jm_go.call 4 (d := d + 2) (b := true) (u := 14) (as := [.ref 2, .int v2, .int v4]) (pc' := 30) (ls' := [some (.ref a0), some (.ref 2), some (.int v2), some (.int v3), some (.int v4)]) (st' := []) (t' := (jm_S0 L, M, J)) (fun _ _ => rfl) rfl rfl (g14 L (d + 2) M J v2 v4 _ h5) ?_
      rcases jm_bro H with ⟨h6, H⟩ | ⟨h6, H⟩
      · refine jm_go.brt 1 (b := decide (q4 = 0)) (p1 := 44) (l1 := [some (.ref a0), some (.ref 2), some (.int v2), some (.int v3), some (.int v4)]) (s1 := []) (t1 := (jm_S0 L, M, J)) (p2 := 33) (l2 := [some (.ref a0), some (.ref 2), some (.int v2), some (.int v3), some (.int v4)]) (s2 := []) (t2 := (jm_S0 L, M, J)) (fun _ _ => rfl) h6 ?_
        refine jm_go.blk 2 (pc' := 16) (ls' := [some (.ref a0), some (.ref 2), some (.int v2), some (.int v3), some (.int (v4 + 1))]) (st' := []) (t' := (jm_S0 L, M, J)) (fun _ _ => rfl) ?_
        exact hkb M v2 v3 (v4 + 1) _ H
      · refine jm_go.brf 1 (b := decide (q4 = 0)) (p1 := 44) (l1 := [some (.ref a0), some (.ref 2), some (.int v2), some (.int v3), some (.int v4)]) (s1 := []) (t1 := (jm_S0 L, M, J)) (p2 := 33) (l2 := [some (.ref a0), some (.ref 2), some (.int v2), some (.int v3), some (.int v4)]) (s2 := []) (t2 := (jm_S0 L, M, J)) (fun _ _ => rfl) h6 ?_
        obtain ⟨q7, h8, H⟩ := jm_bdo H
        refine jm_go.call 8 (d := d + 2) (b := jm_is (jm_S0 L) a0 0) (u := 2) (as := [.ref a0, .ref 2, .int v2, .int v4, .int (v3 * v3)]) (pc' := 44) (ls' := [some (.ref a0), some (.ref 2), some (.int v2), some (.int v3), some (.int v4)]) (st' := []) (t' := (jm_S0 L, M, J)) (fun _ _ => rfl) (jm_fC L ha0) rfl (g2 L d M J a0 ha0 v2 v4 (v3 * v3) _ h8) ?_
        refine jm_go.blk 2 (pc' := 16) (ls' := [some (.ref a0), some (.ref 2), some (.int v2), some (.int v3), some (.int (v4 + 1))]) (st' := []) (t' := (jm_S0 L, q7, J)) (fun _ _ => rfl) ?_
        exact hkb q7 v2 v3 (v4 + 1) _ H

/-- X0_link -/
def f1 (M : jm_MM) (a0 : Nat) (x1 : Int32) (x2 : Int32) : Option (jm_MM) := jm_bd (f165 (jm_up M a0 0 0) (a0 + 1) 24 0) (fun q1 => f1_16 a0 (fun Me9 => some Me9) jm_F q1 x1 x2 0)
theorem g1 (L : Nat) (d : Nat) (M : jm_MM) (J : jm_JJ) (a0 : Nat) (ha0 : jm_isC a0) (x1 : Int32) (x2 : Int32) (r : jm_MM) (H : f1 M a0 x1 x2 = some r) : jm_go (d + 3) (jm_G 1) 0 (jm_en 5 [.ref a0, .ref 2, .int x1, .int x2]) [] (jm_S0 L, M, J) (none, (jm_S0 L, r, J)) := by
  unfold f1 at H
  refine jm_go.grd 3 (b := jm_is (jm_S0 L) a0 0) (pc' := 5) (ls' := [some (.ref a0), some (.ref 2), some (.int x1), some (.int x2), none]) (st' := []) (t' := (jm_S0 L, (jm_up M a0 0 0), J)) (fun _ _ => rfl) (jm_fC L ha0) ?_
  refine jm_go.gfr 2 (b := jm_is (jm_S0 L) a0 0) (o := (jm_S0 L).2.2.2.2 a0 2) (q := a0 + 1) (pc' := 9) (ls' := [some (.ref a0), some (.ref 2), some (.int x1), some (.int x2), none]) (st' := []) (t' := (jm_S0 L, (jm_up M a0 0 0), J)) (fun _ _ => rfl) (jm_fC L ha0) (jm_rC1 L ha0) ?_
  obtain ⟨q1, h2, H⟩ := jm_bdo H
  refine jm_go.call 2 (d := d + 2) (b := true) (u := 165) (as := [.ref (a0 + 1), .int 0]) (pc' := 13) (ls' := [some (.ref a0), some (.ref 2), some (.int x1), some (.int x2), none]) (st' := []) (t' := (jm_S0 L, (jm_up M a0 0 0), J)) (fun _ _ => rfl) rfl rfl (g165 L (d + 2) (jm_up M a0 0 0) J (a0 + 1) 0 (jm_fC1 L ha0) h2) ?_
  refine jm_go.blk 2 (pc' := 16) (ls' := [some (.ref a0), some (.ref 2), some (.int x1), some (.int x2), some (.int 0)]) (st' := []) (t' := (jm_S0 L, q1, J)) (fun _ _ => rfl) ?_
  exact g1_16 L d M J a0 ha0
    _ (fun Me9 r H => by
      cases H
      exact jm_go.ret 1 (fun _ _ => rfl)
      )
    _ q1 x1 x2 0 _ H


/-- X7_has -/
def f87 (M : jm_MM) (x0 : Int32) (x1 : Int32) : Option (Int32) := bif decide (((x0 >>> (x1 &&& 31)) &&& 1) = 0) then (some 0) else (some 1)
theorem g87 (L : Nat) (d : Nat) (M : jm_MM) (J : jm_JJ) (x0 : Int32) (x1 : Int32) (r : Int32) (H : f87 M x0 x1 = some r) : jm_go d (jm_G 87) 0 (jm_en 2 [.int x0, .int x1]) [] (jm_S0 L, M, J) (some (.int r), (jm_S0 L, M, J)) := by
  unfold f87 at H
  rcases jm_bro H with ⟨h1, H⟩ | ⟨h1, H⟩
  · refine jm_go.brt 6 (b := decide (((x0 >>> (x1 &&& 31)) &&& 1) = 0)) (p1 := 12) (l1 := [some (.int x0), some (.int x1)]) (s1 := []) (t1 := (jm_S0 L, M, J)) (p2 := 8) (l2 := [some (.int x0), some (.int x1)]) (s2 := []) (t2 := (jm_S0 L, M, J)) (fun _ _ => rfl) h1 ?_
    cases H
    exact jm_go.retz 2 (b := jm_z1 0) (fun _ _ => rfl) rfl
  · refine jm_go.brf 6 (b := decide (((x0 >>> (x1 &&& 31)) &&& 1) = 0)) (p1 := 12) (l1 := [some (.int x0), some (.int x1)]) (s1 := []) (t1 := (jm_S0 L, M, J)) (p2 := 8) (l2 := [some (.int x0), some (.int x1)]) (s2 := []) (t2 := (jm_S0 L, M, J)) (fun _ _ => rfl) h1 ?_
    cases H
    exact jm_go.retz 3 (b := jm_z1 1) (fun _ _ => rfl) rfl

def f6_4 (M : jm_MM) (a0 : Nat) (ke0 : Int32 → Option (Int32)) : Nat → Int32 → Int32 → Int32 → Option (Int32)
  | 0, _, _, _ => none
  | n0 + 1, v1, v2, v3 => bif decide (24 ≤ v3) then (ke0 v2) else (jm_bd (f87 M v1 v3) (fun q2 => bif decide (q2 = 0) then ((f6_4 M a0 ke0 n0) v1 v2 (v3 + 1)) else (jm_gd (jm_inb v3 24) ((f6_4 M a0 ke0 n0) v1 (v2 ||| (M (a0 + 1) v3.toNatClampNeg)) (v3 + 1)))))
theorem g6_4 (L : Nat) (d : Nat) (M : jm_MM) (J : jm_JJ) (a0 : Nat) (ha0 : jm_isC a0) (ke0 : Int32 → Option (Int32)) (hke0 : ∀  (v2 : Int32) (r : Int32), ke0 v2 = some r → jm_go (d + 1) (jm_G 6) 33 [none, none, some (.int v2), none] [] (jm_S0 L, M, J) (some (.int r), (jm_S0 L, M, J))) : ∀ (n0 : Nat) (v1 : Int32) (v2 : Int32) (v3 : Int32) (r : Int32), f6_4 M a0 ke0 n0 v1 v2 v3 = some r → jm_go (d + 1) (jm_G 6) 4 [some (.ref a0), some (.int v1), some (.int v2), some (.int v3)] [] (jm_S0 L, M, J) (some (.int r), (jm_S0 L, M, J)) := by
  intro n0
  induction n0 with
  | zero => intro v1 v2 v3 r H; cases H
  | succ n0 ih =>
    intro v1 v2 v3 r H
    have hkb := ih
    unfold f6_4 at H
    rcases jm_bro H with ⟨h1, H⟩ | ⟨h1, H⟩
    · refine jm_go.brt 3 (b := decide (24 ≤ v3)) (p1 := 33) (l1 := [some (.ref a0), some (.int v1), some (.int v2), some (.int v3)]) (s1 := []) (t1 := (jm_S0 L, M, J)) (p2 := 10) (l2 := [some (.ref a0), some (.int v1), some (.int v2), some (.int v3)]) (s2 := []) (t2 := (jm_S0 L, M, J)) (fun _ _ => rfl) h1 ?_
      refine jm_go.lab (ls' := [none, none, some (.int v2), none]) (fun i hi => by cases hi; rfl) ?_
      exact hke0 v2 _ H
    · refine jm_go.brf 3 (b := decide (24 ≤ v3)) (p1 := 33) (l1 := [some (.ref a0), some (.int v1), some (.int v2), some (.int v3)]) (s1 := []) (t1 := (jm_S0 L, M, J)) (p2 := 10) (l2 := [some (.ref a0), some (.int v1), some (.int v2), some (.int v3)]) (s2 := []) (t2 := (jm_S0 L, M, J)) (fun _ _ => rfl) h1 ?_
      obtain ⟨q2, h3, H⟩ := jm_bdo H
      refine jm_go.call 3 (d := d) (b := true) (u := 87) (as := [.int v1, .int v3]) (pc' := 15) (ls' := [some (.ref a0), some (.int v1), some (.int v2), some (.int v3)]) (st' := []) (t' := (jm_S0 L, M, J)) (fun _ _ => rfl) rfl rfl (g87 L d M J v1 v3 _ h3) ?_
      rcases jm_bro H with ⟨h4, H⟩ | ⟨h4, H⟩
      · refine jm_go.brt 1 (b := decide (q2 = 0)) (p1 := 27) (l1 := [some (.ref a0), some (.int v1), some (.int v2), some (.int v3)]) (s1 := []) (t1 := (jm_S0 L, M, J)) (p2 := 18) (l2 := [some (.ref a0), some (.int v1), some (.int v2), some (.int v3)]) (s2 := []) (t2 := (jm_S0 L, M, J)) (fun _ _ => rfl) h4 ?_
        refine jm_go.blk 2 (pc' := 4) (ls' := [some (.ref a0), some (.int v1), some (.int v2), some (.int (v3 + 1))]) (st' := []) (t' := (jm_S0 L, M, J)) (fun _ _ => rfl) ?_
        exact hkb v1 v2 (v3 + 1) _ H
      · refine jm_go.brf 1 (b := decide (q2 = 0)) (p1 := 27) (l1 := [some (.ref a0), some (.int v1), some (.int v2), some (.int v3)]) (s1 := []) (t1 := (jm_S0 L, M, J)) (p2 := 18) (l2 := [some (.ref a0), some (.int v1), some (.int v2), some (.int v3)]) (s2 := []) (t2 := (jm_S0 L, M, J)) (fun _ _ => rfl) h4 ?_
        refine jm_go.gfr 3 (b := jm_is (jm_S0 L) a0 0) (o := (jm_S0 L).2.2.2.2 a0 2) (q := a0 + 1) (pc' := 23) (ls' := [some (.ref a0), some (.int v1), some (.int v2), some (.int v3)]) (st' := [.int v2]) (t' := (jm_S0 L, M, J)) (fun _ _ => rfl) (jm_fC L ha0) (jm_rC1 L ha0) ?_
        obtain ⟨h5, H⟩ := jm_gdo H
        refine jm_go.grd 2 (b := ((Nat.beq 0 1 && Nat.beq (a0 + 1) 0) || (Nat.beq 0 0 && jm_is (jm_S0 L) (a0 + 1) 9)) && jm_inb v3 ((jm_S0 L).2.2.2.1 (a0 + 1))) (pc' := 25) (ls' := [some (.ref a0), some (.int v1), some (.int v2), some (.int v3)]) (st' := [.int (M (a0 + 1) v3.toNatClampNeg), .int v2]) (t' := (jm_S0 L, M, J)) (fun _ _ => rfl) (jm_gia (jm_fC1 L ha0) h5) ?_
        refine jm_go.blk 4 (pc' := 4) (ls' := [some (.ref a0), some (.int v1), some (.int (v2 ||| (M (a0 + 1) v3.toNatClampNeg))), some (.int (v3 + 1))]) (st' := []) (t' := (jm_S0 L, M, J)) (fun _ _ => rfl) ?_
        exact hkb v1 (v2 ||| (M (a0 + 1) v3.toNatClampNeg)) (v3 + 1) _ H

/-- X0_linkedToAny -/
def f6 (M : jm_MM) (a0 : Nat) (x0 : Int32) : Option (Int32) := f6_4 M a0 (fun ve6 => some ve6) jm_F x0 0 0
theorem g6 (L : Nat) (d : Nat) (M : jm_MM) (J : jm_JJ) (a0 : Nat) (ha0 : jm_isC a0) (x0 : Int32) (r : Int32) (H : f6 M a0 x0 = some r) : jm_go (d + 1) (jm_G 6) 0 (jm_en 4 [.ref a0, .int x0]) [] (jm_S0 L, M, J) (some (.int r), (jm_S0 L, M, J)) := by
  unfold f6 at H
  refine jm_go.blk 4 (pc' := 4) (ls' := [some (.ref a0), some (.int x0), some (.int 0), some (.int 0)]) (st' := []) (t' := (jm_S0 L, M, J)) (fun _ _ => rfl) ?_
  exact g6_4 L d M J a0 ha0
    _ (fun ve6 r H => by
      cases H
      exact jm_go.ret 2 (fun _ _ => rfl)
      )
    _ x0 0 0 _ H

def f5_10 (M : jm_MM) (a0 : Nat) (ke0 : Int32 → Option (Int32)) : Nat → Int32 → Int32 → Int32 → Int32 → Option (Int32)
  | 0, _, _, _, _ => none
  | n0 + 1, v2, v3, v4, v5 => bif decide (24 ≤ v5) then (ke0 v3) else (bif decide (v4 = 0) then (ke0 v3) else (jm_bd (f6 M a0 v4) (fun q3 => (f5_10 M a0 ke0 n0) v2 (v3 ||| ((q3 &&& v2) &&& (v3 ^^^ (-1)))) ((q3 &&& v2) &&& (v3 ^^^ (-1))) (v5 + 1))))
theorem g5_10 (L : Nat) (d : Nat) (M : jm_MM) (J : jm_JJ) (a0 : Nat) (ha0 : jm_isC a0) (ke0 : Int32 → Option (Int32)) (hke0 : ∀  (v3 : Int32) (r : Int32), ke0 v3 = some r → jm_go (d + 2) (jm_G 5) 47 [none, none, none, some (.int v3), none, none] [] (jm_S0 L, M, J) (some (.int r), (jm_S0 L, M, J))) : ∀ (n0 : Nat) (v2 : Int32) (v3 : Int32) (v4 : Int32) (v5 : Int32) (r : Int32), f5_10 M a0 ke0 n0 v2 v3 v4 v5 = some r → jm_go (d + 2) (jm_G 5) 10 [some (.ref a0), none, some (.int v2), some (.int v3), some (.int v4), some (.int v5)] [] (jm_S0 L, M, J) (some (.int r), (jm_S0 L, M, J)) := by
  intro n0
  induction n0 with
  | zero => intro v2 v3 v4 v5 r H; cases H
  | succ n0 ih =>
    intro v2 v3 v4 v5 r H
    have hkb := ih
    unfold f5_10 at H
    rcases jm_bro H with ⟨h1, H⟩ | ⟨h1, H⟩
    · refine jm_go.brt 3 (b := decide (24 ≤ v5)) (p1 := 47) (l1 := [some (.ref a0), none, some (.int v2), some (.int v3), some (.int v4), some (.int v5)]) (s1 := []) (t1 := (jm_S0 L, M, J)) (p2 := 17) (l2 := [some (.ref a0), none, some (.int v2), some (.int v3), some (.int v4), some (.int v5)]) (s2 := []) (t2 := (jm_S0 L, M, J)) (fun _ _ => rfl) h1 ?_
      refine jm_go.lab (ls' := [none, none, none, some (.int v3), none, none]) (fun i hi => by cases hi; rfl) ?_
      exact hke0 v3 _ H
    · refine jm_go.brf 3 (b := decide (24 ≤ v5)) (p1 := 47) (l1 := [some (.ref a0), none, some (.int v2), some (.int v3), some (.int v4), some (.int v5)]) (s1 := []) (t1 := (jm_S0 L, M, J)) (p2 := 17) (l2 := [some (.ref a0), none, some (.int v2), some (.int v3), some (.int v4), some (.int v5)]) (s2 := []) (t2 := (jm_S0 L, M, J)) (fun _ _ => rfl) h1 ?_
      rcases jm_bro H with ⟨h2, H⟩ | ⟨h2, H⟩
      · refine jm_go.brt 2 (b := decide (v4 = 0)) (p1 := 47) (l1 := [some (.ref a0), none, some (.int v2), some (.int v3), some (.int v4), some (.int v5)]) (s1 := []) (t1 := (jm_S0 L, M, J)) (p2 := 22) (l2 := [some (.ref a0), none, some (.int v2), some (.int v3), some (.int v4), some (.int v5)]) (s2 := []) (t2 := (jm_S0 L, M, J)) (fun _ _ => rfl) h2 ?_
        refine jm_go.lab (ls' := [none, none, none, some (.int v3), none, none]) (fun i hi => by cases hi; rfl) ?_
        exact hke0 v3 _ H
      · refine jm_go.brf 2 (b := decide (v4 = 0)) (p1 := 47) (l1 := [some (.ref a0), none, some (.int v2), some (.int v3), some (.int v4), some (.int v5)]) (s1 := []) (t1 := (jm_S0 L, M, J)) (p2 := 22) (l2 := [some (.ref a0), none, some (.int v2), some (.int v3), some (.int v4), some (.int v5)]) (s2 := []) (t2 := (jm_S0 L, M, J)) (fun _ _ => rfl) h2 ?_
        obtain ⟨q3, h4, H⟩ := jm_bdo H
        refine jm_go.call 3 (d := d + 1) (b := jm_is (jm_S0 L) a0 0) (u := 6) (as := [.ref a0, .int v4]) (pc' := 28) (ls' := [some (.ref a0), none, some (.int v2), some (.int v3), some (.int v4), some (.int v5)]) (st' := []) (t' := (jm_S0 L, M, J)) (fun _ _ => rfl) (jm_fC L ha0) rfl (g6 L d M J a0 ha0 v4 _ h4) ?_
        refine jm_go.blk 13 (pc' := 10) (ls' := [some (.ref a0), none, some (.int v2), some (.int (v3 ||| ((q3 &&& v2) &&& (v3 ^^^ (-1))))), some (.int ((q3 &&& v2) &&& (v3 ^^^ (-1)))), some (.int (v5 + 1))]) (st' := []) (t' := (jm_S0 L, M, J)) (fun _ _ => rfl) ?_
        exact hkb v2 (v3 ||| ((q3 &&& v2) &&& (v3 ^^^ (-1)))) ((q3 &&& v2) &&& (v3 ^^^ (-1))) (v5 + 1) _ H

/-- X0_reachedFrom -/
def f5 (M : jm_MM) (a0 : Nat) (x0 : Int32) (x1 : Int32) : Option (Int32) := f5_10 M a0 (fun ve5 => some ve5) jm_F x1 (1 <<< (x0 &&& 31)) (1 <<< (x0 &&& 31)) 0
theorem g5 (L : Nat) (d : Nat) (M : jm_MM) (J : jm_JJ) (a0 : Nat) (ha0 : jm_isC a0) (x0 : Int32) (x1 : Int32) (r : Int32) (H : f5 M a0 x0 x1 = some r) : jm_go (d + 2) (jm_G 5) 0 (jm_en 6 [.ref a0, .int x0, .int x1]) [] (jm_S0 L, M, J) (some (.int r), (jm_S0 L, M, J)) := by
  unfold f5 at H
  refine jm_go.blk 8 (pc' := 10) (ls' := [some (.ref a0), some (.int x0), some (.int x1), some (.int (1 <<< (x0 &&& 31))), some (.int (1 <<< (x0 &&& 31))), some (.int 0)]) (st' := []) (t' := (jm_S0 L, M, J)) (fun _ _ => rfl) ?_
  refine jm_go.lab (ls' := [some (.ref a0), none, some (.int x1), some (.int (1 <<< (x0 &&& 31))), some (.int (1 <<< (x0 &&& 31))), some (.int 0)]) (fun i hi => by cases hi; rfl) ?_
  exact g5_10 L d M J a0 ha0
    _ (fun ve5 r H => by
      cases H
      exact jm_go.ret 2 (fun _ _ => rfl)
      )
    _ x1 (1 <<< (x0 &&& 31)) (1 <<< (x0 &&& 31)) 0 _ H

def f4_2 (a0 : Nat) (ke0 : jm_MM → Option (jm_MM)) : Nat → jm_MM → Int32 → Int32 → Option (jm_MM)
  | 0, _, _, _ => none
  | n0 + 1, M, v1, v2 => bif decide (24 ≤ v2) then (ke0 M) else (jm_bd (f87 M v1 v2) (fun q2 => bif decide (q2 = 0) then ((f4_2 a0 ke0 n0) M v1 (v2 + 1)) else (jm_gd (jm_inb v2 24) ((f4_2 a0 ke0 n0) (jm_up M (a0 + 2) v2.toNatClampNeg v1) v1 (v2 + 1)))))
theorem g4_2 (L : Nat) (d : Nat) (_M : jm_MM) (J : jm_JJ) (a0 : Nat) (ha0 : jm_isC a0) (ke0 : jm_MM → Option (jm_MM)) (hke0 : ∀ (M : jm_MM) (r : jm_MM), ke0 M = some r → jm_go (d + 1) (jm_G 4) 29 [none, none, none] [] (jm_S0 L, M, J) (none, (jm_S0 L, r, J))) : ∀ (n0 : Nat) (M : jm_MM) (v1 : Int32) (v2 : Int32) (r : jm_MM), f4_2 a0 ke0 n0 M v1 v2 = some r → jm_go (d + 1) (jm_G 4) 2 [some (.ref a0), some (.int v1), some (.int v2)] [] (jm_S0 L, M, J) (none, (jm_S0 L, r, J)) := by
  intro n0
  induction n0 with
  | zero => intro M v1 v2 r H; cases H
  | succ n0 ih =>
    intro M v1 v2 r H
    have hkb := ih
    unfold f4_2 at H
    rcases jm_bro H with ⟨h1, H⟩ | ⟨h1, H⟩
    · refine jm_go.brt 3 (b := decide (24 ≤ v2)) (p1 := 29) (l1 := [some (.ref a0), some (.int v1), some (.int v2)]) (s1 := []) (t1 := (jm_S0 L, M, J)) (p2 := 8) (l2 := [some (.ref a0), some (.int v1), some (.int v2)]) (s2 := []) (t2 := (jm_S0 L, M, J)) (fun _ _ => rfl) h1 ?_
      refine jm_go.lab (ls' := [none, none, none]) (fun i hi => by cases hi; rfl) ?_
      exact hke0 M _ H
    · refine jm_go.brf 3 (b := decide (24 ≤ v2)) (p1 := 29) (l1 := [some (.ref a0), some (.int v1), some (.int v2)]) (s1 := []) (t1 := (jm_S0 L, M, J)) (p2 := 8) (l2 := [some (.ref a0), some (.int v1), some (.int v2)]) (s2 := []) (t2 := (jm_S0 L, M, J)) (fun _ _ => rfl) h1 ?_
      obtain ⟨q2, h3, H⟩ := jm_bdo H
      refine jm_go.call 3 (d := d) (b := true) (u := 87) (as := [.int v1, .int v2]) (pc' := 13) (ls' := [some (.ref a0), some (.int v1), some (.int v2)]) (st' := []) (t' := (jm_S0 L, M, J)) (fun _ _ => rfl) rfl rfl (g87 L d M J v1 v2 _ h3) ?_
      rcases jm_bro H with ⟨h4, H⟩ | ⟨h4, H⟩
      · refine jm_go.brt 1 (b := decide (q2 = 0)) (p1 := 23) (l1 := [some (.ref a0), some (.int v1), some (.int v2)]) (s1 := []) (t1 := (jm_S0 L, M, J)) (p2 := 16) (l2 := [some (.ref a0), some (.int v1), some (.int v2)]) (s2 := []) (t2 := (jm_S0 L, M, J)) (fun _ _ => rfl) h4 ?_
        refine jm_go.blk 2 (pc' := 2) (ls' := [some (.ref a0), some (.int v1), some (.int (v2 + 1))]) (st' := []) (t' := (jm_S0 L, M, J)) (fun _ _ => rfl) ?_
        exact hkb M v1 (v2 + 1) _ H
      · refine jm_go.brf 1 (b := decide (q2 = 0)) (p1 := 23) (l1 := [some (.ref a0), some (.int v1), some (.int v2)]) (s1 := []) (t1 := (jm_S0 L, M, J)) (p2 := 16) (l2 := [some (.ref a0), some (.int v1), some (.int v2)]) (s2 := []) (t2 := (jm_S0 L, M, J)) (fun _ _ => rfl) h4 ?_
        refine jm_go.gfr 2 (b := jm_is (jm_S0 L) a0 0) (o := (jm_S0 L).2.2.2.2 a0 3) (q := a0 + 2) (pc' := 20) (ls' := [some (.ref a0), some (.int v1), some (.int v2)]) (st' := []) (t' := (jm_S0 L, M, J)) (fun _ _ => rfl) (jm_fC L ha0) (jm_rC2 L ha0) ?_
        obtain ⟨h5, H⟩ := jm_gdo H
        refine jm_go.grd 3 (b := jm_is (jm_S0 L) (a0 + 2) 9 && jm_inb v2 ((jm_S0 L).2.2.2.1 (a0 + 2))) (pc' := 23) (ls' := [some (.ref a0), some (.int v1), some (.int v2)]) (st' := []) (t' := (jm_S0 L, (jm_up M (a0 + 2) v2.toNatClampNeg v1), J)) (fun _ _ => rfl) (jm_gis (jm_fC2 L ha0) h5) ?_
        refine jm_go.blk 2 (pc' := 2) (ls' := [some (.ref a0), some (.int v1), some (.int (v2 + 1))]) (st' := []) (t' := (jm_S0 L, (jm_up M (a0 + 2) v2.toNatClampNeg v1), J)) (fun _ _ => rfl) ?_
        exact hkb (jm_up M (a0 + 2) v2.toNatClampNeg v1) v1 (v2 + 1) _ H

/-- X0_tellMembers -/
def f4 (M : jm_MM) (a0 : Nat) (x0 : Int32) : Option (jm_MM) := f4_2 a0 (fun Me6 => some Me6) jm_F M x0 0
theorem g4 (L : Nat) (d : Nat) (M : jm_MM) (J : jm_JJ) (a0 : Nat) (ha0 : jm_isC a0) (x0 : Int32) (r : jm_MM) (H : f4 M a0 x0 = some r) : jm_go (d + 1) (jm_G 4) 0 (jm_en 3 [.ref a0, .int x0]) [] (jm_S0 L, M, J) (none, (jm_S0 L, r, J)) := by
  unfold f4 at H
  refine jm_go.blk 2 (pc' := 2) (ls' := [some (.ref a0), some (.int x0), some (.int 0)]) (st' := []) (t' := (jm_S0 L, M, J)) (fun _ _ => rfl) ?_
  exact g4_2 L d M J a0 ha0
    _ (fun Me6 r H => by
      cases H
      exact jm_go.ret 1 (fun _ _ => rfl)
      )
    _ M x0 0 _ H

def f3_15 (a0 : Nat) (ke0 : jm_MM → Option (jm_MM)) : Nat → jm_MM → Int32 → Int32 → Option (jm_MM)
  | 0, _, _, _ => none
  | n0 + 1, M, v1, v2 => bif decide (24 ≤ v2) then (ke0 M) else (jm_bd (f87 M v1 v2) (fun q4 => bif decide (q4 = 0) then ((f3_15 a0 ke0 n0) M v1 (v2 + 1)) else (jm_gd (jm_inb v2 24) (bif !decide ((M (a0 + 2) v2.toNatClampNeg) = 0) then ((f3_15 a0 ke0 n0) M v1 (v2 + 1)) else (jm_bd (f5 M a0 v2 v1) (fun q9 => jm_bd (f4 M a0 q9) (fun q11 => (f3_15 a0 ke0 n0) (jm_up q11 a0 1 ((q11 a0 1) + 1)) v1 (v2 + 1))))))))
theorem g3_15 (L : Nat) (d : Nat) (_M : jm_MM) (J : jm_JJ) (a0 : Nat) (ha0 : jm_isC a0) (ke0 : jm_MM → Option (jm_MM)) (hke0 : ∀ (M : jm_MM) (r : jm_MM), ke0 M = some r → jm_go (d + 3) (jm_G 3) 64 [none, none, none] [] (jm_S0 L, M, J) (none, (jm_S0 L, r, J))) : ∀ (n0 : Nat) (M : jm_MM) (v1 : Int32) (v2 : Int32) (r : jm_MM), f3_15 a0 ke0 n0 M v1 v2 = some r → jm_go (d + 3) (jm_G 3) 15 [some (.ref a0), some (.int v1), some (.int v2)] [] (jm_S0 L, M, J) (none, (jm_S0 L, r, J)) := by
  intro n0
  induction n0 with
  | zero => intro M v1 v2 r H; cases H
  | succ n0 ih =>
    intro M v1 v2 r H
    have hkb := ih
    unfold f3_15 at H
    rcases jm_bro H with ⟨h3, H⟩ | ⟨h3, H⟩
    · refine jm_go.brt 3 (b := decide (24 ≤ v2)) (p1 := 64) (l1 := [some (.ref a0), some (.int v1), some (.int v2)]) (s1 := []) (t1 := (jm_S0 L, M, J)) (p2 := 21) (l2 := [some (.ref a0), some (.int v1), some (.int v2)]) (s2 := []) (t2 := (jm_S0 L, M, J)) (fun _ _ => rfl) h3 ?_
      refine jm_go.lab (ls' := [none, none, none]) (fun i hi => by cases hi; rfl) ?_
      exact hke0 M _ H
    · refine jm_go.brf 3 (b := decide (24 ≤ v2)) (p1 := 64) (l1 := [some (.ref a0), some (.int v1), some (.int v2)]) (s1 := []) (t1 := (jm_S0 L, M, J)) (p2 := 21) (l2 := [some (.ref a0), some (.int v1), some (.int v2)]) (s2 := []) (t2 := (jm_S0 L, M, J)) (fun _ _ => rfl) h3 ?_
      obtain ⟨q4, h5, H⟩ := jm_bdo H
      refine jm_go.call 3 (d := d + 2) (b := true) (u := 87) (as := [.int v1, .int v2]) (pc' := 26) (ls' := [some (.ref a0), some (.int v1), some (.int v2)]) (st' := []) (t' := (jm_S0 L, M, J)) (fun _ _ => rfl) rfl rfl (g87 L (d + 2) M J v1 v2 _ h5) ?_
      rcases jm_bro H with ⟨h6, H⟩ | ⟨h6, H⟩
      · refine jm_go.brt 1 (b := decide (q4 = 0)) (p1 := 58) (l1 := [some (.ref a0), some (.int v1), some (.int v2)]) (s1 := []) (t1 := (jm_S0 L, M, J)) (p2 := 29) (l2 := [some (.ref a0), some (.int v1), some (.int v2)]) (s2 := []) (t2 := (jm_S0 L, M, J)) (fun _ _ => rfl) h6 ?_
        refine jm_go.blk 2 (pc' := 15) (ls' := [some (.ref a0), some (.int v1), some (.int (v2 + 1))]) (st' := []) (t' := (jm_S0 L, M, J)) (fun _ _ => rfl) ?_
        exact hkb M v1 (v2 + 1) _ H
      · refine jm_go.brf 1 (b := decide (q4 = 0)) (p1 := 58) (l1 := [some (.ref a0), some (.int v1), some (.int v2)]) (s1 := []) (t1 := (jm_S0 L, M, J)) (p2 := 29) (l2 := [some (.ref a0), some (.int v1), some (.int v2)]) (s2 := []) (t2 := (jm_S0 L, M, J)) (fun _ _ => rfl) h6 ?_
        refine jm_go.gfr 2 (b := jm_is (jm_S0 L) a0 0) (o := (jm_S0 L).2.2.2.2 a0 3) (q := a0 + 2) (pc' := 33) (ls' := [some (.ref a0), some (.int v1), some (.int v2)]) (st' := []) (t' := (jm_S0 L, M, J)) (fun _ _ => rfl) (jm_fC L ha0) (jm_rC2 L ha0) ?_
        obtain ⟨h7, H⟩ := jm_gdo H
        refine jm_go.grd 2 (b := ((Nat.beq 0 1 && Nat.beq (a0 + 2) 0) || (Nat.beq 0 0 && jm_is (jm_S0 L) (a0 + 2) 9)) && jm_inb v2 ((jm_S0 L).2.2.2.1 (a0 + 2))) (pc' := 35) (ls' := [some (.ref a0), some (.int v1), some (.int v2)]) (st' := [.int (M (a0 + 2) v2.toNatClampNeg)]) (t' := (jm_S0 L, M, J)) (fun _ _ => rfl) (jm_gia (jm_fC2 L ha0) h7) ?_
        rcases jm_bro H with ⟨h8, H⟩ | ⟨h8, H⟩
        · refine jm_go.brt 1 (b := !decide ((M (a0 + 2) v2.toNatClampNeg) = 0)) (p1 := 58) (l1 := [some (.ref a0), some (.int v1), some (.int v2)]) (s1 := []) (t1 := (jm_S0 L, M, J)) (p2 := 38) (l2 := [some (.ref a0), some (.int v1), some (.int v2)]) (s2 := []) (t2 := (jm_S0 L, M, J)) (fun _ _ => rfl) h8 ?_
          refine jm_go.blk 2 (pc' := 15) (ls' := [some (.ref a0), some (.int v1), some (.int (v2 + 1))]) (st' := []) (t' := (jm_S0 L, M, J)) (fun _ _ => rfl) ?_
          exact hkb M v1 (v2 + 1) _ H
        · refine jm_go.brf 1 (b := !decide ((M (a0 + 2) v2.toNatClampNeg) = 0)) (p1 := 58) (l1 := [some (.ref a0), some (.int v1), some (.int v2)]) (s1 := []) (t1 := (jm_S0 L, M, J)) (p2 := 38) (l2 := [some (.ref a0), some (.int v1), some (.int v2)]) (s2 := []) (t2 := (jm_S0 L, M, J)) (fun _ _ => rfl) h8 ?_
          obtain ⟨q9, h10, H⟩ := jm_bdo H
          refine jm_go.call 5 (d := d + 2) (b := jm_is (jm_S0 L) a0 0) (u := 5) (as := [.ref a0, .int v2, .int v1]) (pc' := 45) (ls' := [some (.ref a0), some (.int v1), some (.int v2)]) (st' := [.ref a0]) (t' := (jm_S0 L, M, J)) (fun _ _ => rfl) (jm_fC L ha0) rfl (g5 L d M J a0 ha0 v2 v1 _ h10) ?_
          obtain ⟨q11, h12, H⟩ := jm_bdo H
          refine jm_go.call 1 (d := d + 2) (b := jm_is (jm_S0 L) a0 0) (u := 4) (as := [.ref a0, .int q9]) (pc' := 48) (ls' := [some (.ref a0), some (.int v1), some (.int v2)]) (st' := []) (t' := (jm_S0 L, M, J)) (fun _ _ => rfl) (jm_fC L ha0) rfl (g4 L (d + 1) M J a0 ha0 q9 _ h12) ?_
          refine jm_go.grd 3 (b := jm_is (jm_S0 L) a0 0) (pc' := 53) (ls' := [some (.ref a0), some (.int v1), some (.int v2)]) (st' := [.int (q11 a0 1), .ref a0]) (t' := (jm_S0 L, q11, J)) (fun _ _ => rfl) (jm_fC L ha0) ?_
          refine jm_go.grd 3 (b := jm_is (jm_S0 L) a0 0) (pc' := 58) (ls' := [some (.ref a0), some (.int v1), some (.int v2)]) (st' := []) (t' := (jm_S0 L, (jm_up q11 a0 1 ((q11 a0 1) + 1)), J)) (fun _ _ => rfl) (jm_fC L ha0) ?_
          refine jm_go.blk 2 (pc' := 15) (ls' := [some (.ref a0), some (.int v1), some (.int (v2 + 1))]) (st' := []) (t' := (jm_S0 L, (jm_up q11 a0 1 ((q11 a0 1) + 1)), J)) (fun _ _ => rfl) ?_
          exact hkb (jm_up q11 a0 1 ((q11 a0 1) + 1)) v1 (v2 + 1) _ H

/-- X0_gatherClumps -/
def f3 (M : jm_MM) (a0 : Nat) (x0 : Int32) : Option (jm_MM) := jm_bd (f165 (jm_up M a0 1 0) (a0 + 2) 24 0) (fun q1 => f3_15 a0 (fun Me13 => some Me13) jm_F q1 x0 0)
theorem g3 (L : Nat) (d : Nat) (M : jm_MM) (J : jm_JJ) (a0 : Nat) (ha0 : jm_isC a0) (x0 : Int32) (r : jm_MM) (H : f3 M a0 x0 = some r) : jm_go (d + 3) (jm_G 3) 0 (jm_en 3 [.ref a0, .int x0]) [] (jm_S0 L, M, J) (none, (jm_S0 L, r, J)) := by
  unfold f3 at H
  refine jm_go.grd 3 (b := jm_is (jm_S0 L) a0 0) (pc' := 5) (ls' := [some (.ref a0), some (.int x0), none]) (st' := []) (t' := (jm_S0 L, (jm_up M a0 1 0), J)) (fun _ _ => rfl) (jm_fC L ha0) ?_
  refine jm_go.gfr 2 (b := jm_is (jm_S0 L) a0 0) (o := (jm_S0 L).2.2.2.2 a0 3) (q := a0 + 2) (pc' := 9) (ls' := [some (.ref a0), some (.int x0), none]) (st' := []) (t' := (jm_S0 L, (jm_up M a0 1 0), J)) (fun _ _ => rfl) (jm_fC L ha0) (jm_rC2 L ha0) ?_
  obtain ⟨q1, h2, H⟩ := jm_bdo H
  refine jm_go.call 2 (d := d + 2) (b := true) (u := 165) (as := [.ref (a0 + 2), .int 0]) (pc' := 13) (ls' := [some (.ref a0), some (.int x0), none]) (st' := []) (t' := (jm_S0 L, (jm_up M a0 1 0), J)) (fun _ _ => rfl) rfl rfl (g165 L (d + 2) (jm_up M a0 1 0) J (a0 + 2) 0 (jm_fC2 L ha0) h2) ?_
  refine jm_go.blk 2 (pc' := 15) (ls' := [some (.ref a0), some (.int x0), some (.int 0)]) (st' := []) (t' := (jm_S0 L, q1, J)) (fun _ _ => rfl) ?_
  exact g3_15 L d M J a0 ha0
    _ (fun Me13 r H => by
      cases H
      exact jm_go.ret 1 (fun _ _ => rfl)
      )
    _ q1 x0 0 _ H

def f7_22 (M : jm_MM) (a0 : Nat) (ke0 : Int32 → Option (Int32)) : Nat → Int32 → Int32 → Int32 → Option (Int32)
  | 0, _, _, _ => none
  | n0 + 1, v2, v3, v4 => bif decide (24 ≤ v4) then (ke0 v4) else (jm_bd (f87 M v3 v2) (fun q6 => bif !decide (q6 = 0) then (ke0 v4) else (jm_bd (f6 M a0 v3) (fun q9 => (f7_22 M a0 ke0 n0) v2 (v3 ||| q9) (v4 + 1)))))
theorem g7_22 (L : Nat) (d : Nat) (M : jm_MM) (J : jm_JJ) (a0 : Nat) (ha0 : jm_isC a0) (ke0 : Int32 → Option (Int32)) (hke0 : ∀  (v4 : Int32) (r : Int32), ke0 v4 = some r → jm_go (d + 2) (jm_G 7) 51 [none, none, none, none, some (.int v4)] [] (jm_S0 L, M, J) (some (.int r), (jm_S0 L, M, J))) : ∀ (n0 : Nat) (v2 : Int32) (v3 : Int32) (v4 : Int32) (r : Int32), f7_22 M a0 ke0 n0 v2 v3 v4 = some r → jm_go (d + 2) (jm_G 7) 22 [some (.ref a0), none, some (.int v2), some (.int v3), some (.int v4)] [] (jm_S0 L, M, J) (some (.int r), (jm_S0 L, M, J)) := by
  intro n0
  induction n0 with
  | zero => intro v2 v3 v4 r H; cases H
  | succ n0 ih =>
    intro v2 v3 v4 r H
    have hkb := ih
    unfold f7_22 at H
    rcases jm_bro H with ⟨h5, H⟩ | ⟨h5, H⟩
    · refine jm_go.brt 3 (b := decide (24 ≤ v4)) (p1 := 51) (l1 := [some (.ref a0), none, some (.int v2), some (.int v3), some (.int v4)]) (s1 := []) (t1 := (jm_S0 L, M, J)) (p2 := 29) (l2 := [some (.ref a0), none, some (.int v2), some (.int v3), some (.int v4)]) (s2 := []) (t2 := (jm_S0 L, M, J)) (fun _ _ => rfl) h5 ?_
      refine jm_go.lab (ls' := [none, none, none, none, some (.int v4)]) (fun i hi => by cases hi; rfl) ?_
      exact hke0 v4 _ H
    · refine jm_go.brf 3 (b := decide (24 ≤ v4)) (p1 := 51) (l1 := [some (.ref a0), none, some (.int v2), some (.int v3), some (.int v4)]) (s1 := []) (t1 := (jm_S0 L, M, J)) (p2 := 29) (l2 := [some (.ref a0), none, some (.int v2), some (.int v3), some (.int v4)]) (s2 := []) (t2 := (jm_S0 L, M, J)) (fun _ _ => rfl) h5 ?_
      obtain ⟨q6, h7, H⟩ := jm_bdo H
      refine jm_go.call 3 (d := d + 1) (b := true) (u := 87) (as := [.int v3, .int v2]) (pc' := 34) (ls' := [some (.ref a0), none, some (.int v2), some (.int v3), some (.int v4)]) (st' := []) (t' := (jm_S0 L, M, J)) (fun _ _ => rfl) rfl rfl (g87 L (d + 1) M J v3 v2 _ h7) ?_
      rcases jm_bro H with ⟨h8, H⟩ | ⟨h8, H⟩
      · refine jm_go.brt 1 (b := !decide (q6 = 0)) (p1 := 51) (l1 := [some (.ref a0), none, some (.int v2), some (.int v3), some (.int v4)]) (s1 := []) (t1 := (jm_S0 L, M, J)) (p2 := 37) (l2 := [some (.ref a0), none, some (.int v2), some (.int v3), some (.int v4)]) (s2 := []) (t2 := (jm_S0 L, M, J)) (fun _ _ => rfl) h8 ?_
        refine jm_go.lab (ls' := [none, none, none, none, some (.int v4)]) (fun i hi => by cases hi; rfl) ?_
        exact hke0 v4 _ H
      · refine jm_go.brf 1 (b := !decide (q6 = 0)) (p1 := 51) (l1 := [some (.ref a0), none, some (.int v2), some (.int v3), some (.int v4)]) (s1 := []) (t1 := (jm_S0 L, M, J)) (p2 := 37) (l2 := [some (.ref a0), none, some (.int v2), some (.int v3), some (.int v4)]) (s2 := []) (t2 := (jm_S0 L, M, J)) (fun _ _ => rfl) h8 ?_
        obtain ⟨q9, h10, H⟩ := jm_bdo H
        refine jm_go.call 4 (d := d + 1) (b := jm_is (jm_S0 L) a0 0) (u := 6) (as := [.ref a0, .int v3]) (pc' := 43) (ls' := [some (.ref a0), none, some (.int v2), some (.int v3), some (.int v4)]) (st' := [.int v3]) (t' := (jm_S0 L, M, J)) (fun _ _ => rfl) (jm_fC L ha0) rfl (g6 L d M J a0 ha0 v3 _ h10) ?_
        refine jm_go.blk 4 (pc' := 22) (ls' := [some (.ref a0), none, some (.int v2), some (.int (v3 ||| q9)), some (.int (v4 + 1))]) (st' := []) (t' := (jm_S0 L, M, J)) (fun _ _ => rfl) ?_
        exact hkb v2 (v3 ||| q9) (v4 + 1) _ H

/-- X0_countSteps -/
def f7 (M : jm_MM) (a0 : Nat) (x0 : Int32) (x1 : Int32) : Option (Int32) := jm_gd (jm_inb x0 24) (jm_bd (f87 M (M (a0 + 2) x0.toNatClampNeg) x1) (fun q2 => bif !decide (q2 = 0) then (f7_22 M a0 (fun ve11 => some ve11) jm_F x1 (1 <<< (x0 &&& 31)) 0) else (some (-1))))
theorem g7 (L : Nat) (d : Nat) (M : jm_MM) (J : jm_JJ) (a0 : Nat) (ha0 : jm_isC a0) (x0 : Int32) (x1 : Int32) (r : Int32) (H : f7 M a0 x0 x1 = some r) : jm_go (d + 2) (jm_G 7) 0 (jm_en 5 [.ref a0, .int x0, .int x1]) [] (jm_S0 L, M, J) (some (.int r), (jm_S0 L, M, J)) := by
  unfold f7 at H
  refine jm_go.gfr 2 (b := jm_is (jm_S0 L) a0 0) (o := (jm_S0 L).2.2.2.2 a0 3) (q := a0 + 2) (pc' := 4) (ls' := [some (.ref a0), some (.int x0), some (.int x1), none, none]) (st' := []) (t' := (jm_S0 L, M, J)) (fun _ _ => rfl) (jm_fC L ha0) (jm_rC2 L ha0) ?_
  obtain ⟨h1, H⟩ := jm_gdo H
  refine jm_go.grd 2 (b := ((Nat.beq 0 1 && Nat.beq (a0 + 2) 0) || (Nat.beq 0 0 && jm_is (jm_S0 L) (a0 + 2) 9)) && jm_inb x0 ((jm_S0 L).2.2.2.1 (a0 + 2))) (pc' := 6) (ls' := [some (.ref a0), some (.int x0), some (.int x1), none, none]) (st' := [.int (M (a0 + 2) x0.toNatClampNeg)]) (t' := (jm_S0 L, M, J)) (fun _ _ => rfl) (jm_gia (jm_fC2 L ha0) h1) ?_
  obtain ⟨q2, h3, H⟩ := jm_bdo H
  refine jm_go.call 2 (d := d + 1) (b := true) (u := 87) (as := [.int (M (a0 + 2) x0.toNatClampNeg), .int x1]) (pc' := 10) (ls' := [some (.ref a0), some (.int x0), some (.int x1), none, none]) (st' := []) (t' := (jm_S0 L, M, J)) (fun _ _ => rfl) rfl rfl (g87 L (d + 1) M J (M (a0 + 2) x0.toNatClampNeg) x1 _ h3) ?_
  rcases jm_bro H with ⟨h4, H⟩ | ⟨h4, H⟩
  · refine jm_go.brt 1 (b := !decide (q2 = 0)) (p1 := 15) (l1 := [some (.ref a0), some (.int x0), some (.int x1), none, none]) (s1 := []) (t1 := (jm_S0 L, M, J)) (p2 := 13) (l2 := [some (.ref a0), some (.int x0), some (.int x1), none, none]) (s2 := []) (t2 := (jm_S0 L, M, J)) (fun _ _ => rfl) h4 ?_
    refine jm_go.blk 6 (pc' := 22) (ls' := [some (.ref a0), some (.int x0), some (.int x1), some (.int (1 <<< (x0 &&& 31))), some (.int 0)]) (st' := []) (t' := (jm_S0 L, M, J)) (fun _ _ => rfl) ?_
    refine jm_go.lab (ls' := [some (.ref a0), none, some (.int x1), some (.int (1 <<< (x0 &&& 31))), some (.int 0)]) (fun i hi => by cases hi; rfl) ?_
    exact g7_22 L d M J a0 ha0
      _ (fun ve11 r H => by
        cases H
        exact jm_go.ret 2 (fun _ _ => rfl)
        )
      _ x1 (1 <<< (x0 &&& 31)) 0 _ H
  · refine jm_go.brf 1 (b := !decide (q2 = 0)) (p1 := 15) (l1 := [some (.ref a0), some (.int x0), some (.int x1), none, none]) (s1 := []) (t1 := (jm_S0 L, M, J)) (p2 := 13) (l2 := [some (.ref a0), some (.int x0), some (.int x1), none, none]) (s2 := []) (t2 := (jm_S0 L, M, J)) (fun _ _ => rfl) h4 ?_
    cases H
    exact jm_go.ret 2 (fun _ _ => rfl)

def f8_15 (M : jm_MM) (a0 : Nat) (ke0 : Option (Int32)) (ke1 : Int32 → Int32 → Option (Int32)) : Nat → Int32 → Int32 → Option (Int32)
  | 0, _, _ => none
  | n0 + 1, v2, v3 => bif decide (24 ≤ v3) then (ke0 ) else (jm_bd (f87 M v2 v3) (fun q3 => bif decide (q3 = 0) then ((f8_15 M a0 ke0 ke1 n0) v2 (v3 + 1)) else (ke1 v2 v3)))
theorem g8_15 (L : Nat) (d : Nat) (M : jm_MM) (J : jm_JJ) (a0 : Nat) (ha0 : jm_isC a0) (ke0 : Option (Int32)) (hke0 : ∀  (r : Int32), ke0  = some r → jm_go (d + 3) (jm_G 8) 51 [none, none, none, none] [] (jm_S0 L, M, J) (some (.int r), (jm_S0 L, M, J))) (ke1 : Int32 → Int32 → Option (Int32)) (hke1 : ∀  (v2 : Int32) (v3 : Int32) (r : Int32), ke1 v2 v3 = some r → jm_go (d + 3) (jm_G 8) 29 [some (.ref a0), none, some (.int v2), some (.int v3)] [] (jm_S0 L, M, J) (some (.int r), (jm_S0 L, M, J))) : ∀ (n0 : Nat) (v2 : Int32) (v3 : Int32) (r : Int32), f8_15 M a0 ke0 ke1 n0 v2 v3 = some r → jm_go (d + 3) (jm_G 8) 15 [some (.ref a0), none, some (.int v2), some (.int v3)] [] (jm_S0 L, M, J) (some (.int r), (jm_S0 L, M, J)) := by
  intro n0
  induction n0 with
  | zero => intro v2 v3 r H; cases H
  | succ n0 ih =>
    intro v2 v3 r H
    have hkb := ih
    unfold f8_15 at H
    rcases jm_bro H with ⟨h2, H⟩ | ⟨h2, H⟩
    · refine jm_go.brt 3 (b := decide (24 ≤ v3)) (p1 := 51) (l1 := [some (.ref a0), none, some (.int v2), some (.int v3)]) (s1 := []) (t1 := (jm_S0 L, M, J)) (p2 := 21) (l2 := [some (.ref a0), none, some (.int v2), some (.int v3)]) (s2 := []) (t2 := (jm_S0 L, M, J)) (fun _ _ => rfl) h2 ?_
      refine jm_go.lab (ls' := [none, none, none, none]) (fun i hi => by cases hi; rfl) ?_
      exact hke0  _ H
    · refine jm_go.brf 3 (b := decide (24 ≤ v3)) (p1 := 51) (l1 := [some (.ref a0), none, some (.int v2), some (.int v3)]) (s1 := []) (t1 := (jm_S0 L, M, J)) (p2 := 21) (l2 := [some (.ref a0), none, some (.int v2), some (.int v3)]) (s2 := []) (t2 := (jm_S0 L, M, J)) (fun _ _ => rfl) h2 ?_
      obtain ⟨q3, h4, H⟩ := jm_bdo H
      refine jm_go.call 3 (d := d + 2) (b := true) (u := 87) (as := [.int v2, .int v3]) (pc' := 26) (ls' := [some (.ref a0), none, some (.int v2), some (.int v3)]) (st' := []) (t' := (jm_S0 L, M, J)) (fun _ _ => rfl) rfl rfl (g87 L (d + 2) M J v2 v3 _ h4) ?_
      rcases jm_bro H with ⟨h5, H⟩ | ⟨h5, H⟩
      · refine jm_go.brt 1 (b := decide (q3 = 0)) (p1 := 45) (l1 := [some (.ref a0), none, some (.int v2), some (.int v3)]) (s1 := []) (t1 := (jm_S0 L, M, J)) (p2 := 29) (l2 := [some (.ref a0), none, some (.int v2), some (.int v3)]) (s2 := []) (t2 := (jm_S0 L, M, J)) (fun _ _ => rfl) h5 ?_
        refine jm_go.blk 2 (pc' := 15) (ls' := [some (.ref a0), none, some (.int v2), some (.int (v3 + 1))]) (st' := []) (t' := (jm_S0 L, M, J)) (fun _ _ => rfl) ?_
        exact hkb v2 (v3 + 1) _ H
      · refine jm_go.brf 1 (b := decide (q3 = 0)) (p1 := 45) (l1 := [some (.ref a0), none, some (.int v2), some (.int v3)]) (s1 := []) (t1 := (jm_S0 L, M, J)) (p2 := 29) (l2 := [some (.ref a0), none, some (.int v2), some (.int v3)]) (s2 := []) (t2 := (jm_S0 L, M, J)) (fun _ _ => rfl) h5 ?_
        exact hke1 v2 v3 _ H

/-- X0_isHolding -/
def f8 (M : jm_MM) (a0 : Nat) (x0 : Int32) : Option (Int32) := jm_gd (jm_inb x0 24) (f8_15 M a0 (some 0) (fun ve6 ve7 => jm_bd (f5 M a0 ve7 ve6) (fun q8 => bif decide (q8 = ve6) then (some 0) else (some 1))) jm_F ((M (a0 + 2) x0.toNatClampNeg) &&& ((1 <<< (x0 &&& 31)) ^^^ (-1))) 0)
theorem g8 (L : Nat) (d : Nat) (M : jm_MM) (J : jm_JJ) (a0 : Nat) (ha0 : jm_isC a0) (x0 : Int32) (r : Int32) (H : f8 M a0 x0 = some r) : jm_go (d + 3) (jm_G 8) 0 (jm_en 4 [.ref a0, .int x0]) [] (jm_S0 L, M, J) (some (.int r), (jm_S0 L, M, J)) := by
  unfold f8 at H
  refine jm_go.gfr 2 (b := jm_is (jm_S0 L) a0 0) (o := (jm_S0 L).2.2.2.2 a0 3) (q := a0 + 2) (pc' := 4) (ls' := [some (.ref a0), some (.int x0), none, none]) (st' := []) (t' := (jm_S0 L, M, J)) (fun _ _ => rfl) (jm_fC L ha0) (jm_rC2 L ha0) ?_
  obtain ⟨h1, H⟩ := jm_gdo H
  refine jm_go.grd 2 (b := ((Nat.beq 0 1 && Nat.beq (a0 + 2) 0) || (Nat.beq 0 0 && jm_is (jm_S0 L) (a0 + 2) 9)) && jm_inb x0 ((jm_S0 L).2.2.2.1 (a0 + 2))) (pc' := 6) (ls' := [some (.ref a0), some (.int x0), none, none]) (st' := [.int (M (a0 + 2) x0.toNatClampNeg)]) (t' := (jm_S0 L, M, J)) (fun _ _ => rfl) (jm_gia (jm_fC2 L ha0) h1) ?_
  refine jm_go.blk 9 (pc' := 15) (ls' := [some (.ref a0), some (.int x0), some (.int ((M (a0 + 2) x0.toNatClampNeg) &&& ((1 <<< (x0 &&& 31)) ^^^ (-1)))), some (.int 0)]) (st' := []) (t' := (jm_S0 L, M, J)) (fun _ _ => rfl) ?_
  refine jm_go.lab (ls' := [some (.ref a0), none, some (.int ((M (a0 + 2) x0.toNatClampNeg) &&& ((1 <<< (x0 &&& 31)) ^^^ (-1)))), some (.int 0)]) (fun i hi => by cases hi; rfl) ?_
  exact g8_15 L d M J a0 ha0
    _ (fun  r H => by
      cases H
      exact jm_go.retz 2 (b := jm_z1 0) (fun _ _ => rfl) rfl
      )
    _ (fun ve6 ve7 r H => by
      obtain ⟨q8, h9, H⟩ := jm_bdo H
      refine jm_go.call 4 (d := d + 2) (b := jm_is (jm_S0 L) a0 0) (u := 5) (as := [.ref a0, .int ve7, .int ve6]) (pc' := 35) (ls' := [some (.ref a0), none, some (.int ve6), some (.int ve7)]) (st' := []) (t' := (jm_S0 L, M, J)) (fun _ _ => rfl) (jm_fC L ha0) rfl (g5 L d M J a0 ha0 ve7 ve6 _ h9) ?_
      rcases jm_bro H with ⟨h10, H⟩ | ⟨h10, H⟩
      · refine jm_go.brt 2 (b := decide (q8 = ve6)) (p1 := 43) (l1 := [some (.ref a0), none, some (.int ve6), some (.int ve7)]) (s1 := []) (t1 := (jm_S0 L, M, J)) (p2 := 39) (l2 := [some (.ref a0), none, some (.int ve6), some (.int ve7)]) (s2 := []) (t2 := (jm_S0 L, M, J)) (fun _ _ => rfl) h10 ?_
        cases H
        exact jm_go.retz 2 (b := jm_z1 0) (fun _ _ => rfl) rfl
      · refine jm_go.brf 2 (b := decide (q8 = ve6)) (p1 := 43) (l1 := [some (.ref a0), none, some (.int ve6), some (.int ve7)]) (s1 := []) (t1 := (jm_S0 L, M, J)) (p2 := 39) (l2 := [some (.ref a0), none, some (.int ve6), some (.int ve7)]) (s2 := []) (t2 := (jm_S0 L, M, J)) (fun _ _ => rfl) h10 ?_
        cases H
        exact jm_go.retz 3 (b := jm_z1 1) (fun _ _ => rfl) rfl
      )
    _ ((M (a0 + 2) x0.toNatClampNeg) &&& ((1 <<< (x0 &&& 31)) ^^^ (-1))) 0 _ H


/-- X1_become -/
def f10 (M : jm_MM) (a0 : Nat) (b0 : Nat) : Option (jm_MM) := some (va_up (va_up (jm_up (jm_up (jm_up M a0 0 (M b0 0)) a0 1 ((jm_up M a0 0 (M b0 0)) b0 1)) a0 2 ((jm_up (jm_up M a0 0 (M b0 0)) a0 1 ((jm_up M a0 0 (M b0 0)) b0 1)) b0 2)) (a0 + 1) (va_cpy ((jm_up (jm_up (jm_up M a0 0 (M b0 0)) a0 1 ((jm_up M a0 0 (M b0 0)) b0 1)) a0 2 ((jm_up (jm_up M a0 0 (M b0 0)) a0 1 ((jm_up M a0 0 (M b0 0)) b0 1)) b0 2)) (b0 + 1)) ((jm_up (jm_up (jm_up M a0 0 (M b0 0)) a0 1 ((jm_up M a0 0 (M b0 0)) b0 1)) a0 2 ((jm_up (jm_up M a0 0 (M b0 0)) a0 1 ((jm_up M a0 0 (M b0 0)) b0 1)) b0 2)) (a0 + 1)) 0 0 24)) (a0 + 2) (va_cpy ((va_up (jm_up (jm_up (jm_up M a0 0 (M b0 0)) a0 1 ((jm_up M a0 0 (M b0 0)) b0 1)) a0 2 ((jm_up (jm_up M a0 0 (M b0 0)) a0 1 ((jm_up M a0 0 (M b0 0)) b0 1)) b0 2)) (a0 + 1) (va_cpy ((jm_up (jm_up (jm_up M a0 0 (M b0 0)) a0 1 ((jm_up M a0 0 (M b0 0)) b0 1)) a0 2 ((jm_up (jm_up M a0 0 (M b0 0)) a0 1 ((jm_up M a0 0 (M b0 0)) b0 1)) b0 2)) (b0 + 1)) ((jm_up (jm_up (jm_up M a0 0 (M b0 0)) a0 1 ((jm_up M a0 0 (M b0 0)) b0 1)) a0 2 ((jm_up (jm_up M a0 0 (M b0 0)) a0 1 ((jm_up M a0 0 (M b0 0)) b0 1)) b0 2)) (a0 + 1)) 0 0 24)) (b0 + 2)) ((va_up (jm_up (jm_up (jm_up M a0 0 (M b0 0)) a0 1 ((jm_up M a0 0 (M b0 0)) b0 1)) a0 2 ((jm_up (jm_up M a0 0 (M b0 0)) a0 1 ((jm_up M a0 0 (M b0 0)) b0 1)) b0 2)) (a0 + 1) (va_cpy ((jm_up (jm_up (jm_up M a0 0 (M b0 0)) a0 1 ((jm_up M a0 0 (M b0 0)) b0 1)) a0 2 ((jm_up (jm_up M a0 0 (M b0 0)) a0 1 ((jm_up M a0 0 (M b0 0)) b0 1)) b0 2)) (b0 + 1)) ((jm_up (jm_up (jm_up M a0 0 (M b0 0)) a0 1 ((jm_up M a0 0 (M b0 0)) b0 1)) a0 2 ((jm_up (jm_up M a0 0 (M b0 0)) a0 1 ((jm_up M a0 0 (M b0 0)) b0 1)) b0 2)) (a0 + 1)) 0 0 24)) (a0 + 2)) 0 0 144))
theorem g10 (L : Nat) (d : Nat) (M : jm_MM) (J : jm_JJ) (a0 : Nat) (ha0 : jm_isF a0) (b0 : Nat) (hb0 : jm_isF b0)  (r : jm_MM) (H : f10 M a0 b0 = some r) : jm_go (d + 1) (jm_G 10) 0 (jm_en 2 [.ref a0, .ref b0]) [] (jm_S0 L, M, J) (none, (jm_S0 L, r, J)) := by
  unfold f10 at H
  refine jm_go.grd 3 (b := jm_is (jm_S0 L) b0 1) (pc' := 5) (ls' := [some (.ref a0), some (.ref b0)]) (st' := [.int (M b0 0), .ref a0]) (t' := (jm_S0 L, M, J)) (fun _ _ => rfl) (jm_fF L hb0) ?_
  refine jm_go.grd 1 (b := jm_is (jm_S0 L) a0 1) (pc' := 8) (ls' := [some (.ref a0), some (.ref b0)]) (st' := []) (t' := (jm_S0 L, (jm_up M a0 0 (M b0 0)), J)) (fun _ _ => rfl) (jm_fF L ha0) ?_
  refine jm_go.grd 3 (b := jm_is (jm_S0 L) b0 1) (pc' := 13) (ls' := [some (.ref a0), some (.ref b0)]) (st' := [.int ((jm_up M a0 0 (M b0 0)) b0 1), .ref a0]) (t' := (jm_S0 L, (jm_up M a0 0 (M b0 0)), J)) (fun _ _ => rfl) (jm_fF L hb0) ?_
  refine jm_go.grd 1 (b := jm_is (jm_S0 L) a0 1) (pc' := 16) (ls' := [some (.ref a0), some (.ref b0)]) (st' := []) (t' := (jm_S0 L, (jm_up (jm_up M a0 0 (M b0 0)) a0 1 ((jm_up M a0 0 (M b0 0)) b0 1)), J)) (fun _ _ => rfl) (jm_fF L ha0) ?_
  refine jm_go.grd 3 (b := jm_is (jm_S0 L) b0 1) (pc' := 21) (ls' := [some (.ref a0), some (.ref b0)]) (st' := [.int ((jm_up (jm_up M a0 0 (M b0 0)) a0 1 ((jm_up M a0 0 (M b0 0)) b0 1)) b0 2), .ref a0]) (t' := (jm_S0 L, (jm_up (jm_up M a0 0 (M b0 0)) a0 1 ((jm_up M a0 0 (M b0 0)) b0 1)), J)) (fun _ _ => rfl) (jm_fF L hb0) ?_
  refine jm_go.grd 1 (b := jm_is (jm_S0 L) a0 1) (pc' := 24) (ls' := [some (.ref a0), some (.ref b0)]) (st' := []) (t' := (jm_S0 L, (jm_up (jm_up (jm_up M a0 0 (M b0 0)) a0 1 ((jm_up M a0 0 (M b0 0)) b0 1)) a0 2 ((jm_up (jm_up M a0 0 (M b0 0)) a0 1 ((jm_up M a0 0 (M b0 0)) b0 1)) b0 2)), J)) (fun _ _ => rfl) (jm_fF L ha0) ?_
  refine jm_go.gfr 2 (b := jm_is (jm_S0 L) b0 1) (o := (jm_S0 L).2.2.2.2 b0 3) (q := b0 + 1) (pc' := 28) (ls' := [some (.ref a0), some (.ref b0)]) (st' := []) (t' := (jm_S0 L, (jm_up (jm_up (jm_up M a0 0 (M b0 0)) a0 1 ((jm_up M a0 0 (M b0 0)) b0 1)) a0 2 ((jm_up (jm_up M a0 0 (M b0 0)) a0 1 ((jm_up M a0 0 (M b0 0)) b0 1)) b0 2)), J)) (fun _ _ => rfl) (jm_fF L hb0) (jm_rF1 L hb0) ?_
  refine jm_go.gfr 3 (b := jm_is (jm_S0 L) a0 1) (o := (jm_S0 L).2.2.2.2 a0 3) (q := a0 + 1) (pc' := 33) (ls' := [some (.ref a0), some (.ref b0)]) (st' := [.int 0, .ref (b0 + 1)]) (t' := (jm_S0 L, (jm_up (jm_up (jm_up M a0 0 (M b0 0)) a0 1 ((jm_up M a0 0 (M b0 0)) b0 1)) a0 2 ((jm_up (jm_up M a0 0 (M b0 0)) a0 1 ((jm_up M a0 0 (M b0 0)) b0 1)) b0 2)), J)) (fun _ _ => rfl) (jm_fF L ha0) (jm_rF1 L ha0) ?_
  refine jm_go.grd 3 (b := Nat.blt 0 (d + 1) && Nat.ble (jm_sum ([])) 8 && jm_is (jm_S0 L) (a0 + 1) 9 && jm_is (jm_S0 L) (b0 + 1) 9 && !decide ((24 : Int32) < 0) && !decide ((0 : Int32) < 0) && !decide ((0 : Int32) < 0) && Nat.ble ((0 : Int32).toNatClampNeg + (24 : Int32).toNatClampNeg) ((jm_S0 L).2.2.2.1 (b0 + 1)) && Nat.ble ((0 : Int32).toNatClampNeg + (24 : Int32).toNatClampNeg) ((jm_S0 L).2.2.2.1 (a0 + 1))) (pc' := 39) (ls' := [some (.ref a0), some (.ref b0)]) (st' := []) (t' := (jm_S0 L, (va_up (jm_up (jm_up (jm_up M a0 0 (M b0 0)) a0 1 ((jm_up M a0 0 (M b0 0)) b0 1)) a0 2 ((jm_up (jm_up M a0 0 (M b0 0)) a0 1 ((jm_up M a0 0 (M b0 0)) b0 1)) b0 2)) (a0 + 1) (va_cpy ((jm_up (jm_up (jm_up M a0 0 (M b0 0)) a0 1 ((jm_up M a0 0 (M b0 0)) b0 1)) a0 2 ((jm_up (jm_up M a0 0 (M b0 0)) a0 1 ((jm_up M a0 0 (M b0 0)) b0 1)) b0 2)) (b0 + 1)) ((jm_up (jm_up (jm_up M a0 0 (M b0 0)) a0 1 ((jm_up M a0 0 (M b0 0)) b0 1)) a0 2 ((jm_up (jm_up M a0 0 (M b0 0)) a0 1 ((jm_up M a0 0 (M b0 0)) b0 1)) b0 2)) (a0 + 1)) 0 0 24)), J)) (fun _ _ => rfl) (jm_gcp24 (jm_fF1 L ha0) (jm_fF1 L hb0)) ?_
  refine jm_go.gfr 2 (b := jm_is (jm_S0 L) b0 1) (o := (jm_S0 L).2.2.2.2 b0 4) (q := b0 + 2) (pc' := 43) (ls' := [some (.ref a0), some (.ref b0)]) (st' := []) (t' := (jm_S0 L, (va_up (jm_up (jm_up (jm_up M a0 0 (M b0 0)) a0 1 ((jm_up M a0 0 (M b0 0)) b0 1)) a0 2 ((jm_up (jm_up M a0 0 (M b0 0)) a0 1 ((jm_up M a0 0 (M b0 0)) b0 1)) b0 2)) (a0 + 1) (va_cpy ((jm_up (jm_up (jm_up M a0 0 (M b0 0)) a0 1 ((jm_up M a0 0 (M b0 0)) b0 1)) a0 2 ((jm_up (jm_up M a0 0 (M b0 0)) a0 1 ((jm_up M a0 0 (M b0 0)) b0 1)) b0 2)) (b0 + 1)) ((jm_up (jm_up (jm_up M a0 0 (M b0 0)) a0 1 ((jm_up M a0 0 (M b0 0)) b0 1)) a0 2 ((jm_up (jm_up M a0 0 (M b0 0)) a0 1 ((jm_up M a0 0 (M b0 0)) b0 1)) b0 2)) (a0 + 1)) 0 0 24)), J)) (fun _ _ => rfl) (jm_fF L hb0) (jm_rF2 L hb0) ?_
  refine jm_go.gfr 3 (b := jm_is (jm_S0 L) a0 1) (o := (jm_S0 L).2.2.2.2 a0 4) (q := a0 + 2) (pc' := 48) (ls' := [some (.ref a0), some (.ref b0)]) (st' := [.int 0, .ref (b0 + 2)]) (t' := (jm_S0 L, (va_up (jm_up (jm_up (jm_up M a0 0 (M b0 0)) a0 1 ((jm_up M a0 0 (M b0 0)) b0 1)) a0 2 ((jm_up (jm_up M a0 0 (M b0 0)) a0 1 ((jm_up M a0 0 (M b0 0)) b0 1)) b0 2)) (a0 + 1) (va_cpy ((jm_up (jm_up (jm_up M a0 0 (M b0 0)) a0 1 ((jm_up M a0 0 (M b0 0)) b0 1)) a0 2 ((jm_up (jm_up M a0 0 (M b0 0)) a0 1 ((jm_up M a0 0 (M b0 0)) b0 1)) b0 2)) (b0 + 1)) ((jm_up (jm_up (jm_up M a0 0 (M b0 0)) a0 1 ((jm_up M a0 0 (M b0 0)) b0 1)) a0 2 ((jm_up (jm_up M a0 0 (M b0 0)) a0 1 ((jm_up M a0 0 (M b0 0)) b0 1)) b0 2)) (a0 + 1)) 0 0 24)), J)) (fun _ _ => rfl) (jm_fF L ha0) (jm_rF2 L ha0) ?_
  refine jm_go.grd 3 (b := Nat.blt 0 (d + 1) && Nat.ble (jm_sum ([])) 8 && jm_is (jm_S0 L) (a0 + 2) 9 && jm_is (jm_S0 L) (b0 + 2) 9 && !decide ((144 : Int32) < 0) && !decide ((0 : Int32) < 0) && !decide ((0 : Int32) < 0) && Nat.ble ((0 : Int32).toNatClampNeg + (144 : Int32).toNatClampNeg) ((jm_S0 L).2.2.2.1 (b0 + 2)) && Nat.ble ((0 : Int32).toNatClampNeg + (144 : Int32).toNatClampNeg) ((jm_S0 L).2.2.2.1 (a0 + 2))) (pc' := 55) (ls' := [some (.ref a0), some (.ref b0)]) (st' := []) (t' := (jm_S0 L, (va_up (va_up (jm_up (jm_up (jm_up M a0 0 (M b0 0)) a0 1 ((jm_up M a0 0 (M b0 0)) b0 1)) a0 2 ((jm_up (jm_up M a0 0 (M b0 0)) a0 1 ((jm_up M a0 0 (M b0 0)) b0 1)) b0 2)) (a0 + 1) (va_cpy ((jm_up (jm_up (jm_up M a0 0 (M b0 0)) a0 1 ((jm_up M a0 0 (M b0 0)) b0 1)) a0 2 ((jm_up (jm_up M a0 0 (M b0 0)) a0 1 ((jm_up M a0 0 (M b0 0)) b0 1)) b0 2)) (b0 + 1)) ((jm_up (jm_up (jm_up M a0 0 (M b0 0)) a0 1 ((jm_up M a0 0 (M b0 0)) b0 1)) a0 2 ((jm_up (jm_up M a0 0 (M b0 0)) a0 1 ((jm_up M a0 0 (M b0 0)) b0 1)) b0 2)) (a0 + 1)) 0 0 24)) (a0 + 2) (va_cpy ((va_up (jm_up (jm_up (jm_up M a0 0 (M b0 0)) a0 1 ((jm_up M a0 0 (M b0 0)) b0 1)) a0 2 ((jm_up (jm_up M a0 0 (M b0 0)) a0 1 ((jm_up M a0 0 (M b0 0)) b0 1)) b0 2)) (a0 + 1) (va_cpy ((jm_up (jm_up (jm_up M a0 0 (M b0 0)) a0 1 ((jm_up M a0 0 (M b0 0)) b0 1)) a0 2 ((jm_up (jm_up M a0 0 (M b0 0)) a0 1 ((jm_up M a0 0 (M b0 0)) b0 1)) b0 2)) (b0 + 1)) ((jm_up (jm_up (jm_up M a0 0 (M b0 0)) a0 1 ((jm_up M a0 0 (M b0 0)) b0 1)) a0 2 ((jm_up (jm_up M a0 0 (M b0 0)) a0 1 ((jm_up M a0 0 (M b0 0)) b0 1)) b0 2)) (a0 + 1)) 0 0 24)) (b0 + 2)) ((va_up (jm_up (jm_up (jm_up M a0 0 (M b0 0)) a0 1 ((jm_up M a0 0 (M b0 0)) b0 1)) a0 2 ((jm_up (jm_up M a0 0 (M b0 0)) a0 1 ((jm_up M a0 0 (M b0 0)) b0 1)) b0 2)) (a0 + 1) (va_cpy ((jm_up (jm_up (jm_up M a0 0 (M b0 0)) a0 1 ((jm_up M a0 0 (M b0 0)) b0 1)) a0 2 ((jm_up (jm_up M a0 0 (M b0 0)) a0 1 ((jm_up M a0 0 (M b0 0)) b0 1)) b0 2)) (b0 + 1)) ((jm_up (jm_up (jm_up M a0 0 (M b0 0)) a0 1 ((jm_up M a0 0 (M b0 0)) b0 1)) a0 2 ((jm_up (jm_up M a0 0 (M b0 0)) a0 1 ((jm_up M a0 0 (M b0 0)) b0 1)) b0 2)) (a0 + 1)) 0 0 24)) (a0 + 2)) 0 0 144)), J)) (fun _ _ => rfl) (jm_gcp144 (jm_fF2 L ha0) (jm_fF2 L hb0)) ?_
  cases H
  exact jm_go.ret 1 (fun _ _ => rfl)


/-- X1_takeAway -/
def f13 (M : jm_MM) (x0 : Int32) (x1 : Int32) : Option (jm_MM) := jm_gd (jm_inb ((x0 * 24) + x1) 144) (some (jm_up M 4 (((x0 * 24) + x1).toNatClampNeg) (-1)))
theorem g13 (L : Nat) (d : Nat) (M : jm_MM) (J : jm_JJ) (x0 : Int32) (x1 : Int32) (r : jm_MM) (H : f13 M x0 x1 = some r) : jm_go d (jm_G 13) 0 (jm_en 3 [.ref 2, .int x0, .int x1]) [] (jm_S0 L, M, J) (none, (jm_S0 L, r, J)) := by
  unfold f13 at H
  obtain ⟨h1, H⟩ := jm_gdo H
  refine jm_go.grd 9 (b := jm_inb ((x0 * 24) + x1) 144) (pc' := 12) (ls' := [some (.ref 2), some (.int x0), some (.int x1)]) (st' := []) (t' := (jm_S0 L, (jm_up M 4 (((x0 * 24) + x1).toNatClampNeg) (-1)), J)) (fun _ _ => rfl) h1 ?_
  cases H
  exact jm_go.ret 1 (fun _ _ => rfl)

def f11_7  (ke0 : jm_MM → Int32 → Option (Int32 × jm_MM)) : Nat → jm_MM → Int32 → Int32 → Option (Int32 × jm_MM)
  | 0, _, _, _ => none
  | n0 + 1, M, v1, v2 => bif decide (24 ≤ v2) then (ke0 M v1) else (jm_bd (f13 M v1 v2) (fun q2 => (f11_7  ke0 n0) q2 v1 (v2 + 1)))
theorem g11_7 (L : Nat) (d : Nat) (_M : jm_MM) (J : jm_JJ) (ke0 : jm_MM → Int32 → Option (Int32 × jm_MM)) (hke0 : ∀ (M : jm_MM) (v1 : Int32) (r : Int32 × jm_MM), ke0 M v1 = some r → jm_go (d + 1) (jm_G 11) 25 [some (.ref 2), some (.int v1), none] [] (jm_S0 L, M, J) (some (.int r.1), (jm_S0 L, r.2, J))) : ∀ (n0 : Nat) (M : jm_MM) (v1 : Int32) (v2 : Int32) (r : Int32 × jm_MM), f11_7  ke0 n0 M v1 v2 = some r → jm_go (d + 1) (jm_G 11) 7 [some (.ref 2), some (.int v1), some (.int v2)] [] (jm_S0 L, M, J) (some (.int r.1), (jm_S0 L, r.2, J)) := by
  intro n0
  induction n0 with
  | zero => intro M v1 v2 r H; cases H
  | succ n0 ih =>
    intro M v1 v2 r H
    have hkb := ih
    unfold f11_7 at H
    rcases jm_bro H with ⟨h1, H⟩ | ⟨h1, H⟩
    · refine jm_go.brt 3 (b := decide (24 ≤ v2)) (p1 := 25) (l1 := [some (.ref 2), some (.int v1), some (.int v2)]) (s1 := []) (t1 := (jm_S0 L, M, J)) (p2 := 13) (l2 := [some (.ref 2), some (.int v1), some (.int v2)]) (s2 := []) (t2 := (jm_S0 L, M, J)) (fun _ _ => rfl) h1 ?_
      refine jm_go.lab (ls' := [some (.ref 2), some (.int v1), none]) (fun i hi => by cases hi; rfl) ?_
      exact hke0 M v1 _ H
    · refine jm_go.brf 3 (b := decide (24 ≤ v2)) (p1 := 25) (l1 := [some (.ref 2), some (.int v1), some (.int v2)]) (s1 := []) (t1 := (jm_S0 L, M, J)) (p2 := 13) (l2 := [some (.ref 2), some (.int v1), some (.int v2)]) (s2 := []) (t2 := (jm_S0 L, M, J)) (fun _ _ => rfl) h1 ?_
      obtain ⟨q2, h3, H⟩ := jm_bdo H
      refine jm_go.call 4 (d := d) (b := true) (u := 13) (as := [.ref 2, .int v1, .int v2]) (pc' := 19) (ls' := [some (.ref 2), some (.int v1), some (.int v2)]) (st' := []) (t' := (jm_S0 L, M, J)) (fun _ _ => rfl) rfl rfl (g13 L d M J v1 v2 _ h3) ?_
      refine jm_go.blk 2 (pc' := 7) (ls' := [some (.ref 2), some (.int v1), some (.int (v2 + 1))]) (st' := []) (t' := (jm_S0 L, q2, J)) (fun _ _ => rfl) ?_
      exact hkb q2 v1 (v2 + 1) _ H

/-- X1_addPicture -/
def f11 (M : jm_MM)  : Option (Int32 × jm_MM) := f11_7  (fun Me4 ve5 => some (ve5, (jm_up Me4 2 0 ((Me4 2 0) + 1)))) jm_F M (M 2 0) 0
theorem g11 (L : Nat) (d : Nat) (M : jm_MM) (J : jm_JJ)  (r : Int32 × jm_MM) (H : f11 M  = some r) : jm_go (d + 1) (jm_G 11) 0 (jm_en 3 [.ref 2]) [] (jm_S0 L, M, J) (some (.int r.1), (jm_S0 L, r.2, J)) := by
  unfold f11 at H
  refine jm_go.blk 5 (pc' := 7) (ls' := [some (.ref 2), some (.int (M 2 0)), some (.int 0)]) (st' := []) (t' := (jm_S0 L, M, J)) (fun _ _ => rfl) ?_
  exact g11_7 L d M J
    _ (fun Me4 ve5 r H => by
      cases H
      exact jm_go.ret 8 (fun _ _ => rfl)
      )
    _ M (M 2 0) 0 _ H


/-- X1_lay -/
def f12 (M : jm_MM) (x0 : Int32) (x1 : Int32) (x2 : Int32) (x3 : Int32) : Option (jm_MM) := jm_gd (jm_inb ((x0 * 24) + x1) 144) (some (jm_up M 4 (((x0 * 24) + x1).toNatClampNeg) ((x2 * 64) + x3)))
theorem g12 (L : Nat) (d : Nat) (M : jm_MM) (J : jm_JJ) (x0 : Int32) (x1 : Int32) (x2 : Int32) (x3 : Int32) (r : jm_MM) (H : f12 M x0 x1 x2 x3 = some r) : jm_go d (jm_G 12) 0 (jm_en 5 [.ref 2, .int x0, .int x1, .int x2, .int x3]) [] (jm_S0 L, M, J) (none, (jm_S0 L, r, J)) := by
  unfold f12 at H
  obtain ⟨h1, H⟩ := jm_gdo H
  refine jm_go.grd 13 (b := jm_inb ((x0 * 24) + x1) 144) (pc' := 18) (ls' := [some (.ref 2), some (.int x0), some (.int x1), some (.int x2), some (.int x3)]) (st' := []) (t' := (jm_S0 L, (jm_up M 4 (((x0 * 24) + x1).toNatClampNeg) ((x2 * 64) + x3)), J)) (fun _ _ => rfl) h1 ?_
  cases H
  exact jm_go.ret 1 (fun _ _ => rfl)

def f18_4 (M : jm_MM) (ke0 : Int32 → Option (Int32)) : Nat → Int32 → Int32 → Int32 → Option (Int32)
  | 0, _, _, _ => none
  | n0 + 1, v1, v2, v3 => bif decide (24 ≤ v3) then (ke0 v2) else (jm_bd (f14 M v1 v3) (fun q2 => bif decide (q2 = 0) then ((f18_4 M ke0 n0) v1 v2 (v3 + 1)) else ((f18_4 M ke0 n0) v1 (v2 ||| (1 <<< (v3 &&& 31))) (v3 + 1))))
theorem g18_4 (L : Nat) (d : Nat) (M : jm_MM) (J : jm_JJ) (ke0 : Int32 → Option (Int32)) (hke0 : ∀  (v2 : Int32) (r : Int32), ke0 v2 = some r → jm_go (d + 1) (jm_G 18) 31 [none, none, some (.int v2), none] [] (jm_S0 L, M, J) (some (.int r), (jm_S0 L, M, J))) : ∀ (n0 : Nat) (v1 : Int32) (v2 : Int32) (v3 : Int32) (r : Int32), f18_4 M ke0 n0 v1 v2 v3 = some r → jm_go (d + 1) (jm_G 18) 4 [some (.ref 2), some (.int v1), some (.int v2), some (.int v3)] [] (jm_S0 L, M, J) (some (.int r), (jm_S0 L, M, J)) := by
  intro n0
  induction n0 with
  | zero => intro v1 v2 v3 r H; cases H
  | succ n0 ih =>
    intro v1 v2 v3 r H
    have hkb := ih
    unfold f18_4 at H
    rcases jm_bro H with ⟨h1, H⟩ | ⟨h1, H⟩
    · refine jm_go.brt 3 (b := decide (24 ≤ v3)) (p1 := 31) (l1 := [some (.ref 2), some (.int v1), some (.int v2), some (.int v3)]) (s1 := []) (t1 := (jm_S0 L, M, J)) (p2 := 10) (l2 := [some (.ref 2), some (.int v1), some (.int v2), some (.int v3)]) (s2 := []) (t2 := (jm_S0 L, M, J)) (fun _ _ => rfl) h1 ?_
      refine jm_go.lab (ls' := [none, none, some (.int v2), none]) (fun i hi => by cases hi; rfl) ?_
      exact hke0 v2 _ H
    · refine jm_go.brf 3 (b := decide (24 ≤ v3)) (p1 := 31) (l1 := [some (.ref 2), some (.int v1), some (.int v2), some (.int v3)]) (s1 := []) (t1 := (jm_S0 L, M, J)) (p2 := 10) (l2 := [some (.ref 2), some (.int v1), some (.int v2), some (.int v3)]) (s2 := []) (t2 := (jm_S0 L, M, J)) (fun _ _ => rfl) h1 ?_
      obtain ⟨q2, h3, H⟩ := jm_bdo H
      refine jm_go.call 4 (d := d) (b := true) (u := 14) (as := [.ref 2, .int v1, .int v3]) (pc' := 16) (ls' := [some (.ref 2), some (.int v1), some (.int v2), some (.int v3)]) (st' := []) (t' := (jm_S0 L, M, J)) (fun _ _ => rfl) rfl rfl (g14 L d M J v1 v3 _ h3) ?_
      rcases jm_bro H with ⟨h4, H⟩ | ⟨h4, H⟩
      · refine jm_go.brt 1 (b := decide (q2 = 0)) (p1 := 25) (l1 := [some (.ref 2), some (.int v1), some (.int v2), some (.int v3)]) (s1 := []) (t1 := (jm_S0 L, M, J)) (p2 := 19) (l2 := [some (.ref 2), some (.int v1), some (.int v2), some (.int v3)]) (s2 := []) (t2 := (jm_S0 L, M, J)) (fun _ _ => rfl) h4 ?_
        refine jm_go.blk 2 (pc' := 4) (ls' := [some (.ref 2), some (.int v1), some (.int v2), some (.int (v3 + 1))]) (st' := []) (t' := (jm_S0 L, M, J)) (fun _ _ => rfl) ?_
        exact hkb v1 v2 (v3 + 1) _ H
      · refine jm_go.brf 1 (b := decide (q2 = 0)) (p1 := 25) (l1 := [some (.ref 2), some (.int v1), some (.int v2), some (.int v3)]) (s1 := []) (t1 := (jm_S0 L, M, J)) (p2 := 19) (l2 := [some (.ref 2), some (.int v1), some (.int v2), some (.int v3)]) (s2 := []) (t2 := (jm_S0 L, M, J)) (fun _ _ => rfl) h4 ?_
        refine jm_go.blk 8 (pc' := 4) (ls' := [some (.ref 2), some (.int v1), some (.int (v2 ||| (1 <<< (v3 &&& 31)))), some (.int (v3 + 1))]) (st' := []) (t' := (jm_S0 L, M, J)) (fun _ _ => rfl) ?_
        exact hkb v1 (v2 ||| (1 <<< (v3 &&& 31))) (v3 + 1) _ H

/-- X1_grainsOf -/
def f18 (M : jm_MM) (x0 : Int32) : Option (Int32) := f18_4 M (fun ve5 => some ve5) jm_F x0 0 0
theorem g18 (L : Nat) (d : Nat) (M : jm_MM) (J : jm_JJ) (x0 : Int32) (r : Int32) (H : f18 M x0 = some r) : jm_go (d + 1) (jm_G 18) 0 (jm_en 4 [.ref 2, .int x0]) [] (jm_S0 L, M, J) (some (.int r), (jm_S0 L, M, J)) := by
  unfold f18 at H
  refine jm_go.blk 4 (pc' := 4) (ls' := [some (.ref 2), some (.int x0), some (.int 0), some (.int 0)]) (st' := []) (t' := (jm_S0 L, M, J)) (fun _ _ => rfl) ?_
  exact g18_4 L d M J
    _ (fun ve5 r H => by
      cases H
      exact jm_go.ret 2 (fun _ _ => rfl)
      )
    _ x0 0 0 _ H
end
section
/-! methods as functions: printed by wip/whole/gen/lay.py (funs.py) -/
def f19_6 (M : jm_MM) (ke0 : Int32 → Option (Int32)) : Nat → Int32 → Int32 → Int32 → Int32 → Int32 → Int32 → Option (Int32)
  | 0, _, _, _, _, _, _ => none
  | n0 + 1, v1, v2, v3, v4, v5, v6 => bif decide (24 ≤ v6) then (ke0 v5) else (jm_bd (f14 M v1 v6) (fun q2 => bif decide (q2 = 0) then ((f19_6 M ke0 n0) v1 v2 v3 v4 v5 (v6 + 1)) else (jm_bd (f17 M v1 v6 v2 v3) (fun q5 => bif decide (v4 < q5) then ((f19_6 M ke0 n0) v1 v2 v3 v4 v5 (v6 + 1)) else ((f19_6 M ke0 n0) v1 v2 v3 v4 (v5 ||| (1 <<< (v6 &&& 31))) (v6 + 1))))))
theorem g19_6 (L : Nat) (d : Nat) (M : jm_MM) (J : jm_JJ) (ke0 : Int32 → Option (Int32)) (hke0 : ∀  (v5 : Int32) (r : Int32), ke0 v5 = some r → jm_go (d + 2) (jm_G 19) 52 [none, none, none, none, none, some (.int v5), none] [] (jm_S0 L, M, J) (some (.int r), (jm_S0 L, M, J))) : ∀ (n0 : Nat) (v1 : Int32) (v2 : Int32) (v3 : Int32) (v4 : Int32) (v5 : Int32) (v6 : Int32) (r : Int32), f19_6 M ke0 n0 v1 v2 v3 v4 v5 v6 = some r → jm_go (d + 2) (jm_G 19) 6 [some (.ref 2), some (.int v1), some (.int v2), some (.int v3), some (.int v4), some (.int v5), some (.int v6)] [] (jm_S0 L, M, J) (some (.int r), (jm_S0 L, M, J)) := by
  intro n0
  induction n0 with
  | zero => intro v1 v2 v3 v4 v5 v6 r H; cases H
  | succ n0 ih =>
    intro v1 v2 v3 v4 v5 v6 r H
    have hkb := ih
    unfold f19_6 at H
    rcases jm_bro H with ⟨h1, H⟩ | ⟨h1, H⟩
    · refine jm_go.brt 3 (b := decide (24 ≤ v6)) (p1 := 52) (l1 := [some (.ref 2), some (.int v1), some (.int v2), some (.int v3), some (.int v4), some (.int v5), some (.int v6)]) (s1 := []) (t1 := (jm_S0 L, M, J)) (p2 := 13) (l2 := [some (.ref 2), some (.int v1), some (.int v2), some (.int v3), some (.int v4), some (.int v5), some (.int v6)]) (s2 := []) (t2 := (jm_S0 L, M, J)) (fun _ _ => rfl) h1 ?_
      refine jm_go.lab (ls' := [none, none, none, none, none, some (.int v5), none]) (fun i hi => by cases hi; rfl) ?_
      exact hke0 v5 _ H
    · refine jm_go.brf 3 (b := decide (24 ≤ v6)) (p1 := 52) (l1 := [some (.ref 2), some (.int v1), some (.int v2), some (.int v3), some (.int v4), some (.int v5), some (.int v6)]) (s1 := []) (t1 := (jm_S0 L, M, J)) (p2 := 13) (l2 := [some (.ref 2), some (.int v1), some (.int v2), some (.int v3), some (.int v4), some (.int v5), some (.int v6)]) (s2 := []) (t2 := (jm_S0 L, M, J)) (fun _ _ => rfl) h1 ?_
      obtain ⟨q2, h3, H⟩ := jm_bdo H
      refine jm_go.call 4 (d := d + 1) (b := true) (u := 14) (as := [.ref 2, .int v1, .int v6]) (pc' := 20) (ls' := [some (.ref 2), some (.int v1), some (.int v2), some (.int v3), some (.int v4), some (.int v5), some (.int v6)]) (st' := []) (t' := (jm_S0 L, M, J)) (fun _ _ => rfl) rfl rfl (g14 L (d + 1) M J v1 v6 _ h3) ?_
      rcases jm_bro H with ⟨h4, H⟩ | ⟨h4, H⟩
      · refine jm_go.brt 1 (b := decide (q2 = 0)) (p1 := 46) (l1 := [some (.ref 2), some (.int v1), some (.int v2), some (.int v3), some (.int v4), some (.int v5), some (.int v6)]) (s1 := []) (t1 := (jm_S0 L, M, J)) (p2 := 23) (l2 := [some (.ref 2), some (.int v1), some (.int v2), some (.int v3), some (.int v4), some (.int v5), some (.int v6)]) (s2 := []) (t2 := (jm_S0 L, M, J)) (fun _ _ => rfl) h4 ?_
        refine jm_go.blk 2 (pc' := 6) (ls' := [some (.ref 2), some (.int v1), some (.int v2), some (.int v3), some (.int v4), some (.int v5), some (.int (v6 + 1))]) (st' := []) (t' := (jm_S0 L, M, J)) (fun _ _ => rfl) ?_
        exact hkb v1 v2 v3 v4 v5 (v6 + 1) _ H
      · refine jm_go.brf 1 (b := decide (q2 = 0)) (p1 := 46) (l1 := [some (.ref 2), some (.int v1), some (.int v2), some (.int v3), some (.int v4), some (.int v5), some (.int v6)]) (s1 := []) (t1 := (jm_S0 L, M, J)) (p2 := 23) (l2 := [some (.ref 2), some (.int v1), some (.int v2), some (.int v3), some (.int v4), some (.int v5), some (.int v6)]) (s2 := []) (t2 := (jm_S0 L, M, J)) (fun _ _ => rfl) h4 ?_
        obtain ⟨q5, h6, H⟩ := jm_bdo H
        refine jm_go.call 6 (d := d + 1) (b := true) (u := 17) (as := [.ref 2, .int v1, .int v6, .int v2, .int v3]) (pc' := 32) (ls' := [some (.ref 2), some (.int v1), some (.int v2), some (.int v3), some (.int v4), some (.int v5), some (.int v6)]) (st' := []) (t' := (jm_S0 L, M, J)) (fun _ _ => rfl) rfl rfl (g17 L d M J v1 v6 v2 v3 _ h6) ?_
        rcases jm_bro H with ⟨h7, H⟩ | ⟨h7, H⟩
        · refine jm_go.brt 2 (b := decide (v4 < q5)) (p1 := 46) (l1 := [some (.ref 2), some (.int v1), some (.int v2), some (.int v3), some (.int v4), some (.int v5), some (.int v6)]) (s1 := []) (t1 := (jm_S0 L, M, J)) (p2 := 37) (l2 := [some (.ref 2), some (.int v1), some (.int v2), some (.int v3), some (.int v4), some (.int v5), some (.int v6)]) (s2 := []) (t2 := (jm_S0 L, M, J)) (fun _ _ => rfl) h7 ?_
          refine jm_go.blk 2 (pc' := 6) (ls' := [some (.ref 2), some (.int v1), some (.int v2), some (.int v3), some (.int v4), some (.int v5), some (.int (v6 + 1))]) (st' := []) (t' := (jm_S0 L, M, J)) (fun _ _ => rfl) ?_
          exact hkb v1 v2 v3 v4 v5 (v6 + 1) _ H
        · refine jm_go.brf 2 (b := decide (v4 < q5)) (p1 := 46) (l1 := [some (.ref 2), some (.int v1), some (.int v2), some (.int v3), some (.int v4), some (.int v5), some (.int v6)]) (s1 := []) (t1 := (jm_S0 L, M, J)) (p2 := 37) (l2 := [some (.ref 2), some (.int v1), some (.int v2), some (.int v3), some (.int v4), some (.int v5), some (.int v6)]) (s2 := []) (t2 := (jm_S0 L, M, J)) (fun _ _ => rfl) h7 ?_
          refine jm_go.blk 8 (pc' := 6) (ls' := [some (.ref 2), some (.int v1), some (.int v2), some (.int v3), some (.int v4), some (.int (v5 ||| (1 <<< (v6 &&& 31)))), some (.int (v6 + 1))]) (st' := []) (t' := (jm_S0 L, M, J)) (fun _ _ => rfl) ?_
          exact hkb v1 v2 v3 v4 (v5 ||| (1 <<< (v6 &&& 31))) (v6 + 1) _ H

/-- X1_near -/
def f19 (M : jm_MM) (x0 : Int32) (x1 : Int32) (x2 : Int32) (x3 : Int32) : Option (Int32) := f19_6 M (fun ve8 => some ve8) jm_F x0 x1 x2 x3 0 0
theorem g19 (L : Nat) (d : Nat) (M : jm_MM) (J : jm_JJ) (x0 : Int32) (x1 : Int32) (x2 : Int32) (x3 : Int32) (r : Int32) (H : f19 M x0 x1 x2 x3 = some r) : jm_go (d + 2) (jm_G 19) 0 (jm_en 7 [.ref 2, .int x0, .int x1, .int x2, .int x3]) [] (jm_S0 L, M, J) (some (.int r), (jm_S0 L, M, J)) := by
  unfold f19 at H
  refine jm_go.blk 4 (pc' := 6) (ls' := [some (.ref 2), some (.int x0), some (.int x1), some (.int x2), some (.int x3), some (.int 0), some (.int 0)]) (st' := []) (t' := (jm_S0 L, M, J)) (fun _ _ => rfl) ?_
  exact g19_6 L d M J
    _ (fun ve8 r H => by
      cases H
      exact jm_go.ret 2 (fun _ _ => rfl)
      )
    _ x0 x1 x2 x3 0 0 _ H

def f20_4 (M : jm_MM) (ke0 : Int32 → Option (Int32)) : Nat → Int32 → Int32 → Int32 → Option (Int32)
  | 0, _, _, _ => none
  | n0 + 1, v1, v2, v3 => bif decide (24 ≤ v3) then (ke0 v2) else (jm_bd (f87 M v1 v3) (fun q2 => bif decide (q2 = 0) then ((f20_4 M ke0 n0) v1 v2 (v3 + 1)) else (jm_gd (jm_inb v3 24) ((f20_4 M ke0 n0) v1 (v2 + (M 3 v3.toNatClampNeg)) (v3 + 1)))))
theorem g20_4 (L : Nat) (d : Nat) (M : jm_MM) (J : jm_JJ) (ke0 : Int32 → Option (Int32)) (hke0 : ∀  (v2 : Int32) (r : Int32), ke0 v2 = some r → jm_go (d + 1) (jm_G 20) 33 [none, none, some (.int v2), none] [] (jm_S0 L, M, J) (some (.int r), (jm_S0 L, M, J))) : ∀ (n0 : Nat) (v1 : Int32) (v2 : Int32) (v3 : Int32) (r : Int32), f20_4 M ke0 n0 v1 v2 v3 = some r → jm_go (d + 1) (jm_G 20) 4 [some (.ref 2), some (.int v1), some (.int v2), some (.int v3)] [] (jm_S0 L, M, J) (some (.int r), (jm_S0 L, M, J)) := by
  intro n0
  induction n0 with
  | zero => intro v1 v2 v3 r H; cases H
  | succ n0 ih =>
    intro v1 v2 v3 r H
    have hkb := ih
    unfold f20_4 at H
    rcases jm_bro H with ⟨h1, H⟩ | ⟨h1, H⟩
    · refine jm_go.brt 3 (b := decide (24 ≤ v3)) (p1 := 33) (l1 := [some (.ref 2), some (.int v1), some (.int v2), some (.int v3)]) (s1 := []) (t1 := (jm_S0 L, M, J)) (p2 := 10) (l2 := [some (.ref 2), some (.int v1), some (.int v2), some (.int v3)]) (s2 := []) (t2 := (jm_S0 L, M, J)) (fun _ _ => rfl) h1 ?_
      refine jm_go.lab (ls' := [none, none, some (.int v2), none]) (fun i hi => by cases hi; rfl) ?_
      exact hke0 v2 _ H
    · refine jm_go.brf 3 (b := decide (24 ≤ v3)) (p1 := 33) (l1 := [some (.ref 2), some (.int v1), some (.int v2), some (.int v3)]) (s1 := []) (t1 := (jm_S0 L, M, J)) (p2 := 10) (l2 := [some (.ref 2), some (.int v1), some (.int v2), some (.int v3)]) (s2 := []) (t2 := (jm_S0 L, M, J)) (fun _ _ => rfl) h1 ?_
      obtain ⟨q2, h3, H⟩ := jm_bdo H
      refine jm_go.call 3 (d := d) (b := true) (u := 87) (as := [.int v1, .int v3]) (pc' := 15) (ls' := [some (.ref 2), some (.int v1), some (.int v2), some (.int v3)]) (st' := []) (t' := (jm_S0 L, M, J)) (fun _ _ => rfl) rfl rfl (g87 L d M J v1 v3 _ h3) ?_
      rcases jm_bro H with ⟨h4, H⟩ | ⟨h4, H⟩
      · refine jm_go.brt 1 (b := decide (q2 = 0)) (p1 := 27) (l1 := [some (.ref 2), some (.int v1), some (.int v2), some (.int v3)]) (s1 := []) (t1 := (jm_S0 L, M, J)) (p2 := 18) (l2 := [some (.ref 2), some (.int v1), some (.int v2), some (.int v3)]) (s2 := []) (t2 := (jm_S0 L, M, J)) (fun _ _ => rfl) h4 ?_
        refine jm_go.blk 2 (pc' := 4) (ls' := [some (.ref 2), some (.int v1), some (.int v2), some (.int (v3 + 1))]) (st' := []) (t' := (jm_S0 L, M, J)) (fun _ _ => rfl) ?_
        exact hkb v1 v2 (v3 + 1) _ H
      · refine jm_go.brf 1 (b := decide (q2 = 0)) (p1 := 27) (l1 := [some (.ref 2), some (.int v1), some (.int v2), some (.int v3)]) (s1 := []) (t1 := (jm_S0 L, M, J)) (p2 := 18) (l2 := [some (.ref 2), some (.int v1), some (.int v2), some (.int v3)]) (s2 := []) (t2 := (jm_S0 L, M, J)) (fun _ _ => rfl) h4 ?_
        obtain ⟨h5, H⟩ := jm_gdo H
        refine jm_go.grd 5 (b := jm_inb v3 24) (pc' := 25) (ls' := [some (.ref 2), some (.int v1), some (.int v2), some (.int v3)]) (st' := [.int (M 3 v3.toNatClampNeg), .int v2]) (t' := (jm_S0 L, M, J)) (fun _ _ => rfl) h5 ?_
        refine jm_go.blk 4 (pc' := 4) (ls' := [some (.ref 2), some (.int v1), some (.int (v2 + (M 3 v3.toNatClampNeg))), some (.int (v3 + 1))]) (st' := []) (t' := (jm_S0 L, M, J)) (fun _ _ => rfl) ?_
        exact hkb v1 (v2 + (M 3 v3.toNatClampNeg)) (v3 + 1) _ H

/-- X1_weightOf -/
def f20 (M : jm_MM) (x0 : Int32) : Option (Int32) := f20_4 M (fun ve6 => some ve6) jm_F x0 0 0
theorem g20 (L : Nat) (d : Nat) (M : jm_MM) (J : jm_JJ) (x0 : Int32) (r : Int32) (H : f20 M x0 = some r) : jm_go (d + 1) (jm_G 20) 0 (jm_en 4 [.ref 2, .int x0]) [] (jm_S0 L, M, J) (some (.int r), (jm_S0 L, M, J)) := by
  unfold f20 at H
  refine jm_go.blk 4 (pc' := 4) (ls' := [some (.ref 2), some (.int x0), some (.int 0), some (.int 0)]) (st' := []) (t' := (jm_S0 L, M, J)) (fun _ _ => rfl) ?_
  exact g20_4 L d M J
    _ (fun ve6 r H => by
      cases H
      exact jm_go.ret 2 (fun _ _ => rfl)
      )
    _ x0 0 0 _ H

def f31_15 (a0 : Nat) (ke0 : jm_MM → Int32 → Int32 → Int32 → Option (jm_MM)) : Nat → jm_MM → Int32 → Int32 → Int32 → Option (jm_MM)
  | 0, _, _, _, _ => none
  | n0 + 1, M, v1, v2, v3 => bif decide (v3 ≤ 0) then (ke0 M v1 v2 v3) else (jm_gd (jm_inb (v3 - 1) 24) (bif decide (v2 ≤ (M (a0 + 2) ((v3 - 1).toNatClampNeg))) then (ke0 M v1 v2 v3) else (jm_gd (jm_inb (v3 - 1) 24) (jm_gd (jm_inb v3 24) (jm_gd (jm_inb (v3 - 1) 24) (jm_gd (jm_inb v3 24) ((f31_15 a0 ke0 n0) (jm_up (jm_up M (a0 + 1) v3.toNatClampNeg (M (a0 + 1) ((v3 - 1).toNatClampNeg))) (a0 + 2) v3.toNatClampNeg ((jm_up M (a0 + 1) v3.toNatClampNeg (M (a0 + 1) ((v3 - 1).toNatClampNeg))) (a0 + 2) ((v3 - 1).toNatClampNeg))) v1 v2 (v3 + (-1)))))))))
theorem g31_15 (L : Nat) (d : Nat) (_M : jm_MM) (J : jm_JJ) (a0 : Nat) (ha0 : jm_isH a0) (ke0 : jm_MM → Int32 → Int32 → Int32 → Option (jm_MM)) (hke0 : ∀ (M : jm_MM) (v1 : Int32) (v2 : Int32) (v3 : Int32) (r : jm_MM), ke0 M v1 v2 v3 = some r → jm_go d (jm_G 31) 65 [some (.ref a0), some (.int v1), some (.int v2), some (.int v3)] [] (jm_S0 L, M, J) (none, (jm_S0 L, r, J))) : ∀ (n0 : Nat) (M : jm_MM) (v1 : Int32) (v2 : Int32) (v3 : Int32) (r : jm_MM), f31_15 a0 ke0 n0 M v1 v2 v3 = some r → jm_go d (jm_G 31) 15 [some (.ref a0), some (.int v1), some (.int v2), some (.int v3)] [] (jm_S0 L, M, J) (none, (jm_S0 L, r, J)) := by
  intro n0
  induction n0 with
  | zero => intro M v1 v2 v3 r H; cases H
  | succ n0 ih =>
    intro M v1 v2 v3 r H
    have hkb := ih
    unfold f31_15 at H
    rcases jm_bro H with ⟨h2, H⟩ | ⟨h2, H⟩
    · refine jm_go.brt 2 (b := decide (v3 ≤ 0)) (p1 := 65) (l1 := [some (.ref a0), some (.int v1), some (.int v2), some (.int v3)]) (s1 := []) (t1 := (jm_S0 L, M, J)) (p2 := 19) (l2 := [some (.ref a0), some (.int v1), some (.int v2), some (.int v3)]) (s2 := []) (t2 := (jm_S0 L, M, J)) (fun _ _ => rfl) h2 ?_
      exact hke0 M v1 v2 v3 _ H
    · refine jm_go.brf 2 (b := decide (v3 ≤ 0)) (p1 := 65) (l1 := [some (.ref a0), some (.int v1), some (.int v2), some (.int v3)]) (s1 := []) (t1 := (jm_S0 L, M, J)) (p2 := 19) (l2 := [some (.ref a0), some (.int v1), some (.int v2), some (.int v3)]) (s2 := []) (t2 := (jm_S0 L, M, J)) (fun _ _ => rfl) h2 ?_
      refine jm_go.gfr 2 (b := jm_is (jm_S0 L) a0 3) (o := (jm_S0 L).2.2.2.2 a0 2) (q := a0 + 2) (pc' := 23) (ls' := [some (.ref a0), some (.int v1), some (.int v2), some (.int v3)]) (st' := []) (t' := (jm_S0 L, M, J)) (fun _ _ => rfl) (jm_fH L ha0) (jm_rH2 L ha0) ?_
      obtain ⟨h3, H⟩ := jm_gdo H
      refine jm_go.grd 4 (b := ((Nat.beq 0 1 && Nat.beq (a0 + 2) 0) || (Nat.beq 0 0 && jm_is (jm_S0 L) (a0 + 2) 9)) && jm_inb (v3 - 1) ((jm_S0 L).2.2.2.1 (a0 + 2))) (pc' := 27) (ls' := [some (.ref a0), some (.int v1), some (.int v2), some (.int v3)]) (st' := [.int (M (a0 + 2) ((v3 - 1).toNatClampNeg))]) (t' := (jm_S0 L, M, J)) (fun _ _ => rfl) (jm_gia (jm_fH2 L ha0) h3) ?_
      rcases jm_bro H with ⟨h4, H⟩ | ⟨h4, H⟩
      · refine jm_go.brt 2 (b := decide (v2 ≤ (M (a0 + 2) ((v3 - 1).toNatClampNeg)))) (p1 := 65) (l1 := [some (.ref a0), some (.int v1), some (.int v2), some (.int v3)]) (s1 := []) (t1 := (jm_S0 L, M, J)) (p2 := 31) (l2 := [some (.ref a0), some (.int v1), some (.int v2), some (.int v3)]) (s2 := []) (t2 := (jm_S0 L, M, J)) (fun _ _ => rfl) h4 ?_
        exact hke0 M v1 v2 v3 _ H
      · refine jm_go.brf 2 (b := decide (v2 ≤ (M (a0 + 2) ((v3 - 1).toNatClampNeg)))) (p1 := 65) (l1 := [some (.ref a0), some (.int v1), some (.int v2), some (.int v3)]) (s1 := []) (t1 := (jm_S0 L, M, J)) (p2 := 31) (l2 := [some (.ref a0), some (.int v1), some (.int v2), some (.int v3)]) (s2 := []) (t2 := (jm_S0 L, M, J)) (fun _ _ => rfl) h4 ?_
        refine jm_go.gfr 2 (b := jm_is (jm_S0 L) a0 3) (o := (jm_S0 L).2.2.2.2 a0 1) (q := a0 + 1) (pc' := 35) (ls' := [some (.ref a0), some (.int v1), some (.int v2), some (.int v3)]) (st' := []) (t' := (jm_S0 L, M, J)) (fun _ _ => rfl) (jm_fH L ha0) (jm_rH1 L ha0) ?_
        refine jm_go.gfr 3 (b := jm_is (jm_S0 L) a0 3) (o := (jm_S0 L).2.2.2.2 a0 1) (q := a0 + 1) (pc' := 40) (ls' := [some (.ref a0), some (.int v1), some (.int v2), some (.int v3)]) (st' := [.int v3, .ref (a0 + 1)]) (t' := (jm_S0 L, M, J)) (fun _ _ => rfl) (jm_fH L ha0) (jm_rH1 L ha0) ?_
        obtain ⟨h5, H⟩ := jm_gdo H
        refine jm_go.grd 4 (b := ((Nat.beq 0 1 && Nat.beq (a0 + 1) 0) || (Nat.beq 0 0 && jm_is (jm_S0 L) (a0 + 1) 9)) && jm_inb (v3 - 1) ((jm_S0 L).2.2.2.1 (a0 + 1))) (pc' := 44) (ls' := [some (.ref a0), some (.int v1), some (.int v2), some (.int v3)]) (st' := [.int (M (a0 + 1) ((v3 - 1).toNatClampNeg)), .int v3, .ref (a0 + 1)]) (t' := (jm_S0 L, M, J)) (fun _ _ => rfl) (jm_gia (jm_fH1 L ha0) h5) ?_
        obtain ⟨h6, H⟩ := jm_gdo H
        refine jm_go.grd 1 (b := jm_is (jm_S0 L) (a0 + 1) 9 && jm_inb v3 ((jm_S0 L).2.2.2.1 (a0 + 1))) (pc' := 45) (ls' := [some (.ref a0), some (.int v1), some (.int v2), some (.int v3)]) (st' := []) (t' := (jm_S0 L, (jm_up M (a0 + 1) v3.toNatClampNeg (M (a0 + 1) ((v3 - 1).toNatClampNeg))), J)) (fun _ _ => rfl) (jm_gis (jm_fH1 L ha0) h6) ?_
        refine jm_go.gfr 2 (b := jm_is (jm_S0 L) a0 3) (o := (jm_S0 L).2.2.2.2 a0 2) (q := a0 + 2) (pc' := 49) (ls' := [some (.ref a0), some (.int v1), some (.int v2), some (.int v3)]) (st' := []) (t' := (jm_S0 L, (jm_up M (a0 + 1) v3.toNatClampNeg (M (a0 + 1) ((v3 - 1).toNatClampNeg))), J)) (fun _ _ => rfl) (jm_fH L ha0) (jm_rH2 L ha0) ?_
        refine jm_go.gfr 3 (b := jm_is (jm_S0 L) a0 3) (o := (jm_S0 L).2.2.2.2 a0 2) (q := a0 + 2) (pc' := 54) (ls' := [some (.ref a0), some (.int v1), some (.int v2), some (.int v3)]) (st' := [.int v3, .ref (a0 + 2)]) (t' := (jm_S0 L, (jm_up M (a0 + 1) v3.toNatClampNeg (M (a0 + 1) ((v3 - 1).toNatClampNeg))), J)) (fun _ _ => rfl) (jm_fH L ha0) (jm_rH2 L ha0) ?_
        obtain ⟨h7, H⟩ := jm_gdo H
        refine jm_go.grd 4 (b := ((Nat.beq 0 1 && Nat.beq (a0 + 2) 0) || (Nat.beq 0 0 && jm_is (jm_S0 L) (a0 + 2) 9)) && jm_inb (v3 - 1) ((jm_S0 L).2.2.2.1 (a0 + 2))) (pc' := 58) (ls' := [some (.ref a0), some (.int v1), some (.int v2), some (.int v3)]) (st' := [.int ((jm_up M (a0 + 1) v3.toNatClampNeg (M (a0 + 1) ((v3 - 1).toNatClampNeg))) (a0 + 2) ((v3 - 1).toNatClampNeg)), .int v3, .ref (a0 + 2)]) (t' := (jm_S0 L, (jm_up M (a0 + 1) v3.toNatClampNeg (M (a0 + 1) ((v3 - 1).toNatClampNeg))), J)) (fun _ _ => rfl) (jm_gia (jm_fH2 L ha0) h7) ?_
        obtain ⟨h8, H⟩ := jm_gdo H
        refine jm_go.grd 1 (b := jm_is (jm_S0 L) (a0 + 2) 9 && jm_inb v3 ((jm_S0 L).2.2.2.1 (a0 + 2))) (pc' := 59) (ls' := [some (.ref a0), some (.int v1), some (.int v2), some (.int v3)]) (st' := []) (t' := (jm_S0 L, (jm_up (jm_up M (a0 + 1) v3.toNatClampNeg (M (a0 + 1) ((v3 - 1).toNatClampNeg))) (a0 + 2) v3.toNatClampNeg ((jm_up M (a0 + 1) v3.toNatClampNeg (M (a0 + 1) ((v3 - 1).toNatClampNeg))) (a0 + 2) ((v3 - 1).toNatClampNeg))), J)) (fun _ _ => rfl) (jm_gis (jm_fH2 L ha0) h8) ?_
        refine jm_go.blk 2 (pc' := 15) (ls' := [some (.ref a0), some (.int v1), some (.int v2), some (.int (v3 + (-1)))]) (st' := []) (t' := (jm_S0 L, (jm_up (jm_up M (a0 + 1) v3.toNatClampNeg (M (a0 + 1) ((v3 - 1).toNatClampNeg))) (a0 + 2) v3.toNatClampNeg ((jm_up M (a0 + 1) v3.toNatClampNeg (M (a0 + 1) ((v3 - 1).toNatClampNeg))) (a0 + 2) ((v3 - 1).toNatClampNeg))), J)) (fun _ _ => rfl) ?_
        exact hkb (jm_up (jm_up M (a0 + 1) v3.toNatClampNeg (M (a0 + 1) ((v3 - 1).toNatClampNeg))) (a0 + 2) v3.toNatClampNeg ((jm_up M (a0 + 1) v3.toNatClampNeg (M (a0 + 1) ((v3 - 1).toNatClampNeg))) (a0 + 2) ((v3 - 1).toNatClampNeg))) v1 v2 (v3 + (-1)) _ H

def f31_65 (a0 : Nat) (M : jm_MM) (v1 : Int32) (v2 : Int32) (v3 : Int32) : Option (jm_MM) := jm_gd (jm_inb v3 24) (jm_gd (jm_inb v3 24) (some (jm_up (jm_up (jm_up M (a0 + 1) v3.toNatClampNeg v1) (a0 + 2) v3.toNatClampNeg v2) a0 0 (((jm_up (jm_up M (a0 + 1) v3.toNatClampNeg v1) (a0 + 2) v3.toNatClampNeg v2) a0 0) + 1))))
theorem g31_65 (L : Nat) (d : Nat) (_M : jm_MM) (J : jm_JJ) (a0 : Nat) (ha0 : jm_isH a0) (M : jm_MM) (v1 : Int32) (v2 : Int32) (v3 : Int32) (r : jm_MM) (H : f31_65 a0 M v1 v2 v3 = some r) : jm_go d (jm_G 31) 65 [some (.ref a0), some (.int v1), some (.int v2), some (.int v3)] [] (jm_S0 L, M, J) (none, (jm_S0 L, r, J)) := by
  unfold f31_65 at H
  refine jm_go.gfr 2 (b := jm_is (jm_S0 L) a0 3) (o := (jm_S0 L).2.2.2.2 a0 1) (q := a0 + 1) (pc' := 69) (ls' := [some (.ref a0), some (.int v1), some (.int v2), some (.int v3)]) (st' := []) (t' := (jm_S0 L, M, J)) (fun _ _ => rfl) (jm_fH L ha0) (jm_rH1 L ha0) ?_
  obtain ⟨h13, H⟩ := jm_gdo H
  refine jm_go.grd 3 (b := jm_is (jm_S0 L) (a0 + 1) 9 && jm_inb v3 ((jm_S0 L).2.2.2.1 (a0 + 1))) (pc' := 72) (ls' := [some (.ref a0), some (.int v1), some (.int v2), some (.int v3)]) (st' := []) (t' := (jm_S0 L, (jm_up M (a0 + 1) v3.toNatClampNeg v1), J)) (fun _ _ => rfl) (jm_gis (jm_fH1 L ha0) h13) ?_
  refine jm_go.gfr 2 (b := jm_is (jm_S0 L) a0 3) (o := (jm_S0 L).2.2.2.2 a0 2) (q := a0 + 2) (pc' := 76) (ls' := [some (.ref a0), some (.int v1), some (.int v2), some (.int v3)]) (st' := []) (t' := (jm_S0 L, (jm_up M (a0 + 1) v3.toNatClampNeg v1), J)) (fun _ _ => rfl) (jm_fH L ha0) (jm_rH2 L ha0) ?_
  obtain ⟨h14, H⟩ := jm_gdo H
  refine jm_go.grd 3 (b := jm_is (jm_S0 L) (a0 + 2) 9 && jm_inb v3 ((jm_S0 L).2.2.2.1 (a0 + 2))) (pc' := 79) (ls' := [some (.ref a0), some (.int v1), some (.int v2), some (.int v3)]) (st' := []) (t' := (jm_S0 L, (jm_up (jm_up M (a0 + 1) v3.toNatClampNeg v1) (a0 + 2) v3.toNatClampNeg v2), J)) (fun _ _ => rfl) (jm_gis (jm_fH2 L ha0) h14) ?_
  refine jm_go.grd 3 (b := jm_is (jm_S0 L) a0 3) (pc' := 84) (ls' := [some (.ref a0), some (.int v1), some (.int v2), some (.int v3)]) (st' := [.int ((jm_up (jm_up M (a0 + 1) v3.toNatClampNeg v1) (a0 + 2) v3.toNatClampNeg v2) a0 0), .ref a0]) (t' := (jm_S0 L, (jm_up (jm_up M (a0 + 1) v3.toNatClampNeg v1) (a0 + 2) v3.toNatClampNeg v2), J)) (fun _ _ => rfl) (jm_fH L ha0) ?_
  refine jm_go.grd 3 (b := jm_is (jm_S0 L) a0 3) (pc' := 89) (ls' := [some (.ref a0), some (.int v1), some (.int v2), some (.int v3)]) (st' := []) (t' := (jm_S0 L, (jm_up (jm_up (jm_up M (a0 + 1) v3.toNatClampNeg v1) (a0 + 2) v3.toNatClampNeg v2) a0 0 (((jm_up (jm_up M (a0 + 1) v3.toNatClampNeg v1) (a0 + 2) v3.toNatClampNeg v2) a0 0) + 1)), J)) (fun _ _ => rfl) (jm_fH L ha0) ?_
  cases H
  exact jm_go.ret 1 (fun _ _ => rfl)

/-- X3_insert -/
def f31 (M : jm_MM) (a0 : Nat) (x0 : Int32) (x1 : Int32) : Option (jm_MM) := bif decide ((M a0 0) < 24) then (f31_15 a0 (fun Me9 ve10 ve11 ve12 => f31_65 a0  Me9 ve10 ve11 ve12) jm_F M x0 x1 (M a0 0)) else (some M)
theorem g31 (L : Nat) (d : Nat) (M : jm_MM) (J : jm_JJ) (a0 : Nat) (ha0 : jm_isH a0) (x0 : Int32) (x1 : Int32) (r : jm_MM) (H : f31 M a0 x0 x1 = some r) : jm_go d (jm_G 31) 0 (jm_en 4 [.ref a0, .int x0, .int x1]) [] (jm_S0 L, M, J) (none, (jm_S0 L, r, J)) := by
  unfold f31 at H
  refine jm_go.grd 2 (b := jm_is (jm_S0 L) a0 3) (pc' := 4) (ls' := [some (.ref a0), some (.int x0), some (.int x1), none]) (st' := [.int (M a0 0)]) (t' := (jm_S0 L, M, J)) (fun _ _ => rfl) (jm_fH L ha0) ?_
  rcases jm_bro H with ⟨h1, H⟩ | ⟨h1, H⟩
  · refine jm_go.brt 2 (b := decide ((M a0 0) < 24)) (p1 := 10) (l1 := [some (.ref a0), some (.int x0), some (.int x1), none]) (s1 := []) (t1 := (jm_S0 L, M, J)) (p2 := 9) (l2 := [some (.ref a0), some (.int x0), some (.int x1), none]) (s2 := []) (t2 := (jm_S0 L, M, J)) (fun _ _ => rfl) h1 ?_
    refine jm_go.grd 2 (b := jm_is (jm_S0 L) a0 3) (pc' := 14) (ls' := [some (.ref a0), some (.int x0), some (.int x1), none]) (st' := [.int (M a0 0)]) (t' := (jm_S0 L, M, J)) (fun _ _ => rfl) (jm_fH L ha0) ?_
    refine jm_go.blk 1 (pc' := 15) (ls' := [some (.ref a0), some (.int x0), some (.int x1), some (.int (M a0 0))]) (st' := []) (t' := (jm_S0 L, M, J)) (fun _ _ => rfl) ?_
    exact g31_15 L d M J a0 ha0
      _ (fun Me9 ve10 ve11 ve12 r H => by
        exact g31_65 L d M J a0 ha0  Me9 ve10 ve11 ve12 _ H
        )
      _ M x0 x1 (M a0 0) _ H
  · refine jm_go.brf 2 (b := decide ((M a0 0) < 24)) (p1 := 10) (l1 := [some (.ref a0), some (.int x0), some (.int x1), none]) (s1 := []) (t1 := (jm_S0 L, M, J)) (p2 := 9) (l2 := [some (.ref a0), some (.int x0), some (.int x1), none]) (s2 := []) (t2 := (jm_S0 L, M, J)) (fun _ _ => rfl) h1 ?_
    cases H
    exact jm_go.ret 1 (fun _ _ => rfl)

def f30_46 (a0 : Nat) (b0 : Nat) (kb : jm_MM → Int32 → Option (jm_MM)) (ke0 : jm_MM → Option (jm_MM)) (M : jm_MM) (v3 : Int32) (v4 : Int32) (s0 : Int32) : Option (jm_MM) := bif decide (s0 = 0) then (kb M (v3 + 1)) else (jm_bd (f20 M v4) (fun q7 => bif decide (q7 < (M 2 2)) then (kb M (v3 + 1)) else (jm_bd (f31 M a0 v4 q7) (fun q10 => kb q10 (v3 + 1)))))
theorem g30_46 (L : Nat) (d : Nat) (_M : jm_MM) (J : jm_JJ) (a0 : Nat) (ha0 : jm_isH a0) (b0 : Nat) (hb0 : jm_isC b0) (kb : jm_MM → Int32 → Option (jm_MM)) (hkb : ∀ (M : jm_MM) (v3 : Int32) (r : jm_MM), kb M v3 = some r → jm_go (d + 2) (jm_G 30) 7 [some (.ref a0), some (.ref 2), some (.ref b0), some (.int v3), none, none, none] [] (jm_S0 L, M, J) (none, (jm_S0 L, r, J))) (ke0 : jm_MM → Option (jm_MM)) (hke0 : ∀ (M : jm_MM) (r : jm_MM), ke0 M = some r → jm_go (d + 2) (jm_G 30) 84 [none, none, none, none, none, none, none] [] (jm_S0 L, M, J) (none, (jm_S0 L, r, J))) (M : jm_MM) (v3 : Int32) (v4 : Int32) (s0 : Int32) (r : jm_MM) (H : f30_46 a0 b0 kb ke0 M v3 v4 s0 = some r) : jm_go (d + 2) (jm_G 30) 46 [some (.ref a0), some (.ref 2), some (.ref b0), some (.int v3), some (.int v4), none, none] [.int s0] (jm_S0 L, M, J) (none, (jm_S0 L, r, J)) := by
  unfold f30_46 at H
  rcases jm_bro H with ⟨h6, H⟩ | ⟨h6, H⟩
  · refine jm_go.brt 3 (b := decide (s0 = 0)) (p1 := 78) (l1 := [some (.ref a0), some (.ref 2), some (.ref b0), some (.int v3), some (.int v4), some (.int s0), none]) (s1 := []) (t1 := (jm_S0 L, M, J)) (p2 := 53) (l2 := [some (.ref a0), some (.ref 2), some (.ref b0), some (.int v3), some (.int v4), some (.int s0), none]) (s2 := []) (t2 := (jm_S0 L, M, J)) (fun _ _ => rfl) h6 ?_
    refine jm_go.blk 2 (pc' := 7) (ls' := [some (.ref a0), some (.ref 2), some (.ref b0), some (.int (v3 + 1)), none, none, none]) (st' := []) (t' := (jm_S0 L, M, J)) (fun _ _ => rfl) ?_
    exact hkb M (v3 + 1) _ H
  · refine jm_go.brf 3 (b := decide (s0 = 0)) (p1 := 78) (l1 := [some (.ref a0), some (.ref 2), some (.ref b0), some (.int v3), some (.int v4), some (.int s0), none]) (s1 := []) (t1 := (jm_S0 L, M, J)) (p2 := 53) (l2 := [some (.ref a0), some (.ref 2), some (.ref b0), some (.int v3), some (.int v4), some (.int s0), none]) (s2 := []) (t2 := (jm_S0 L, M, J)) (fun _ _ => rfl) h6 ?_
    obtain ⟨q7, h8, H⟩ := jm_bdo H
    refine jm_go.call 3 (d := d + 1) (b := true) (u := 20) (as := [.ref 2, .int v4]) (pc' := 59) (ls' := [some (.ref a0), some (.ref 2), some (.ref b0), some (.int v3), some (.int v4), some (.int s0), none]) (st' := []) (t' := (jm_S0 L, M, J)) (fun _ _ => rfl) rfl rfl (g20 L d M J v4 _ h8) ?_
    rcases jm_bro H with ⟨h9, H⟩ | ⟨h9, H⟩
    · refine jm_go.brt 5 (b := decide (q7 < (M 2 2))) (p1 := 78) (l1 := [some (.ref a0), some (.ref 2), some (.ref b0), some (.int v3), some (.int v4), some (.int s0), some (.int q7)]) (s1 := []) (t1 := (jm_S0 L, M, J)) (p2 := 70) (l2 := [some (.ref a0), some (.ref 2), some (.ref b0), some (.int v3), some (.int v4), some (.int s0), some (.int q7)]) (s2 := []) (t2 := (jm_S0 L, M, J)) (fun _ _ => rfl) h9 ?_
      refine jm_go.blk 2 (pc' := 7) (ls' := [some (.ref a0), some (.ref 2), some (.ref b0), some (.int (v3 + 1)), none, none, none]) (st' := []) (t' := (jm_S0 L, M, J)) (fun _ _ => rfl) ?_
      exact hkb M (v3 + 1) _ H
    · refine jm_go.brf 5 (b := decide (q7 < (M 2 2))) (p1 := 78) (l1 := [some (.ref a0), some (.ref 2), some (.ref b0), some (.int v3), some (.int v4), some (.int s0), some (.int q7)]) (s1 := []) (t1 := (jm_S0 L, M, J)) (p2 := 70) (l2 := [some (.ref a0), some (.ref 2), some (.ref b0), some (.int v3), some (.int v4), some (.int s0), some (.int q7)]) (s2 := []) (t2 := (jm_S0 L, M, J)) (fun _ _ => rfl) h9 ?_
      obtain ⟨q10, h11, H⟩ := jm_bdo H
      refine jm_go.call 4 (d := d + 1) (b := jm_is (jm_S0 L) a0 3) (u := 31) (as := [.ref a0, .int v4, .int q7]) (pc' := 78) (ls' := [some (.ref a0), some (.ref 2), some (.ref b0), some (.int v3), some (.int v4), some (.int s0), some (.int q7)]) (st' := []) (t' := (jm_S0 L, M, J)) (fun _ _ => rfl) (jm_fH L ha0) rfl (g31 L (d + 1) M J a0 ha0 v4 q7 _ h11) ?_
      refine jm_go.blk 2 (pc' := 7) (ls' := [some (.ref a0), some (.ref 2), some (.ref b0), some (.int (v3 + 1)), none, none, none]) (st' := []) (t' := (jm_S0 L, q10, J)) (fun _ _ => rfl) ?_
      exact hkb q10 (v3 + 1) _ H

def f30_45 (a0 : Nat) (b0 : Nat) (kb : jm_MM → Int32 → Option (jm_MM)) (ke0 : jm_MM → Option (jm_MM)) (M : jm_MM) (v3 : Int32) (v4 : Int32) : Option (jm_MM) := f30_46 a0 b0 kb ke0 M v3 v4 0
theorem g30_45 (L : Nat) (d : Nat) (_M : jm_MM) (J : jm_JJ) (a0 : Nat) (ha0 : jm_isH a0) (b0 : Nat) (hb0 : jm_isC b0) (kb : jm_MM → Int32 → Option (jm_MM)) (hkb : ∀ (M : jm_MM) (v3 : Int32) (r : jm_MM), kb M v3 = some r → jm_go (d + 2) (jm_G 30) 7 [some (.ref a0), some (.ref 2), some (.ref b0), some (.int v3), none, none, none] [] (jm_S0 L, M, J) (none, (jm_S0 L, r, J))) (ke0 : jm_MM → Option (jm_MM)) (hke0 : ∀ (M : jm_MM) (r : jm_MM), ke0 M = some r → jm_go (d + 2) (jm_G 30) 84 [none, none, none, none, none, none, none] [] (jm_S0 L, M, J) (none, (jm_S0 L, r, J))) (M : jm_MM) (v3 : Int32) (v4 : Int32) (r : jm_MM) (H : f30_45 a0 b0 kb ke0 M v3 v4 = some r) : jm_go (d + 2) (jm_G 30) 45 [some (.ref a0), some (.ref 2), some (.ref b0), some (.int v3), some (.int v4), none, none] [] (jm_S0 L, M, J) (none, (jm_S0 L, r, J)) := by
  unfold f30_45 at H
  refine jm_go.blk 1 (pc' := 46) (ls' := [some (.ref a0), some (.ref 2), some (.ref b0), some (.int v3), some (.int v4), none, none]) (st' := [.int 0]) (t' := (jm_S0 L, M, J)) (fun _ _ => rfl) ?_
  exact g30_46 L d M J a0 ha0 b0 hb0 _ hkb _ hke0 M v3 v4 0 _ H

def f30_7 (a0 : Nat) (b0 : Nat) (ke0 : jm_MM → Option (jm_MM)) : Nat → jm_MM → Int32 → Option (jm_MM)
  | 0, _, _ => none
  | n0 + 1, M, v3 => bif decide (24 ≤ v3) then (ke0 M) else (jm_gd (jm_inb v3 24) (jm_bd (f87 M (M (b0 + 2) v3.toNatClampNeg) v3) (fun q3 => bif decide (q3 = 0) then (f30_45 a0 b0 (f30_7 a0 b0 ke0 n0) ke0 M v3 (M (b0 + 2) v3.toNatClampNeg)) else (bif !decide (((M (b0 + 2) v3.toNatClampNeg) &&& ((1 <<< (v3 &&& 31)) - 1)) = 0) then (f30_45 a0 b0 (f30_7 a0 b0 ke0 n0) ke0 M v3 (M (b0 + 2) v3.toNatClampNeg)) else (f30_46 a0 b0 (f30_7 a0 b0 ke0 n0) ke0 M v3 (M (b0 + 2) v3.toNatClampNeg) 1)))))
theorem g30_7 (L : Nat) (d : Nat) (_M : jm_MM) (J : jm_JJ) (a0 : Nat) (ha0 : jm_isH a0) (b0 : Nat) (hb0 : jm_isC b0) (ke0 : jm_MM → Option (jm_MM)) (hke0 : ∀ (M : jm_MM) (r : jm_MM), ke0 M = some r → jm_go (d + 2) (jm_G 30) 84 [none, none, none, none, none, none, none] [] (jm_S0 L, M, J) (none, (jm_S0 L, r, J))) : ∀ (n0 : Nat) (M : jm_MM) (v3 : Int32) (r : jm_MM), f30_7 a0 b0 ke0 n0 M v3 = some r → jm_go (d + 2) (jm_G 30) 7 [some (.ref a0), some (.ref 2), some (.ref b0), some (.int v3), none, none, none] [] (jm_S0 L, M, J) (none, (jm_S0 L, r, J)) := by
  intro n0
  induction n0 with
  | zero => intro M v3 r H; cases H
  | succ n0 ih =>
    intro M v3 r H
    have hkb := ih
    unfold f30_7 at H
    rcases jm_bro H with ⟨h1, H⟩ | ⟨h1, H⟩
    · refine jm_go.brt 3 (b := decide (24 ≤ v3)) (p1 := 84) (l1 := [some (.ref a0), some (.ref 2), some (.ref b0), some (.int v3), none, none, none]) (s1 := []) (t1 := (jm_S0 L, M, J)) (p2 := 13) (l2 := [some (.ref a0), some (.ref 2), some (.ref b0), some (.int v3), none, none, none]) (s2 := []) (t2 := (jm_S0 L, M, J)) (fun _ _ => rfl) h1 ?_
      refine jm_go.lab (ls' := [none, none, none, none, none, none, none]) (fun i hi => by cases hi; rfl) ?_
      exact hke0 M _ H
    · refine jm_go.brf 3 (b := decide (24 ≤ v3)) (p1 := 84) (l1 := [some (.ref a0), some (.ref 2), some (.ref b0), some (.int v3), none, none, none]) (s1 := []) (t1 := (jm_S0 L, M, J)) (p2 := 13) (l2 := [some (.ref a0), some (.ref 2), some (.ref b0), some (.int v3), none, none, none]) (s2 := []) (t2 := (jm_S0 L, M, J)) (fun _ _ => rfl) h1 ?_
      refine jm_go.gfr 2 (b := jm_is (jm_S0 L) b0 0) (o := (jm_S0 L).2.2.2.2 b0 3) (q := b0 + 2) (pc' := 17) (ls' := [some (.ref a0), some (.ref 2), some (.ref b0), some (.int v3), none, none, none]) (st' := []) (t' := (jm_S0 L, M, J)) (fun _ _ => rfl) (jm_fC L hb0) (jm_rC2 L hb0) ?_
      obtain ⟨h2, H⟩ := jm_gdo H
      refine jm_go.grd 2 (b := ((Nat.beq 0 1 && Nat.beq (b0 + 2) 0) || (Nat.beq 0 0 && jm_is (jm_S0 L) (b0 + 2) 9)) && jm_inb v3 ((jm_S0 L).2.2.2.1 (b0 + 2))) (pc' := 19) (ls' := [some (.ref a0), some (.ref 2), some (.ref b0), some (.int v3), none, none, none]) (st' := [.int (M (b0 + 2) v3.toNatClampNeg)]) (t' := (jm_S0 L, M, J)) (fun _ _ => rfl) (jm_gia (jm_fC2 L hb0) h2) ?_
      obtain ⟨q3, h4, H⟩ := jm_bdo H
      refine jm_go.call 4 (d := d + 1) (b := true) (u := 87) (as := [.int (M (b0 + 2) v3.toNatClampNeg), .int v3]) (pc' := 27) (ls' := [some (.ref a0), some (.ref 2), some (.ref b0), some (.int v3), some (.int (M (b0 + 2) v3.toNatClampNeg)), none, none]) (st' := []) (t' := (jm_S0 L, M, J)) (fun _ _ => rfl) rfl rfl (g87 L (d + 1) M J (M (b0 + 2) v3.toNatClampNeg) v3 _ h4) ?_
      rcases jm_bro H with ⟨h5, H⟩ | ⟨h5, H⟩
      · refine jm_go.brt 1 (b := decide (q3 = 0)) (p1 := 45) (l1 := [some (.ref a0), some (.ref 2), some (.ref b0), some (.int v3), some (.int (M (b0 + 2) v3.toNatClampNeg)), none, none]) (s1 := []) (t1 := (jm_S0 L, M, J)) (p2 := 30) (l2 := [some (.ref a0), some (.ref 2), some (.ref b0), some (.int v3), some (.int (M (b0 + 2) v3.toNatClampNeg)), none, none]) (s2 := []) (t2 := (jm_S0 L, M, J)) (fun _ _ => rfl) h5 ?_
        exact g30_45 L d M J a0 ha0 b0 hb0 _ hkb _ hke0 M v3 (M (b0 + 2) v3.toNatClampNeg) _ H
      · refine jm_go.brf 1 (b := decide (q3 = 0)) (p1 := 45) (l1 := [some (.ref a0), some (.ref 2), some (.ref b0), some (.int v3), some (.int (M (b0 + 2) v3.toNatClampNeg)), none, none]) (s1 := []) (t1 := (jm_S0 L, M, J)) (p2 := 30) (l2 := [some (.ref a0), some (.ref 2), some (.ref b0), some (.int v3), some (.int (M (b0 + 2) v3.toNatClampNeg)), none, none]) (s2 := []) (t2 := (jm_S0 L, M, J)) (fun _ _ => rfl) h5 ?_
        rcases jm_bro H with ⟨h12, H⟩ | ⟨h12, H⟩
        · refine jm_go.brt 8 (b := !decide (((M (b0 + 2) v3.toNatClampNeg) &&& ((1 <<< (v3 &&& 31)) - 1)) = 0)) (p1 := 45) (l1 := [some (.ref a0), some (.ref 2), some (.ref b0), some (.int v3), some (.int (M (b0 + 2) v3.toNatClampNeg)), none, none]) (s1 := []) (t1 := (jm_S0 L, M, J)) (p2 := 41) (l2 := [some (.ref a0), some (.ref 2), some (.ref b0), some (.int v3), some (.int (M (b0 + 2) v3.toNatClampNeg)), none, none]) (s2 := []) (t2 := (jm_S0 L, M, J)) (fun _ _ => rfl) h12 ?_
          exact g30_45 L d M J a0 ha0 b0 hb0 _ hkb _ hke0 M v3 (M (b0 + 2) v3.toNatClampNeg) _ H
        · refine jm_go.brf 8 (b := !decide (((M (b0 + 2) v3.toNatClampNeg) &&& ((1 <<< (v3 &&& 31)) - 1)) = 0)) (p1 := 45) (l1 := [some (.ref a0), some (.ref 2), some (.ref b0), some (.int v3), some (.int (M (b0 + 2) v3.toNatClampNeg)), none, none]) (s1 := []) (t1 := (jm_S0 L, M, J)) (p2 := 41) (l2 := [some (.ref a0), some (.ref 2), some (.ref b0), some (.int v3), some (.int (M (b0 + 2) v3.toNatClampNeg)), none, none]) (s2 := []) (t2 := (jm_S0 L, M, J)) (fun _ _ => rfl) h12 ?_
          refine jm_go.blk 2 (pc' := 46) (ls' := [some (.ref a0), some (.ref 2), some (.ref b0), some (.int v3), some (.int (M (b0 + 2) v3.toNatClampNeg)), none, none]) (st' := [.int 1]) (t' := (jm_S0 L, M, J)) (fun _ _ => rfl) ?_
          exact g30_46 L d M J a0 ha0 b0 hb0 _ hkb _ hke0 M v3 (M (b0 + 2) v3.toNatClampNeg) 1 _ H

/-- X3_gather -/
def f30 (M : jm_MM) (a0 : Nat) (b0 : Nat) : Option (jm_MM) := f30_7 a0 b0 (fun Me13 => some Me13) jm_F (jm_up M a0 0 0) 0
theorem g30 (L : Nat) (d : Nat) (M : jm_MM) (J : jm_JJ) (a0 : Nat) (ha0 : jm_isH a0) (b0 : Nat) (hb0 : jm_isC b0)  (r : jm_MM) (H : f30 M a0 b0 = some r) : jm_go (d + 2) (jm_G 30) 0 (jm_en 7 [.ref a0, .ref 2, .ref b0]) [] (jm_S0 L, M, J) (none, (jm_S0 L, r, J)) := by
  unfold f30 at H
  refine jm_go.grd 3 (b := jm_is (jm_S0 L) a0 3) (pc' := 5) (ls' := [some (.ref a0), some (.ref 2), some (.ref b0), none, none, none, none]) (st' := []) (t' := (jm_S0 L, (jm_up M a0 0 0), J)) (fun _ _ => rfl) (jm_fH L ha0) ?_
  refine jm_go.blk 2 (pc' := 7) (ls' := [some (.ref a0), some (.ref 2), some (.ref b0), some (.int 0), none, none, none]) (st' := []) (t' := (jm_S0 L, (jm_up M a0 0 0), J)) (fun _ _ => rfl) ?_
  exact g30_7 L d M J a0 ha0 b0 hb0
    _ (fun Me13 r H => by
      cases H
      exact jm_go.ret 1 (fun _ _ => rfl)
      )
    _ (jm_up M a0 0 0) 0 _ H


/-- X3_goOnNowhere -/
def f33 (M : jm_MM) (a0 : Nat) : Option (jm_MM) := jm_bd (f165 M (a0 + 3) 24 (-1)) (fun q1 => some q1)
theorem g33 (L : Nat) (d : Nat) (M : jm_MM) (J : jm_JJ) (a0 : Nat) (ha0 : jm_isH a0)  (r : jm_MM) (H : f33 M a0 = some r) : jm_go (d + 1) (jm_G 33) 0 (jm_en 1 [.ref a0]) [] (jm_S0 L, M, J) (none, (jm_S0 L, r, J)) := by
  unfold f33 at H
  refine jm_go.gfr 2 (b := jm_is (jm_S0 L) a0 3) (o := (jm_S0 L).2.2.2.2 a0 3) (q := a0 + 3) (pc' := 4) (ls' := [some (.ref a0)]) (st' := []) (t' := (jm_S0 L, M, J)) (fun _ _ => rfl) (jm_fH L ha0) (jm_rH3 L ha0) ?_
  obtain ⟨q1, h2, H⟩ := jm_bdo H
  refine jm_go.call 2 (d := d) (b := true) (u := 165) (as := [.ref (a0 + 3), .int (-1)]) (pc' := 8) (ls' := [some (.ref a0)]) (st' := []) (t' := (jm_S0 L, M, J)) (fun _ _ => rfl) rfl rfl (g165 L d M J (a0 + 3) (-1) (jm_fH3 L ha0) h2) ?_
  cases H
  exact jm_go.ret 1 (fun _ _ => rfl)


/-- X3_comeFromNowhere -/
def f36 (M : jm_MM) (a0 : Nat) : Option (jm_MM) := jm_bd (f165 M (a0 + 4) 24 0) (fun q1 => jm_bd (f165 q1 (a0 + 5) 24 (-1)) (fun q3 => jm_bd (f165 q3 (a0 + 6) 24 1) (fun q5 => some q5)))
theorem g36 (L : Nat) (d : Nat) (M : jm_MM) (J : jm_JJ) (a0 : Nat) (ha0 : jm_isH a0)  (r : jm_MM) (H : f36 M a0 = some r) : jm_go (d + 1) (jm_G 36) 0 (jm_en 1 [.ref a0]) [] (jm_S0 L, M, J) (none, (jm_S0 L, r, J)) := by
  unfold f36 at H
  refine jm_go.gfr 2 (b := jm_is (jm_S0 L) a0 3) (o := (jm_S0 L).2.2.2.2 a0 4) (q := a0 + 4) (pc' := 4) (ls' := [some (.ref a0)]) (st' := []) (t' := (jm_S0 L, M, J)) (fun _ _ => rfl) (jm_fH L ha0) (jm_rH4 L ha0) ?_
  obtain ⟨q1, h2, H⟩ := jm_bdo H
  refine jm_go.call 2 (d := d) (b := true) (u := 165) (as := [.ref (a0 + 4), .int 0]) (pc' := 8) (ls' := [some (.ref a0)]) (st' := []) (t' := (jm_S0 L, M, J)) (fun _ _ => rfl) rfl rfl (g165 L d M J (a0 + 4) 0 (jm_fH4 L ha0) h2) ?_
  refine jm_go.gfr 2 (b := jm_is (jm_S0 L) a0 3) (o := (jm_S0 L).2.2.2.2 a0 5) (q := a0 + 5) (pc' := 12) (ls' := [some (.ref a0)]) (st' := []) (t' := (jm_S0 L, q1, J)) (fun _ _ => rfl) (jm_fH L ha0) (jm_rH5 L ha0) ?_
  obtain ⟨q3, h4, H⟩ := jm_bdo H
  refine jm_go.call 2 (d := d) (b := true) (u := 165) (as := [.ref (a0 + 5), .int (-1)]) (pc' := 16) (ls' := [some (.ref a0)]) (st' := []) (t' := (jm_S0 L, q1, J)) (fun _ _ => rfl) rfl rfl (g165 L d q1 J (a0 + 5) (-1) (jm_fH5 L ha0) h4) ?_
  refine jm_go.gfr 2 (b := jm_is (jm_S0 L) a0 3) (o := (jm_S0 L).2.2.2.2 a0 6) (q := a0 + 6) (pc' := 20) (ls' := [some (.ref a0)]) (st' := []) (t' := (jm_S0 L, q3, J)) (fun _ _ => rfl) (jm_fH L ha0) (jm_rH6 L ha0) ?_
  obtain ⟨q5, h6, H⟩ := jm_bdo H
  refine jm_go.call 2 (d := d) (b := true) (u := 165) (as := [.ref (a0 + 6), .int 1]) (pc' := 24) (ls' := [some (.ref a0)]) (st' := []) (t' := (jm_S0 L, q3, J)) (fun _ _ => rfl) rfl rfl (g165 L d q3 J (a0 + 6) 1 (jm_fH6 L ha0) h6) ?_
  cases H
  exact jm_go.ret 1 (fun _ _ => rfl)

def f35_43 (M : jm_MM) (a0 : Nat) (kb : Int32 → Int32 → Int32 → Int32 → Option (Int32)) (ke0 : Int32 → Option (Int32)) (v2 : Int32) (v3 : Int32) (v4 : Int32) (v5 : Int32) (s0 : Int32) : Option (Int32) := bif decide (s0 ≤ v4) then (kb v2 v3 v4 (v5 + 1)) else (kb v2 v5 s0 (v5 + 1))
theorem g35_43 (L : Nat) (d : Nat) (M : jm_MM) (J : jm_JJ) (a0 : Nat) (ha0 : jm_isH a0) (kb : Int32 → Int32 → Int32 → Int32 → Option (Int32)) (hkb : ∀  (v2 : Int32) (v3 : Int32) (v4 : Int32) (v5 : Int32) (r : Int32), kb v2 v3 v4 v5 = some r → jm_go (d + 2) (jm_G 35) 8 [some (.ref a0), some (.ref 2), some (.int v2), some (.int v3), some (.int v4), some (.int v5), none, none] [] (jm_S0 L, M, J) (some (.int r), (jm_S0 L, M, J))) (ke0 : Int32 → Option (Int32)) (hke0 : ∀  (v3 : Int32) (r : Int32), ke0 v3 = some r → jm_go (d + 2) (jm_G 35) 65 [none, none, none, some (.int v3), none, none, none, none] [] (jm_S0 L, M, J) (some (.int r), (jm_S0 L, M, J))) (v2 : Int32) (v3 : Int32) (v4 : Int32) (v5 : Int32) (s0 : Int32) (r : Int32) (H : f35_43 M a0 kb ke0 v2 v3 v4 v5 s0 = some r) : jm_go (d + 2) (jm_G 35) 43 [some (.ref a0), some (.ref 2), some (.int v2), some (.int v3), some (.int v4), some (.int v5), none, none] [.int s0] (jm_S0 L, M, J) (some (.int r), (jm_S0 L, M, J)) := by
  unfold f35_43 at H
  rcases jm_bro H with ⟨h6, H⟩ | ⟨h6, H⟩
  · refine jm_go.brt 4 (b := decide (s0 ≤ v4)) (p1 := 59) (l1 := [some (.ref a0), some (.ref 2), some (.int v2), some (.int v3), some (.int v4), some (.int v5), none, some (.int s0)]) (s1 := []) (t1 := (jm_S0 L, M, J)) (p2 := 52) (l2 := [some (.ref a0), some (.ref 2), some (.int v2), some (.int v3), some (.int v4), some (.int v5), none, some (.int s0)]) (s2 := []) (t2 := (jm_S0 L, M, J)) (fun _ _ => rfl) h6 ?_
    refine jm_go.blk 2 (pc' := 8) (ls' := [some (.ref a0), some (.ref 2), some (.int v2), some (.int v3), some (.int v4), some (.int (v5 + 1)), none, none]) (st' := []) (t' := (jm_S0 L, M, J)) (fun _ _ => rfl) ?_
    exact hkb v2 v3 v4 (v5 + 1) _ H
  · refine jm_go.brf 4 (b := decide (s0 ≤ v4)) (p1 := 59) (l1 := [some (.ref a0), some (.ref 2), some (.int v2), some (.int v3), some (.int v4), some (.int v5), none, some (.int s0)]) (s1 := []) (t1 := (jm_S0 L, M, J)) (p2 := 52) (l2 := [some (.ref a0), some (.ref 2), some (.int v2), some (.int v3), some (.int v4), some (.int v5), none, some (.int s0)]) (s2 := []) (t2 := (jm_S0 L, M, J)) (fun _ _ => rfl) h6 ?_
    refine jm_go.blk 6 (pc' := 8) (ls' := [some (.ref a0), some (.ref 2), some (.int v2), some (.int v5), some (.int s0), some (.int (v5 + 1)), none, none]) (st' := []) (t' := (jm_S0 L, M, J)) (fun _ _ => rfl) ?_
    exact hkb v2 v5 s0 (v5 + 1) _ H

def f35_8 (M : jm_MM) (a0 : Nat) (ke0 : Int32 → Option (Int32)) : Nat → Int32 → Int32 → Int32 → Int32 → Option (Int32)
  | 0, _, _, _, _ => none
  | n0 + 1, v2, v3, v4, v5 => bif decide ((M a0 0) ≤ v5) then (ke0 v3) else (jm_gd (jm_inb v5 24) (bif !decide (((M (a0 + 1) v5.toNatClampNeg) &&& v2) = 0) then (jm_bd (f20 M ((M (a0 + 1) v5.toNatClampNeg) &&& v2)) (fun q4 => f35_43 M a0 (f35_8 M a0 ke0 n0) ke0 v2 v3 v4 v5 q4)) else (f35_43 M a0 (f35_8 M a0 ke0 n0) ke0 v2 v3 v4 v5 0)))
theorem g35_8 (L : Nat) (d : Nat) (M : jm_MM) (J : jm_JJ) (a0 : Nat) (ha0 : jm_isH a0) (ke0 : Int32 → Option (Int32)) (hke0 : ∀  (v3 : Int32) (r : Int32), ke0 v3 = some r → jm_go (d + 2) (jm_G 35) 65 [none, none, none, some (.int v3), none, none, none, none] [] (jm_S0 L, M, J) (some (.int r), (jm_S0 L, M, J))) : ∀ (n0 : Nat) (v2 : Int32) (v3 : Int32) (v4 : Int32) (v5 : Int32) (r : Int32), f35_8 M a0 ke0 n0 v2 v3 v4 v5 = some r → jm_go (d + 2) (jm_G 35) 8 [some (.ref a0), some (.ref 2), some (.int v2), some (.int v3), some (.int v4), some (.int v5), none, none] [] (jm_S0 L, M, J) (some (.int r), (jm_S0 L, M, J)) := by
  intro n0
  induction n0 with
  | zero => intro v2 v3 v4 v5 r H; cases H
  | succ n0 ih =>
    intro v2 v3 v4 v5 r H
    have hkb := ih
    unfold f35_8 at H
    refine jm_go.grd 3 (b := jm_is (jm_S0 L) a0 3) (pc' := 14) (ls' := [some (.ref a0), some (.ref 2), some (.int v2), some (.int v3), some (.int v4), some (.int v5), none, none]) (st' := [.int (M a0 0), .int v5]) (t' := (jm_S0 L, M, J)) (fun _ _ => rfl) (jm_fH L ha0) ?_
    rcases jm_bro H with ⟨h1, H⟩ | ⟨h1, H⟩
    · refine jm_go.brt 1 (b := decide ((M a0 0) ≤ v5)) (p1 := 65) (l1 := [some (.ref a0), some (.ref 2), some (.int v2), some (.int v3), some (.int v4), some (.int v5), none, none]) (s1 := []) (t1 := (jm_S0 L, M, J)) (p2 := 17) (l2 := [some (.ref a0), some (.ref 2), some (.int v2), some (.int v3), some (.int v4), some (.int v5), none, none]) (s2 := []) (t2 := (jm_S0 L, M, J)) (fun _ _ => rfl) h1 ?_
      refine jm_go.lab (ls' := [none, none, none, some (.int v3), none, none, none, none]) (fun i hi => by cases hi; rfl) ?_
      exact hke0 v3 _ H
    · refine jm_go.brf 1 (b := decide ((M a0 0) ≤ v5)) (p1 := 65) (l1 := [some (.ref a0), some (.ref 2), some (.int v2), some (.int v3), some (.int v4), some (.int v5), none, none]) (s1 := []) (t1 := (jm_S0 L, M, J)) (p2 := 17) (l2 := [some (.ref a0), some (.ref 2), some (.int v2), some (.int v3), some (.int v4), some (.int v5), none, none]) (s2 := []) (t2 := (jm_S0 L, M, J)) (fun _ _ => rfl) h1 ?_
      refine jm_go.gfr 2 (b := jm_is (jm_S0 L) a0 3) (o := (jm_S0 L).2.2.2.2 a0 1) (q := a0 + 1) (pc' := 21) (ls' := [some (.ref a0), some (.ref 2), some (.int v2), some (.int v3), some (.int v4), some (.int v5), none, none]) (st' := []) (t' := (jm_S0 L, M, J)) (fun _ _ => rfl) (jm_fH L ha0) (jm_rH1 L ha0) ?_
      obtain ⟨h2, H⟩ := jm_gdo H
      refine jm_go.grd 2 (b := ((Nat.beq 0 1 && Nat.beq (a0 + 1) 0) || (Nat.beq 0 0 && jm_is (jm_S0 L) (a0 + 1) 9)) && jm_inb v5 ((jm_S0 L).2.2.2.1 (a0 + 1))) (pc' := 24) (ls' := [some (.ref a0), some (.ref 2), some (.int v2), some (.int v3), some (.int v4), some (.int v5), none, none]) (st' := [.int (M (a0 + 1) v5.toNatClampNeg)]) (t' := (jm_S0 L, M, J)) (fun _ _ => rfl) (jm_gia (jm_fH1 L ha0) h2) ?_
      rcases jm_bro H with ⟨h3, H⟩ | ⟨h3, H⟩
      · refine jm_go.brt 5 (b := !decide (((M (a0 + 1) v5.toNatClampNeg) &&& v2) = 0)) (p1 := 37) (l1 := [some (.ref a0), some (.ref 2), some (.int v2), some (.int v3), some (.int v4), some (.int v5), some (.int ((M (a0 + 1) v5.toNatClampNeg) &&& v2)), none]) (s1 := []) (t1 := (jm_S0 L, M, J)) (p2 := 33) (l2 := [some (.ref a0), some (.ref 2), some (.int v2), some (.int v3), some (.int v4), some (.int v5), some (.int ((M (a0 + 1) v5.toNatClampNeg) &&& v2)), none]) (s2 := []) (t2 := (jm_S0 L, M, J)) (fun _ _ => rfl) h3 ?_
        obtain ⟨q4, h5, H⟩ := jm_bdo H
        refine jm_go.call 3 (d := d + 1) (b := true) (u := 20) (as := [.ref 2, .int ((M (a0 + 1) v5.toNatClampNeg) &&& v2)]) (pc' := 43) (ls' := [some (.ref a0), some (.ref 2), some (.int v2), some (.int v3), some (.int v4), some (.int v5), some (.int ((M (a0 + 1) v5.toNatClampNeg) &&& v2)), none]) (st' := []) (t' := (jm_S0 L, M, J)) (fun _ _ => rfl) rfl rfl (g20 L d M J ((M (a0 + 1) v5.toNatClampNeg) &&& v2) _ h5) ?_
        refine jm_go.lab (ls' := [some (.ref a0), some (.ref 2), some (.int v2), some (.int v3), some (.int v4), some (.int v5), none, none]) (fun i hi => by cases hi; rfl) ?_
        exact g35_43 L d M J a0 ha0 _ hkb _ hke0 v2 v3 v4 v5 q4 _ H
      · refine jm_go.brf 5 (b := !decide (((M (a0 + 1) v5.toNatClampNeg) &&& v2) = 0)) (p1 := 37) (l1 := [some (.ref a0), some (.ref 2), some (.int v2), some (.int v3), some (.int v4), some (.int v5), some (.int ((M (a0 + 1) v5.toNatClampNeg) &&& v2)), none]) (s1 := []) (t1 := (jm_S0 L, M, J)) (p2 := 33) (l2 := [some (.ref a0), some (.ref 2), some (.int v2), some (.int v3), some (.int v4), some (.int v5), some (.int ((M (a0 + 1) v5.toNatClampNeg) &&& v2)), none]) (s2 := []) (t2 := (jm_S0 L, M, J)) (fun _ _ => rfl) h3 ?_
        refine jm_go.blk 2 (pc' := 43) (ls' := [some (.ref a0), some (.ref 2), some (.int v2), some (.int v3), some (.int v4), some (.int v5), some (.int ((M (a0 + 1) v5.toNatClampNeg) &&& v2)), none]) (st' := [.int 0]) (t' := (jm_S0 L, M, J)) (fun _ _ => rfl) ?_
        refine jm_go.lab (ls' := [some (.ref a0), some (.ref 2), some (.int v2), some (.int v3), some (.int v4), some (.int v5), none, none]) (fun i hi => by cases hi; rfl) ?_
        exact g35_43 L d M J a0 ha0 _ hkb _ hke0 v2 v3 v4 v5 0 _ H

/-- X3_withMostOf -/
def f35 (M : jm_MM) (a0 : Nat) (x1 : Int32) : Option (Int32) := f35_8 M a0 (fun ve7 => some ve7) jm_F x1 (-1) 0 0
theorem g35 (L : Nat) (d : Nat) (M : jm_MM) (J : jm_JJ) (a0 : Nat) (ha0 : jm_isH a0) (x1 : Int32) (r : Int32) (H : f35 M a0 x1 = some r) : jm_go (d + 2) (jm_G 35) 0 (jm_en 8 [.ref a0, .ref 2, .int x1]) [] (jm_S0 L, M, J) (some (.int r), (jm_S0 L, M, J)) := by
  unfold f35 at H
  refine jm_go.blk 6 (pc' := 8) (ls' := [some (.ref a0), some (.ref 2), some (.int x1), some (.int (-1)), some (.int 0), some (.int 0), none, none]) (st' := []) (t' := (jm_S0 L, M, J)) (fun _ _ => rfl) ?_
  exact g35_8 L d M J a0 ha0
    _ (fun ve7 r H => by
      cases H
      exact jm_go.ret 2 (fun _ _ => rfl)
      )
    _ x1 (-1) 0 0 _ H

def f34_2 (a0 : Nat) (b0 : Nat) (ke0 : jm_MM → Option (jm_MM)) : Nat → jm_MM → Int32 → Option (jm_MM)
  | 0, _, _ => none
  | n0 + 1, M, v3 => bif decide ((M a0 0) ≤ v3) then (ke0 M) else (jm_gd (jm_inb v3 24) (jm_bd (f35 M b0 (M (a0 + 1) v3.toNatClampNeg)) (fun q3 => jm_gd (jm_inb v3 24) ((f34_2 a0 b0 ke0 n0) (jm_up M (a0 + 3) v3.toNatClampNeg q3) (v3 + 1)))))
theorem g34_2 (L : Nat) (d : Nat) (_M : jm_MM) (J : jm_JJ) (a0 : Nat) (ha0 : jm_isH a0) (b0 : Nat) (hb0 : jm_isH b0) (ke0 : jm_MM → Option (jm_MM)) (hke0 : ∀ (M : jm_MM) (r : jm_MM), ke0 M = some r → jm_go (d + 3) (jm_G 34) 33 [none, none, none, none] [] (jm_S0 L, M, J) (none, (jm_S0 L, r, J))) : ∀ (n0 : Nat) (M : jm_MM) (v3 : Int32) (r : jm_MM), f34_2 a0 b0 ke0 n0 M v3 = some r → jm_go (d + 3) (jm_G 34) 2 [some (.ref a0), some (.ref 2), some (.ref b0), some (.int v3)] [] (jm_S0 L, M, J) (none, (jm_S0 L, r, J)) := by
  intro n0
  induction n0 with
  | zero => intro M v3 r H; cases H
  | succ n0 ih =>
    intro M v3 r H
    have hkb := ih
    unfold f34_2 at H
    refine jm_go.grd 3 (b := jm_is (jm_S0 L) a0 3) (pc' := 7) (ls' := [some (.ref a0), some (.ref 2), some (.ref b0), some (.int v3)]) (st' := [.int (M a0 0), .int v3]) (t' := (jm_S0 L, M, J)) (fun _ _ => rfl) (jm_fH L ha0) ?_
    rcases jm_bro H with ⟨h1, H⟩ | ⟨h1, H⟩
    · refine jm_go.brt 1 (b := decide ((M a0 0) ≤ v3)) (p1 := 33) (l1 := [some (.ref a0), some (.ref 2), some (.ref b0), some (.int v3)]) (s1 := []) (t1 := (jm_S0 L, M, J)) (p2 := 10) (l2 := [some (.ref a0), some (.ref 2), some (.ref b0), some (.int v3)]) (s2 := []) (t2 := (jm_S0 L, M, J)) (fun _ _ => rfl) h1 ?_
      refine jm_go.lab (ls' := [none, none, none, none]) (fun i hi => by cases hi; rfl) ?_
      exact hke0 M _ H
    · refine jm_go.brf 1 (b := decide ((M a0 0) ≤ v3)) (p1 := 33) (l1 := [some (.ref a0), some (.ref 2), some (.ref b0), some (.int v3)]) (s1 := []) (t1 := (jm_S0 L, M, J)) (p2 := 10) (l2 := [some (.ref a0), some (.ref 2), some (.ref b0), some (.int v3)]) (s2 := []) (t2 := (jm_S0 L, M, J)) (fun _ _ => rfl) h1 ?_
      refine jm_go.gfr 2 (b := jm_is (jm_S0 L) a0 3) (o := (jm_S0 L).2.2.2.2 a0 3) (q := a0 + 3) (pc' := 14) (ls' := [some (.ref a0), some (.ref 2), some (.ref b0), some (.int v3)]) (st' := []) (t' := (jm_S0 L, M, J)) (fun _ _ => rfl) (jm_fH L ha0) (jm_rH3 L ha0) ?_
      refine jm_go.gfr 5 (b := jm_is (jm_S0 L) a0 3) (o := (jm_S0 L).2.2.2.2 a0 1) (q := a0 + 1) (pc' := 21) (ls' := [some (.ref a0), some (.ref 2), some (.ref b0), some (.int v3)]) (st' := [.ref 2, .ref b0, .int v3, .ref (a0 + 3)]) (t' := (jm_S0 L, M, J)) (fun _ _ => rfl) (jm_fH L ha0) (jm_rH1 L ha0) ?_
      obtain ⟨h2, H⟩ := jm_gdo H
      refine jm_go.grd 2 (b := ((Nat.beq 0 1 && Nat.beq (a0 + 1) 0) || (Nat.beq 0 0 && jm_is (jm_S0 L) (a0 + 1) 9)) && jm_inb v3 ((jm_S0 L).2.2.2.1 (a0 + 1))) (pc' := 23) (ls' := [some (.ref a0), some (.ref 2), some (.ref b0), some (.int v3)]) (st' := [.int (M (a0 + 1) v3.toNatClampNeg), .ref 2, .ref b0, .int v3, .ref (a0 + 3)]) (t' := (jm_S0 L, M, J)) (fun _ _ => rfl) (jm_gia (jm_fH1 L ha0) h2) ?_
      obtain ⟨q3, h4, H⟩ := jm_bdo H
      refine jm_go.call 1 (d := d + 2) (b := jm_is (jm_S0 L) b0 3) (u := 35) (as := [.ref b0, .ref 2, .int (M (a0 + 1) v3.toNatClampNeg)]) (pc' := 26) (ls' := [some (.ref a0), some (.ref 2), some (.ref b0), some (.int v3)]) (st' := [.int v3, .ref (a0 + 3)]) (t' := (jm_S0 L, M, J)) (fun _ _ => rfl) (jm_fH L hb0) rfl (g35 L d M J b0 hb0 (M (a0 + 1) v3.toNatClampNeg) _ h4) ?_
      obtain ⟨h5, H⟩ := jm_gdo H
      refine jm_go.grd 1 (b := jm_is (jm_S0 L) (a0 + 3) 9 && jm_inb v3 ((jm_S0 L).2.2.2.1 (a0 + 3))) (pc' := 27) (ls' := [some (.ref a0), some (.ref 2), some (.ref b0), some (.int v3)]) (st' := []) (t' := (jm_S0 L, (jm_up M (a0 + 3) v3.toNatClampNeg q3), J)) (fun _ _ => rfl) (jm_gis (jm_fH3 L ha0) h5) ?_
      refine jm_go.blk 2 (pc' := 2) (ls' := [some (.ref a0), some (.ref 2), some (.ref b0), some (.int (v3 + 1))]) (st' := []) (t' := (jm_S0 L, (jm_up M (a0 + 3) v3.toNatClampNeg q3), J)) (fun _ _ => rfl) ?_
      exact hkb (jm_up M (a0 + 3) v3.toNatClampNeg q3) (v3 + 1) _ H

/-- X3_goOnIn -/
def f34 (M : jm_MM) (a0 : Nat) (b0 : Nat) : Option (jm_MM) := f34_2 a0 b0 (fun Me6 => some Me6) jm_F M 0
theorem g34 (L : Nat) (d : Nat) (M : jm_MM) (J : jm_JJ) (a0 : Nat) (ha0 : jm_isH a0) (b0 : Nat) (hb0 : jm_isH b0)  (r : jm_MM) (H : f34 M a0 b0 = some r) : jm_go (d + 3) (jm_G 34) 0 (jm_en 4 [.ref a0, .ref 2, .ref b0]) [] (jm_S0 L, M, J) (none, (jm_S0 L, r, J)) := by
  unfold f34 at H
  refine jm_go.blk 2 (pc' := 2) (ls' := [some (.ref a0), some (.ref 2), some (.ref b0), some (.int 0)]) (st' := []) (t' := (jm_S0 L, M, J)) (fun _ _ => rfl) ?_
  exact g34_2 L d M J a0 ha0 b0 hb0
    _ (fun Me6 r H => by
      cases H
      exact jm_go.ret 1 (fun _ _ => rfl)
      )
    _ M 0 _ H

def f37_6 (a0 : Nat) (b0 : Nat) (ke0 : jm_MM → Option (jm_MM)) : Nat → jm_MM → Int32 → Option (jm_MM)
  | 0, _, _ => none
  | n0 + 1, M, v2 => bif decide ((M b0 0) ≤ v2) then (ke0 M) else (jm_gd (jm_inb v2 24) (bif decide ((M (b0 + 3) v2.toNatClampNeg) = (-1)) then ((f37_6 a0 b0 ke0 n0) M (v2 + 1)) else (jm_gd (jm_inb (M (b0 + 3) v2.toNatClampNeg) 24) (bif !decide ((M (a0 + 5) ((M (b0 + 3) v2.toNatClampNeg).toNatClampNeg)) = (-1)) then (jm_gd (jm_inb (M (b0 + 3) v2.toNatClampNeg) 24) (jm_gd (jm_inb (M (b0 + 3) v2.toNatClampNeg) 24) ((f37_6 a0 b0 ke0 n0) (jm_up M (a0 + 4) ((M (b0 + 3) v2.toNatClampNeg).toNatClampNeg) ((M (a0 + 4) ((M (b0 + 3) v2.toNatClampNeg).toNatClampNeg)) ||| (1 <<< (v2 &&& 31)))) (v2 + 1)))) else (jm_gd (jm_inb (M (b0 + 3) v2.toNatClampNeg) 24) (jm_gd (jm_inb v2 24) (jm_gd (jm_inb (M (b0 + 3) v2.toNatClampNeg) 24) (jm_gd (jm_inb (M (b0 + 3) v2.toNatClampNeg) 24) (jm_gd (jm_inb (M (b0 + 3) v2.toNatClampNeg) 24) ((f37_6 a0 b0 ke0 n0) (jm_up (jm_up (jm_up M (a0 + 5) ((M (b0 + 3) v2.toNatClampNeg).toNatClampNeg) v2) (a0 + 6) ((M (b0 + 3) v2.toNatClampNeg).toNatClampNeg) (((jm_up M (a0 + 5) ((M (b0 + 3) v2.toNatClampNeg).toNatClampNeg) v2) (b0 + 6) v2.toNatClampNeg) + 1)) (a0 + 4) ((M (b0 + 3) v2.toNatClampNeg).toNatClampNeg) (((jm_up (jm_up M (a0 + 5) ((M (b0 + 3) v2.toNatClampNeg).toNatClampNeg) v2) (a0 + 6) ((M (b0 + 3) v2.toNatClampNeg).toNatClampNeg) (((jm_up M (a0 + 5) ((M (b0 + 3) v2.toNatClampNeg).toNatClampNeg) v2) (b0 + 6) v2.toNatClampNeg) + 1)) (a0 + 4) ((M (b0 + 3) v2.toNatClampNeg).toNatClampNeg)) ||| (1 <<< (v2 &&& 31)))) (v2 + 1)))))))))))
theorem g37_6 (L : Nat) (d : Nat) (_M : jm_MM) (J : jm_JJ) (a0 : Nat) (ha0 : jm_isH a0) (b0 : Nat) (hb0 : jm_isH b0) (ke0 : jm_MM → Option (jm_MM)) (hke0 : ∀ (M : jm_MM) (r : jm_MM), ke0 M = some r → jm_go (d + 2) (jm_G 37) 75 [none, none, none, none] [] (jm_S0 L, M, J) (none, (jm_S0 L, r, J))) : ∀ (n0 : Nat) (M : jm_MM) (v2 : Int32) (r : jm_MM), f37_6 a0 b0 ke0 n0 M v2 = some r → jm_go (d + 2) (jm_G 37) 6 [some (.ref a0), some (.ref b0), some (.int v2), none] [] (jm_S0 L, M, J) (none, (jm_S0 L, r, J)) := by
  intro n0
  induction n0 with
  | zero => intro M v2 r H; cases H
  | succ n0 ih =>
    intro M v2 r H
    have hkb := ih
    unfold f37_6 at H
    refine jm_go.grd 3 (b := jm_is (jm_S0 L) b0 3) (pc' := 11) (ls' := [some (.ref a0), some (.ref b0), some (.int v2), none]) (st' := [.int (M b0 0), .int v2]) (t' := (jm_S0 L, M, J)) (fun _ _ => rfl) (jm_fH L hb0) ?_
    rcases jm_bro H with ⟨h3, H⟩ | ⟨h3, H⟩
    · refine jm_go.brt 1 (b := decide ((M b0 0) ≤ v2)) (p1 := 75) (l1 := [some (.ref a0), some (.ref b0), some (.int v2), none]) (s1 := []) (t1 := (jm_S0 L, M, J)) (p2 := 14) (l2 := [some (.ref a0), some (.ref b0), some (.int v2), none]) (s2 := []) (t2 := (jm_S0 L, M, J)) (fun _ _ => rfl) h3 ?_
      refine jm_go.lab (ls' := [none, none, none, none]) (fun i hi => by cases hi; rfl) ?_
      exact hke0 M _ H
    · refine jm_go.brf 1 (b := decide ((M b0 0) ≤ v2)) (p1 := 75) (l1 := [some (.ref a0), some (.ref b0), some (.int v2), none]) (s1 := []) (t1 := (jm_S0 L, M, J)) (p2 := 14) (l2 := [some (.ref a0), some (.ref b0), some (.int v2), none]) (s2 := []) (t2 := (jm_S0 L, M, J)) (fun _ _ => rfl) h3 ?_
      refine jm_go.gfr 2 (b := jm_is (jm_S0 L) b0 3) (o := (jm_S0 L).2.2.2.2 b0 3) (q := b0 + 3) (pc' := 18) (ls' := [some (.ref a0), some (.ref b0), some (.int v2), none]) (st' := []) (t' := (jm_S0 L, M, J)) (fun _ _ => rfl) (jm_fH L hb0) (jm_rH3 L hb0) ?_
      obtain ⟨h4, H⟩ := jm_gdo H
      refine jm_go.grd 2 (b := ((Nat.beq 0 1 && Nat.beq (b0 + 3) 0) || (Nat.beq 0 0 && jm_is (jm_S0 L) (b0 + 3) 9)) && jm_inb v2 ((jm_S0 L).2.2.2.1 (b0 + 3))) (pc' := 20) (ls' := [some (.ref a0), some (.ref b0), some (.int v2), none]) (st' := [.int (M (b0 + 3) v2.toNatClampNeg)]) (t' := (jm_S0 L, M, J)) (fun _ _ => rfl) (jm_gia (jm_fH3 L hb0) h4) ?_
      rcases jm_bro H with ⟨h5, H⟩ | ⟨h5, H⟩
      · refine jm_go.brt 4 (b := decide ((M (b0 + 3) v2.toNatClampNeg) = (-1))) (p1 := 69) (l1 := [some (.ref a0), some (.ref b0), some (.int v2), some (.int (M (b0 + 3) v2.toNatClampNeg))]) (s1 := []) (t1 := (jm_S0 L, M, J)) (p2 := 26) (l2 := [some (.ref a0), some (.ref b0), some (.int v2), some (.int (M (b0 + 3) v2.toNatClampNeg))]) (s2 := []) (t2 := (jm_S0 L, M, J)) (fun _ _ => rfl) h5 ?_
        refine jm_go.blk 2 (pc' := 6) (ls' := [some (.ref a0), some (.ref b0), some (.int (v2 + 1)), none]) (st' := []) (t' := (jm_S0 L, M, J)) (fun _ _ => rfl) ?_
        exact hkb M (v2 + 1) _ H
      · refine jm_go.brf 4 (b := decide ((M (b0 + 3) v2.toNatClampNeg) = (-1))) (p1 := 69) (l1 := [some (.ref a0), some (.ref b0), some (.int v2), some (.int (M (b0 + 3) v2.toNatClampNeg))]) (s1 := []) (t1 := (jm_S0 L, M, J)) (p2 := 26) (l2 := [some (.ref a0), some (.ref b0), some (.int v2), some (.int (M (b0 + 3) v2.toNatClampNeg))]) (s2 := []) (t2 := (jm_S0 L, M, J)) (fun _ _ => rfl) h5 ?_
        refine jm_go.gfr 2 (b := jm_is (jm_S0 L) a0 3) (o := (jm_S0 L).2.2.2.2 a0 5) (q := a0 + 5) (pc' := 30) (ls' := [some (.ref a0), some (.ref b0), some (.int v2), some (.int (M (b0 + 3) v2.toNatClampNeg))]) (st' := []) (t' := (jm_S0 L, M, J)) (fun _ _ => rfl) (jm_fH L ha0) (jm_rH5 L ha0) ?_
        obtain ⟨h6, H⟩ := jm_gdo H
        refine jm_go.grd 2 (b := ((Nat.beq 0 1 && Nat.beq (a0 + 5) 0) || (Nat.beq 0 0 && jm_is (jm_S0 L) (a0 + 5) 9)) && jm_inb (M (b0 + 3) v2.toNatClampNeg) ((jm_S0 L).2.2.2.1 (a0 + 5))) (pc' := 32) (ls' := [some (.ref a0), some (.ref b0), some (.int v2), some (.int (M (b0 + 3) v2.toNatClampNeg))]) (st' := [.int (M (a0 + 5) ((M (b0 + 3) v2.toNatClampNeg).toNatClampNeg))]) (t' := (jm_S0 L, M, J)) (fun _ _ => rfl) (jm_gia (jm_fH5 L ha0) h6) ?_
        rcases jm_bro H with ⟨h7, H⟩ | ⟨h7, H⟩
        · refine jm_go.brt 2 (b := !decide ((M (a0 + 5) ((M (b0 + 3) v2.toNatClampNeg).toNatClampNeg)) = (-1))) (p1 := 57) (l1 := [some (.ref a0), some (.ref b0), some (.int v2), some (.int (M (b0 + 3) v2.toNatClampNeg))]) (s1 := []) (t1 := (jm_S0 L, M, J)) (p2 := 36) (l2 := [some (.ref a0), some (.ref b0), some (.int v2), some (.int (M (b0 + 3) v2.toNatClampNeg))]) (s2 := []) (t2 := (jm_S0 L, M, J)) (fun _ _ => rfl) h7 ?_
          refine jm_go.gfr 2 (b := jm_is (jm_S0 L) a0 3) (o := (jm_S0 L).2.2.2.2 a0 4) (q := a0 + 4) (pc' := 61) (ls' := [some (.ref a0), some (.ref b0), some (.int v2), some (.int (M (b0 + 3) v2.toNatClampNeg))]) (st' := []) (t' := (jm_S0 L, M, J)) (fun _ _ => rfl) (jm_fH L ha0) (jm_rH4 L ha0) ?_
          obtain ⟨h8, H⟩ := jm_gdo H
          refine jm_go.grd 3 (b := ((Nat.beq 0 1 && Nat.beq (a0 + 4) 0) || (Nat.beq 0 0 && jm_is (jm_S0 L) (a0 + 4) 9)) && jm_inb (M (b0 + 3) v2.toNatClampNeg) ((jm_S0 L).2.2.2.1 (a0 + 4))) (pc' := 64) (ls' := [some (.ref a0), some (.ref b0), some (.int v2), some (.int (M (b0 + 3) v2.toNatClampNeg))]) (st' := [.int (M (a0 + 4) ((M (b0 + 3) v2.toNatClampNeg).toNatClampNeg)), .int (M (b0 + 3) v2.toNatClampNeg), .ref (a0 + 4)]) (t' := (jm_S0 L, M, J)) (fun _ _ => rfl) (jm_gia (jm_fH4 L ha0) h8) ?_
          obtain ⟨h9, H⟩ := jm_gdo H
          refine jm_go.grd 5 (b := jm_is (jm_S0 L) (a0 + 4) 9 && jm_inb (M (b0 + 3) v2.toNatClampNeg) ((jm_S0 L).2.2.2.1 (a0 + 4))) (pc' := 69) (ls' := [some (.ref a0), some (.ref b0), some (.int v2), some (.int (M (b0 + 3) v2.toNatClampNeg))]) (st' := []) (t' := (jm_S0 L, (jm_up M (a0 + 4) ((M (b0 + 3) v2.toNatClampNeg).toNatClampNeg) ((M (a0 + 4) ((M (b0 + 3) v2.toNatClampNeg).toNatClampNeg)) ||| (1 <<< (v2 &&& 31)))), J)) (fun _ _ => rfl) (jm_gis (jm_fH4 L ha0) h9) ?_
          refine jm_go.blk 2 (pc' := 6) (ls' := [some (.ref a0), some (.ref b0), some (.int (v2 + 1)), none]) (st' := []) (t' := (jm_S0 L, (jm_up M (a0 + 4) ((M (b0 + 3) v2.toNatClampNeg).toNatClampNeg) ((M (a0 + 4) ((M (b0 + 3) v2.toNatClampNeg).toNatClampNeg)) ||| (1 <<< (v2 &&& 31)))), J)) (fun _ _ => rfl) ?_
          exact hkb (jm_up M (a0 + 4) ((M (b0 + 3) v2.toNatClampNeg).toNatClampNeg) ((M (a0 + 4) ((M (b0 + 3) v2.toNatClampNeg).toNatClampNeg)) ||| (1 <<< (v2 &&& 31)))) (v2 + 1) _ H
        · refine jm_go.brf 2 (b := !decide ((M (a0 + 5) ((M (b0 + 3) v2.toNatClampNeg).toNatClampNeg)) = (-1))) (p1 := 57) (l1 := [some (.ref a0), some (.ref b0), some (.int v2), some (.int (M (b0 + 3) v2.toNatClampNeg))]) (s1 := []) (t1 := (jm_S0 L, M, J)) (p2 := 36) (l2 := [some (.ref a0), some (.ref b0), some (.int v2), some (.int (M (b0 + 3) v2.toNatClampNeg))]) (s2 := []) (t2 := (jm_S0 L, M, J)) (fun _ _ => rfl) h7 ?_
          refine jm_go.gfr 2 (b := jm_is (jm_S0 L) a0 3) (o := (jm_S0 L).2.2.2.2 a0 5) (q := a0 + 5) (pc' := 40) (ls' := [some (.ref a0), some (.ref b0), some (.int v2), some (.int (M (b0 + 3) v2.toNatClampNeg))]) (st' := []) (t' := (jm_S0 L, M, J)) (fun _ _ => rfl) (jm_fH L ha0) (jm_rH5 L ha0) ?_
          obtain ⟨h10, H⟩ := jm_gdo H
          refine jm_go.grd 3 (b := jm_is (jm_S0 L) (a0 + 5) 9 && jm_inb (M (b0 + 3) v2.toNatClampNeg) ((jm_S0 L).2.2.2.1 (a0 + 5))) (pc' := 43) (ls' := [some (.ref a0), some (.ref b0), some (.int v2), some (.int (M (b0 + 3) v2.toNatClampNeg))]) (st' := []) (t' := (jm_S0 L, (jm_up M (a0 + 5) ((M (b0 + 3) v2.toNatClampNeg).toNatClampNeg) v2), J)) (fun _ _ => rfl) (jm_gis (jm_fH5 L ha0) h10) ?_
          refine jm_go.gfr 2 (b := jm_is (jm_S0 L) a0 3) (o := (jm_S0 L).2.2.2.2 a0 6) (q := a0 + 6) (pc' := 47) (ls' := [some (.ref a0), some (.ref b0), some (.int v2), some (.int (M (b0 + 3) v2.toNatClampNeg))]) (st' := []) (t' := (jm_S0 L, (jm_up M (a0 + 5) ((M (b0 + 3) v2.toNatClampNeg).toNatClampNeg) v2), J)) (fun _ _ => rfl) (jm_fH L ha0) (jm_rH6 L ha0) ?_
          refine jm_go.gfr 3 (b := jm_is (jm_S0 L) b0 3) (o := (jm_S0 L).2.2.2.2 b0 6) (q := b0 + 6) (pc' := 52) (ls' := [some (.ref a0), some (.ref b0), some (.int v2), some (.int (M (b0 + 3) v2.toNatClampNeg))]) (st' := [.int (M (b0 + 3) v2.toNatClampNeg), .ref (a0 + 6)]) (t' := (jm_S0 L, (jm_up M (a0 + 5) ((M (b0 + 3) v2.toNatClampNeg).toNatClampNeg) v2), J)) (fun _ _ => rfl) (jm_fH L hb0) (jm_rH6 L hb0) ?_
          obtain ⟨h11, H⟩ := jm_gdo H
          refine jm_go.grd 2 (b := ((Nat.beq 0 1 && Nat.beq (b0 + 6) 0) || (Nat.beq 0 0 && jm_is (jm_S0 L) (b0 + 6) 9)) && jm_inb v2 ((jm_S0 L).2.2.2.1 (b0 + 6))) (pc' := 54) (ls' := [some (.ref a0), some (.ref b0), some (.int v2), some (.int (M (b0 + 3) v2.toNatClampNeg))]) (st' := [.int ((jm_up M (a0 + 5) ((M (b0 + 3) v2.toNatClampNeg).toNatClampNeg) v2) (b0 + 6) v2.toNatClampNeg), .int (M (b0 + 3) v2.toNatClampNeg), .ref (a0 + 6)]) (t' := (jm_S0 L, (jm_up M (a0 + 5) ((M (b0 + 3) v2.toNatClampNeg).toNatClampNeg) v2), J)) (fun _ _ => rfl) (jm_gia (jm_fH6 L hb0) h11) ?_
          obtain ⟨h12, H⟩ := jm_gdo H
          refine jm_go.grd 3 (b := jm_is (jm_S0 L) (a0 + 6) 9 && jm_inb (M (b0 + 3) v2.toNatClampNeg) ((jm_S0 L).2.2.2.1 (a0 + 6))) (pc' := 57) (ls' := [some (.ref a0), some (.ref b0), some (.int v2), some (.int (M (b0 + 3) v2.toNatClampNeg))]) (st' := []) (t' := (jm_S0 L, (jm_up (jm_up M (a0 + 5) ((M (b0 + 3) v2.toNatClampNeg).toNatClampNeg) v2) (a0 + 6) ((M (b0 + 3) v2.toNatClampNeg).toNatClampNeg) (((jm_up M (a0 + 5) ((M (b0 + 3) v2.toNatClampNeg).toNatClampNeg) v2) (b0 + 6) v2.toNatClampNeg) + 1)), J)) (fun _ _ => rfl) (jm_gis (jm_fH6 L ha0) h12) ?_
          refine jm_go.gfr 2 (b := jm_is (jm_S0 L) a0 3) (o := (jm_S0 L).2.2.2.2 a0 4) (q := a0 + 4) (pc' := 61) (ls' := [some (.ref a0), some (.ref b0), some (.int v2), some (.int (M (b0 + 3) v2.toNatClampNeg))]) (st' := []) (t' := (jm_S0 L, (jm_up (jm_up M (a0 + 5) ((M (b0 + 3) v2.toNatClampNeg).toNatClampNeg) v2) (a0 + 6) ((M (b0 + 3) v2.toNatClampNeg).toNatClampNeg) (((jm_up M (a0 + 5) ((M (b0 + 3) v2.toNatClampNeg).toNatClampNeg) v2) (b0 + 6) v2.toNatClampNeg) + 1)), J)) (fun _ _ => rfl) (jm_fH L ha0) (jm_rH4 L ha0) ?_
          obtain ⟨h13, H⟩ := jm_gdo H
          refine jm_go.grd 3 (b := ((Nat.beq 0 1 && Nat.beq (a0 + 4) 0) || (Nat.beq 0 0 && jm_is (jm_S0 L) (a0 + 4) 9)) && jm_inb (M (b0 + 3) v2.toNatClampNeg) ((jm_S0 L).2.2.2.1 (a0 + 4))) (pc' := 64) (ls' := [some (.ref a0), some (.ref b0), some (.int v2), some (.int (M (b0 + 3) v2.toNatClampNeg))]) (st' := [.int ((jm_up (jm_up M (a0 + 5) ((M (b0 + 3) v2.toNatClampNeg).toNatClampNeg) v2) (a0 + 6) ((M (b0 + 3) v2.toNatClampNeg).toNatClampNeg) (((jm_up M (a0 + 5) ((M (b0 + 3) v2.toNatClampNeg).toNatClampNeg) v2) (b0 + 6) v2.toNatClampNeg) + 1)) (a0 + 4) ((M (b0 + 3) v2.toNatClampNeg).toNatClampNeg)), .int (M (b0 + 3) v2.toNatClampNeg), .ref (a0 + 4)]) (t' := (jm_S0 L, (jm_up (jm_up M (a0 + 5) ((M (b0 + 3) v2.toNatClampNeg).toNatClampNeg) v2) (a0 + 6) ((M (b0 + 3) v2.toNatClampNeg).toNatClampNeg) (((jm_up M (a0 + 5) ((M (b0 + 3) v2.toNatClampNeg).toNatClampNeg) v2) (b0 + 6) v2.toNatClampNeg) + 1)), J)) (fun _ _ => rfl) (jm_gia (jm_fH4 L ha0) h13) ?_
          obtain ⟨h14, H⟩ := jm_gdo H
          refine jm_go.grd 5 (b := jm_is (jm_S0 L) (a0 + 4) 9 && jm_inb (M (b0 + 3) v2.toNatClampNeg) ((jm_S0 L).2.2.2.1 (a0 + 4))) (pc' := 69) (ls' := [some (.ref a0), some (.ref b0), some (.int v2), some (.int (M (b0 + 3) v2.toNatClampNeg))]) (st' := []) (t' := (jm_S0 L, (jm_up (jm_up (jm_up M (a0 + 5) ((M (b0 + 3) v2.toNatClampNeg).toNatClampNeg) v2) (a0 + 6) ((M (b0 + 3) v2.toNatClampNeg).toNatClampNeg) (((jm_up M (a0 + 5) ((M (b0 + 3) v2.toNatClampNeg).toNatClampNeg) v2) (b0 + 6) v2.toNatClampNeg) + 1)) (a0 + 4) ((M (b0 + 3) v2.toNatClampNeg).toNatClampNeg) (((jm_up (jm_up M (a0 + 5) ((M (b0 + 3) v2.toNatClampNeg).toNatClampNeg) v2) (a0 + 6) ((M (b0 + 3) v2.toNatClampNeg).toNatClampNeg) (((jm_up M (a0 + 5) ((M (b0 + 3) v2.toNatClampNeg).toNatClampNeg) v2) (b0 + 6) v2.toNatClampNeg) + 1)) (a0 + 4) ((M (b0 + 3) v2.toNatClampNeg).toNatClampNeg)) ||| (1 <<< (v2 &&& 31)))), J)) (fun _ _ => rfl) (jm_gis (jm_fH4 L ha0) h14) ?_
          refine jm_go.blk 2 (pc' := 6) (ls' := [some (.ref a0), some (.ref b0), some (.int (v2 + 1)), none]) (st' := []) (t' := (jm_S0 L, (jm_up (jm_up (jm_up M (a0 + 5) ((M (b0 + 3) v2.toNatClampNeg).toNatClampNeg) v2) (a0 + 6) ((M (b0 + 3) v2.toNatClampNeg).toNatClampNeg) (((jm_up M (a0 + 5) ((M (b0 + 3) v2.toNatClampNeg).toNatClampNeg) v2) (b0 + 6) v2.toNatClampNeg) + 1)) (a0 + 4) ((M (b0 + 3) v2.toNatClampNeg).toNatClampNeg) (((jm_up (jm_up M (a0 + 5) ((M (b0 + 3) v2.toNatClampNeg).toNatClampNeg) v2) (a0 + 6) ((M (b0 + 3) v2.toNatClampNeg).toNatClampNeg) (((jm_up M (a0 + 5) ((M (b0 + 3) v2.toNatClampNeg).toNatClampNeg) v2) (b0 + 6) v2.toNatClampNeg) + 1)) (a0 + 4) ((M (b0 + 3) v2.toNatClampNeg).toNatClampNeg)) ||| (1 <<< (v2 &&& 31)))), J)) (fun _ _ => rfl) ?_
          exact hkb (jm_up (jm_up (jm_up M (a0 + 5) ((M (b0 + 3) v2.toNatClampNeg).toNatClampNeg) v2) (a0 + 6) ((M (b0 + 3) v2.toNatClampNeg).toNatClampNeg) (((jm_up M (a0 + 5) ((M (b0 + 3) v2.toNatClampNeg).toNatClampNeg) v2) (b0 + 6) v2.toNatClampNeg) + 1)) (a0 + 4) ((M (b0 + 3) v2.toNatClampNeg).toNatClampNeg) (((jm_up (jm_up M (a0 + 5) ((M (b0 + 3) v2.toNatClampNeg).toNatClampNeg) v2) (a0 + 6) ((M (b0 + 3) v2.toNatClampNeg).toNatClampNeg) (((jm_up M (a0 + 5) ((M (b0 + 3) v2.toNatClampNeg).toNatClampNeg) v2) (b0 + 6) v2.toNatClampNeg) + 1)) (a0 + 4) ((M (b0 + 3) v2.toNatClampNeg).toNatClampNeg)) ||| (1 <<< (v2 &&& 31)))) (v2 + 1) _ H

/-- X3_comeFromThose -/
def f37 (M : jm_MM) (a0 : Nat) (b0 : Nat) : Option (jm_MM) := jm_bd (f36 M a0) (fun q1 => f37_6 a0 b0 (fun Me15 => some Me15) jm_F q1 0)
theorem g37 (L : Nat) (d : Nat) (M : jm_MM) (J : jm_JJ) (a0 : Nat) (ha0 : jm_isH a0) (b0 : Nat) (hb0 : jm_isH b0)  (r : jm_MM) (H : f37 M a0 b0 = some r) : jm_go (d + 2) (jm_G 37) 0 (jm_en 4 [.ref a0, .ref b0]) [] (jm_S0 L, M, J) (none, (jm_S0 L, r, J)) := by
  unfold f37 at H
  obtain ⟨q1, h2, H⟩ := jm_bdo H
  refine jm_go.call 2 (d := d + 1) (b := jm_is (jm_S0 L) a0 3) (u := 36) (as := [.ref a0]) (pc' := 4) (ls' := [some (.ref a0), some (.ref b0), none, none]) (st' := []) (t' := (jm_S0 L, M, J)) (fun _ _ => rfl) (jm_fH L ha0) rfl (g36 L d M J a0 ha0 _ h2) ?_
  refine jm_go.blk 2 (pc' := 6) (ls' := [some (.ref a0), some (.ref b0), some (.int 0), none]) (st' := []) (t' := (jm_S0 L, q1, J)) (fun _ _ => rfl) ?_
  exact g37_6 L d M J a0 ha0 b0 hb0
    _ (fun Me15 r H => by
      cases H
      exact jm_go.ret 1 (fun _ _ => rfl)
      )
    _ q1 0 _ H

def f22_19  (ke0 : jm_MM → Option (jm_MM)) : Nat → jm_MM → Int32 → Option (jm_MM)
  | 0, _, _ => none
  | n0 + 1, M, v2 => bif decide ((M 39 1) ≤ v2) then (ke0 M) else (jm_gd (jm_inb v2 6) (jm_bd (f1 M (42 + 10 * v2.toNatClampNeg) v2 (M 2 1)) (fun q4 => jm_gd (jm_inb v2 6) (jm_bd (f18 q4 v2) (fun q7 => jm_bd (f3 q4 (42 + 10 * v2.toNatClampNeg) q7) (fun q9 => jm_gd (jm_inb v2 6) (jm_gd (jm_inb v2 6) (jm_bd (f30 q9 (45 + 10 * v2.toNatClampNeg) (42 + 10 * v2.toNatClampNeg)) (fun q13 => jm_gd (jm_inb v2 6) (jm_bd (f33 q13 (45 + 10 * v2.toNatClampNeg)) (fun q16 => jm_gd (jm_inb v2 6) (jm_bd (f36 q16 (45 + 10 * v2.toNatClampNeg)) (fun q19 => (f22_19  ke0 n0) q19 (v2 + 1))))))))))))))
theorem g22_19 (L : Nat) (d : Nat) (_M : jm_MM) (J : jm_JJ) (ke0 : jm_MM → Option (jm_MM)) (hke0 : ∀ (M : jm_MM) (r : jm_MM), ke0 M = some r → jm_go (d + 4) (jm_G 22) 96 [some (.ref 39), some (.ref 2), none] [] (jm_S0 L, M, J) (some (.ref 39), (jm_S0 L, r, J))) : ∀ (n0 : Nat) (M : jm_MM) (v2 : Int32) (r : jm_MM), f22_19  ke0 n0 M v2 = some r → jm_go (d + 4) (jm_G 22) 19 [some (.ref 39), some (.ref 2), some (.int v2)] [] (jm_S0 L, M, J) (some (.ref 39), (jm_S0 L, r, J)) := by
  intro n0
  induction n0 with
  | zero => intro M v2 r H; cases H
  | succ n0 ih =>
    intro M v2 r H
    have hkb := ih
    unfold f22_19 at H
    rcases jm_bro H with ⟨h2, H⟩ | ⟨h2, H⟩
    · refine jm_go.brt 4 (b := decide ((M 39 1) ≤ v2)) (p1 := 96) (l1 := [some (.ref 39), some (.ref 2), some (.int v2)]) (s1 := []) (t1 := (jm_S0 L, M, J)) (p2 := 27) (l2 := [some (.ref 39), some (.ref 2), some (.int v2)]) (s2 := []) (t2 := (jm_S0 L, M, J)) (fun _ _ => rfl) h2 ?_
      refine jm_go.lab (ls' := [some (.ref 39), some (.ref 2), none]) (fun i hi => by cases hi; rfl) ?_
      exact hke0 M _ H
    · refine jm_go.brf 4 (b := decide ((M 39 1) ≤ v2)) (p1 := 96) (l1 := [some (.ref 39), some (.ref 2), some (.int v2)]) (s1 := []) (t1 := (jm_S0 L, M, J)) (p2 := 27) (l2 := [some (.ref 39), some (.ref 2), some (.int v2)]) (s2 := []) (t2 := (jm_S0 L, M, J)) (fun _ _ => rfl) h2 ?_
      obtain ⟨h3, H⟩ := jm_gdo H
      refine jm_go.gfr 4 (b := jm_inb v2 6) (o := (jm_S0 L).2.2.2.2 40 v2.toNatClampNeg) (q := 42 + 10 * v2.toNatClampNeg) (pc' := 33) (ls' := [some (.ref 39), some (.ref 2), some (.int v2)]) (st' := []) (t' := (jm_S0 L, M, J)) (fun _ _ => rfl) h3 (jm_aCr L h3) ?_
      obtain ⟨q4, h5, H⟩ := jm_bdo H
      refine jm_go.call 5 (d := d + 3) (b := jm_is (jm_S0 L) (42 + 10 * v2.toNatClampNeg) 0) (u := 1) (as := [.ref (42 + 10 * v2.toNatClampNeg), .ref 2, .int v2, .int (M 2 1)]) (pc' := 42) (ls' := [some (.ref 39), some (.ref 2), some (.int v2)]) (st' := []) (t' := (jm_S0 L, M, J)) (fun _ _ => rfl) (jm_fC L (jm_aC h3)) rfl (g1 L d M J (42 + 10 * v2.toNatClampNeg) (jm_aC h3) v2 (M 2 1) _ h5) ?_
      obtain ⟨h6, H⟩ := jm_gdo H
      refine jm_go.gfr 4 (b := jm_inb v2 6) (o := (jm_S0 L).2.2.2.2 40 v2.toNatClampNeg) (q := 42 + 10 * v2.toNatClampNeg) (pc' := 48) (ls' := [some (.ref 39), some (.ref 2), some (.int v2)]) (st' := []) (t' := (jm_S0 L, q4, J)) (fun _ _ => rfl) h6 (jm_aCr L h6) ?_
      obtain ⟨q7, h8, H⟩ := jm_bdo H
      refine jm_go.call 3 (d := d + 3) (b := true) (u := 18) (as := [.ref 2, .int v2]) (pc' := 53) (ls' := [some (.ref 39), some (.ref 2), some (.int v2)]) (st' := [.ref (42 + 10 * v2.toNatClampNeg)]) (t' := (jm_S0 L, q4, J)) (fun _ _ => rfl) rfl rfl (g18 L (d + 2) q4 J v2 _ h8) ?_
      obtain ⟨q9, h10, H⟩ := jm_bdo H
      refine jm_go.call 1 (d := d + 3) (b := jm_is (jm_S0 L) (42 + 10 * v2.toNatClampNeg) 0) (u := 3) (as := [.ref (42 + 10 * v2.toNatClampNeg), .int q7]) (pc' := 56) (ls' := [some (.ref 39), some (.ref 2), some (.int v2)]) (st' := []) (t' := (jm_S0 L, q4, J)) (fun _ _ => rfl) (jm_fC L (jm_aC h6)) rfl (g3 L d q4 J (42 + 10 * v2.toNatClampNeg) (jm_aC h6) q7 _ h10) ?_
      obtain ⟨h11, H⟩ := jm_gdo H
      refine jm_go.gfr 4 (b := jm_inb v2 6) (o := (jm_S0 L).2.2.2.2 41 v2.toNatClampNeg) (q := 45 + 10 * v2.toNatClampNeg) (pc' := 62) (ls' := [some (.ref 39), some (.ref 2), some (.int v2)]) (st' := []) (t' := (jm_S0 L, q9, J)) (fun _ _ => rfl) h11 (jm_aHr L h11) ?_
      obtain ⟨h12, H⟩ := jm_gdo H
      refine jm_go.gfr 5 (b := jm_inb v2 6) (o := (jm_S0 L).2.2.2.2 40 v2.toNatClampNeg) (q := 42 + 10 * v2.toNatClampNeg) (pc' := 69) (ls' := [some (.ref 39), some (.ref 2), some (.int v2)]) (st' := [.ref 2, .ref (45 + 10 * v2.toNatClampNeg)]) (t' := (jm_S0 L, q9, J)) (fun _ _ => rfl) h12 (jm_aCr L h12) ?_
      obtain ⟨q13, h14, H⟩ := jm_bdo H
      refine jm_go.call 1 (d := d + 3) (b := jm_is (jm_S0 L) (45 + 10 * v2.toNatClampNeg) 3) (u := 30) (as := [.ref (45 + 10 * v2.toNatClampNeg), .ref 2, .ref (42 + 10 * v2.toNatClampNeg)]) (pc' := 72) (ls' := [some (.ref 39), some (.ref 2), some (.int v2)]) (st' := []) (t' := (jm_S0 L, q9, J)) (fun _ _ => rfl) (jm_fH L (jm_aH h11)) rfl (g30 L (d + 1) q9 J (45 + 10 * v2.toNatClampNeg) (jm_aH h11) (42 + 10 * v2.toNatClampNeg) (jm_aC h12) _ h14) ?_
      obtain ⟨h15, H⟩ := jm_gdo H
      refine jm_go.gfr 4 (b := jm_inb v2 6) (o := (jm_S0 L).2.2.2.2 41 v2.toNatClampNeg) (q := 45 + 10 * v2.toNatClampNeg) (pc' := 78) (ls' := [some (.ref 39), some (.ref 2), some (.int v2)]) (st' := []) (t' := (jm_S0 L, q13, J)) (fun _ _ => rfl) h15 (jm_aHr L h15) ?_
      obtain ⟨q16, h17, H⟩ := jm_bdo H
      refine jm_go.call 1 (d := d + 3) (b := jm_is (jm_S0 L) (45 + 10 * v2.toNatClampNeg) 3) (u := 33) (as := [.ref (45 + 10 * v2.toNatClampNeg)]) (pc' := 81) (ls' := [some (.ref 39), some (.ref 2), some (.int v2)]) (st' := []) (t' := (jm_S0 L, q13, J)) (fun _ _ => rfl) (jm_fH L (jm_aH h15)) rfl (g33 L (d + 2) q13 J (45 + 10 * v2.toNatClampNeg) (jm_aH h15) _ h17) ?_
      obtain ⟨h18, H⟩ := jm_gdo H
      refine jm_go.gfr 4 (b := jm_inb v2 6) (o := (jm_S0 L).2.2.2.2 41 v2.toNatClampNeg) (q := 45 + 10 * v2.toNatClampNeg) (pc' := 87) (ls' := [some (.ref 39), some (.ref 2), some (.int v2)]) (st' := []) (t' := (jm_S0 L, q16, J)) (fun _ _ => rfl) h18 (jm_aHr L h18) ?_
      obtain ⟨q19, h20, H⟩ := jm_bdo H
      refine jm_go.call 1 (d := d + 3) (b := jm_is (jm_S0 L) (45 + 10 * v2.toNatClampNeg) 3) (u := 36) (as := [.ref (45 + 10 * v2.toNatClampNeg)]) (pc' := 90) (ls' := [some (.ref 39), some (.ref 2), some (.int v2)]) (st' := []) (t' := (jm_S0 L, q16, J)) (fun _ _ => rfl) (jm_fH L (jm_aH h18)) rfl (g36 L (d + 2) q16 J (45 + 10 * v2.toNatClampNeg) (jm_aH h18) _ h20) ?_
      refine jm_go.blk 2 (pc' := 19) (ls' := [some (.ref 39), some (.ref 2), some (.int (v2 + 1))]) (st' := []) (t' := (jm_S0 L, q19, J)) (fun _ _ => rfl) ?_
      exact hkb q19 (v2 + 1) _ H

def f22_98  (ke0 : jm_MM → Option (jm_MM)) : Nat → jm_MM → Int32 → Option (jm_MM)
  | 0, _, _ => none
  | n0 + 1, M, v2 => bif decide ((M 39 1) ≤ v2) then (ke0 M) else (jm_gd (jm_inb (v2 - 1) 6) (jm_gd (jm_inb v2 6) (jm_bd (f34 M (45 + 10 * (v2 - 1).toNatClampNeg) (45 + 10 * v2.toNatClampNeg)) (fun q25 => jm_gd (jm_inb v2 6) (jm_gd (jm_inb (v2 - 1) 6) (jm_bd (f37 q25 (45 + 10 * v2.toNatClampNeg) (45 + 10 * (v2 - 1).toNatClampNeg)) (fun q29 => (f22_98  ke0 n0) q29 (v2 + 1))))))))
theorem g22_98 (L : Nat) (d : Nat) (_M : jm_MM) (J : jm_JJ) (ke0 : jm_MM → Option (jm_MM)) (hke0 : ∀ (M : jm_MM) (r : jm_MM), ke0 M = some r → jm_go (d + 4) (jm_G 22) 147 [some (.ref 39), none, none] [] (jm_S0 L, M, J) (some (.ref 39), (jm_S0 L, r, J))) : ∀ (n0 : Nat) (M : jm_MM) (v2 : Int32) (r : jm_MM), f22_98  ke0 n0 M v2 = some r → jm_go (d + 4) (jm_G 22) 98 [some (.ref 39), some (.ref 2), some (.int v2)] [] (jm_S0 L, M, J) (some (.ref 39), (jm_S0 L, r, J)) := by
  intro n0
  induction n0 with
  | zero => intro M v2 r H; cases H
  | succ n0 ih =>
    intro M v2 r H
    have hkb := ih
    unfold f22_98 at H
    rcases jm_bro H with ⟨h22, H⟩ | ⟨h22, H⟩
    · refine jm_go.brt 4 (b := decide ((M 39 1) ≤ v2)) (p1 := 147) (l1 := [some (.ref 39), some (.ref 2), some (.int v2)]) (s1 := []) (t1 := (jm_S0 L, M, J)) (p2 := 106) (l2 := [some (.ref 39), some (.ref 2), some (.int v2)]) (s2 := []) (t2 := (jm_S0 L, M, J)) (fun _ _ => rfl) h22 ?_
      refine jm_go.lab (ls' := [some (.ref 39), none, none]) (fun i hi => by cases hi; rfl) ?_
      exact hke0 M _ H
    · refine jm_go.brf 4 (b := decide ((M 39 1) ≤ v2)) (p1 := 147) (l1 := [some (.ref 39), some (.ref 2), some (.int v2)]) (s1 := []) (t1 := (jm_S0 L, M, J)) (p2 := 106) (l2 := [some (.ref 39), some (.ref 2), some (.int v2)]) (s2 := []) (t2 := (jm_S0 L, M, J)) (fun _ _ => rfl) h22 ?_
      obtain ⟨h23, H⟩ := jm_gdo H
      refine jm_go.gfr 6 (b := jm_inb (v2 - 1) 6) (o := (jm_S0 L).2.2.2.2 41 (v2 - 1).toNatClampNeg) (q := 45 + 10 * (v2 - 1).toNatClampNeg) (pc' := 114) (ls' := [some (.ref 39), some (.ref 2), some (.int v2)]) (st' := []) (t' := (jm_S0 L, M, J)) (fun _ _ => rfl) h23 (jm_aHr L h23) ?_
      obtain ⟨h24, H⟩ := jm_gdo H
      refine jm_go.gfr 5 (b := jm_inb v2 6) (o := (jm_S0 L).2.2.2.2 41 v2.toNatClampNeg) (q := 45 + 10 * v2.toNatClampNeg) (pc' := 121) (ls' := [some (.ref 39), some (.ref 2), some (.int v2)]) (st' := [.ref 2, .ref (45 + 10 * (v2 - 1).toNatClampNeg)]) (t' := (jm_S0 L, M, J)) (fun _ _ => rfl) h24 (jm_aHr L h24) ?_
      obtain ⟨q25, h26, H⟩ := jm_bdo H
      refine jm_go.call 1 (d := d + 3) (b := jm_is (jm_S0 L) (45 + 10 * (v2 - 1).toNatClampNeg) 3) (u := 34) (as := [.ref (45 + 10 * (v2 - 1).toNatClampNeg), .ref 2, .ref (45 + 10 * v2.toNatClampNeg)]) (pc' := 124) (ls' := [some (.ref 39), some (.ref 2), some (.int v2)]) (st' := []) (t' := (jm_S0 L, M, J)) (fun _ _ => rfl) (jm_fH L (jm_aH h23)) rfl (g34 L d M J (45 + 10 * (v2 - 1).toNatClampNeg) (jm_aH h23) (45 + 10 * v2.toNatClampNeg) (jm_aH h24) _ h26) ?_
      obtain ⟨h27, H⟩ := jm_gdo H
      refine jm_go.gfr 4 (b := jm_inb v2 6) (o := (jm_S0 L).2.2.2.2 41 v2.toNatClampNeg) (q := 45 + 10 * v2.toNatClampNeg) (pc' := 130) (ls' := [some (.ref 39), some (.ref 2), some (.int v2)]) (st' := []) (t' := (jm_S0 L, q25, J)) (fun _ _ => rfl) h27 (jm_aHr L h27) ?_
      obtain ⟨h28, H⟩ := jm_gdo H
      refine jm_go.gfr 6 (b := jm_inb (v2 - 1) 6) (o := (jm_S0 L).2.2.2.2 41 (v2 - 1).toNatClampNeg) (q := 45 + 10 * (v2 - 1).toNatClampNeg) (pc' := 138) (ls' := [some (.ref 39), some (.ref 2), some (.int v2)]) (st' := [.ref (45 + 10 * v2.toNatClampNeg)]) (t' := (jm_S0 L, q25, J)) (fun _ _ => rfl) h28 (jm_aHr L h28) ?_
      obtain ⟨q29, h30, H⟩ := jm_bdo H
      refine jm_go.call 1 (d := d + 3) (b := jm_is (jm_S0 L) (45 + 10 * v2.toNatClampNeg) 3) (u := 37) (as := [.ref (45 + 10 * v2.toNatClampNeg), .ref (45 + 10 * (v2 - 1).toNatClampNeg)]) (pc' := 141) (ls' := [some (.ref 39), some (.ref 2), some (.int v2)]) (st' := []) (t' := (jm_S0 L, q25, J)) (fun _ _ => rfl) (jm_fH L (jm_aH h27)) rfl (g37 L (d + 1) q25 J (45 + 10 * v2.toNatClampNeg) (jm_aH h27) (45 + 10 * (v2 - 1).toNatClampNeg) (jm_aH h28) _ h30) ?_
      refine jm_go.blk 2 (pc' := 98) (ls' := [some (.ref 39), some (.ref 2), some (.int (v2 + 1))]) (st' := []) (t' := (jm_S0 L, q29, J)) (fun _ _ => rfl) ?_
      exact hkb q29 (v2 + 1) _ H

/-- X2_surveyed -/
def f22 (M : jm_MM)  : Option (jm_MM) := bif decide ((M 39 0) = 0) then (f22_19  (fun Me21 => f22_98  (fun Me31 => some (jm_up Me31 39 0 1)) jm_F Me21 1) jm_F (jm_up M 39 1 (M 2 0)) 0) else (some M)
theorem g22 (L : Nat) (d : Nat) (M : jm_MM) (J : jm_JJ)  (r : jm_MM) (H : f22 M  = some r) : jm_go (d + 4) (jm_G 22) 0 (jm_en 3 [.ref 39, .ref 2]) [] (jm_S0 L, M, J) (some (.ref 39), (jm_S0 L, r, J)) := by
  unfold f22 at H
  rcases jm_bro H with ⟨h1, H⟩ | ⟨h1, H⟩
  · refine jm_go.brt 3 (b := decide ((M 39 0) = 0)) (p1 := 9) (l1 := [some (.ref 39), some (.ref 2), none]) (s1 := []) (t1 := (jm_S0 L, M, J)) (p2 := 7) (l2 := [some (.ref 39), some (.ref 2), none]) (s2 := []) (t2 := (jm_S0 L, M, J)) (fun _ _ => rfl) h1 ?_
    refine jm_go.blk 6 (pc' := 19) (ls' := [some (.ref 39), some (.ref 2), some (.int 0)]) (st' := []) (t' := (jm_S0 L, (jm_up M 39 1 (M 2 0)), J)) (fun _ _ => rfl) ?_
    exact g22_19 L d M J
      _ (fun Me21 r H => by
        refine jm_go.blk 2 (pc' := 98) (ls' := [some (.ref 39), some (.ref 2), some (.int 1)]) (st' := []) (t' := (jm_S0 L, Me21, J)) (fun _ _ => rfl) ?_
        exact g22_98 L d M J
          _ (fun Me31 r H => by
            cases H
            exact jm_go.ret 5 (fun _ _ => rfl)
            )
          _ Me21 1 _ H
        )
      _ (jm_up M 39 1 (M 2 0)) 0 _ H
  · refine jm_go.brf 3 (b := decide ((M 39 0) = 0)) (p1 := 9) (l1 := [some (.ref 39), some (.ref 2), none]) (s1 := []) (t1 := (jm_S0 L, M, J)) (p2 := 7) (l2 := [some (.ref 39), some (.ref 2), none]) (s2 := []) (t2 := (jm_S0 L, M, J)) (fun _ _ => rfl) h1 ?_
    cases H
    exact jm_go.ret 2 (fun _ _ => rfl)
end
section
/-! methods as functions: printed by wip/whole/gen/lay.py (funs.py) -/
def f23_23 (M : jm_MM) (ke0 : Int32 → Option (Int32)) : Nat → Int32 → Int32 → Int32 → Int32 → Option (Int32)
  | 0, _, _, _, _ => none
  | n0 + 1, v1, v3, v4, v5 => bif decide (v3 ≤ v5) then (ke0 v4) else (bif decide (v1 ≤ v5) then (ke0 v4) else (bif decide (v4 = (-1)) then (ke0 v4) else (jm_gd (jm_inb (v1 - v5) 6) (jm_gd (jm_inb v4 24) ((f23_23 M ke0 n0) v1 v3 (M (45 + 10 * (v1 - v5).toNatClampNeg + 5) v4.toNatClampNeg) (v5 + 1))))))
theorem g23_23 (L : Nat) (d : Nat) (M : jm_MM) (J : jm_JJ) (ke0 : Int32 → Option (Int32)) (hke0 : ∀  (v4 : Int32) (r : Int32), ke0 v4 = some r → jm_go d (jm_G 23) 64 [none, none, none, none, some (.int v4), none] [] (jm_S0 L, M, J) (some (.int r), (jm_S0 L, M, J))) : ∀ (n0 : Nat) (v1 : Int32) (v3 : Int32) (v4 : Int32) (v5 : Int32) (r : Int32), f23_23 M ke0 n0 v1 v3 v4 v5 = some r → jm_go d (jm_G 23) 23 [some (.ref 39), some (.int v1), none, some (.int v3), some (.int v4), some (.int v5)] [] (jm_S0 L, M, J) (some (.int r), (jm_S0 L, M, J)) := by
  intro n0
  induction n0 with
  | zero => intro v1 v3 v4 v5 r H; cases H
  | succ n0 ih =>
    intro v1 v3 v4 v5 r H
    have hkb := ih
    unfold f23_23 at H
    rcases jm_bro H with ⟨h4, H⟩ | ⟨h4, H⟩
    · refine jm_go.brt 3 (b := decide (v3 ≤ v5)) (p1 := 64) (l1 := [some (.ref 39), some (.int v1), none, some (.int v3), some (.int v4), some (.int v5)]) (s1 := []) (t1 := (jm_S0 L, M, J)) (p2 := 29) (l2 := [some (.ref 39), some (.int v1), none, some (.int v3), some (.int v4), some (.int v5)]) (s2 := []) (t2 := (jm_S0 L, M, J)) (fun _ _ => rfl) h4 ?_
      refine jm_go.lab (ls' := [none, none, none, none, some (.int v4), none]) (fun i hi => by cases hi; rfl) ?_
      exact hke0 v4 _ H
    · refine jm_go.brf 3 (b := decide (v3 ≤ v5)) (p1 := 64) (l1 := [some (.ref 39), some (.int v1), none, some (.int v3), some (.int v4), some (.int v5)]) (s1 := []) (t1 := (jm_S0 L, M, J)) (p2 := 29) (l2 := [some (.ref 39), some (.int v1), none, some (.int v3), some (.int v4), some (.int v5)]) (s2 := []) (t2 := (jm_S0 L, M, J)) (fun _ _ => rfl) h4 ?_
      rcases jm_bro H with ⟨h5, H⟩ | ⟨h5, H⟩
      · refine jm_go.brt 3 (b := decide (v1 ≤ v5)) (p1 := 64) (l1 := [some (.ref 39), some (.int v1), none, some (.int v3), some (.int v4), some (.int v5)]) (s1 := []) (t1 := (jm_S0 L, M, J)) (p2 := 35) (l2 := [some (.ref 39), some (.int v1), none, some (.int v3), some (.int v4), some (.int v5)]) (s2 := []) (t2 := (jm_S0 L, M, J)) (fun _ _ => rfl) h5 ?_
        refine jm_go.lab (ls' := [none, none, none, none, some (.int v4), none]) (fun i hi => by cases hi; rfl) ?_
        exact hke0 v4 _ H
      · refine jm_go.brf 3 (b := decide (v1 ≤ v5)) (p1 := 64) (l1 := [some (.ref 39), some (.int v1), none, some (.int v3), some (.int v4), some (.int v5)]) (s1 := []) (t1 := (jm_S0 L, M, J)) (p2 := 35) (l2 := [some (.ref 39), some (.int v1), none, some (.int v3), some (.int v4), some (.int v5)]) (s2 := []) (t2 := (jm_S0 L, M, J)) (fun _ _ => rfl) h5 ?_
        rcases jm_bro H with ⟨h6, H⟩ | ⟨h6, H⟩
        · refine jm_go.brt 3 (b := decide (v4 = (-1))) (p1 := 64) (l1 := [some (.ref 39), some (.int v1), none, some (.int v3), some (.int v4), some (.int v5)]) (s1 := []) (t1 := (jm_S0 L, M, J)) (p2 := 41) (l2 := [some (.ref 39), some (.int v1), none, some (.int v3), some (.int v4), some (.int v5)]) (s2 := []) (t2 := (jm_S0 L, M, J)) (fun _ _ => rfl) h6 ?_
          refine jm_go.lab (ls' := [none, none, none, none, some (.int v4), none]) (fun i hi => by cases hi; rfl) ?_
          exact hke0 v4 _ H
        · refine jm_go.brf 3 (b := decide (v4 = (-1))) (p1 := 64) (l1 := [some (.ref 39), some (.int v1), none, some (.int v3), some (.int v4), some (.int v5)]) (s1 := []) (t1 := (jm_S0 L, M, J)) (p2 := 41) (l2 := [some (.ref 39), some (.int v1), none, some (.int v3), some (.int v4), some (.int v5)]) (s2 := []) (t2 := (jm_S0 L, M, J)) (fun _ _ => rfl) h6 ?_
          obtain ⟨h7, H⟩ := jm_gdo H
          refine jm_go.gfr 6 (b := jm_inb (v1 - v5) 6) (o := (jm_S0 L).2.2.2.2 41 (v1 - v5).toNatClampNeg) (q := 45 + 10 * (v1 - v5).toNatClampNeg) (pc' := 50) (ls' := [some (.ref 39), some (.int v1), none, some (.int v3), some (.int v4), some (.int v5)]) (st' := []) (t' := (jm_S0 L, M, J)) (fun _ _ => rfl) h7 (jm_aHr L h7) ?_
          refine jm_go.gfr 1 (b := jm_is (jm_S0 L) (45 + 10 * (v1 - v5).toNatClampNeg) 3) (o := (jm_S0 L).2.2.2.2 (45 + 10 * (v1 - v5).toNatClampNeg) 5) (q := 45 + 10 * (v1 - v5).toNatClampNeg + 5) (pc' := 53) (ls' := [some (.ref 39), some (.int v1), none, some (.int v3), some (.int v4), some (.int v5)]) (st' := []) (t' := (jm_S0 L, M, J)) (fun _ _ => rfl) (jm_fH L (jm_aH h7)) (jm_rH5 L (jm_aH h7)) ?_
          obtain ⟨h8, H⟩ := jm_gdo H
          refine jm_go.grd 2 (b := ((Nat.beq 0 1 && Nat.beq (45 + 10 * (v1 - v5).toNatClampNeg + 5) 0) || (Nat.beq 0 0 && jm_is (jm_S0 L) (45 + 10 * (v1 - v5).toNatClampNeg + 5) 9)) && jm_inb v4 ((jm_S0 L).2.2.2.1 (45 + 10 * (v1 - v5).toNatClampNeg + 5))) (pc' := 56) (ls' := [some (.ref 39), some (.int v1), none, some (.int v3), some (.int v4), some (.int v5)]) (st' := [.int (M (45 + 10 * (v1 - v5).toNatClampNeg + 5) v4.toNatClampNeg)]) (t' := (jm_S0 L, M, J)) (fun _ _ => rfl) (jm_gia (jm_fH5 L (jm_aH h7)) h8) ?_
          refine jm_go.blk 3 (pc' := 23) (ls' := [some (.ref 39), some (.int v1), none, some (.int v3), some (.int (M (45 + 10 * (v1 - v5).toNatClampNeg + 5) v4.toNatClampNeg)), some (.int (v5 + 1))]) (st' := []) (t' := (jm_S0 L, M, J)) (fun _ _ => rfl) ?_
          exact hkb v1 v3 (M (45 + 10 * (v1 - v5).toNatClampNeg + 5) v4.toNatClampNeg) (v5 + 1) _ H

/-- X2_branchBack -/
def f23 (M : jm_MM) (x0 : Int32) (x1 : Int32) (x2 : Int32) : Option (Int32) := jm_gd (jm_inb x0 6) (jm_gd (jm_inb x1 24) (bif decide (x2 < (M (45 + 10 * x0.toNatClampNeg + 6) x1.toNatClampNeg)) then (f23_23 M (fun ve9 => some ve9) jm_F x0 x2 x1 0) else (some (-1))))
theorem g23 (L : Nat) (d : Nat) (M : jm_MM) (J : jm_JJ) (x0 : Int32) (x1 : Int32) (x2 : Int32) (r : Int32) (H : f23 M x0 x1 x2 = some r) : jm_go d (jm_G 23) 0 (jm_en 6 [.ref 39, .int x0, .int x1, .int x2]) [] (jm_S0 L, M, J) (some (.int r), (jm_S0 L, M, J)) := by
  unfold f23 at H
  obtain ⟨h1, H⟩ := jm_gdo H
  refine jm_go.gfr 5 (b := jm_inb x0 6) (o := (jm_S0 L).2.2.2.2 41 x0.toNatClampNeg) (q := 45 + 10 * x0.toNatClampNeg) (pc' := 7) (ls' := [some (.ref 39), some (.int x0), some (.int x1), some (.int x2), none, none]) (st' := [.int x2]) (t' := (jm_S0 L, M, J)) (fun _ _ => rfl) h1 (jm_aHr L h1) ?_
  refine jm_go.gfr 1 (b := jm_is (jm_S0 L) (45 + 10 * x0.toNatClampNeg) 3) (o := (jm_S0 L).2.2.2.2 (45 + 10 * x0.toNatClampNeg) 6) (q := 45 + 10 * x0.toNatClampNeg + 6) (pc' := 10) (ls' := [some (.ref 39), some (.int x0), some (.int x1), some (.int x2), none, none]) (st' := [.int x2]) (t' := (jm_S0 L, M, J)) (fun _ _ => rfl) (jm_fH L (jm_aH h1)) (jm_rH6 L (jm_aH h1)) ?_
  obtain ⟨h2, H⟩ := jm_gdo H
  refine jm_go.grd 2 (b := ((Nat.beq 0 1 && Nat.beq (45 + 10 * x0.toNatClampNeg + 6) 0) || (Nat.beq 0 0 && jm_is (jm_S0 L) (45 + 10 * x0.toNatClampNeg + 6) 9)) && jm_inb x1 ((jm_S0 L).2.2.2.1 (45 + 10 * x0.toNatClampNeg + 6))) (pc' := 12) (ls' := [some (.ref 39), some (.int x0), some (.int x1), some (.int x2), none, none]) (st' := [.int (M (45 + 10 * x0.toNatClampNeg + 6) x1.toNatClampNeg), .int x2]) (t' := (jm_S0 L, M, J)) (fun _ _ => rfl) (jm_gia (jm_fH6 L (jm_aH h1)) h2) ?_
  rcases jm_bro H with ⟨h3, H⟩ | ⟨h3, H⟩
  · refine jm_go.brt 1 (b := decide (x2 < (M (45 + 10 * x0.toNatClampNeg + 6) x1.toNatClampNeg))) (p1 := 17) (l1 := [some (.ref 39), some (.int x0), some (.int x1), some (.int x2), none, none]) (s1 := []) (t1 := (jm_S0 L, M, J)) (p2 := 15) (l2 := [some (.ref 39), some (.int x0), some (.int x1), some (.int x2), none, none]) (s2 := []) (t2 := (jm_S0 L, M, J)) (fun _ _ => rfl) h3 ?_
    refine jm_go.blk 4 (pc' := 23) (ls' := [some (.ref 39), some (.int x0), some (.int x1), some (.int x2), some (.int x1), some (.int 0)]) (st' := []) (t' := (jm_S0 L, M, J)) (fun _ _ => rfl) ?_
    refine jm_go.lab (ls' := [some (.ref 39), some (.int x0), none, some (.int x2), some (.int x1), some (.int 0)]) (fun i hi => by cases hi; rfl) ?_
    exact g23_23 L d M J
      _ (fun ve9 r H => by
        cases H
        exact jm_go.ret 2 (fun _ _ => rfl)
        )
      _ x0 x2 x1 0 _ H
  · refine jm_go.brf 1 (b := decide (x2 < (M (45 + 10 * x0.toNatClampNeg + 6) x1.toNatClampNeg))) (p1 := 17) (l1 := [some (.ref 39), some (.int x0), some (.int x1), some (.int x2), none, none]) (s1 := []) (t1 := (jm_S0 L, M, J)) (p2 := 15) (l2 := [some (.ref 39), some (.int x0), some (.int x1), some (.int x2), none, none]) (s2 := []) (t2 := (jm_S0 L, M, J)) (fun _ _ => rfl) h3 ?_
    cases H
    exact jm_go.ret 2 (fun _ _ => rfl)


/-- X2_weightOfMain -/
def f24 (M : jm_MM) (x0 : Int32) (x1 : Int32) : Option (Int32) := jm_gd (jm_inb x0 6) (jm_gd (jm_inb x1 24) (bif decide ((M (45 + 10 * x0.toNatClampNeg + 5) x1.toNatClampNeg) = (-1)) then (some 0) else (bif decide (1 ≤ x0) then (jm_gd (jm_inb (x0 - 1) 6) (jm_gd (jm_inb (M (45 + 10 * x0.toNatClampNeg + 5) x1.toNatClampNeg) 24) (some (M (45 + 10 * (x0 - 1).toNatClampNeg + 2) ((M (45 + 10 * x0.toNatClampNeg + 5) x1.toNatClampNeg).toNatClampNeg))))) else (some 0))))
theorem g24 (L : Nat) (d : Nat) (M : jm_MM) (J : jm_JJ) (x0 : Int32) (x1 : Int32) (r : Int32) (H : f24 M x0 x1 = some r) : jm_go d (jm_G 24) 0 (jm_en 4 [.ref 39, .int x0, .int x1]) [] (jm_S0 L, M, J) (some (.int r), (jm_S0 L, M, J)) := by
  unfold f24 at H
  obtain ⟨h1, H⟩ := jm_gdo H
  refine jm_go.gfr 4 (b := jm_inb x0 6) (o := (jm_S0 L).2.2.2.2 41 x0.toNatClampNeg) (q := 45 + 10 * x0.toNatClampNeg) (pc' := 6) (ls' := [some (.ref 39), some (.int x0), some (.int x1), none]) (st' := []) (t' := (jm_S0 L, M, J)) (fun _ _ => rfl) h1 (jm_aHr L h1) ?_
  refine jm_go.gfr 1 (b := jm_is (jm_S0 L) (45 + 10 * x0.toNatClampNeg) 3) (o := (jm_S0 L).2.2.2.2 (45 + 10 * x0.toNatClampNeg) 5) (q := 45 + 10 * x0.toNatClampNeg + 5) (pc' := 9) (ls' := [some (.ref 39), some (.int x0), some (.int x1), none]) (st' := []) (t' := (jm_S0 L, M, J)) (fun _ _ => rfl) (jm_fH L (jm_aH h1)) (jm_rH5 L (jm_aH h1)) ?_
  obtain ⟨h2, H⟩ := jm_gdo H
  refine jm_go.grd 2 (b := ((Nat.beq 0 1 && Nat.beq (45 + 10 * x0.toNatClampNeg + 5) 0) || (Nat.beq 0 0 && jm_is (jm_S0 L) (45 + 10 * x0.toNatClampNeg + 5) 9)) && jm_inb x1 ((jm_S0 L).2.2.2.1 (45 + 10 * x0.toNatClampNeg + 5))) (pc' := 11) (ls' := [some (.ref 39), some (.int x0), some (.int x1), none]) (st' := [.int (M (45 + 10 * x0.toNatClampNeg + 5) x1.toNatClampNeg)]) (t' := (jm_S0 L, M, J)) (fun _ _ => rfl) (jm_gia (jm_fH5 L (jm_aH h1)) h2) ?_
  rcases jm_bro H with ⟨h3, H⟩ | ⟨h3, H⟩
  · refine jm_go.brt 4 (b := decide ((M (45 + 10 * x0.toNatClampNeg + 5) x1.toNatClampNeg) = (-1))) (p1 := 22) (l1 := [some (.ref 39), some (.int x0), some (.int x1), some (.int (M (45 + 10 * x0.toNatClampNeg + 5) x1.toNatClampNeg))]) (s1 := []) (t1 := (jm_S0 L, M, J)) (p2 := 17) (l2 := [some (.ref 39), some (.int x0), some (.int x1), some (.int (M (45 + 10 * x0.toNatClampNeg + 5) x1.toNatClampNeg))]) (s2 := []) (t2 := (jm_S0 L, M, J)) (fun _ _ => rfl) h3 ?_
    cases H
    exact jm_go.ret 3 (fun _ _ => rfl)
  · refine jm_go.brf 4 (b := decide ((M (45 + 10 * x0.toNatClampNeg + 5) x1.toNatClampNeg) = (-1))) (p1 := 22) (l1 := [some (.ref 39), some (.int x0), some (.int x1), some (.int (M (45 + 10 * x0.toNatClampNeg + 5) x1.toNatClampNeg))]) (s1 := []) (t1 := (jm_S0 L, M, J)) (p2 := 17) (l2 := [some (.ref 39), some (.int x0), some (.int x1), some (.int (M (45 + 10 * x0.toNatClampNeg + 5) x1.toNatClampNeg))]) (s2 := []) (t2 := (jm_S0 L, M, J)) (fun _ _ => rfl) h3 ?_
    rcases jm_bro H with ⟨h4, H⟩ | ⟨h4, H⟩
    · refine jm_go.brt 3 (b := decide (1 ≤ x0)) (p1 := 26) (l1 := [some (.ref 39), some (.int x0), some (.int x1), some (.int (M (45 + 10 * x0.toNatClampNeg + 5) x1.toNatClampNeg))]) (s1 := []) (t1 := (jm_S0 L, M, J)) (p2 := 22) (l2 := [some (.ref 39), some (.int x0), some (.int x1), some (.int (M (45 + 10 * x0.toNatClampNeg + 5) x1.toNatClampNeg))]) (s2 := []) (t2 := (jm_S0 L, M, J)) (fun _ _ => rfl) h4 ?_
      obtain ⟨h5, H⟩ := jm_gdo H
      refine jm_go.gfr 6 (b := jm_inb (x0 - 1) 6) (o := (jm_S0 L).2.2.2.2 41 (x0 - 1).toNatClampNeg) (q := 45 + 10 * (x0 - 1).toNatClampNeg) (pc' := 34) (ls' := [some (.ref 39), some (.int x0), none, some (.int (M (45 + 10 * x0.toNatClampNeg + 5) x1.toNatClampNeg))]) (st' := []) (t' := (jm_S0 L, M, J)) (fun _ _ => rfl) h5 (jm_aHr L h5) ?_
      refine jm_go.gfr 1 (b := jm_is (jm_S0 L) (45 + 10 * (x0 - 1).toNatClampNeg) 3) (o := (jm_S0 L).2.2.2.2 (45 + 10 * (x0 - 1).toNatClampNeg) 2) (q := 45 + 10 * (x0 - 1).toNatClampNeg + 2) (pc' := 37) (ls' := [some (.ref 39), some (.int x0), none, some (.int (M (45 + 10 * x0.toNatClampNeg + 5) x1.toNatClampNeg))]) (st' := []) (t' := (jm_S0 L, M, J)) (fun _ _ => rfl) (jm_fH L (jm_aH h5)) (jm_rH2 L (jm_aH h5)) ?_
      obtain ⟨h6, H⟩ := jm_gdo H
      refine jm_go.grd 2 (b := ((Nat.beq 0 1 && Nat.beq (45 + 10 * (x0 - 1).toNatClampNeg + 2) 0) || (Nat.beq 0 0 && jm_is (jm_S0 L) (45 + 10 * (x0 - 1).toNatClampNeg + 2) 9)) && jm_inb (M (45 + 10 * x0.toNatClampNeg + 5) x1.toNatClampNeg) ((jm_S0 L).2.2.2.1 (45 + 10 * (x0 - 1).toNatClampNeg + 2))) (pc' := 39) (ls' := [some (.ref 39), some (.int x0), none, some (.int (M (45 + 10 * x0.toNatClampNeg + 5) x1.toNatClampNeg))]) (st' := [.int (M (45 + 10 * (x0 - 1).toNatClampNeg + 2) ((M (45 + 10 * x0.toNatClampNeg + 5) x1.toNatClampNeg).toNatClampNeg))]) (t' := (jm_S0 L, M, J)) (fun _ _ => rfl) (jm_gia (jm_fH2 L (jm_aH h5)) h6) ?_
      cases H
      exact jm_go.ret 1 (fun _ _ => rfl)
    · refine jm_go.brf 3 (b := decide (1 ≤ x0)) (p1 := 26) (l1 := [some (.ref 39), some (.int x0), some (.int x1), some (.int (M (45 + 10 * x0.toNatClampNeg + 5) x1.toNatClampNeg))]) (s1 := []) (t1 := (jm_S0 L, M, J)) (p2 := 22) (l2 := [some (.ref 39), some (.int x0), some (.int x1), some (.int (M (45 + 10 * x0.toNatClampNeg + 5) x1.toNatClampNeg))]) (s2 := []) (t2 := (jm_S0 L, M, J)) (fun _ _ => rfl) h4 ?_
      cases H
      exact jm_go.ret 3 (fun _ _ => rfl)

def f25_4 (M : jm_MM) (ke0 : Int32 → Option (Int32)) : Nat → Int32 → Int32 → Option (Int32)
  | 0, _, _ => none
  | n0 + 1, v1, v2 => bif decide ((M 39 1) ≤ v2) then (ke0 v1) else (jm_gd (jm_inb v2 6) ((f25_4 M ke0 n0) (v1 + (M (45 + 10 * v2.toNatClampNeg) 0)) (v2 + 1)))
theorem g25_4 (L : Nat) (d : Nat) (M : jm_MM) (J : jm_JJ) (ke0 : Int32 → Option (Int32)) (hke0 : ∀  (v1 : Int32) (r : Int32), ke0 v1 = some r → jm_go d (jm_G 25) 30 [none, some (.int v1), none] [] (jm_S0 L, M, J) (some (.int r), (jm_S0 L, M, J))) : ∀ (n0 : Nat) (v1 : Int32) (v2 : Int32) (r : Int32), f25_4 M ke0 n0 v1 v2 = some r → jm_go d (jm_G 25) 4 [some (.ref 39), some (.int v1), some (.int v2)] [] (jm_S0 L, M, J) (some (.int r), (jm_S0 L, M, J)) := by
  intro n0
  induction n0 with
  | zero => intro v1 v2 r H; cases H
  | succ n0 ih =>
    intro v1 v2 r H
    have hkb := ih
    unfold f25_4 at H
    rcases jm_bro H with ⟨h1, H⟩ | ⟨h1, H⟩
    · refine jm_go.brt 4 (b := decide ((M 39 1) ≤ v2)) (p1 := 30) (l1 := [some (.ref 39), some (.int v1), some (.int v2)]) (s1 := []) (t1 := (jm_S0 L, M, J)) (p2 := 12) (l2 := [some (.ref 39), some (.int v1), some (.int v2)]) (s2 := []) (t2 := (jm_S0 L, M, J)) (fun _ _ => rfl) h1 ?_
      refine jm_go.lab (ls' := [none, some (.int v1), none]) (fun i hi => by cases hi; rfl) ?_
      exact hke0 v1 _ H
    · refine jm_go.brf 4 (b := decide ((M 39 1) ≤ v2)) (p1 := 30) (l1 := [some (.ref 39), some (.int v1), some (.int v2)]) (s1 := []) (t1 := (jm_S0 L, M, J)) (p2 := 12) (l2 := [some (.ref 39), some (.int v1), some (.int v2)]) (s2 := []) (t2 := (jm_S0 L, M, J)) (fun _ _ => rfl) h1 ?_
      obtain ⟨h2, H⟩ := jm_gdo H
      refine jm_go.gfr 5 (b := jm_inb v2 6) (o := (jm_S0 L).2.2.2.2 41 v2.toNatClampNeg) (q := 45 + 10 * v2.toNatClampNeg) (pc' := 19) (ls' := [some (.ref 39), some (.int v1), some (.int v2)]) (st' := [.int v1]) (t' := (jm_S0 L, M, J)) (fun _ _ => rfl) h2 (jm_aHr L h2) ?_
      refine jm_go.grd 1 (b := jm_is (jm_S0 L) (45 + 10 * v2.toNatClampNeg) 3) (pc' := 22) (ls' := [some (.ref 39), some (.int v1), some (.int v2)]) (st' := [.int (M (45 + 10 * v2.toNatClampNeg) 0), .int v1]) (t' := (jm_S0 L, M, J)) (fun _ _ => rfl) (jm_fH L (jm_aH h2)) ?_
      refine jm_go.blk 4 (pc' := 4) (ls' := [some (.ref 39), some (.int (v1 + (M (45 + 10 * v2.toNatClampNeg) 0))), some (.int (v2 + 1))]) (st' := []) (t' := (jm_S0 L, M, J)) (fun _ _ => rfl) ?_
      exact hkb (v1 + (M (45 + 10 * v2.toNatClampNeg) 0)) (v2 + 1) _ H

/-- X2_countHalos -/
def f25 (M : jm_MM)  : Option (Int32) := f25_4 M (fun ve3 => some ve3) jm_F 0 0
theorem g25 (L : Nat) (d : Nat) (M : jm_MM) (J : jm_JJ)  (r : Int32) (H : f25 M  = some r) : jm_go d (jm_G 25) 0 (jm_en 3 [.ref 39]) [] (jm_S0 L, M, J) (some (.int r), (jm_S0 L, M, J)) := by
  unfold f25 at H
  refine jm_go.blk 4 (pc' := 4) (ls' := [some (.ref 39), some (.int 0), some (.int 0)]) (st' := []) (t' := (jm_S0 L, M, J)) (fun _ _ => rfl) ?_
  exact g25_4 L d M J
    _ (fun ve3 r H => by
      cases H
      exact jm_go.ret 2 (fun _ _ => rfl)
      )
    _ 0 0 _ H

def f26_16 (M : jm_MM) (ke0 : Int32 → Int32 → Option (Int32)) : Nat → Int32 → Int32 → Int32 → Option (Int32)
  | 0, _, _, _ => none
  | n0 + 1, v1, v2, v3 => jm_gd (jm_inb v2 6) (bif decide ((M (45 + 10 * v2.toNatClampNeg) 0) ≤ v3) then (ke0 v1 v2) else (jm_gd (jm_inb v2 6) (jm_gd (jm_inb v3 24) (bif !decide ((M (45 + 10 * v2.toNatClampNeg + 3) v3.toNatClampNeg) = (-1)) then ((f26_16 M ke0 n0) (v1 + 0) v2 (v3 + 1)) else ((f26_16 M ke0 n0) (v1 + 1) v2 (v3 + 1))))))
theorem g26_16 (L : Nat) (d : Nat) (M : jm_MM) (J : jm_JJ) (ke0 : Int32 → Int32 → Option (Int32)) (hke0 : ∀  (v1 : Int32) (v2 : Int32) (r : Int32), ke0 v1 v2 = some r → jm_go d (jm_G 26) 58 [some (.ref 39), some (.int v1), some (.int v2), none] [] (jm_S0 L, M, J) (some (.int r), (jm_S0 L, M, J))) : ∀ (n0 : Nat) (v1 : Int32) (v2 : Int32) (v3 : Int32) (r : Int32), f26_16 M ke0 n0 v1 v2 v3 = some r → jm_go d (jm_G 26) 16 [some (.ref 39), some (.int v1), some (.int v2), some (.int v3)] [] (jm_S0 L, M, J) (some (.int r), (jm_S0 L, M, J)) := by
  intro n0
  induction n0 with
  | zero => intro v1 v2 v3 r H; cases H
  | succ n0 ih =>
    intro v1 v2 v3 r H
    have hkb := ih
    unfold f26_16 at H
    obtain ⟨h2, H⟩ := jm_gdo H
    refine jm_go.gfr 5 (b := jm_inb v2 6) (o := (jm_S0 L).2.2.2.2 41 v2.toNatClampNeg) (q := 45 + 10 * v2.toNatClampNeg) (pc' := 23) (ls' := [some (.ref 39), some (.int v1), some (.int v2), some (.int v3)]) (st' := [.int v3]) (t' := (jm_S0 L, M, J)) (fun _ _ => rfl) h2 (jm_aHr L h2) ?_
    refine jm_go.grd 1 (b := jm_is (jm_S0 L) (45 + 10 * v2.toNatClampNeg) 3) (pc' := 26) (ls' := [some (.ref 39), some (.int v1), some (.int v2), some (.int v3)]) (st' := [.int (M (45 + 10 * v2.toNatClampNeg) 0), .int v3]) (t' := (jm_S0 L, M, J)) (fun _ _ => rfl) (jm_fH L (jm_aH h2)) ?_
    rcases jm_bro H with ⟨h3, H⟩ | ⟨h3, H⟩
    · refine jm_go.brt 1 (b := decide ((M (45 + 10 * v2.toNatClampNeg) 0) ≤ v3)) (p1 := 58) (l1 := [some (.ref 39), some (.int v1), some (.int v2), some (.int v3)]) (s1 := []) (t1 := (jm_S0 L, M, J)) (p2 := 29) (l2 := [some (.ref 39), some (.int v1), some (.int v2), some (.int v3)]) (s2 := []) (t2 := (jm_S0 L, M, J)) (fun _ _ => rfl) h3 ?_
      refine jm_go.lab (ls' := [some (.ref 39), some (.int v1), some (.int v2), none]) (fun i hi => by cases hi; rfl) ?_
      exact hke0 v1 v2 _ H
    · refine jm_go.brf 1 (b := decide ((M (45 + 10 * v2.toNatClampNeg) 0) ≤ v3)) (p1 := 58) (l1 := [some (.ref 39), some (.int v1), some (.int v2), some (.int v3)]) (s1 := []) (t1 := (jm_S0 L, M, J)) (p2 := 29) (l2 := [some (.ref 39), some (.int v1), some (.int v2), some (.int v3)]) (s2 := []) (t2 := (jm_S0 L, M, J)) (fun _ _ => rfl) h3 ?_
      obtain ⟨h4, H⟩ := jm_gdo H
      refine jm_go.gfr 5 (b := jm_inb v2 6) (o := (jm_S0 L).2.2.2.2 41 v2.toNatClampNeg) (q := 45 + 10 * v2.toNatClampNeg) (pc' := 36) (ls' := [some (.ref 39), some (.int v1), some (.int v2), some (.int v3)]) (st' := [.int v1]) (t' := (jm_S0 L, M, J)) (fun _ _ => rfl) h4 (jm_aHr L h4) ?_
      refine jm_go.gfr 1 (b := jm_is (jm_S0 L) (45 + 10 * v2.toNatClampNeg) 3) (o := (jm_S0 L).2.2.2.2 (45 + 10 * v2.toNatClampNeg) 3) (q := 45 + 10 * v2.toNatClampNeg + 3) (pc' := 39) (ls' := [some (.ref 39), some (.int v1), some (.int v2), some (.int v3)]) (st' := [.int v1]) (t' := (jm_S0 L, M, J)) (fun _ _ => rfl) (jm_fH L (jm_aH h4)) (jm_rH3 L (jm_aH h4)) ?_
      obtain ⟨h5, H⟩ := jm_gdo H
      refine jm_go.grd 2 (b := ((Nat.beq 0 1 && Nat.beq (45 + 10 * v2.toNatClampNeg + 3) 0) || (Nat.beq 0 0 && jm_is (jm_S0 L) (45 + 10 * v2.toNatClampNeg + 3) 9)) && jm_inb v3 ((jm_S0 L).2.2.2.1 (45 + 10 * v2.toNatClampNeg + 3))) (pc' := 41) (ls' := [some (.ref 39), some (.int v1), some (.int v2), some (.int v3)]) (st' := [.int (M (45 + 10 * v2.toNatClampNeg + 3) v3.toNatClampNeg), .int v1]) (t' := (jm_S0 L, M, J)) (fun _ _ => rfl) (jm_gia (jm_fH3 L (jm_aH h4)) h5) ?_
      rcases jm_bro H with ⟨h6, H⟩ | ⟨h6, H⟩
      · refine jm_go.brt 2 (b := !decide ((M (45 + 10 * v2.toNatClampNeg + 3) v3.toNatClampNeg) = (-1))) (p1 := 49) (l1 := [some (.ref 39), some (.int v1), some (.int v2), some (.int v3)]) (s1 := [.int v1]) (t1 := (jm_S0 L, M, J)) (p2 := 45) (l2 := [some (.ref 39), some (.int v1), some (.int v2), some (.int v3)]) (s2 := [.int v1]) (t2 := (jm_S0 L, M, J)) (fun _ _ => rfl) h6 ?_
        refine jm_go.blk 5 (pc' := 16) (ls' := [some (.ref 39), some (.int (v1 + 0)), some (.int v2), some (.int (v3 + 1))]) (st' := []) (t' := (jm_S0 L, M, J)) (fun _ _ => rfl) ?_
        exact hkb (v1 + 0) v2 (v3 + 1) _ H
      · refine jm_go.brf 2 (b := !decide ((M (45 + 10 * v2.toNatClampNeg + 3) v3.toNatClampNeg) = (-1))) (p1 := 49) (l1 := [some (.ref 39), some (.int v1), some (.int v2), some (.int v3)]) (s1 := [.int v1]) (t1 := (jm_S0 L, M, J)) (p2 := 45) (l2 := [some (.ref 39), some (.int v1), some (.int v2), some (.int v3)]) (s2 := [.int v1]) (t2 := (jm_S0 L, M, J)) (fun _ _ => rfl) h6 ?_
        refine jm_go.blk 6 (pc' := 16) (ls' := [some (.ref 39), some (.int (v1 + 1)), some (.int v2), some (.int (v3 + 1))]) (st' := []) (t' := (jm_S0 L, M, J)) (fun _ _ => rfl) ?_
        exact hkb (v1 + 1) v2 (v3 + 1) _ H

def f26_4 (M : jm_MM) (ke0 : Int32 → Option (Int32)) : Nat → Int32 → Int32 → Option (Int32)
  | 0, _, _ => none
  | n0 + 1, v1, v2 => bif decide (((M 39 1) - 1) ≤ v2) then (ke0 v1) else (f26_16 M (fun ve7 ve8 => (f26_4 M ke0 n0) ve7 (ve8 + 1)) jm_F v1 v2 0)
theorem g26_4 (L : Nat) (d : Nat) (M : jm_MM) (J : jm_JJ) (ke0 : Int32 → Option (Int32)) (hke0 : ∀  (v1 : Int32) (r : Int32), ke0 v1 = some r → jm_go d (jm_G 26) 64 [none, some (.int v1), none, none] [] (jm_S0 L, M, J) (some (.int r), (jm_S0 L, M, J))) : ∀ (n0 : Nat) (v1 : Int32) (v2 : Int32) (r : Int32), f26_4 M ke0 n0 v1 v2 = some r → jm_go d (jm_G 26) 4 [some (.ref 39), some (.int v1), some (.int v2), none] [] (jm_S0 L, M, J) (some (.int r), (jm_S0 L, M, J)) := by
  intro n0
  induction n0 with
  | zero => intro v1 v2 r H; cases H
  | succ n0 ih =>
    intro v1 v2 r H
    have hkb := ih
    unfold f26_4 at H
    rcases jm_bro H with ⟨h1, H⟩ | ⟨h1, H⟩
    · refine jm_go.brt 6 (b := decide (((M 39 1) - 1) ≤ v2)) (p1 := 64) (l1 := [some (.ref 39), some (.int v1), some (.int v2), none]) (s1 := []) (t1 := (jm_S0 L, M, J)) (p2 := 14) (l2 := [some (.ref 39), some (.int v1), some (.int v2), none]) (s2 := []) (t2 := (jm_S0 L, M, J)) (fun _ _ => rfl) h1 ?_
      refine jm_go.lab (ls' := [none, some (.int v1), none, none]) (fun i hi => by cases hi; rfl) ?_
      exact hke0 v1 _ H
    · refine jm_go.brf 6 (b := decide (((M 39 1) - 1) ≤ v2)) (p1 := 64) (l1 := [some (.ref 39), some (.int v1), some (.int v2), none]) (s1 := []) (t1 := (jm_S0 L, M, J)) (p2 := 14) (l2 := [some (.ref 39), some (.int v1), some (.int v2), none]) (s2 := []) (t2 := (jm_S0 L, M, J)) (fun _ _ => rfl) h1 ?_
      refine jm_go.blk 2 (pc' := 16) (ls' := [some (.ref 39), some (.int v1), some (.int v2), some (.int 0)]) (st' := []) (t' := (jm_S0 L, M, J)) (fun _ _ => rfl) ?_
      exact g26_16 L d M J
        _ (fun ve7 ve8 r H => by
          refine jm_go.blk 2 (pc' := 4) (ls' := [some (.ref 39), some (.int ve7), some (.int (ve8 + 1)), none]) (st' := []) (t' := (jm_S0 L, M, J)) (fun _ _ => rfl) ?_
          exact hkb ve7 (ve8 + 1) _ H
          )
        _ v1 v2 0 _ H

/-- X2_countEnding -/
def f26 (M : jm_MM)  : Option (Int32) := f26_4 M (fun ve9 => some ve9) jm_F 0 0
theorem g26 (L : Nat) (d : Nat) (M : jm_MM) (J : jm_JJ)  (r : Int32) (H : f26 M  = some r) : jm_go d (jm_G 26) 0 (jm_en 4 [.ref 39]) [] (jm_S0 L, M, J) (some (.int r), (jm_S0 L, M, J)) := by
  unfold f26 at H
  refine jm_go.blk 4 (pc' := 4) (ls' := [some (.ref 39), some (.int 0), some (.int 0), none]) (st' := []) (t' := (jm_S0 L, M, J)) (fun _ _ => rfl) ?_
  exact g26_4 L d M J
    _ (fun ve9 r H => by
      cases H
      exact jm_go.ret 2 (fun _ _ => rfl)
      )
    _ 0 0 _ H

def f27_14 (M : jm_MM) (ke0 : Int32 → Int32 → Option (Int32)) : Nat → Int32 → Int32 → Int32 → Option (Int32)
  | 0, _, _, _ => none
  | n0 + 1, v1, v2, v3 => jm_gd (jm_inb v2 6) (bif decide ((M (45 + 10 * v2.toNatClampNeg) 0) ≤ v3) then (ke0 v1 v2) else (jm_gd (jm_inb v2 6) (jm_gd (jm_inb v3 24) (bif !decide ((M (45 + 10 * v2.toNatClampNeg + 4) v3.toNatClampNeg) = 0) then ((f27_14 M ke0 n0) (v1 + 0) v2 (v3 + 1)) else ((f27_14 M ke0 n0) (v1 + 1) v2 (v3 + 1))))))
theorem g27_14 (L : Nat) (d : Nat) (M : jm_MM) (J : jm_JJ) (ke0 : Int32 → Int32 → Option (Int32)) (hke0 : ∀  (v1 : Int32) (v2 : Int32) (r : Int32), ke0 v1 v2 = some r → jm_go d (jm_G 27) 55 [some (.ref 39), some (.int v1), some (.int v2), none] [] (jm_S0 L, M, J) (some (.int r), (jm_S0 L, M, J))) : ∀ (n0 : Nat) (v1 : Int32) (v2 : Int32) (v3 : Int32) (r : Int32), f27_14 M ke0 n0 v1 v2 v3 = some r → jm_go d (jm_G 27) 14 [some (.ref 39), some (.int v1), some (.int v2), some (.int v3)] [] (jm_S0 L, M, J) (some (.int r), (jm_S0 L, M, J)) := by
  intro n0
  induction n0 with
  | zero => intro v1 v2 v3 r H; cases H
  | succ n0 ih =>
    intro v1 v2 v3 r H
    have hkb := ih
    unfold f27_14 at H
    obtain ⟨h2, H⟩ := jm_gdo H
    refine jm_go.gfr 5 (b := jm_inb v2 6) (o := (jm_S0 L).2.2.2.2 41 v2.toNatClampNeg) (q := 45 + 10 * v2.toNatClampNeg) (pc' := 21) (ls' := [some (.ref 39), some (.int v1), some (.int v2), some (.int v3)]) (st' := [.int v3]) (t' := (jm_S0 L, M, J)) (fun _ _ => rfl) h2 (jm_aHr L h2) ?_
    refine jm_go.grd 1 (b := jm_is (jm_S0 L) (45 + 10 * v2.toNatClampNeg) 3) (pc' := 24) (ls' := [some (.ref 39), some (.int v1), some (.int v2), some (.int v3)]) (st' := [.int (M (45 + 10 * v2.toNatClampNeg) 0), .int v3]) (t' := (jm_S0 L, M, J)) (fun _ _ => rfl) (jm_fH L (jm_aH h2)) ?_
    rcases jm_bro H with ⟨h3, H⟩ | ⟨h3, H⟩
    · refine jm_go.brt 1 (b := decide ((M (45 + 10 * v2.toNatClampNeg) 0) ≤ v3)) (p1 := 55) (l1 := [some (.ref 39), some (.int v1), some (.int v2), some (.int v3)]) (s1 := []) (t1 := (jm_S0 L, M, J)) (p2 := 27) (l2 := [some (.ref 39), some (.int v1), some (.int v2), some (.int v3)]) (s2 := []) (t2 := (jm_S0 L, M, J)) (fun _ _ => rfl) h3 ?_
      refine jm_go.lab (ls' := [some (.ref 39), some (.int v1), some (.int v2), none]) (fun i hi => by cases hi; rfl) ?_
      exact hke0 v1 v2 _ H
    · refine jm_go.brf 1 (b := decide ((M (45 + 10 * v2.toNatClampNeg) 0) ≤ v3)) (p1 := 55) (l1 := [some (.ref 39), some (.int v1), some (.int v2), some (.int v3)]) (s1 := []) (t1 := (jm_S0 L, M, J)) (p2 := 27) (l2 := [some (.ref 39), some (.int v1), some (.int v2), some (.int v3)]) (s2 := []) (t2 := (jm_S0 L, M, J)) (fun _ _ => rfl) h3 ?_
      obtain ⟨h4, H⟩ := jm_gdo H
      refine jm_go.gfr 5 (b := jm_inb v2 6) (o := (jm_S0 L).2.2.2.2 41 v2.toNatClampNeg) (q := 45 + 10 * v2.toNatClampNeg) (pc' := 34) (ls' := [some (.ref 39), some (.int v1), some (.int v2), some (.int v3)]) (st' := [.int v1]) (t' := (jm_S0 L, M, J)) (fun _ _ => rfl) h4 (jm_aHr L h4) ?_
      refine jm_go.gfr 1 (b := jm_is (jm_S0 L) (45 + 10 * v2.toNatClampNeg) 3) (o := (jm_S0 L).2.2.2.2 (45 + 10 * v2.toNatClampNeg) 4) (q := 45 + 10 * v2.toNatClampNeg + 4) (pc' := 37) (ls' := [some (.ref 39), some (.int v1), some (.int v2), some (.int v3)]) (st' := [.int v1]) (t' := (jm_S0 L, M, J)) (fun _ _ => rfl) (jm_fH L (jm_aH h4)) (jm_rH4 L (jm_aH h4)) ?_
      obtain ⟨h5, H⟩ := jm_gdo H
      refine jm_go.grd 2 (b := ((Nat.beq 0 1 && Nat.beq (45 + 10 * v2.toNatClampNeg + 4) 0) || (Nat.beq 0 0 && jm_is (jm_S0 L) (45 + 10 * v2.toNatClampNeg + 4) 9)) && jm_inb v3 ((jm_S0 L).2.2.2.1 (45 + 10 * v2.toNatClampNeg + 4))) (pc' := 39) (ls' := [some (.ref 39), some (.int v1), some (.int v2), some (.int v3)]) (st' := [.int (M (45 + 10 * v2.toNatClampNeg + 4) v3.toNatClampNeg), .int v1]) (t' := (jm_S0 L, M, J)) (fun _ _ => rfl) (jm_gia (jm_fH4 L (jm_aH h4)) h5) ?_
      rcases jm_bro H with ⟨h6, H⟩ | ⟨h6, H⟩
      · refine jm_go.brt 1 (b := !decide ((M (45 + 10 * v2.toNatClampNeg + 4) v3.toNatClampNeg) = 0)) (p1 := 46) (l1 := [some (.ref 39), some (.int v1), some (.int v2), some (.int v3)]) (s1 := [.int v1]) (t1 := (jm_S0 L, M, J)) (p2 := 42) (l2 := [some (.ref 39), some (.int v1), some (.int v2), some (.int v3)]) (s2 := [.int v1]) (t2 := (jm_S0 L, M, J)) (fun _ _ => rfl) h6 ?_
        refine jm_go.blk 5 (pc' := 14) (ls' := [some (.ref 39), some (.int (v1 + 0)), some (.int v2), some (.int (v3 + 1))]) (st' := []) (t' := (jm_S0 L, M, J)) (fun _ _ => rfl) ?_
        exact hkb (v1 + 0) v2 (v3 + 1) _ H
      · refine jm_go.brf 1 (b := !decide ((M (45 + 10 * v2.toNatClampNeg + 4) v3.toNatClampNeg) = 0)) (p1 := 46) (l1 := [some (.ref 39), some (.int v1), some (.int v2), some (.int v3)]) (s1 := [.int v1]) (t1 := (jm_S0 L, M, J)) (p2 := 42) (l2 := [some (.ref 39), some (.int v1), some (.int v2), some (.int v3)]) (s2 := [.int v1]) (t2 := (jm_S0 L, M, J)) (fun _ _ => rfl) h6 ?_
        refine jm_go.blk 6 (pc' := 14) (ls' := [some (.ref 39), some (.int (v1 + 1)), some (.int v2), some (.int (v3 + 1))]) (st' := []) (t' := (jm_S0 L, M, J)) (fun _ _ => rfl) ?_
        exact hkb (v1 + 1) v2 (v3 + 1) _ H

def f27_4 (M : jm_MM) (ke0 : Int32 → Option (Int32)) : Nat → Int32 → Int32 → Option (Int32)
  | 0, _, _ => none
  | n0 + 1, v1, v2 => bif decide ((M 39 1) ≤ v2) then (ke0 v1) else (f27_14 M (fun ve7 ve8 => (f27_4 M ke0 n0) ve7 (ve8 + 1)) jm_F v1 v2 0)
theorem g27_4 (L : Nat) (d : Nat) (M : jm_MM) (J : jm_JJ) (ke0 : Int32 → Option (Int32)) (hke0 : ∀  (v1 : Int32) (r : Int32), ke0 v1 = some r → jm_go d (jm_G 27) 61 [none, some (.int v1), none, none] [] (jm_S0 L, M, J) (some (.int r), (jm_S0 L, M, J))) : ∀ (n0 : Nat) (v1 : Int32) (v2 : Int32) (r : Int32), f27_4 M ke0 n0 v1 v2 = some r → jm_go d (jm_G 27) 4 [some (.ref 39), some (.int v1), some (.int v2), none] [] (jm_S0 L, M, J) (some (.int r), (jm_S0 L, M, J)) := by
  intro n0
  induction n0 with
  | zero => intro v1 v2 r H; cases H
  | succ n0 ih =>
    intro v1 v2 r H
    have hkb := ih
    unfold f27_4 at H
    rcases jm_bro H with ⟨h1, H⟩ | ⟨h1, H⟩
    · refine jm_go.brt 4 (b := decide ((M 39 1) ≤ v2)) (p1 := 61) (l1 := [some (.ref 39), some (.int v1), some (.int v2), none]) (s1 := []) (t1 := (jm_S0 L, M, J)) (p2 := 12) (l2 := [some (.ref 39), some (.int v1), some (.int v2), none]) (s2 := []) (t2 := (jm_S0 L, M, J)) (fun _ _ => rfl) h1 ?_
      refine jm_go.lab (ls' := [none, some (.int v1), none, none]) (fun i hi => by cases hi; rfl) ?_
      exact hke0 v1 _ H
    · refine jm_go.brf 4 (b := decide ((M 39 1) ≤ v2)) (p1 := 61) (l1 := [some (.ref 39), some (.int v1), some (.int v2), none]) (s1 := []) (t1 := (jm_S0 L, M, J)) (p2 := 12) (l2 := [some (.ref 39), some (.int v1), some (.int v2), none]) (s2 := []) (t2 := (jm_S0 L, M, J)) (fun _ _ => rfl) h1 ?_
      refine jm_go.blk 2 (pc' := 14) (ls' := [some (.ref 39), some (.int v1), some (.int v2), some (.int 0)]) (st' := []) (t' := (jm_S0 L, M, J)) (fun _ _ => rfl) ?_
      exact g27_14 L d M J
        _ (fun ve7 ve8 r H => by
          refine jm_go.blk 2 (pc' := 4) (ls' := [some (.ref 39), some (.int ve7), some (.int (ve8 + 1)), none]) (st' := []) (t' := (jm_S0 L, M, J)) (fun _ _ => rfl) ?_
          exact hkb ve7 (ve8 + 1) _ H
          )
        _ v1 v2 0 _ H

/-- X2_countBeginning -/
def f27 (M : jm_MM)  : Option (Int32) := f27_4 M (fun ve9 => some ve9) jm_F 0 1
theorem g27 (L : Nat) (d : Nat) (M : jm_MM) (J : jm_JJ)  (r : Int32) (H : f27 M  = some r) : jm_go d (jm_G 27) 0 (jm_en 4 [.ref 39]) [] (jm_S0 L, M, J) (some (.int r), (jm_S0 L, M, J)) := by
  unfold f27 at H
  refine jm_go.blk 4 (pc' := 4) (ls' := [some (.ref 39), some (.int 0), some (.int 1), none]) (st' := []) (t' := (jm_S0 L, M, J)) (fun _ _ => rfl) ?_
  exact g27_4 L d M J
    _ (fun ve9 r H => by
      cases H
      exact jm_go.ret 2 (fun _ _ => rfl)
      )
    _ 0 1 _ H

def f28_14 (M : jm_MM) (ke0 : Int32 → Int32 → Option (Int32)) : Nat → Int32 → Int32 → Int32 → Option (Int32)
  | 0, _, _, _ => none
  | n0 + 1, v1, v2, v3 => jm_gd (jm_inb v2 6) (bif decide ((M (45 + 10 * v2.toNatClampNeg) 0) ≤ v3) then (ke0 v1 v2) else (jm_gd (jm_inb v2 6) (jm_gd (jm_inb v3 24) ((f28_14 M ke0 n0) (if v1 < M (45 + 10 * v2.toNatClampNeg + 6) v3.toNatClampNeg then M (45 + 10 * v2.toNatClampNeg + 6) v3.toNatClampNeg else v1) v2 (v3 + 1)))))
theorem g28_14 (L : Nat) (d : Nat) (M : jm_MM) (J : jm_JJ) (ke0 : Int32 → Int32 → Option (Int32)) (hke0 : ∀  (v1 : Int32) (v2 : Int32) (r : Int32), ke0 v1 v2 = some r → jm_go (d + 1) (jm_G 28) 49 [some (.ref 39), some (.int v1), some (.int v2), none] [] (jm_S0 L, M, J) (some (.int r), (jm_S0 L, M, J))) : ∀ (n0 : Nat) (v1 : Int32) (v2 : Int32) (v3 : Int32) (r : Int32), f28_14 M ke0 n0 v1 v2 v3 = some r → jm_go (d + 1) (jm_G 28) 14 [some (.ref 39), some (.int v1), some (.int v2), some (.int v3)] [] (jm_S0 L, M, J) (some (.int r), (jm_S0 L, M, J)) := by
  intro n0
  induction n0 with
  | zero => intro v1 v2 v3 r H; cases H
  | succ n0 ih =>
    intro v1 v2 v3 r H
    have hkb := ih
    unfold f28_14 at H
    obtain ⟨h2, H⟩ := jm_gdo H
    refine jm_go.gfr 5 (b := jm_inb v2 6) (o := (jm_S0 L).2.2.2.2 41 v2.toNatClampNeg) (q := 45 + 10 * v2.toNatClampNeg) (pc' := 21) (ls' := [some (.ref 39), some (.int v1), some (.int v2), some (.int v3)]) (st' := [.int v3]) (t' := (jm_S0 L, M, J)) (fun _ _ => rfl) h2 (jm_aHr L h2) ?_
    refine jm_go.grd 1 (b := jm_is (jm_S0 L) (45 + 10 * v2.toNatClampNeg) 3) (pc' := 24) (ls' := [some (.ref 39), some (.int v1), some (.int v2), some (.int v3)]) (st' := [.int (M (45 + 10 * v2.toNatClampNeg) 0), .int v3]) (t' := (jm_S0 L, M, J)) (fun _ _ => rfl) (jm_fH L (jm_aH h2)) ?_
    rcases jm_bro H with ⟨h3, H⟩ | ⟨h3, H⟩
    · refine jm_go.brt 1 (b := decide ((M (45 + 10 * v2.toNatClampNeg) 0) ≤ v3)) (p1 := 49) (l1 := [some (.ref 39), some (.int v1), some (.int v2), some (.int v3)]) (s1 := []) (t1 := (jm_S0 L, M, J)) (p2 := 27) (l2 := [some (.ref 39), some (.int v1), some (.int v2), some (.int v3)]) (s2 := []) (t2 := (jm_S0 L, M, J)) (fun _ _ => rfl) h3 ?_
      refine jm_go.lab (ls' := [some (.ref 39), some (.int v1), some (.int v2), none]) (fun i hi => by cases hi; rfl) ?_
      exact hke0 v1 v2 _ H
    · refine jm_go.brf 1 (b := decide ((M (45 + 10 * v2.toNatClampNeg) 0) ≤ v3)) (p1 := 49) (l1 := [some (.ref 39), some (.int v1), some (.int v2), some (.int v3)]) (s1 := []) (t1 := (jm_S0 L, M, J)) (p2 := 27) (l2 := [some (.ref 39), some (.int v1), some (.int v2), some (.int v3)]) (s2 := []) (t2 := (jm_S0 L, M, J)) (fun _ _ => rfl) h3 ?_
      obtain ⟨h4, H⟩ := jm_gdo H
      refine jm_go.gfr 5 (b := jm_inb v2 6) (o := (jm_S0 L).2.2.2.2 41 v2.toNatClampNeg) (q := 45 + 10 * v2.toNatClampNeg) (pc' := 34) (ls' := [some (.ref 39), some (.int v1), some (.int v2), some (.int v3)]) (st' := [.int v1]) (t' := (jm_S0 L, M, J)) (fun _ _ => rfl) h4 (jm_aHr L h4) ?_
      refine jm_go.gfr 1 (b := jm_is (jm_S0 L) (45 + 10 * v2.toNatClampNeg) 3) (o := (jm_S0 L).2.2.2.2 (45 + 10 * v2.toNatClampNeg) 6) (q := 45 + 10 * v2.toNatClampNeg + 6) (pc' := 37) (ls' := [some (.ref 39), some (.int v1), some (.int v2), some (.int v3)]) (st' := [.int v1]) (t' := (jm_S0 L, M, J)) (fun _ _ => rfl) (jm_fH L (jm_aH h4)) (jm_rH6 L (jm_aH h4)) ?_
      obtain ⟨h5, H⟩ := jm_gdo H
      refine jm_go.grd 2 (b := ((Nat.beq 0 1 && Nat.beq (45 + 10 * v2.toNatClampNeg + 6) 0) || (Nat.beq 0 0 && jm_is (jm_S0 L) (45 + 10 * v2.toNatClampNeg + 6) 9)) && jm_inb v3 ((jm_S0 L).2.2.2.1 (45 + 10 * v2.toNatClampNeg + 6))) (pc' := 39) (ls' := [some (.ref 39), some (.int v1), some (.int v2), some (.int v3)]) (st' := [.int (M (45 + 10 * v2.toNatClampNeg + 6) v3.toNatClampNeg), .int v1]) (t' := (jm_S0 L, M, J)) (fun _ _ => rfl) (jm_gia (jm_fH6 L (jm_aH h4)) h5) ?_
      refine jm_go.blk 4 (pc' := 14) (ls' := [some (.ref 39), some (.int (if v1 < M (45 + 10 * v2.toNatClampNeg + 6) v3.toNatClampNeg then M (45 + 10 * v2.toNatClampNeg + 6) v3.toNatClampNeg else v1)), some (.int v2), some (.int (v3 + 1))]) (st' := []) (t' := (jm_S0 L, M, J)) (fun _ _ => rfl) ?_
      exact hkb (if v1 < M (45 + 10 * v2.toNatClampNeg + 6) v3.toNatClampNeg then M (45 + 10 * v2.toNatClampNeg + 6) v3.toNatClampNeg else v1) v2 (v3 + 1) _ H

def f28_4 (M : jm_MM) (ke0 : Int32 → Option (Int32)) : Nat → Int32 → Int32 → Option (Int32)
  | 0, _, _ => none
  | n0 + 1, v1, v2 => bif decide ((M 39 1) ≤ v2) then (ke0 v1) else (f28_14 M (fun ve6 ve7 => (f28_4 M ke0 n0) ve6 (ve7 + 1)) jm_F v1 v2 0)
theorem g28_4 (L : Nat) (d : Nat) (M : jm_MM) (J : jm_JJ) (ke0 : Int32 → Option (Int32)) (hke0 : ∀  (v1 : Int32) (r : Int32), ke0 v1 = some r → jm_go (d + 1) (jm_G 28) 55 [none, some (.int v1), none, none] [] (jm_S0 L, M, J) (some (.int r), (jm_S0 L, M, J))) : ∀ (n0 : Nat) (v1 : Int32) (v2 : Int32) (r : Int32), f28_4 M ke0 n0 v1 v2 = some r → jm_go (d + 1) (jm_G 28) 4 [some (.ref 39), some (.int v1), some (.int v2), none] [] (jm_S0 L, M, J) (some (.int r), (jm_S0 L, M, J)) := by
  intro n0
  induction n0 with
  | zero => intro v1 v2 r H; cases H
  | succ n0 ih =>
    intro v1 v2 r H
    have hkb := ih
    unfold f28_4 at H
    rcases jm_bro H with ⟨h1, H⟩ | ⟨h1, H⟩
    · refine jm_go.brt 4 (b := decide ((M 39 1) ≤ v2)) (p1 := 55) (l1 := [some (.ref 39), some (.int v1), some (.int v2), none]) (s1 := []) (t1 := (jm_S0 L, M, J)) (p2 := 12) (l2 := [some (.ref 39), some (.int v1), some (.int v2), none]) (s2 := []) (t2 := (jm_S0 L, M, J)) (fun _ _ => rfl) h1 ?_
      refine jm_go.lab (ls' := [none, some (.int v1), none, none]) (fun i hi => by cases hi; rfl) ?_
      exact hke0 v1 _ H
    · refine jm_go.brf 4 (b := decide ((M 39 1) ≤ v2)) (p1 := 55) (l1 := [some (.ref 39), some (.int v1), some (.int v2), none]) (s1 := []) (t1 := (jm_S0 L, M, J)) (p2 := 12) (l2 := [some (.ref 39), some (.int v1), some (.int v2), none]) (s2 := []) (t2 := (jm_S0 L, M, J)) (fun _ _ => rfl) h1 ?_
      refine jm_go.blk 2 (pc' := 14) (ls' := [some (.ref 39), some (.int v1), some (.int v2), some (.int 0)]) (st' := []) (t' := (jm_S0 L, M, J)) (fun _ _ => rfl) ?_
      exact g28_14 L d M J
        _ (fun ve6 ve7 r H => by
          refine jm_go.blk 2 (pc' := 4) (ls' := [some (.ref 39), some (.int ve6), some (.int (ve7 + 1)), none]) (st' := []) (t' := (jm_S0 L, M, J)) (fun _ _ => rfl) ?_
          exact hkb ve6 (ve7 + 1) _ H
          )
        _ v1 v2 0 _ H

/-- X2_longestBranch -/
def f28 (M : jm_MM)  : Option (Int32) := f28_4 M (fun ve8 => some ve8) jm_F 0 0
theorem g28 (L : Nat) (d : Nat) (M : jm_MM) (J : jm_JJ)  (r : Int32) (H : f28 M  = some r) : jm_go (d + 1) (jm_G 28) 0 (jm_en 4 [.ref 39]) [] (jm_S0 L, M, J) (some (.int r), (jm_S0 L, M, J)) := by
  unfold f28 at H
  refine jm_go.blk 4 (pc' := 4) (ls' := [some (.ref 39), some (.int 0), some (.int 0), none]) (st' := []) (t' := (jm_S0 L, M, J)) (fun _ _ => rfl) ?_
  exact g28_4 L d M J
    _ (fun ve8 r H => by
      cases H
      exact jm_go.ret 2 (fun _ _ => rfl)
      )
    _ 0 0 _ H

def f32_2 (M : jm_MM) (a0 : Nat) (ke0 : Option (Int32)) (ke1 : Int32 → Int32 → Option (Int32)) : Nat → Int32 → Int32 → Option (Int32)
  | 0, _, _ => none
  | n0 + 1, v1, v2 => bif decide ((M a0 0) ≤ v2) then (ke0 ) else (jm_gd (jm_inb v2 24) (jm_bd (f87 M (M (a0 + 1) v2.toNatClampNeg) v1) (fun q3 => bif decide (q3 = 0) then ((f32_2 M a0 ke0 ke1 n0) v1 (v2 + 1)) else (ke1 v1 v2))))
theorem g32_2 (L : Nat) (d : Nat) (M : jm_MM) (J : jm_JJ) (a0 : Nat) (ha0 : jm_isH a0) (ke0 : Option (Int32)) (hke0 : ∀  (r : Int32), ke0  = some r → jm_go (d + 1) (jm_G 32) 31 [none, none, none] [] (jm_S0 L, M, J) (some (.int r), (jm_S0 L, M, J))) (ke1 : Int32 → Int32 → Option (Int32)) (hke1 : ∀  (v1 : Int32) (v2 : Int32) (r : Int32), ke1 v1 v2 = some r → jm_go (d + 1) (jm_G 32) 23 [some (.ref a0), some (.int v1), some (.int v2)] [] (jm_S0 L, M, J) (some (.int r), (jm_S0 L, M, J))) : ∀ (n0 : Nat) (v1 : Int32) (v2 : Int32) (r : Int32), f32_2 M a0 ke0 ke1 n0 v1 v2 = some r → jm_go (d + 1) (jm_G 32) 2 [some (.ref a0), some (.int v1), some (.int v2)] [] (jm_S0 L, M, J) (some (.int r), (jm_S0 L, M, J)) := by
  intro n0
  induction n0 with
  | zero => intro v1 v2 r H; cases H
  | succ n0 ih =>
    intro v1 v2 r H
    have hkb := ih
    unfold f32_2 at H
    refine jm_go.grd 3 (b := jm_is (jm_S0 L) a0 3) (pc' := 7) (ls' := [some (.ref a0), some (.int v1), some (.int v2)]) (st' := [.int (M a0 0), .int v2]) (t' := (jm_S0 L, M, J)) (fun _ _ => rfl) (jm_fH L ha0) ?_
    rcases jm_bro H with ⟨h1, H⟩ | ⟨h1, H⟩
    · refine jm_go.brt 1 (b := decide ((M a0 0) ≤ v2)) (p1 := 31) (l1 := [some (.ref a0), some (.int v1), some (.int v2)]) (s1 := []) (t1 := (jm_S0 L, M, J)) (p2 := 10) (l2 := [some (.ref a0), some (.int v1), some (.int v2)]) (s2 := []) (t2 := (jm_S0 L, M, J)) (fun _ _ => rfl) h1 ?_
      refine jm_go.lab (ls' := [none, none, none]) (fun i hi => by cases hi; rfl) ?_
      exact hke0  _ H
    · refine jm_go.brf 1 (b := decide ((M a0 0) ≤ v2)) (p1 := 31) (l1 := [some (.ref a0), some (.int v1), some (.int v2)]) (s1 := []) (t1 := (jm_S0 L, M, J)) (p2 := 10) (l2 := [some (.ref a0), some (.int v1), some (.int v2)]) (s2 := []) (t2 := (jm_S0 L, M, J)) (fun _ _ => rfl) h1 ?_
      refine jm_go.gfr 2 (b := jm_is (jm_S0 L) a0 3) (o := (jm_S0 L).2.2.2.2 a0 1) (q := a0 + 1) (pc' := 14) (ls' := [some (.ref a0), some (.int v1), some (.int v2)]) (st' := []) (t' := (jm_S0 L, M, J)) (fun _ _ => rfl) (jm_fH L ha0) (jm_rH1 L ha0) ?_
      obtain ⟨h2, H⟩ := jm_gdo H
      refine jm_go.grd 2 (b := ((Nat.beq 0 1 && Nat.beq (a0 + 1) 0) || (Nat.beq 0 0 && jm_is (jm_S0 L) (a0 + 1) 9)) && jm_inb v2 ((jm_S0 L).2.2.2.1 (a0 + 1))) (pc' := 16) (ls' := [some (.ref a0), some (.int v1), some (.int v2)]) (st' := [.int (M (a0 + 1) v2.toNatClampNeg)]) (t' := (jm_S0 L, M, J)) (fun _ _ => rfl) (jm_gia (jm_fH1 L ha0) h2) ?_
      obtain ⟨q3, h4, H⟩ := jm_bdo H
      refine jm_go.call 2 (d := d) (b := true) (u := 87) (as := [.int (M (a0 + 1) v2.toNatClampNeg), .int v1]) (pc' := 20) (ls' := [some (.ref a0), some (.int v1), some (.int v2)]) (st' := []) (t' := (jm_S0 L, M, J)) (fun _ _ => rfl) rfl rfl (g87 L d M J (M (a0 + 1) v2.toNatClampNeg) v1 _ h4) ?_
      rcases jm_bro H with ⟨h5, H⟩ | ⟨h5, H⟩
      · refine jm_go.brt 1 (b := decide (q3 = 0)) (p1 := 25) (l1 := [some (.ref a0), some (.int v1), some (.int v2)]) (s1 := []) (t1 := (jm_S0 L, M, J)) (p2 := 23) (l2 := [some (.ref a0), some (.int v1), some (.int v2)]) (s2 := []) (t2 := (jm_S0 L, M, J)) (fun _ _ => rfl) h5 ?_
        refine jm_go.blk 2 (pc' := 2) (ls' := [some (.ref a0), some (.int v1), some (.int (v2 + 1))]) (st' := []) (t' := (jm_S0 L, M, J)) (fun _ _ => rfl) ?_
        exact hkb v1 (v2 + 1) _ H
      · refine jm_go.brf 1 (b := decide (q3 = 0)) (p1 := 25) (l1 := [some (.ref a0), some (.int v1), some (.int v2)]) (s1 := []) (t1 := (jm_S0 L, M, J)) (p2 := 23) (l2 := [some (.ref a0), some (.int v1), some (.int v2)]) (s2 := []) (t2 := (jm_S0 L, M, J)) (fun _ _ => rfl) h5 ?_
        exact hke1 v1 v2 _ H

/-- X3_numberOf -/
def f32 (M : jm_MM) (a0 : Nat) (x0 : Int32) : Option (Int32) := f32_2 M a0 (some (-1)) (fun ve6 ve7 => some ve7) jm_F x0 0
theorem g32 (L : Nat) (d : Nat) (M : jm_MM) (J : jm_JJ) (a0 : Nat) (ha0 : jm_isH a0) (x0 : Int32) (r : Int32) (H : f32 M a0 x0 = some r) : jm_go (d + 1) (jm_G 32) 0 (jm_en 3 [.ref a0, .int x0]) [] (jm_S0 L, M, J) (some (.int r), (jm_S0 L, M, J)) := by
  unfold f32 at H
  refine jm_go.blk 2 (pc' := 2) (ls' := [some (.ref a0), some (.int x0), some (.int 0)]) (st' := []) (t' := (jm_S0 L, M, J)) (fun _ _ => rfl) ?_
  exact g32_2 L d M J a0 ha0
    _ (fun  r H => by
      cases H
      exact jm_go.ret 2 (fun _ _ => rfl)
      )
    _ (fun ve6 ve7 r H => by
      cases H
      exact jm_go.ret 2 (fun _ _ => rfl)
      )
    _ x0 0 _ H


/-- X4_begin -/
def f39 (M : jm_MM) (J : jm_JJ) (x0 : Int32) : Option (jm_JJ) := some (jm_upL J 112 0 (Int32.toInt64 x0))
theorem g39 (L : Nat) (d : Nat) (M : jm_MM) (J : jm_JJ) (x0 : Int32) (r : jm_JJ) (H : f39 M J x0 = some r) : jm_go d (jm_G 39) 0 (jm_en 2 [.ref 112, .int x0]) [] (jm_S0 L, M, J) (none, (jm_S0 L, M, r)) := by
  unfold f39 at H
  cases H
  exact jm_go.ret 5 (fun _ _ => rfl)


/-- X4_draw -/
def f40 (M : jm_MM) (J : jm_JJ)  : Option (Int32 × jm_JJ) := some (((jm_upL J 112 0 (((J 112 0) * 16807) - ((J 112 0) * 16807) / 2147483647 * 2147483647)) 112 0).toInt32, (jm_upL J 112 0 (((J 112 0) * 16807) - ((J 112 0) * 16807) / 2147483647 * 2147483647)))
theorem g40 (L : Nat) (d : Nat) (M : jm_MM) (J : jm_JJ)  (r : Int32 × jm_JJ) (H : f40 M J  = some r) : jm_go d (jm_G 40) 0 (jm_en 1 [.ref 112]) [] (jm_S0 L, M, J) (some (.int r.1), (jm_S0 L, M, r.2)) := by
  unfold f40 at H
  cases H
  exact jm_go.ret 12 (fun _ _ => rfl)


/-- X4_layAnywhere -/
def f43 (M : jm_MM) (J : jm_JJ) (x1 : Int32) (x2 : Int32) : Option (jm_MM × jm_JJ) := jm_bd (f40 M J) (fun q1 => jm_bd (f40 M q1.2) (fun q3 => jm_bd (f12 M x1 x2 (q1.1 - q1.1 / 64 * 64) (q3.1 - q3.1 / 64 * 64)) (fun q5 => some (q5, q3.2))))
theorem g43 (L : Nat) (d : Nat) (M : jm_MM) (J : jm_JJ) (x1 : Int32) (x2 : Int32) (r : jm_MM × jm_JJ) (H : f43 M J x1 x2 = some r) : jm_go (d + 1) (jm_G 43) 0 (jm_en 6 [.ref 112, .ref 2, .int x1, .int x2]) [] (jm_S0 L, M, J) (none, (jm_S0 L, r.1, r.2)) := by
  unfold f43 at H
  obtain ⟨q1, h2, H⟩ := jm_bdo H
  refine jm_go.call 2 (d := d) (b := true) (u := 40) (as := [.ref 112]) (pc' := 4) (ls' := [some (.ref 112), some (.ref 2), some (.int x1), some (.int x2), none, none]) (st' := []) (t' := (jm_S0 L, M, J)) (fun _ _ => rfl) rfl rfl (g40 L d M J _ h2) ?_
  obtain ⟨q3, h4, H⟩ := jm_bdo H
  refine jm_go.call 5 (d := d) (b := true) (u := 40) (as := [.ref 112]) (pc' := 13) (ls' := [some (.ref 112), some (.ref 2), some (.int x1), some (.int x2), some (.int (q1.1 - q1.1 / 64 * 64)), none]) (st' := []) (t' := (jm_S0 L, M, q1.2)) (fun _ _ => rfl) rfl rfl (g40 L d M q1.2 _ h4) ?_
  obtain ⟨q5, h6, H⟩ := jm_bdo H
  refine jm_go.call 9 (d := d) (b := true) (u := 12) (as := [.ref 2, .int x1, .int x2, .int (q1.1 - q1.1 / 64 * 64), .int (q3.1 - q3.1 / 64 * 64)]) (pc' := 28) (ls' := [some (.ref 112), some (.ref 2), some (.int x1), some (.int x2), some (.int (q1.1 - q1.1 / 64 * 64)), some (.int (q3.1 - q3.1 / 64 * 64))]) (st' := []) (t' := (jm_S0 L, M, q3.2)) (fun _ _ => rfl) rfl rfl (g12 L d M q3.2 x1 x2 (q1.1 - q1.1 / 64 * 64) (q3.1 - q3.1 / 64 * 64) _ h6) ?_
  cases H
  exact jm_go.ret 1 (fun _ _ => rfl)


/-- X4_scatter -/
def f41 (M : jm_MM) (J : jm_JJ) (x1 : Int32) (x2 : Int32) : Option (jm_MM × jm_JJ) := jm_bd (f40 M J) (fun q1 => bif decide ((q1.1 - q1.1 / 4 * 4) = 0) then (some (M, q1.2)) else (jm_bd (f43 M q1.2 x1 x2) (fun q4 => some (q4.1, q4.2))))
theorem g41 (L : Nat) (d : Nat) (M : jm_MM) (J : jm_JJ) (x1 : Int32) (x2 : Int32) (r : jm_MM × jm_JJ) (H : f41 M J x1 x2 = some r) : jm_go (d + 2) (jm_G 41) 0 (jm_en 4 [.ref 112, .ref 2, .int x1, .int x2]) [] (jm_S0 L, M, J) (none, (jm_S0 L, r.1, r.2)) := by
  unfold f41 at H
  obtain ⟨q1, h2, H⟩ := jm_bdo H
  refine jm_go.call 2 (d := d + 1) (b := true) (u := 40) (as := [.ref 112]) (pc' := 4) (ls' := [some (.ref 112), some (.ref 2), some (.int x1), some (.int x2)]) (st' := []) (t' := (jm_S0 L, M, J)) (fun _ _ => rfl) rfl rfl (g40 L (d + 1) M J _ h2) ?_
  rcases jm_bro H with ⟨h3, H⟩ | ⟨h3, H⟩
  · refine jm_go.brt 3 (b := decide ((q1.1 - q1.1 / 4 * 4) = 0)) (p1 := 16) (l1 := [some (.ref 112), some (.ref 2), some (.int x1), some (.int x2)]) (s1 := []) (t1 := (jm_S0 L, M, q1.2)) (p2 := 9) (l2 := [some (.ref 112), some (.ref 2), some (.int x1), some (.int x2)]) (s2 := []) (t2 := (jm_S0 L, M, q1.2)) (fun _ _ => rfl) h3 ?_
    cases H
    exact jm_go.ret 1 (fun _ _ => rfl)
  · refine jm_go.brf 3 (b := decide ((q1.1 - q1.1 / 4 * 4) = 0)) (p1 := 16) (l1 := [some (.ref 112), some (.ref 2), some (.int x1), some (.int x2)]) (s1 := []) (t1 := (jm_S0 L, M, q1.2)) (p2 := 9) (l2 := [some (.ref 112), some (.ref 2), some (.int x1), some (.int x2)]) (s2 := []) (t2 := (jm_S0 L, M, q1.2)) (fun _ _ => rfl) h3 ?_
    obtain ⟨q4, h5, H⟩ := jm_bdo H
    refine jm_go.call 5 (d := d + 1) (b := true) (u := 43) (as := [.ref 112, .ref 2, .int x1, .int x2]) (pc' := 16) (ls' := [some (.ref 112), some (.ref 2), some (.int x1), some (.int x2)]) (st' := []) (t' := (jm_S0 L, M, q1.2)) (fun _ _ => rfl) rfl rfl (g43 L d M q1.2 x1 x2 _ h5) ?_
    cases H
    exact jm_go.ret 1 (fun _ _ => rfl)


/-- X4_shifted -/
def f44 (M : jm_MM) (J : jm_JJ) (x0 : Int32) : Option (Int32 × jm_JJ) := jm_bd (f40 M J) (fun q1 => some ((if 0 < (if (x0 + (q1.1 - q1.1 / 7 * 7)) - 3 < 63 then (x0 + (q1.1 - q1.1 / 7 * 7)) - 3 else 63) then (if (x0 + (q1.1 - q1.1 / 7 * 7)) - 3 < 63 then (x0 + (q1.1 - q1.1 / 7 * 7)) - 3 else 63) else 0), q1.2))
theorem g44 (L : Nat) (d : Nat) (M : jm_MM) (J : jm_JJ) (x0 : Int32) (r : Int32 × jm_JJ) (H : f44 M J x0 = some r) : jm_go (d + 1) (jm_G 44) 0 (jm_en 2 [.ref 112, .int x0]) [] (jm_S0 L, M, J) (some (.int r.1), (jm_S0 L, M, r.2)) := by
  unfold f44 at H
  obtain ⟨q1, h2, H⟩ := jm_bdo H
  refine jm_go.call 5 (d := d) (b := true) (u := 40) (as := [.ref 112]) (pc' := 8) (ls' := [some (.ref 112), some (.int x0)]) (st' := [.int x0, .int 63, .int 0]) (t' := (jm_S0 L, M, J)) (fun _ _ => rfl) rfl rfl (g40 L d M J _ h2) ?_
  cases H
  exact jm_go.ret 8 (fun _ _ => rfl)

def f42_75  (M : jm_MM) (J : jm_JJ) (v2 : Int32) (v3 : Int32) (v4 : Int32) (v5 : Int32) : Option (jm_MM × jm_JJ) := bif !decide (v4 = 0) then (some (M, J)) else (bif decide (v5 = 0) then (some (M, J)) else (jm_bd (f43 M J v2 v3) (fun q9 => some (q9.1, q9.2))))
theorem g42_75 (L : Nat) (d : Nat) (_M : jm_MM) (_J : jm_JJ) (M : jm_MM) (J : jm_JJ) (v2 : Int32) (v3 : Int32) (v4 : Int32) (v5 : Int32) (r : jm_MM × jm_JJ) (H : f42_75  M J v2 v3 v4 v5 = some r) : jm_go (d + 2) (jm_G 42) 75 [some (.ref 112), some (.ref 2), some (.int v2), some (.int v3), some (.int v4), some (.int v5), none, none] [] (jm_S0 L, M, J) (none, (jm_S0 L, r.1, r.2)) := by
  unfold f42_75 at H
  rcases jm_bro H with ⟨h7, H⟩ | ⟨h7, H⟩
  · refine jm_go.brt 2 (b := !decide (v4 = 0)) (p1 := 92) (l1 := [some (.ref 112), some (.ref 2), some (.int v2), some (.int v3), some (.int v4), some (.int v5), none, none]) (s1 := []) (t1 := (jm_S0 L, M, J)) (p2 := 80) (l2 := [some (.ref 112), some (.ref 2), some (.int v2), some (.int v3), some (.int v4), some (.int v5), none, none]) (s2 := []) (t2 := (jm_S0 L, M, J)) (fun _ _ => rfl) h7 ?_
    cases H
    exact jm_go.ret 1 (fun _ _ => rfl)
  · refine jm_go.brf 2 (b := !decide (v4 = 0)) (p1 := 92) (l1 := [some (.ref 112), some (.ref 2), some (.int v2), some (.int v3), some (.int v4), some (.int v5), none, none]) (s1 := []) (t1 := (jm_S0 L, M, J)) (p2 := 80) (l2 := [some (.ref 112), some (.ref 2), some (.int v2), some (.int v3), some (.int v4), some (.int v5), none, none]) (s2 := []) (t2 := (jm_S0 L, M, J)) (fun _ _ => rfl) h7 ?_
    rcases jm_bro H with ⟨h8, H⟩ | ⟨h8, H⟩
    · refine jm_go.brt 2 (b := decide (v5 = 0)) (p1 := 92) (l1 := [some (.ref 112), some (.ref 2), some (.int v2), some (.int v3), some (.int v4), some (.int v5), none, none]) (s1 := []) (t1 := (jm_S0 L, M, J)) (p2 := 85) (l2 := [some (.ref 112), some (.ref 2), some (.int v2), some (.int v3), some (.int v4), some (.int v5), none, none]) (s2 := []) (t2 := (jm_S0 L, M, J)) (fun _ _ => rfl) h8 ?_
      cases H
      exact jm_go.ret 1 (fun _ _ => rfl)
    · refine jm_go.brf 2 (b := decide (v5 = 0)) (p1 := 92) (l1 := [some (.ref 112), some (.ref 2), some (.int v2), some (.int v3), some (.int v4), some (.int v5), none, none]) (s1 := []) (t1 := (jm_S0 L, M, J)) (p2 := 85) (l2 := [some (.ref 112), some (.ref 2), some (.int v2), some (.int v3), some (.int v4), some (.int v5), none, none]) (s2 := []) (t2 := (jm_S0 L, M, J)) (fun _ _ => rfl) h8 ?_
      obtain ⟨q9, h10, H⟩ := jm_bdo H
      refine jm_go.call 5 (d := d + 1) (b := true) (u := 43) (as := [.ref 112, .ref 2, .int v2, .int v3]) (pc' := 92) (ls' := [some (.ref 112), some (.ref 2), some (.int v2), some (.int v3), some (.int v4), some (.int v5), none, none]) (st' := []) (t' := (jm_S0 L, M, J)) (fun _ _ => rfl) rfl rfl (g43 L d M J v2 v3 _ h10) ?_
      cases H
      exact jm_go.ret 1 (fun _ _ => rfl)

def f42_25  (M : jm_MM) (J : jm_JJ) (v2 : Int32) (v3 : Int32) (v4 : Int32) (s0 : Int32) : Option (jm_MM × jm_JJ) := bif decide (v4 = 0) then (f42_75   M J v2 v3 v4 s0) else (bif !decide (s0 = 0) then (f42_75   M J v2 v3 v4 s0) else (jm_bd (f15 M (v2 - 1) v3) (fun q12 => jm_bd (f44 M J q12) (fun q14 => jm_bd (f16 M (v2 - 1) v3) (fun q16 => jm_bd (f44 M q14.2 q16) (fun q18 => jm_bd (f12 M v2 v3 q14.1 q18.1) (fun q20 => f42_75   q20 q18.2 v2 v3 v4 s0)))))))
theorem g42_25 (L : Nat) (d : Nat) (_M : jm_MM) (_J : jm_JJ) (M : jm_MM) (J : jm_JJ) (v2 : Int32) (v3 : Int32) (v4 : Int32) (s0 : Int32) (r : jm_MM × jm_JJ) (H : f42_25  M J v2 v3 v4 s0 = some r) : jm_go (d + 2) (jm_G 42) 25 [some (.ref 112), some (.ref 2), some (.int v2), some (.int v3), some (.int v4), none, none, none] [.int s0] (jm_S0 L, M, J) (none, (jm_S0 L, r.1, r.2)) := by
  unfold f42_25 at H
  rcases jm_bro H with ⟨h6, H⟩ | ⟨h6, H⟩
  · refine jm_go.brt 3 (b := decide (v4 = 0)) (p1 := 75) (l1 := [some (.ref 112), some (.ref 2), some (.int v2), some (.int v3), some (.int v4), some (.int s0), none, none]) (s1 := []) (t1 := (jm_S0 L, M, J)) (p2 := 32) (l2 := [some (.ref 112), some (.ref 2), some (.int v2), some (.int v3), some (.int v4), some (.int s0), none, none]) (s2 := []) (t2 := (jm_S0 L, M, J)) (fun _ _ => rfl) h6 ?_
    exact g42_75 L d M J  M J v2 v3 v4 s0 _ H
  · refine jm_go.brf 3 (b := decide (v4 = 0)) (p1 := 75) (l1 := [some (.ref 112), some (.ref 2), some (.int v2), some (.int v3), some (.int v4), some (.int s0), none, none]) (s1 := []) (t1 := (jm_S0 L, M, J)) (p2 := 32) (l2 := [some (.ref 112), some (.ref 2), some (.int v2), some (.int v3), some (.int v4), some (.int s0), none, none]) (s2 := []) (t2 := (jm_S0 L, M, J)) (fun _ _ => rfl) h6 ?_
    rcases jm_bro H with ⟨h11, H⟩ | ⟨h11, H⟩
    · refine jm_go.brt 2 (b := !decide (s0 = 0)) (p1 := 75) (l1 := [some (.ref 112), some (.ref 2), some (.int v2), some (.int v3), some (.int v4), some (.int s0), none, none]) (s1 := []) (t1 := (jm_S0 L, M, J)) (p2 := 37) (l2 := [some (.ref 112), some (.ref 2), some (.int v2), some (.int v3), some (.int v4), some (.int s0), none, none]) (s2 := []) (t2 := (jm_S0 L, M, J)) (fun _ _ => rfl) h11 ?_
      exact g42_75 L d M J  M J v2 v3 v4 s0 _ H
    · refine jm_go.brf 2 (b := !decide (s0 = 0)) (p1 := 75) (l1 := [some (.ref 112), some (.ref 2), some (.int v2), some (.int v3), some (.int v4), some (.int s0), none, none]) (s1 := []) (t1 := (jm_S0 L, M, J)) (p2 := 37) (l2 := [some (.ref 112), some (.ref 2), some (.int v2), some (.int v3), some (.int v4), some (.int s0), none, none]) (s2 := []) (t2 := (jm_S0 L, M, J)) (fun _ _ => rfl) h11 ?_
      obtain ⟨q12, h13, H⟩ := jm_bdo H
      refine jm_go.call 7 (d := d + 1) (b := true) (u := 15) (as := [.ref 2, .int (v2 - 1), .int v3]) (pc' := 46) (ls' := [some (.ref 112), some (.ref 2), some (.int v2), some (.int v3), some (.int v4), some (.int s0), none, none]) (st' := [.ref 112]) (t' := (jm_S0 L, M, J)) (fun _ _ => rfl) rfl rfl (g15 L (d + 1) M J (v2 - 1) v3 _ h13) ?_
      obtain ⟨q14, h15, H⟩ := jm_bdo H
      refine jm_go.call 1 (d := d + 1) (b := true) (u := 44) (as := [.ref 112, .int q12]) (pc' := 49) (ls' := [some (.ref 112), some (.ref 2), some (.int v2), some (.int v3), some (.int v4), some (.int s0), none, none]) (st' := []) (t' := (jm_S0 L, M, J)) (fun _ _ => rfl) rfl rfl (g44 L d M J q12 _ h15) ?_
      obtain ⟨q16, h17, H⟩ := jm_bdo H
      refine jm_go.call 8 (d := d + 1) (b := true) (u := 16) (as := [.ref 2, .int (v2 - 1), .int v3]) (pc' := 60) (ls' := [some (.ref 112), some (.ref 2), some (.int v2), some (.int v3), some (.int v4), some (.int s0), some (.int q14.1), none]) (st' := [.ref 112]) (t' := (jm_S0 L, M, q14.2)) (fun _ _ => rfl) rfl rfl (g16 L (d + 1) M q14.2 (v2 - 1) v3 _ h17) ?_
      obtain ⟨q18, h19, H⟩ := jm_bdo H
      refine jm_go.call 1 (d := d + 1) (b := true) (u := 44) (as := [.ref 112, .int q16]) (pc' := 63) (ls' := [some (.ref 112), some (.ref 2), some (.int v2), some (.int v3), some (.int v4), some (.int s0), some (.int q14.1), none]) (st' := []) (t' := (jm_S0 L, M, q14.2)) (fun _ _ => rfl) rfl rfl (g44 L d M q14.2 q16 _ h19) ?_
      obtain ⟨q20, h21, H⟩ := jm_bdo H
      refine jm_go.call 7 (d := d + 1) (b := true) (u := 12) (as := [.ref 2, .int v2, .int v3, .int q14.1, .int q18.1]) (pc' := 75) (ls' := [some (.ref 112), some (.ref 2), some (.int v2), some (.int v3), some (.int v4), some (.int s0), some (.int q14.1), some (.int q18.1)]) (st' := []) (t' := (jm_S0 L, M, q18.2)) (fun _ _ => rfl) rfl rfl (g12 L (d + 1) M q18.2 v2 v3 q14.1 q18.1 _ h21) ?_
      refine jm_go.lab (ls' := [some (.ref 112), some (.ref 2), some (.int v2), some (.int v3), some (.int v4), some (.int s0), none, none]) (fun i hi => by cases hi; rfl) ?_
      exact g42_75 L d M J  q20 q18.2 v2 v3 v4 s0 _ H

/-- X4_carryOn -/
def f42 (M : jm_MM) (J : jm_JJ) (x1 : Int32) (x2 : Int32) : Option (jm_MM × jm_JJ) := jm_bd (f14 M (x1 - 1) x2) (fun q1 => jm_bd (f40 M J) (fun q3 => bif !decide ((q3.1 - q3.1 / 16 * 16) = 0) then (f42_25   M q3.2 x1 x2 q1 0) else (f42_25   M q3.2 x1 x2 q1 1)))
theorem g42 (L : Nat) (d : Nat) (M : jm_MM) (J : jm_JJ) (x1 : Int32) (x2 : Int32) (r : jm_MM × jm_JJ) (H : f42 M J x1 x2 = some r) : jm_go (d + 2) (jm_G 42) 0 (jm_en 8 [.ref 112, .ref 2, .int x1, .int x2]) [] (jm_S0 L, M, J) (none, (jm_S0 L, r.1, r.2)) := by
  unfold f42 at H
  obtain ⟨q1, h2, H⟩ := jm_bdo H
  refine jm_go.call 6 (d := d + 1) (b := true) (u := 14) (as := [.ref 2, .int (x1 - 1), .int x2]) (pc' := 8) (ls' := [some (.ref 112), some (.ref 2), some (.int x1), some (.int x2), none, none, none, none]) (st' := []) (t' := (jm_S0 L, M, J)) (fun _ _ => rfl) rfl rfl (g14 L (d + 1) M J (x1 - 1) x2 _ h2) ?_
  obtain ⟨q3, h4, H⟩ := jm_bdo H
  refine jm_go.call 3 (d := d + 1) (b := true) (u := 40) (as := [.ref 112]) (pc' := 14) (ls' := [some (.ref 112), some (.ref 2), some (.int x1), some (.int x2), some (.int q1), none, none, none]) (st' := []) (t' := (jm_S0 L, M, J)) (fun _ _ => rfl) rfl rfl (g40 L (d + 1) M J _ h4) ?_
  rcases jm_bro H with ⟨h5, H⟩ | ⟨h5, H⟩
  · refine jm_go.brt 3 (b := !decide ((q3.1 - q3.1 / 16 * 16) = 0)) (p1 := 24) (l1 := [some (.ref 112), some (.ref 2), some (.int x1), some (.int x2), some (.int q1), none, none, none]) (s1 := []) (t1 := (jm_S0 L, M, q3.2)) (p2 := 20) (l2 := [some (.ref 112), some (.ref 2), some (.int x1), some (.int x2), some (.int q1), none, none, none]) (s2 := []) (t2 := (jm_S0 L, M, q3.2)) (fun _ _ => rfl) h5 ?_
    refine jm_go.blk 1 (pc' := 25) (ls' := [some (.ref 112), some (.ref 2), some (.int x1), some (.int x2), some (.int q1), none, none, none]) (st' := [.int 0]) (t' := (jm_S0 L, M, q3.2)) (fun _ _ => rfl) ?_
    exact g42_25 L d M J  M q3.2 x1 x2 q1 0 _ H
  · refine jm_go.brf 3 (b := !decide ((q3.1 - q3.1 / 16 * 16) = 0)) (p1 := 24) (l1 := [some (.ref 112), some (.ref 2), some (.int x1), some (.int x2), some (.int q1), none, none, none]) (s1 := []) (t1 := (jm_S0 L, M, q3.2)) (p2 := 20) (l2 := [some (.ref 112), some (.ref 2), some (.int x1), some (.int x2), some (.int q1), none, none, none]) (s2 := []) (t2 := (jm_S0 L, M, q3.2)) (fun _ _ => rfl) h5 ?_
    refine jm_go.blk 2 (pc' := 25) (ls' := [some (.ref 112), some (.ref 2), some (.int x1), some (.int x2), some (.int q1), none, none, none]) (st' := [.int 1]) (t' := (jm_S0 L, M, q3.2)) (fun _ _ => rfl) ?_
    exact g42_25 L d M J  M q3.2 x1 x2 q1 1 _ H

def f46_32  (M : jm_MM) : Option (jm_MM) := jm_gd (jm_inb (((M 5 1) + (M 5 2)) - ((M 5 1) + (M 5 2)) / 8 * 8) 8) (jm_bd (f10 M (7 + 3 * (((M 5 1) + (M 5 2)) - ((M 5 1) + (M 5 2)) / 8 * 8).toNatClampNeg) 2) (fun q3 => some (jm_up q3 5 2 ((q3 5 2) + 1))))
theorem g46_32 (L : Nat) (d : Nat) (_M : jm_MM) (J : jm_JJ) (M : jm_MM) (r : jm_MM) (H : f46_32  M = some r) : jm_go (d + 2) (jm_G 46) 32 [some (.ref 5), some (.ref 2)] [] (jm_S0 L, M, J) (none, (jm_S0 L, r, J)) := by
  unfold f46_32 at H
  obtain ⟨h2, H⟩ := jm_gdo H
  refine jm_go.gfr 10 (b := jm_inb (((M 5 1) + (M 5 2)) - ((M 5 1) + (M 5 2)) / 8 * 8) 8) (o := (jm_S0 L).2.2.2.2 6 (((M 5 1) + (M 5 2)) - ((M 5 1) + (M 5 2)) / 8 * 8).toNatClampNeg) (q := 7 + 3 * (((M 5 1) + (M 5 2)) - ((M 5 1) + (M 5 2)) / 8 * 8).toNatClampNeg) (pc' := 49) (ls' := [some (.ref 5), some (.ref 2)]) (st' := []) (t' := (jm_S0 L, M, J)) (fun _ _ => rfl) h2 (jm_aF1r L h2) ?_
  obtain ⟨q3, h4, H⟩ := jm_bdo H
  refine jm_go.call 2 (d := d + 1) (b := jm_is (jm_S0 L) (7 + 3 * (((M 5 1) + (M 5 2)) - ((M 5 1) + (M 5 2)) / 8 * 8).toNatClampNeg) 1) (u := 10) (as := [.ref (7 + 3 * (((M 5 1) + (M 5 2)) - ((M 5 1) + (M 5 2)) / 8 * 8).toNatClampNeg), .ref 2]) (pc' := 53) (ls' := [some (.ref 5), some (.ref 2)]) (st' := []) (t' := (jm_S0 L, M, J)) (fun _ _ => rfl) (jm_fF L (jm_aF1 h2)) rfl (g10 L d M J (7 + 3 * (((M 5 1) + (M 5 2)) - ((M 5 1) + (M 5 2)) / 8 * 8).toNatClampNeg) (jm_aF1 h2) 2 (by unfold jm_isF; decide) _ h4) ?_
  cases H
  exact jm_go.ret 7 (fun _ _ => rfl)

/-- X5_take -/
def f46 (M : jm_MM)  : Option (jm_MM) := bif !decide ((M 5 2) = 8) then (f46_32   M) else (f46_32   (jm_up (jm_up M 5 1 (((M 5 1) + 1) - ((M 5 1) + 1) / 8 * 8)) 5 2 (((jm_up M 5 1 (((M 5 1) + 1) - ((M 5 1) + 1) / 8 * 8)) 5 2) - 1)))
theorem g46 (L : Nat) (d : Nat) (M : jm_MM) (J : jm_JJ)  (r : jm_MM) (H : f46 M  = some r) : jm_go (d + 2) (jm_G 46) 0 (jm_en 2 [.ref 5, .ref 2]) [] (jm_S0 L, M, J) (none, (jm_S0 L, r, J)) := by
  unfold f46 at H
  rcases jm_bro H with ⟨h1, H⟩ | ⟨h1, H⟩
  · refine jm_go.brt 4 (b := !decide ((M 5 2) = 8)) (p1 := 32) (l1 := [some (.ref 5), some (.ref 2)]) (s1 := []) (t1 := (jm_S0 L, M, J)) (p2 := 9) (l2 := [some (.ref 5), some (.ref 2)]) (s2 := []) (t2 := (jm_S0 L, M, J)) (fun _ _ => rfl) h1 ?_
    exact g46_32 L d M J  M _ H
  · refine jm_go.brf 4 (b := !decide ((M 5 2) = 8)) (p1 := 32) (l1 := [some (.ref 5), some (.ref 2)]) (s1 := []) (t1 := (jm_S0 L, M, J)) (p2 := 9) (l2 := [some (.ref 5), some (.ref 2)]) (s2 := []) (t2 := (jm_S0 L, M, J)) (fun _ _ => rfl) h1 ?_
    refine jm_go.blk 14 (pc' := 32) (ls' := [some (.ref 5), some (.ref 2)]) (st' := []) (t' := (jm_S0 L, (jm_up (jm_up M 5 1 (((M 5 1) + 1) - ((M 5 1) + 1) / 8 * 8)) 5 2 (((jm_up M 5 1 (((M 5 1) + 1) - ((M 5 1) + 1) / 8 * 8)) 5 2) - 1)), J)) (fun _ _ => rfl) ?_
    exact g46_32 L d M J  (jm_up (jm_up M 5 1 (((M 5 1) + 1) - ((M 5 1) + 1) / 8 * 8)) 5 2 (((jm_up M 5 1 (((M 5 1) + 1) - ((M 5 1) + 1) / 8 * 8)) 5 2) - 1)) _ H


/-- X5_bringBack -/
def f47 (M : jm_MM)  : Option (jm_MM) := bif decide ((M 5 2) ≤ 0) then (some M) else (jm_gd (jm_inb ((((jm_up M 5 2 ((M 5 2) - 1)) 5 1) + ((jm_up M 5 2 ((M 5 2) - 1)) 5 2)) - (((jm_up M 5 2 ((M 5 2) - 1)) 5 1) + ((jm_up M 5 2 ((M 5 2) - 1)) 5 2)) / 8 * 8) 8) (jm_bd (f10 (jm_up M 5 2 ((M 5 2) - 1)) 2 (7 + 3 * ((((jm_up M 5 2 ((M 5 2) - 1)) 5 1) + ((jm_up M 5 2 ((M 5 2) - 1)) 5 2)) - (((jm_up M 5 2 ((M 5 2) - 1)) 5 1) + ((jm_up M 5 2 ((M 5 2) - 1)) 5 2)) / 8 * 8).toNatClampNeg)) (fun q3 => some q3)))
theorem g47 (L : Nat) (d : Nat) (M : jm_MM) (J : jm_JJ)  (r : jm_MM) (H : f47 M  = some r) : jm_go (d + 2) (jm_G 47) 0 (jm_en 2 [.ref 5, .ref 2]) [] (jm_S0 L, M, J) (none, (jm_S0 L, r, J)) := by
  unfold f47 at H
  rcases jm_bro H with ⟨h1, H⟩ | ⟨h1, H⟩
  · refine jm_go.brt 3 (b := decide ((M 5 2) ≤ 0)) (p1 := 38) (l1 := [some (.ref 5), some (.ref 2)]) (s1 := []) (t1 := (jm_S0 L, M, J)) (p2 := 7) (l2 := [some (.ref 5), some (.ref 2)]) (s2 := []) (t2 := (jm_S0 L, M, J)) (fun _ _ => rfl) h1 ?_
    cases H
    exact jm_go.ret 1 (fun _ _ => rfl)
  · refine jm_go.brf 3 (b := decide ((M 5 2) ≤ 0)) (p1 := 38) (l1 := [some (.ref 5), some (.ref 2)]) (s1 := []) (t1 := (jm_S0 L, M, J)) (p2 := 7) (l2 := [some (.ref 5), some (.ref 2)]) (s2 := []) (t2 := (jm_S0 L, M, J)) (fun _ _ => rfl) h1 ?_
    obtain ⟨h2, H⟩ := jm_gdo H
    refine jm_go.gfr 17 (b := jm_inb ((((jm_up M 5 2 ((M 5 2) - 1)) 5 1) + ((jm_up M 5 2 ((M 5 2) - 1)) 5 2)) - (((jm_up M 5 2 ((M 5 2) - 1)) 5 1) + ((jm_up M 5 2 ((M 5 2) - 1)) 5 2)) / 8 * 8) 8) (o := (jm_S0 L).2.2.2.2 6 ((((jm_up M 5 2 ((M 5 2) - 1)) 5 1) + ((jm_up M 5 2 ((M 5 2) - 1)) 5 2)) - (((jm_up M 5 2 ((M 5 2) - 1)) 5 1) + ((jm_up M 5 2 ((M 5 2) - 1)) 5 2)) / 8 * 8).toNatClampNeg) (q := 7 + 3 * ((((jm_up M 5 2 ((M 5 2) - 1)) 5 1) + ((jm_up M 5 2 ((M 5 2) - 1)) 5 2)) - (((jm_up M 5 2 ((M 5 2) - 1)) 5 1) + ((jm_up M 5 2 ((M 5 2) - 1)) 5 2)) / 8 * 8).toNatClampNeg) (pc' := 35) (ls' := [some (.ref 5), some (.ref 2)]) (st' := [.ref 2]) (t' := (jm_S0 L, (jm_up M 5 2 ((M 5 2) - 1)), J)) (fun _ _ => rfl) h2 (jm_aF1r L h2) ?_
    obtain ⟨q3, h4, H⟩ := jm_bdo H
    refine jm_go.call 1 (d := d + 1) (b := true) (u := 10) (as := [.ref 2, .ref (7 + 3 * ((((jm_up M 5 2 ((M 5 2) - 1)) 5 1) + ((jm_up M 5 2 ((M 5 2) - 1)) 5 2)) - (((jm_up M 5 2 ((M 5 2) - 1)) 5 1) + ((jm_up M 5 2 ((M 5 2) - 1)) 5 2)) / 8 * 8).toNatClampNeg)]) (pc' := 38) (ls' := [some (.ref 5), some (.ref 2)]) (st' := []) (t' := (jm_S0 L, (jm_up M 5 2 ((M 5 2) - 1)), J)) (fun _ _ => rfl) rfl rfl (g10 L d (jm_up M 5 2 ((M 5 2) - 1)) J 2 (by unfold jm_isF; decide) (7 + 3 * ((((jm_up M 5 2 ((M 5 2) - 1)) 5 1) + ((jm_up M 5 2 ((M 5 2) - 1)) 5 2)) - (((jm_up M 5 2 ((M 5 2) - 1)) 5 1) + ((jm_up M 5 2 ((M 5 2) - 1)) 5 2)) / 8 * 8).toNatClampNeg) (jm_aF1 h2) _ h4) ?_
    cases H
    exact jm_go.ret 1 (fun _ _ => rfl)


/-- X5_forget -/
def f48 (M : jm_MM)  : Option (jm_MM) := some (jm_up M 5 2 0)
theorem g48 (L : Nat) (d : Nat) (M : jm_MM) (J : jm_JJ)  (r : jm_MM) (H : f48 M  = some r) : jm_go d (jm_G 48) 0 (jm_en 1 [.ref 5]) [] (jm_S0 L, M, J) (none, (jm_S0 L, r, J)) := by
  unfold f48 at H
  cases H
  exact jm_go.ret 4 (fun _ _ => rfl)

def f53_31 (M : jm_MM) (v1 : Int32) (v3 : Int32) (s0 : Int32) : Option (Int32) := bif decide (v3 = 0) then (jm_gd (jm_inb v1 24) (some ((((s0 * 64) + (M 110 v1.toNatClampNeg)) * 24) + v1))) else (jm_gd (jm_inb v1 24) (some ((((s0 * 64) + (M 111 v1.toNatClampNeg)) * 24) + v1)))
theorem g53_31 (L : Nat) (d : Nat) (M : jm_MM) (J : jm_JJ) (v1 : Int32) (v3 : Int32) (s0 : Int32) (r : Int32) (H : f53_31 M v1 v3 s0 = some r) : jm_go d (jm_G 53) 31 [some (.ref 105), some (.int v1), none, some (.int v3), none, none] [.int s0] (jm_S0 L, M, J) (some (.int r), (jm_S0 L, M, J)) := by
  unfold f53_31 at H
  rcases jm_bro H with ⟨h4, H⟩ | ⟨h4, H⟩
  · refine jm_go.brt 3 (b := decide (v3 = 0)) (p1 := 46) (l1 := [some (.ref 105), some (.int v1), none, some (.int v3), some (.int s0), none]) (s1 := []) (t1 := (jm_S0 L, M, J)) (p2 := 37) (l2 := [some (.ref 105), some (.int v1), none, some (.int v3), some (.int s0), none]) (s2 := []) (t2 := (jm_S0 L, M, J)) (fun _ _ => rfl) h4 ?_
    obtain ⟨h5, H⟩ := jm_gdo H
    refine jm_go.grd 4 (b := jm_inb v1 24) (pc' := 52) (ls' := [some (.ref 105), some (.int v1), none, none, some (.int s0), none]) (st' := [.int (M 110 v1.toNatClampNeg)]) (t' := (jm_S0 L, M, J)) (fun _ _ => rfl) h5 ?_
    cases H
    exact jm_go.ret 11 (fun _ _ => rfl)
  · refine jm_go.brf 3 (b := decide (v3 = 0)) (p1 := 46) (l1 := [some (.ref 105), some (.int v1), none, some (.int v3), some (.int s0), none]) (s1 := []) (t1 := (jm_S0 L, M, J)) (p2 := 37) (l2 := [some (.ref 105), some (.int v1), none, some (.int v3), some (.int s0), none]) (s2 := []) (t2 := (jm_S0 L, M, J)) (fun _ _ => rfl) h4 ?_
    obtain ⟨h6, H⟩ := jm_gdo H
    refine jm_go.grd 4 (b := jm_inb v1 24) (pc' := 43) (ls' := [some (.ref 105), some (.int v1), none, some (.int v3), some (.int s0), none]) (st' := [.int (M 111 v1.toNatClampNeg)]) (t' := (jm_S0 L, M, J)) (fun _ _ => rfl) h6 ?_
    cases H
    exact jm_go.ret 12 (fun _ _ => rfl)

def f53_11 (M : jm_MM) (v1 : Int32) (s0 : Int32) : Option (Int32) := bif decide (s0 = 0) then (jm_gd (jm_inb v1 24) (f53_31 M  v1 s0 (M 111 v1.toNatClampNeg))) else (jm_gd (jm_inb v1 24) (f53_31 M  v1 s0 (M 110 v1.toNatClampNeg)))
theorem g53_11 (L : Nat) (d : Nat) (M : jm_MM) (J : jm_JJ) (v1 : Int32) (s0 : Int32) (r : Int32) (H : f53_11 M v1 s0 = some r) : jm_go d (jm_G 53) 11 [some (.ref 105), some (.int v1), none, none, none, none] [.int s0] (jm_S0 L, M, J) (some (.int r), (jm_S0 L, M, J)) := by
  unfold f53_11 at H
  rcases jm_bro H with ⟨h2, H⟩ | ⟨h2, H⟩
  · refine jm_go.brt 3 (b := decide (s0 = 0)) (p1 := 25) (l1 := [some (.ref 105), some (.int v1), none, some (.int s0), none, none]) (s1 := []) (t1 := (jm_S0 L, M, J)) (p2 := 16) (l2 := [some (.ref 105), some (.int v1), none, some (.int s0), none, none]) (s2 := []) (t2 := (jm_S0 L, M, J)) (fun _ _ => rfl) h2 ?_
    obtain ⟨h3, H⟩ := jm_gdo H
    refine jm_go.grd 4 (b := jm_inb v1 24) (pc' := 31) (ls' := [some (.ref 105), some (.int v1), none, some (.int s0), none, none]) (st' := [.int (M 111 v1.toNatClampNeg)]) (t' := (jm_S0 L, M, J)) (fun _ _ => rfl) h3 ?_
    exact g53_31 L d M J  v1 s0 (M 111 v1.toNatClampNeg) _ H
  · refine jm_go.brf 3 (b := decide (s0 = 0)) (p1 := 25) (l1 := [some (.ref 105), some (.int v1), none, some (.int s0), none, none]) (s1 := []) (t1 := (jm_S0 L, M, J)) (p2 := 16) (l2 := [some (.ref 105), some (.int v1), none, some (.int s0), none, none]) (s2 := []) (t2 := (jm_S0 L, M, J)) (fun _ _ => rfl) h2 ?_
    obtain ⟨h7, H⟩ := jm_gdo H
    refine jm_go.grd 4 (b := jm_inb v1 24) (pc' := 22) (ls' := [some (.ref 105), some (.int v1), none, some (.int s0), none, none]) (st' := [.int (M 110 v1.toNatClampNeg)]) (t' := (jm_S0 L, M, J)) (fun _ _ => rfl) h7 ?_
    refine jm_go.blk 1 (pc' := 31) (ls' := [some (.ref 105), some (.int v1), none, some (.int s0), none, none]) (st' := [.int (M 110 v1.toNatClampNeg)]) (t' := (jm_S0 L, M, J)) (fun _ _ => rfl) ?_
    exact g53_31 L d M J  v1 s0 (M 110 v1.toNatClampNeg) _ H

/-- X6_rankOf -/
def f53 (M : jm_MM) (x0 : Int32) (x1 : Int32) : Option (Int32) := bif !decide ((x1 - x1 / 2 * 2) = 0) then (f53_11 M  x0 0) else (f53_11 M  x0 1)
theorem g53 (L : Nat) (d : Nat) (M : jm_MM) (J : jm_JJ) (x0 : Int32) (x1 : Int32) (r : Int32) (H : f53 M x0 x1 = some r) : jm_go d (jm_G 53) 0 (jm_en 6 [.ref 105, .int x0, .int x1]) [] (jm_S0 L, M, J) (some (.int r), (jm_S0 L, M, J)) := by
  unfold f53 at H
  rcases jm_bro H with ⟨h1, H⟩ | ⟨h1, H⟩
  · refine jm_go.brt 4 (b := !decide ((x1 - x1 / 2 * 2) = 0)) (p1 := 10) (l1 := [some (.ref 105), some (.int x0), some (.int x1), none, none, none]) (s1 := []) (t1 := (jm_S0 L, M, J)) (p2 := 6) (l2 := [some (.ref 105), some (.int x0), some (.int x1), none, none, none]) (s2 := []) (t2 := (jm_S0 L, M, J)) (fun _ _ => rfl) h1 ?_
    refine jm_go.blk 1 (pc' := 11) (ls' := [some (.ref 105), some (.int x0), none, none, none, none]) (st' := [.int 0]) (t' := (jm_S0 L, M, J)) (fun _ _ => rfl) ?_
    exact g53_11 L d M J  x0 0 _ H
  · refine jm_go.brf 4 (b := !decide ((x1 - x1 / 2 * 2) = 0)) (p1 := 10) (l1 := [some (.ref 105), some (.int x0), some (.int x1), none, none, none]) (s1 := []) (t1 := (jm_S0 L, M, J)) (p2 := 6) (l2 := [some (.ref 105), some (.int x0), some (.int x1), none, none, none]) (s2 := []) (t2 := (jm_S0 L, M, J)) (fun _ _ => rfl) h1 ?_
    refine jm_go.blk 2 (pc' := 11) (ls' := [some (.ref 105), some (.int x0), some (.int x1), none, none, none]) (st' := [.int 1]) (t' := (jm_S0 L, M, J)) (fun _ _ => rfl) ?_
    refine jm_go.lab (ls' := [some (.ref 105), some (.int x0), none, none, none, none]) (fun i hi => by cases hi; rfl) ?_
    exact g53_11 L d M J  x0 1 _ H

def f52_33  (ke0 : jm_MM → Int32 → Int32 → Int32 → Int32 → Int32 → Int32 → Option (jm_MM)) : Nat → jm_MM → Int32 → Int32 → Int32 → Int32 → Int32 → Int32 → Int32 → Option (jm_MM)
  | 0, _, _, _, _, _, _, _, _ => none
  | n0 + 1, M, v1, v2, v3, v4, v5, v6, v7 => bif decide (v7 ≤ v1) then (ke0 M v1 v2 v3 v4 v5 v7) else (jm_gd (jm_inb (v7 - 1) 24) (jm_bd (f53 M (M 109 ((v7 - 1).toNatClampNeg)) v3) (fun q7 => bif decide (q7 ≤ v6) then (ke0 M v1 v2 v3 v4 v5 v7) else (jm_gd (jm_inb (v7 - 1) 24) (jm_gd (jm_inb v7 24) ((f52_33  ke0 n0) (jm_up M 109 v7.toNatClampNeg (M 109 ((v7 - 1).toNatClampNeg))) v1 v2 v3 v4 v5 v6 (v7 + (-1))))))))
theorem g52_33 (L : Nat) (d : Nat) (_M : jm_MM) (J : jm_JJ) (ke0 : jm_MM → Int32 → Int32 → Int32 → Int32 → Int32 → Int32 → Option (jm_MM)) (hke0 : ∀ (M : jm_MM) (v1 : Int32) (v2 : Int32) (v3 : Int32) (v4 : Int32) (v5 : Int32) (v7 : Int32) (r : jm_MM), ke0 M v1 v2 v3 v4 v5 v7 = some r → jm_go (d + 1) (jm_G 52) 80 [some (.ref 105), some (.int v1), some (.int v2), some (.int v3), some (.int v4), some (.int v5), none, some (.int v7)] [] (jm_S0 L, M, J) (none, (jm_S0 L, r, J))) : ∀ (n0 : Nat) (M : jm_MM) (v1 : Int32) (v2 : Int32) (v3 : Int32) (v4 : Int32) (v5 : Int32) (v6 : Int32) (v7 : Int32) (r : jm_MM), f52_33  ke0 n0 M v1 v2 v3 v4 v5 v6 v7 = some r → jm_go (d + 1) (jm_G 52) 33 [some (.ref 105), some (.int v1), some (.int v2), some (.int v3), some (.int v4), some (.int v5), some (.int v6), some (.int v7)] [] (jm_S0 L, M, J) (none, (jm_S0 L, r, J)) := by
  intro n0
  induction n0 with
  | zero => intro M v1 v2 v3 v4 v5 v6 v7 r H; cases H
  | succ n0 ih =>
    intro M v1 v2 v3 v4 v5 v6 v7 r H
    have hkb := ih
    unfold f52_33 at H
    rcases jm_bro H with ⟨h5, H⟩ | ⟨h5, H⟩
    · refine jm_go.brt 3 (b := decide (v7 ≤ v1)) (p1 := 80) (l1 := [some (.ref 105), some (.int v1), some (.int v2), some (.int v3), some (.int v4), some (.int v5), some (.int v6), some (.int v7)]) (s1 := []) (t1 := (jm_S0 L, M, J)) (p2 := 39) (l2 := [some (.ref 105), some (.int v1), some (.int v2), some (.int v3), some (.int v4), some (.int v5), some (.int v6), some (.int v7)]) (s2 := []) (t2 := (jm_S0 L, M, J)) (fun _ _ => rfl) h5 ?_
      refine jm_go.lab (ls' := [some (.ref 105), some (.int v1), some (.int v2), some (.int v3), some (.int v4), some (.int v5), none, some (.int v7)]) (fun i hi => by cases hi; rfl) ?_
      exact hke0 M v1 v2 v3 v4 v5 v7 _ H
    · refine jm_go.brf 3 (b := decide (v7 ≤ v1)) (p1 := 80) (l1 := [some (.ref 105), some (.int v1), some (.int v2), some (.int v3), some (.int v4), some (.int v5), some (.int v6), some (.int v7)]) (s1 := []) (t1 := (jm_S0 L, M, J)) (p2 := 39) (l2 := [some (.ref 105), some (.int v1), some (.int v2), some (.int v3), some (.int v4), some (.int v5), some (.int v6), some (.int v7)]) (s2 := []) (t2 := (jm_S0 L, M, J)) (fun _ _ => rfl) h5 ?_
      obtain ⟨h6, H⟩ := jm_gdo H
      refine jm_go.grd 7 (b := jm_inb (v7 - 1) 24) (pc' := 49) (ls' := [some (.ref 105), some (.int v1), some (.int v2), some (.int v3), some (.int v4), some (.int v5), some (.int v6), some (.int v7)]) (st' := [.int (M 109 ((v7 - 1).toNatClampNeg)), .ref 105]) (t' := (jm_S0 L, M, J)) (fun _ _ => rfl) h6 ?_
      obtain ⟨q7, h8, H⟩ := jm_bdo H
      refine jm_go.call 2 (d := d) (b := true) (u := 53) (as := [.ref 105, .int (M 109 ((v7 - 1).toNatClampNeg)), .int v3]) (pc' := 53) (ls' := [some (.ref 105), some (.int v1), some (.int v2), some (.int v3), some (.int v4), some (.int v5), some (.int v6), some (.int v7)]) (st' := []) (t' := (jm_S0 L, M, J)) (fun _ _ => rfl) rfl rfl (g53 L d M J (M 109 ((v7 - 1).toNatClampNeg)) v3 _ h8) ?_
      rcases jm_bro H with ⟨h9, H⟩ | ⟨h9, H⟩
      · refine jm_go.brt 2 (b := decide (q7 ≤ v6)) (p1 := 80) (l1 := [some (.ref 105), some (.int v1), some (.int v2), some (.int v3), some (.int v4), some (.int v5), some (.int v6), some (.int v7)]) (s1 := []) (t1 := (jm_S0 L, M, J)) (p2 := 58) (l2 := [some (.ref 105), some (.int v1), some (.int v2), some (.int v3), some (.int v4), some (.int v5), some (.int v6), some (.int v7)]) (s2 := []) (t2 := (jm_S0 L, M, J)) (fun _ _ => rfl) h9 ?_
        refine jm_go.lab (ls' := [some (.ref 105), some (.int v1), some (.int v2), some (.int v3), some (.int v4), some (.int v5), none, some (.int v7)]) (fun i hi => by cases hi; rfl) ?_
        exact hke0 M v1 v2 v3 v4 v5 v7 _ H
      · refine jm_go.brf 2 (b := decide (q7 ≤ v6)) (p1 := 80) (l1 := [some (.ref 105), some (.int v1), some (.int v2), some (.int v3), some (.int v4), some (.int v5), some (.int v6), some (.int v7)]) (s1 := []) (t1 := (jm_S0 L, M, J)) (p2 := 58) (l2 := [some (.ref 105), some (.int v1), some (.int v2), some (.int v3), some (.int v4), some (.int v5), some (.int v6), some (.int v7)]) (s2 := []) (t2 := (jm_S0 L, M, J)) (fun _ _ => rfl) h9 ?_
        obtain ⟨h10, H⟩ := jm_gdo H
        refine jm_go.grd 9 (b := jm_inb (v7 - 1) 24) (pc' := 73) (ls' := [some (.ref 105), some (.int v1), some (.int v2), some (.int v3), some (.int v4), some (.int v5), some (.int v6), some (.int v7)]) (st' := [.int (M 109 ((v7 - 1).toNatClampNeg)), .int v7, .ref 109]) (t' := (jm_S0 L, M, J)) (fun _ _ => rfl) h10 ?_
        obtain ⟨h11, H⟩ := jm_gdo H
        refine jm_go.grd 1 (b := jm_inb v7 24) (pc' := 74) (ls' := [some (.ref 105), some (.int v1), some (.int v2), some (.int v3), some (.int v4), some (.int v5), some (.int v6), some (.int v7)]) (st' := []) (t' := (jm_S0 L, (jm_up M 109 v7.toNatClampNeg (M 109 ((v7 - 1).toNatClampNeg))), J)) (fun _ _ => rfl) h11 ?_
        refine jm_go.blk 2 (pc' := 33) (ls' := [some (.ref 105), some (.int v1), some (.int v2), some (.int v3), some (.int v4), some (.int v5), some (.int v6), some (.int (v7 + (-1)))]) (st' := []) (t' := (jm_S0 L, (jm_up M 109 v7.toNatClampNeg (M 109 ((v7 - 1).toNatClampNeg))), J)) (fun _ _ => rfl) ?_
        exact hkb (jm_up M 109 v7.toNatClampNeg (M 109 ((v7 - 1).toNatClampNeg))) v1 v2 v3 v4 v5 v6 (v7 + (-1)) _ H

def f52_5  (ke0 : jm_MM → Option (jm_MM)) : Nat → jm_MM → Int32 → Int32 → Int32 → Int32 → Option (jm_MM)
  | 0, _, _, _, _, _ => none
  | n0 + 1, M, v1, v2, v3, v4 => bif decide (v2 ≤ v4) then (ke0 M) else (jm_gd (jm_inb v4 24) (jm_bd (f53 M (M 109 v4.toNatClampNeg) v3) (fun q3 => f52_33  (fun Me12 ve13 ve14 ve15 ve16 ve17 ve18 => jm_gd (jm_inb ve18 24) ((f52_5  ke0 n0) (jm_up Me12 109 ve18.toNatClampNeg ve17) ve13 ve14 ve15 (ve16 + 1))) jm_F M v1 v2 v3 v4 (M 109 v4.toNatClampNeg) q3 v4)))
theorem g52_5 (L : Nat) (d : Nat) (_M : jm_MM) (J : jm_JJ) (ke0 : jm_MM → Option (jm_MM)) (hke0 : ∀ (M : jm_MM) (r : jm_MM), ke0 M = some r → jm_go (d + 1) (jm_G 52) 95 [none, none, none, none, none, none, none, none] [] (jm_S0 L, M, J) (none, (jm_S0 L, r, J))) : ∀ (n0 : Nat) (M : jm_MM) (v1 : Int32) (v2 : Int32) (v3 : Int32) (v4 : Int32) (r : jm_MM), f52_5  ke0 n0 M v1 v2 v3 v4 = some r → jm_go (d + 1) (jm_G 52) 5 [some (.ref 105), some (.int v1), some (.int v2), some (.int v3), some (.int v4), none, none, none] [] (jm_S0 L, M, J) (none, (jm_S0 L, r, J)) := by
  intro n0
  induction n0 with
  | zero => intro M v1 v2 v3 v4 r H; cases H
  | succ n0 ih =>
    intro M v1 v2 v3 v4 r H
    have hkb := ih
    unfold f52_5 at H
    rcases jm_bro H with ⟨h1, H⟩ | ⟨h1, H⟩
    · refine jm_go.brt 3 (b := decide (v2 ≤ v4)) (p1 := 95) (l1 := [some (.ref 105), some (.int v1), some (.int v2), some (.int v3), some (.int v4), none, none, none]) (s1 := []) (t1 := (jm_S0 L, M, J)) (p2 := 11) (l2 := [some (.ref 105), some (.int v1), some (.int v2), some (.int v3), some (.int v4), none, none, none]) (s2 := []) (t2 := (jm_S0 L, M, J)) (fun _ _ => rfl) h1 ?_
      refine jm_go.lab (ls' := [none, none, none, none, none, none, none, none]) (fun i hi => by cases hi; rfl) ?_
      exact hke0 M _ H
    · refine jm_go.brf 3 (b := decide (v2 ≤ v4)) (p1 := 95) (l1 := [some (.ref 105), some (.int v1), some (.int v2), some (.int v3), some (.int v4), none, none, none]) (s1 := []) (t1 := (jm_S0 L, M, J)) (p2 := 11) (l2 := [some (.ref 105), some (.int v1), some (.int v2), some (.int v3), some (.int v4), none, none, none]) (s2 := []) (t2 := (jm_S0 L, M, J)) (fun _ _ => rfl) h1 ?_
      obtain ⟨h2, H⟩ := jm_gdo H
      refine jm_go.grd 4 (b := jm_inb v4 24) (pc' := 18) (ls' := [some (.ref 105), some (.int v1), some (.int v2), some (.int v3), some (.int v4), none, none, none]) (st' := [.int (M 109 v4.toNatClampNeg)]) (t' := (jm_S0 L, M, J)) (fun _ _ => rfl) h2 ?_
      obtain ⟨q3, h4, H⟩ := jm_bdo H
      refine jm_go.call 5 (d := d) (b := true) (u := 53) (as := [.ref 105, .int (M 109 v4.toNatClampNeg), .int v3]) (pc' := 27) (ls' := [some (.ref 105), some (.int v1), some (.int v2), some (.int v3), some (.int v4), some (.int (M 109 v4.toNatClampNeg)), none, none]) (st' := []) (t' := (jm_S0 L, M, J)) (fun _ _ => rfl) rfl rfl (g53 L d M J (M 109 v4.toNatClampNeg) v3 _ h4) ?_
      refine jm_go.blk 3 (pc' := 33) (ls' := [some (.ref 105), some (.int v1), some (.int v2), some (.int v3), some (.int v4), some (.int (M 109 v4.toNatClampNeg)), some (.int q3), some (.int v4)]) (st' := []) (t' := (jm_S0 L, M, J)) (fun _ _ => rfl) ?_
      exact g52_33 L d M J
        _ (fun Me12 ve13 ve14 ve15 ve16 ve17 ve18 r H => by
          obtain ⟨h19, H⟩ := jm_gdo H
          refine jm_go.grd 5 (b := jm_inb ve18 24) (pc' := 89) (ls' := [some (.ref 105), some (.int ve13), some (.int ve14), some (.int ve15), some (.int ve16), some (.int ve17), none, some (.int ve18)]) (st' := []) (t' := (jm_S0 L, (jm_up Me12 109 ve18.toNatClampNeg ve17), J)) (fun _ _ => rfl) h19 ?_
          refine jm_go.blk 2 (pc' := 5) (ls' := [some (.ref 105), some (.int ve13), some (.int ve14), some (.int ve15), some (.int (ve16 + 1)), some (.int ve17), none, some (.int ve18)]) (st' := []) (t' := (jm_S0 L, (jm_up Me12 109 ve18.toNatClampNeg ve17), J)) (fun _ _ => rfl) ?_
          refine jm_go.lab (ls' := [some (.ref 105), some (.int ve13), some (.int ve14), some (.int ve15), some (.int (ve16 + 1)), none, none, none]) (fun i hi => by cases hi; rfl) ?_
          exact hkb (jm_up Me12 109 ve18.toNatClampNeg ve17) ve13 ve14 ve15 (ve16 + 1) _ H
          )
        _ M v1 v2 v3 v4 (M 109 v4.toNatClampNeg) q3 v4 _ H

/-- X6_sort -/
def f52 (M : jm_MM) (x0 : Int32) (x1 : Int32) (x2 : Int32) : Option (jm_MM) := f52_5  (fun Me20 => some Me20) jm_F M x0 x1 x2 (x0 + 1)
theorem g52 (L : Nat) (d : Nat) (M : jm_MM) (J : jm_JJ) (x0 : Int32) (x1 : Int32) (x2 : Int32) (r : jm_MM) (H : f52 M x0 x1 x2 = some r) : jm_go (d + 1) (jm_G 52) 0 (jm_en 8 [.ref 105, .int x0, .int x1, .int x2]) [] (jm_S0 L, M, J) (none, (jm_S0 L, r, J)) := by
  unfold f52 at H
  refine jm_go.blk 4 (pc' := 5) (ls' := [some (.ref 105), some (.int x0), some (.int x1), some (.int x2), some (.int (x0 + 1)), none, none, none]) (st' := []) (t' := (jm_S0 L, M, J)) (fun _ _ => rfl) ?_
  exact g52_5 L d M J
    _ (fun Me20 r H => by
      cases H
      exact jm_go.ret 1 (fun _ _ => rfl)
      )
    _ M x0 x1 x2 (x0 + 1) _ H
end
section
/-! methods as functions: printed by wip/whole/gen/lay.py (funs.py) -/

/-- X6_split -/
def f51 : Nat → jm_MM → Int32 → Int32 → Int32 → Option (Int32 × jm_MM)
  | 0, _, _, _, _ => none
  | n + 1, M, x0, x1, x2 => bif decide (x1 ≤ x0) then (some ((-1), M)) else (bif decide (x2 < 24) then (jm_bd (f52 M x0 x1 x2) (fun q3 => jm_gd (jm_inb (x0 + ((x1 - x0) / 2)) 24) (jm_gd (jm_inb (q3 109 ((x0 + ((x1 - x0) / 2)).toNatClampNeg)) 24) (jm_bd (f51 n (jm_up (jm_up q3 108 ((q3 109 ((x0 + ((x1 - x0) / 2)).toNatClampNeg)).toNatClampNeg) x2) 105 1 (if (jm_up q3 108 ((q3 109 ((x0 + ((x1 - x0) / 2)).toNatClampNeg)).toNatClampNeg) x2) 105 1 < x2 + 1 then x2 + 1 else (jm_up q3 108 ((q3 109 ((x0 + ((x1 - x0) / 2)).toNatClampNeg)).toNatClampNeg) x2) 105 1)) x0 (x0 + ((x1 - x0) / 2)) (x2 + 1)) (fun q7 => jm_gd (jm_inb (q3 109 ((x0 + ((x1 - x0) / 2)).toNatClampNeg)) 24) (jm_bd (f51 n (jm_up q7.2 106 ((q3 109 ((x0 + ((x1 - x0) / 2)).toNatClampNeg)).toNatClampNeg) q7.1) ((x0 + ((x1 - x0) / 2)) + 1) x1 (x2 + 1)) (fun q10 => jm_gd (jm_inb (q3 109 ((x0 + ((x1 - x0) / 2)).toNatClampNeg)) 24) (some (q3 109 ((x0 + ((x1 - x0) / 2)).toNatClampNeg), (jm_up q10.2 107 ((q3 109 ((x0 + ((x1 - x0) / 2)).toNatClampNeg)).toNatClampNeg) q10.1)))))))))) else (some ((-1), M)))
theorem g51 (L d : Nat) : ∀ (n : Nat) (M : jm_MM) (J : jm_JJ) (x0 : Int32) (x1 : Int32) (x2 : Int32) (r : Int32 × jm_MM), f51 n M x0 x1 x2 = some r → jm_go (d + n + 2) (jm_G 51) 0 (jm_en 6 [.ref 105, .int x0, .int x1, .int x2]) [] (jm_S0 L, M, J) (some (.int r.1), (jm_S0 L, r.2, J)) := by
  intro n
  induction n with
  | zero => intro M J x0 x1 x2 r H; cases H
  | succ n ih =>
    intro M J x0 x1 x2 r H
    have g51 := fun (_ _ _ : Nat) => ih
    unfold f51 at H
    rcases jm_bro H with ⟨h1, H⟩ | ⟨h1, H⟩
    · refine jm_go.brt 3 (b := decide (x1 ≤ x0)) (p1 := 11) (l1 := [some (.ref 105), some (.int x0), some (.int x1), some (.int x2), none, none]) (s1 := []) (t1 := (jm_S0 L, M, J)) (p2 := 5) (l2 := [some (.ref 105), some (.int x0), some (.int x1), some (.int x2), none, none]) (s2 := []) (t2 := (jm_S0 L, M, J)) (fun _ _ => rfl) h1 ?_
      cases H
      exact jm_go.ret 2 (fun _ _ => rfl)
    · refine jm_go.brf 3 (b := decide (x1 ≤ x0)) (p1 := 11) (l1 := [some (.ref 105), some (.int x0), some (.int x1), some (.int x2), none, none]) (s1 := []) (t1 := (jm_S0 L, M, J)) (p2 := 5) (l2 := [some (.ref 105), some (.int x0), some (.int x1), some (.int x2), none, none]) (s2 := []) (t2 := (jm_S0 L, M, J)) (fun _ _ => rfl) h1 ?_
      rcases jm_bro H with ⟨h2, H⟩ | ⟨h2, H⟩
      · refine jm_go.brt 3 (b := decide (x2 < 24)) (p1 := 13) (l1 := [some (.ref 105), some (.int x0), some (.int x1), some (.int x2), none, none]) (s1 := []) (t1 := (jm_S0 L, M, J)) (p2 := 11) (l2 := [some (.ref 105), some (.int x0), some (.int x1), some (.int x2), none, none]) (s2 := []) (t2 := (jm_S0 L, M, J)) (fun _ _ => rfl) h2 ?_
        obtain ⟨q3, h4, H⟩ := jm_bdo H
        refine jm_go.call 5 (d := d + n + 2) (b := true) (u := 52) (as := [.ref 105, .int x0, .int x1, .int x2]) (pc' := 20) (ls' := [some (.ref 105), some (.int x0), some (.int x1), some (.int x2), none, none]) (st' := []) (t' := (jm_S0 L, M, J)) (fun _ _ => rfl) rfl rfl (g52 L (d + n + 1) M J x0 x1 x2 _ h4) ?_
        obtain ⟨h5, H⟩ := jm_gdo H
        refine jm_go.grd 12 (b := jm_inb (x0 + ((x1 - x0) / 2)) 24) (pc' := 36) (ls' := [some (.ref 105), some (.int x0), some (.int x1), some (.int x2), some (.int (x0 + ((x1 - x0) / 2))), none]) (st' := [.int (q3 109 ((x0 + ((x1 - x0) / 2)).toNatClampNeg))]) (t' := (jm_S0 L, q3, J)) (fun _ _ => rfl) h5 ?_
        obtain ⟨h6, H⟩ := jm_gdo H
        refine jm_go.grd 6 (b := jm_inb (q3 109 ((x0 + ((x1 - x0) / 2)).toNatClampNeg)) 24) (pc' := 46) (ls' := [some (.ref 105), some (.int x0), some (.int x1), some (.int x2), some (.int (x0 + ((x1 - x0) / 2))), some (.int (q3 109 ((x0 + ((x1 - x0) / 2)).toNatClampNeg)))]) (st' := []) (t' := (jm_S0 L, (jm_up q3 108 ((q3 109 ((x0 + ((x1 - x0) / 2)).toNatClampNeg)).toNatClampNeg) x2), J)) (fun _ _ => rfl) h6 ?_
        obtain ⟨q7, h8, H⟩ := jm_bdo H
        refine jm_go.call 18 (d := d + n + 2) (b := true) (u := 51) (as := [.ref 105, .int x0, .int (x0 + ((x1 - x0) / 2)), .int (x2 + 1)]) (pc' := 76) (ls' := [some (.ref 105), some (.int x0), some (.int x1), some (.int x2), some (.int (x0 + ((x1 - x0) / 2))), some (.int (q3 109 ((x0 + ((x1 - x0) / 2)).toNatClampNeg)))]) (st' := [.int (q3 109 ((x0 + ((x1 - x0) / 2)).toNatClampNeg)), .ref 106]) (t' := (jm_S0 L, (jm_up (jm_up q3 108 ((q3 109 ((x0 + ((x1 - x0) / 2)).toNatClampNeg)).toNatClampNeg) x2) 105 1 (if (jm_up q3 108 ((q3 109 ((x0 + ((x1 - x0) / 2)).toNatClampNeg)).toNatClampNeg) x2) 105 1 < x2 + 1 then x2 + 1 else (jm_up q3 108 ((q3 109 ((x0 + ((x1 - x0) / 2)).toNatClampNeg)).toNatClampNeg) x2) 105 1)), J)) (fun _ _ => rfl) rfl rfl (g51 L d n (jm_up (jm_up q3 108 ((q3 109 ((x0 + ((x1 - x0) / 2)).toNatClampNeg)).toNatClampNeg) x2) 105 1 (if (jm_up q3 108 ((q3 109 ((x0 + ((x1 - x0) / 2)).toNatClampNeg)).toNatClampNeg) x2) 105 1 < x2 + 1 then x2 + 1 else (jm_up q3 108 ((q3 109 ((x0 + ((x1 - x0) / 2)).toNatClampNeg)).toNatClampNeg) x2) 105 1)) J x0 (x0 + ((x1 - x0) / 2)) (x2 + 1) _ h8) ?_
        obtain ⟨h9, H⟩ := jm_gdo H
        refine jm_go.grd 1 (b := jm_inb (q3 109 ((x0 + ((x1 - x0) / 2)).toNatClampNeg)) 24) (pc' := 77) (ls' := [some (.ref 105), some (.int x0), some (.int x1), some (.int x2), some (.int (x0 + ((x1 - x0) / 2))), some (.int (q3 109 ((x0 + ((x1 - x0) / 2)).toNatClampNeg)))]) (st' := []) (t' := (jm_S0 L, (jm_up q7.2 106 ((q3 109 ((x0 + ((x1 - x0) / 2)).toNatClampNeg)).toNatClampNeg) q7.1), J)) (fun _ _ => rfl) h9 ?_
        obtain ⟨q10, h11, H⟩ := jm_bdo H
        refine jm_go.call 12 (d := d + n + 2) (b := true) (u := 51) (as := [.ref 105, .int ((x0 + ((x1 - x0) / 2)) + 1), .int x1, .int (x2 + 1)]) (pc' := 95) (ls' := [some (.ref 105), some (.int x0), some (.int x1), some (.int x2), some (.int (x0 + ((x1 - x0) / 2))), some (.int (q3 109 ((x0 + ((x1 - x0) / 2)).toNatClampNeg)))]) (st' := [.int (q3 109 ((x0 + ((x1 - x0) / 2)).toNatClampNeg)), .ref 107]) (t' := (jm_S0 L, (jm_up q7.2 106 ((q3 109 ((x0 + ((x1 - x0) / 2)).toNatClampNeg)).toNatClampNeg) q7.1), J)) (fun _ _ => rfl) rfl rfl (g51 L d n (jm_up q7.2 106 ((q3 109 ((x0 + ((x1 - x0) / 2)).toNatClampNeg)).toNatClampNeg) q7.1) J ((x0 + ((x1 - x0) / 2)) + 1) x1 (x2 + 1) _ h11) ?_
        obtain ⟨h12, H⟩ := jm_gdo H
        refine jm_go.grd 1 (b := jm_inb (q3 109 ((x0 + ((x1 - x0) / 2)).toNatClampNeg)) 24) (pc' := 96) (ls' := [some (.ref 105), some (.int x0), some (.int x1), some (.int x2), some (.int (x0 + ((x1 - x0) / 2))), some (.int (q3 109 ((x0 + ((x1 - x0) / 2)).toNatClampNeg)))]) (st' := []) (t' := (jm_S0 L, (jm_up q10.2 107 ((q3 109 ((x0 + ((x1 - x0) / 2)).toNatClampNeg)).toNatClampNeg) q10.1), J)) (fun _ _ => rfl) h12 ?_
        cases H
        exact jm_go.ret 2 (fun _ _ => rfl)
      · refine jm_go.brf 3 (b := decide (x2 < 24)) (p1 := 13) (l1 := [some (.ref 105), some (.int x0), some (.int x1), some (.int x2), none, none]) (s1 := []) (t1 := (jm_S0 L, M, J)) (p2 := 11) (l2 := [some (.ref 105), some (.int x0), some (.int x1), some (.int x2), none, none]) (s2 := []) (t2 := (jm_S0 L, M, J)) (fun _ _ => rfl) h2 ?_
        cases H
        exact jm_go.ret 2 (fun _ _ => rfl)

def f50_34  (ke0 : jm_MM → Int32 → Option (jm_MM)) : Nat → jm_MM → Int32 → Int32 → Int32 → Option (jm_MM)
  | 0, _, _, _, _ => none
  | n0 + 1, M, v2, v3, v4 => bif decide (24 ≤ v4) then (ke0 M v3) else (jm_bd (f14 M v2 v4) (fun q8 => bif decide (q8 = 0) then ((f50_34  ke0 n0) M v2 v3 (v4 + 1)) else (jm_bd (f15 M v2 v4) (fun q11 => jm_gd (jm_inb v4 24) (jm_bd (f16 (jm_up M 110 v4.toNatClampNeg q11) v2 v4) (fun q14 => jm_gd (jm_inb v4 24) (jm_gd (jm_inb v3 24) ((f50_34  ke0 n0) (jm_up (jm_up (jm_up M 110 v4.toNatClampNeg q11) 111 v4.toNatClampNeg q14) 109 v3.toNatClampNeg v4) v2 (v3 + 1) (v4 + 1)))))))))
theorem g50_34 (L : Nat) (d : Nat) (_M : jm_MM) (J : jm_JJ) (ke0 : jm_MM → Int32 → Option (jm_MM)) (hke0 : ∀ (M : jm_MM) (v3 : Int32) (r : jm_MM), ke0 M v3 = some r → jm_go (d + 33) (jm_G 50) 96 [some (.ref 105), none, none, some (.int v3), none] [] (jm_S0 L, M, J) (none, (jm_S0 L, r, J))) : ∀ (n0 : Nat) (M : jm_MM) (v2 : Int32) (v3 : Int32) (v4 : Int32) (r : jm_MM), f50_34  ke0 n0 M v2 v3 v4 = some r → jm_go (d + 33) (jm_G 50) 34 [some (.ref 105), some (.ref 2), some (.int v2), some (.int v3), some (.int v4)] [] (jm_S0 L, M, J) (none, (jm_S0 L, r, J)) := by
  intro n0
  induction n0 with
  | zero => intro M v2 v3 v4 r H; cases H
  | succ n0 ih =>
    intro M v2 v3 v4 r H
    have hkb := ih
    unfold f50_34 at H
    rcases jm_bro H with ⟨h7, H⟩ | ⟨h7, H⟩
    · refine jm_go.brt 3 (b := decide (24 ≤ v4)) (p1 := 96) (l1 := [some (.ref 105), some (.ref 2), some (.int v2), some (.int v3), some (.int v4)]) (s1 := []) (t1 := (jm_S0 L, M, J)) (p2 := 41) (l2 := [some (.ref 105), some (.ref 2), some (.int v2), some (.int v3), some (.int v4)]) (s2 := []) (t2 := (jm_S0 L, M, J)) (fun _ _ => rfl) h7 ?_
      refine jm_go.lab (ls' := [some (.ref 105), none, none, some (.int v3), none]) (fun i hi => by cases hi; rfl) ?_
      exact hke0 M v3 _ H
    · refine jm_go.brf 3 (b := decide (24 ≤ v4)) (p1 := 96) (l1 := [some (.ref 105), some (.ref 2), some (.int v2), some (.int v3), some (.int v4)]) (s1 := []) (t1 := (jm_S0 L, M, J)) (p2 := 41) (l2 := [some (.ref 105), some (.ref 2), some (.int v2), some (.int v3), some (.int v4)]) (s2 := []) (t2 := (jm_S0 L, M, J)) (fun _ _ => rfl) h7 ?_
      obtain ⟨q8, h9, H⟩ := jm_bdo H
      refine jm_go.call 4 (d := d + 32) (b := true) (u := 14) (as := [.ref 2, .int v2, .int v4]) (pc' := 48) (ls' := [some (.ref 105), some (.ref 2), some (.int v2), some (.int v3), some (.int v4)]) (st' := []) (t' := (jm_S0 L, M, J)) (fun _ _ => rfl) rfl rfl (g14 L (d + 32) M J v2 v4 _ h9) ?_
      rcases jm_bro H with ⟨h10, H⟩ | ⟨h10, H⟩
      · refine jm_go.brt 1 (b := decide (q8 = 0)) (p1 := 90) (l1 := [some (.ref 105), some (.ref 2), some (.int v2), some (.int v3), some (.int v4)]) (s1 := []) (t1 := (jm_S0 L, M, J)) (p2 := 51) (l2 := [some (.ref 105), some (.ref 2), some (.int v2), some (.int v3), some (.int v4)]) (s2 := []) (t2 := (jm_S0 L, M, J)) (fun _ _ => rfl) h10 ?_
        refine jm_go.blk 2 (pc' := 34) (ls' := [some (.ref 105), some (.ref 2), some (.int v2), some (.int v3), some (.int (v4 + 1))]) (st' := []) (t' := (jm_S0 L, M, J)) (fun _ _ => rfl) ?_
        exact hkb M v2 v3 (v4 + 1) _ H
      · refine jm_go.brf 1 (b := decide (q8 = 0)) (p1 := 90) (l1 := [some (.ref 105), some (.ref 2), some (.int v2), some (.int v3), some (.int v4)]) (s1 := []) (t1 := (jm_S0 L, M, J)) (p2 := 51) (l2 := [some (.ref 105), some (.ref 2), some (.int v2), some (.int v3), some (.int v4)]) (s2 := []) (t2 := (jm_S0 L, M, J)) (fun _ _ => rfl) h10 ?_
        obtain ⟨q11, h12, H⟩ := jm_bdo H
        refine jm_go.call 7 (d := d + 32) (b := true) (u := 15) (as := [.ref 2, .int v2, .int v4]) (pc' := 64) (ls' := [some (.ref 105), some (.ref 2), some (.int v2), some (.int v3), some (.int v4)]) (st' := [.int v4, .ref 110]) (t' := (jm_S0 L, M, J)) (fun _ _ => rfl) rfl rfl (g15 L (d + 32) M J v2 v4 _ h12) ?_
        obtain ⟨h13, H⟩ := jm_gdo H
        refine jm_go.grd 1 (b := jm_inb v4 24) (pc' := 65) (ls' := [some (.ref 105), some (.ref 2), some (.int v2), some (.int v3), some (.int v4)]) (st' := []) (t' := (jm_S0 L, (jm_up M 110 v4.toNatClampNeg q11), J)) (fun _ _ => rfl) h13 ?_
        obtain ⟨q14, h15, H⟩ := jm_bdo H
        refine jm_go.call 7 (d := d + 32) (b := true) (u := 16) (as := [.ref 2, .int v2, .int v4]) (pc' := 78) (ls' := [some (.ref 105), some (.ref 2), some (.int v2), some (.int v3), some (.int v4)]) (st' := [.int v4, .ref 111]) (t' := (jm_S0 L, (jm_up M 110 v4.toNatClampNeg q11), J)) (fun _ _ => rfl) rfl rfl (g16 L (d + 32) (jm_up M 110 v4.toNatClampNeg q11) J v2 v4 _ h15) ?_
        obtain ⟨h16, H⟩ := jm_gdo H
        refine jm_go.grd 1 (b := jm_inb v4 24) (pc' := 79) (ls' := [some (.ref 105), some (.ref 2), some (.int v2), some (.int v3), some (.int v4)]) (st' := []) (t' := (jm_S0 L, (jm_up (jm_up M 110 v4.toNatClampNeg q11) 111 v4.toNatClampNeg q14), J)) (fun _ _ => rfl) h16 ?_
        obtain ⟨h17, H⟩ := jm_gdo H
        refine jm_go.grd 5 (b := jm_inb v3 24) (pc' := 87) (ls' := [some (.ref 105), some (.ref 2), some (.int v2), some (.int v3), some (.int v4)]) (st' := []) (t' := (jm_S0 L, (jm_up (jm_up (jm_up M 110 v4.toNatClampNeg q11) 111 v4.toNatClampNeg q14) 109 v3.toNatClampNeg v4), J)) (fun _ _ => rfl) h17 ?_
        refine jm_go.blk 3 (pc' := 34) (ls' := [some (.ref 105), some (.ref 2), some (.int v2), some (.int (v3 + 1)), some (.int (v4 + 1))]) (st' := []) (t' := (jm_S0 L, (jm_up (jm_up (jm_up M 110 v4.toNatClampNeg q11) 111 v4.toNatClampNeg q14) 109 v3.toNatClampNeg v4), J)) (fun _ _ => rfl) ?_
        exact hkb (jm_up (jm_up (jm_up M 110 v4.toNatClampNeg q11) 111 v4.toNatClampNeg q14) 109 v3.toNatClampNeg v4) v2 (v3 + 1) (v4 + 1) _ H

/-- X6_build -/
def f50 (M : jm_MM) (x1 : Int32) : Option (jm_MM) := jm_bd (f165 M 106 24 (-1)) (fun q1 => jm_bd (f165 q1 107 24 (-1)) (fun q3 => jm_bd (f165 q3 108 24 (-1)) (fun q5 => f50_34  (fun Me18 ve19 => jm_bd (f51 30 Me18 0 ve19 0) (fun q20 => some (jm_up q20.2 105 0 q20.1))) jm_F (jm_up q5 105 1 0) x1 0 0)))
theorem g50 (L : Nat) (d : Nat) (M : jm_MM) (J : jm_JJ) (x1 : Int32) (r : jm_MM) (H : f50 M x1 = some r) : jm_go (d + 33) (jm_G 50) 0 (jm_en 5 [.ref 105, .ref 2, .int x1]) [] (jm_S0 L, M, J) (none, (jm_S0 L, r, J)) := by
  unfold f50 at H
  obtain ⟨q1, h2, H⟩ := jm_bdo H
  refine jm_go.call 4 (d := d + 32) (b := true) (u := 165) (as := [.ref 106, .int (-1)]) (pc' := 8) (ls' := [some (.ref 105), some (.ref 2), some (.int x1), none, none]) (st' := []) (t' := (jm_S0 L, M, J)) (fun _ _ => rfl) rfl rfl (g165 L (d + 32) M J 106 (-1) (⟨rfl, rfl⟩ : jm_isI L 106 24) h2) ?_
  obtain ⟨q3, h4, H⟩ := jm_bdo H
  refine jm_go.call 4 (d := d + 32) (b := true) (u := 165) (as := [.ref 107, .int (-1)]) (pc' := 16) (ls' := [some (.ref 105), some (.ref 2), some (.int x1), none, none]) (st' := []) (t' := (jm_S0 L, q1, J)) (fun _ _ => rfl) rfl rfl (g165 L (d + 32) q1 J 107 (-1) (⟨rfl, rfl⟩ : jm_isI L 107 24) h4) ?_
  obtain ⟨q5, h6, H⟩ := jm_bdo H
  refine jm_go.call 4 (d := d + 32) (b := true) (u := 165) (as := [.ref 108, .int (-1)]) (pc' := 24) (ls' := [some (.ref 105), some (.ref 2), some (.int x1), none, none]) (st' := []) (t' := (jm_S0 L, q3, J)) (fun _ _ => rfl) rfl rfl (g165 L (d + 32) q3 J 108 (-1) (⟨rfl, rfl⟩ : jm_isI L 108 24) h6) ?_
  refine jm_go.blk 7 (pc' := 34) (ls' := [some (.ref 105), some (.ref 2), some (.int x1), some (.int 0), some (.int 0)]) (st' := []) (t' := (jm_S0 L, (jm_up q5 105 1 0), J)) (fun _ _ => rfl) ?_
  exact g50_34 L d M J
    _ (fun Me18 ve19 r H => by
      obtain ⟨q20, h21, H⟩ := jm_bdo H
      refine jm_go.call 6 (d := d + 32) (b := true) (u := 51) (as := [.ref 105, .int 0, .int ve19, .int 0]) (pc' := 104) (ls' := [some (.ref 105), none, none, some (.int ve19), none]) (st' := [.ref 105]) (t' := (jm_S0 L, Me18, J)) (fun _ _ => rfl) rfl rfl (g51 L d 30 Me18 J 0 ve19 0 _ h21) ?_
      cases H
      exact jm_go.ret 2 (fun _ _ => rfl)
      )
    _ (jm_up q5 105 1 0) x1 0 0 _ H


/-- X6_lookedAtFrom -/
def f55 : Nat → jm_MM → Int32 → Int32 → Int32 → Int32 → Int32 → Option (Int32)
  | 0, _, _, _, _, _, _ => none
  | n + 1, M, x0, x1, x2, x3, x4 => bif decide (x0 = (-1)) then (some 0) else (bif decide (x4 < 24) then (bif !decide ((x4 - x4 / 2 * 2) = 0) then (jm_gd (jm_inb x0 24) (bif decide (x3 < ((x2 - (M 111 x0.toNatClampNeg)) * (x2 - (M 111 x0.toNatClampNeg)))) then (bif decide ((x2 - (M 111 x0.toNatClampNeg)) ≤ 0) then (jm_gd (jm_inb x0 24) (jm_bd (f55 n M (M 106 x0.toNatClampNeg) x1 x2 x3 (x4 + 1)) (fun q8 => bif decide (0 ≤ (x2 - (M 111 x0.toNatClampNeg))) then (jm_gd (jm_inb x0 24) (jm_bd (f55 n M (M 107 x0.toNatClampNeg) x1 x2 x3 (x4 + 1)) (fun q12 => some ((1 + q8) + q12)))) else (bif decide (0 = 0) then (some (1 + q8)) else (jm_gd (jm_inb x0 24) (jm_bd (f55 n M (M 107 x0.toNatClampNeg) x1 x2 x3 (x4 + 1)) (fun q16 => some ((1 + q8) + q16)))))))) else (bif decide (0 = 0) then (bif decide (0 ≤ (x2 - (M 111 x0.toNatClampNeg))) then (jm_gd (jm_inb x0 24) (jm_bd (f55 n M (M 107 x0.toNatClampNeg) x1 x2 x3 (x4 + 1)) (fun q21 => some (1 + q21)))) else (bif decide (0 = 0) then (some 1) else (jm_gd (jm_inb x0 24) (jm_bd (f55 n M (M 107 x0.toNatClampNeg) x1 x2 x3 (x4 + 1)) (fun q25 => some (1 + q25)))))) else (jm_gd (jm_inb x0 24) (jm_bd (f55 n M (M 106 x0.toNatClampNeg) x1 x2 x3 (x4 + 1)) (fun q28 => bif decide (0 ≤ (x2 - (M 111 x0.toNatClampNeg))) then (jm_gd (jm_inb x0 24) (jm_bd (f55 n M (M 107 x0.toNatClampNeg) x1 x2 x3 (x4 + 1)) (fun q32 => some ((1 + q28) + q32)))) else (bif decide (0 = 0) then (some (1 + q28)) else (jm_gd (jm_inb x0 24) (jm_bd (f55 n M (M 107 x0.toNatClampNeg) x1 x2 x3 (x4 + 1)) (fun q36 => some ((1 + q28) + q36)))))))))) else (bif decide ((x2 - (M 111 x0.toNatClampNeg)) ≤ 0) then (jm_gd (jm_inb x0 24) (jm_bd (f55 n M (M 106 x0.toNatClampNeg) x1 x2 x3 (x4 + 1)) (fun q40 => bif decide (0 ≤ (x2 - (M 111 x0.toNatClampNeg))) then (jm_gd (jm_inb x0 24) (jm_bd (f55 n M (M 107 x0.toNatClampNeg) x1 x2 x3 (x4 + 1)) (fun q44 => some ((1 + q40) + q44)))) else (bif decide (1 = 0) then (some (1 + q40)) else (jm_gd (jm_inb x0 24) (jm_bd (f55 n M (M 107 x0.toNatClampNeg) x1 x2 x3 (x4 + 1)) (fun q48 => some ((1 + q40) + q48)))))))) else (bif decide (1 = 0) then (bif decide (0 ≤ (x2 - (M 111 x0.toNatClampNeg))) then (jm_gd (jm_inb x0 24) (jm_bd (f55 n M (M 107 x0.toNatClampNeg) x1 x2 x3 (x4 + 1)) (fun q53 => some (1 + q53)))) else (bif decide (1 = 0) then (some 1) else (jm_gd (jm_inb x0 24) (jm_bd (f55 n M (M 107 x0.toNatClampNeg) x1 x2 x3 (x4 + 1)) (fun q57 => some (1 + q57)))))) else (jm_gd (jm_inb x0 24) (jm_bd (f55 n M (M 106 x0.toNatClampNeg) x1 x2 x3 (x4 + 1)) (fun q60 => bif decide (0 ≤ (x2 - (M 111 x0.toNatClampNeg))) then (jm_gd (jm_inb x0 24) (jm_bd (f55 n M (M 107 x0.toNatClampNeg) x1 x2 x3 (x4 + 1)) (fun q64 => some ((1 + q60) + q64)))) else (bif decide (1 = 0) then (some (1 + q60)) else (jm_gd (jm_inb x0 24) (jm_bd (f55 n M (M 107 x0.toNatClampNeg) x1 x2 x3 (x4 + 1)) (fun q68 => some ((1 + q60) + q68)))))))))))) else (jm_gd (jm_inb x0 24) (bif decide (x3 < ((x1 - (M 110 x0.toNatClampNeg)) * (x1 - (M 110 x0.toNatClampNeg)))) then (bif decide ((x1 - (M 110 x0.toNatClampNeg)) ≤ 0) then (jm_gd (jm_inb x0 24) (jm_bd (f55 n M (M 106 x0.toNatClampNeg) x1 x2 x3 (x4 + 1)) (fun q74 => bif decide (0 ≤ (x1 - (M 110 x0.toNatClampNeg))) then (jm_gd (jm_inb x0 24) (jm_bd (f55 n M (M 107 x0.toNatClampNeg) x1 x2 x3 (x4 + 1)) (fun q78 => some ((1 + q74) + q78)))) else (bif decide (0 = 0) then (some (1 + q74)) else (jm_gd (jm_inb x0 24) (jm_bd (f55 n M (M 107 x0.toNatClampNeg) x1 x2 x3 (x4 + 1)) (fun q82 => some ((1 + q74) + q82)))))))) else (bif decide (0 = 0) then (bif decide (0 ≤ (x1 - (M 110 x0.toNatClampNeg))) then (jm_gd (jm_inb x0 24) (jm_bd (f55 n M (M 107 x0.toNatClampNeg) x1 x2 x3 (x4 + 1)) (fun q87 => some (1 + q87)))) else (bif decide (0 = 0) then (some 1) else (jm_gd (jm_inb x0 24) (jm_bd (f55 n M (M 107 x0.toNatClampNeg) x1 x2 x3 (x4 + 1)) (fun q91 => some (1 + q91)))))) else (jm_gd (jm_inb x0 24) (jm_bd (f55 n M (M 106 x0.toNatClampNeg) x1 x2 x3 (x4 + 1)) (fun q94 => bif decide (0 ≤ (x1 - (M 110 x0.toNatClampNeg))) then (jm_gd (jm_inb x0 24) (jm_bd (f55 n M (M 107 x0.toNatClampNeg) x1 x2 x3 (x4 + 1)) (fun q98 => some ((1 + q94) + q98)))) else (bif decide (0 = 0) then (some (1 + q94)) else (jm_gd (jm_inb x0 24) (jm_bd (f55 n M (M 107 x0.toNatClampNeg) x1 x2 x3 (x4 + 1)) (fun q102 => some ((1 + q94) + q102)))))))))) else (bif decide ((x1 - (M 110 x0.toNatClampNeg)) ≤ 0) then (jm_gd (jm_inb x0 24) (jm_bd (f55 n M (M 106 x0.toNatClampNeg) x1 x2 x3 (x4 + 1)) (fun q106 => bif decide (0 ≤ (x1 - (M 110 x0.toNatClampNeg))) then (jm_gd (jm_inb x0 24) (jm_bd (f55 n M (M 107 x0.toNatClampNeg) x1 x2 x3 (x4 + 1)) (fun q110 => some ((1 + q106) + q110)))) else (bif decide (1 = 0) then (some (1 + q106)) else (jm_gd (jm_inb x0 24) (jm_bd (f55 n M (M 107 x0.toNatClampNeg) x1 x2 x3 (x4 + 1)) (fun q114 => some ((1 + q106) + q114)))))))) else (bif decide (1 = 0) then (bif decide (0 ≤ (x1 - (M 110 x0.toNatClampNeg))) then (jm_gd (jm_inb x0 24) (jm_bd (f55 n M (M 107 x0.toNatClampNeg) x1 x2 x3 (x4 + 1)) (fun q119 => some (1 + q119)))) else (bif decide (1 = 0) then (some 1) else (jm_gd (jm_inb x0 24) (jm_bd (f55 n M (M 107 x0.toNatClampNeg) x1 x2 x3 (x4 + 1)) (fun q123 => some (1 + q123)))))) else (jm_gd (jm_inb x0 24) (jm_bd (f55 n M (M 106 x0.toNatClampNeg) x1 x2 x3 (x4 + 1)) (fun q126 => bif decide (0 ≤ (x1 - (M 110 x0.toNatClampNeg))) then (jm_gd (jm_inb x0 24) (jm_bd (f55 n M (M 107 x0.toNatClampNeg) x1 x2 x3 (x4 + 1)) (fun q130 => some ((1 + q126) + q130)))) else (bif decide (1 = 0) then (some (1 + q126)) else (jm_gd (jm_inb x0 24) (jm_bd (f55 n M (M 107 x0.toNatClampNeg) x1 x2 x3 (x4 + 1)) (fun q134 => some ((1 + q126) + q134))))))))))))) else (some 0))
theorem g55 (L d : Nat) : ∀ (n : Nat) (M : jm_MM) (J : jm_JJ) (x0 : Int32) (x1 : Int32) (x2 : Int32) (x3 : Int32) (x4 : Int32) (r : Int32), f55 n M x0 x1 x2 x3 x4 = some r → jm_go (d + n) (jm_G 55) 0 (jm_en 9 [.ref 105, .int x0, .int x1, .int x2, .int x3, .int x4]) [] (jm_S0 L, M, J) (some (.int r), (jm_S0 L, M, J)) := by
  intro n
  induction n with
  | zero => intro M J x0 x1 x2 x3 x4 r H; cases H
  | succ n ih =>
    intro M J x0 x1 x2 x3 x4 r H
    have g55 := fun (_ _ _ : Nat) => ih
    unfold f55 at H
    rcases jm_bro H with ⟨h1, H⟩ | ⟨h1, H⟩
    · refine jm_go.brt 3 (b := decide (x0 = (-1))) (p1 := 12) (l1 := [some (.ref 105), some (.int x0), some (.int x1), some (.int x2), some (.int x3), some (.int x4), none, none, none]) (s1 := []) (t1 := (jm_S0 L, M, J)) (p2 := 5) (l2 := [some (.ref 105), some (.int x0), some (.int x1), some (.int x2), some (.int x3), some (.int x4), none, none, none]) (s2 := []) (t2 := (jm_S0 L, M, J)) (fun _ _ => rfl) h1 ?_
      cases H
      exact jm_go.ret 2 (fun _ _ => rfl)
    · refine jm_go.brf 3 (b := decide (x0 = (-1))) (p1 := 12) (l1 := [some (.ref 105), some (.int x0), some (.int x1), some (.int x2), some (.int x3), some (.int x4), none, none, none]) (s1 := []) (t1 := (jm_S0 L, M, J)) (p2 := 5) (l2 := [some (.ref 105), some (.int x0), some (.int x1), some (.int x2), some (.int x3), some (.int x4), none, none, none]) (s2 := []) (t2 := (jm_S0 L, M, J)) (fun _ _ => rfl) h1 ?_
      rcases jm_bro H with ⟨h2, H⟩ | ⟨h2, H⟩
      · refine jm_go.brt 3 (b := decide (x4 < 24)) (p1 := 14) (l1 := [some (.ref 105), some (.int x0), some (.int x1), some (.int x2), some (.int x3), some (.int x4), none, none, none]) (s1 := []) (t1 := (jm_S0 L, M, J)) (p2 := 12) (l2 := [some (.ref 105), some (.int x0), some (.int x1), some (.int x2), some (.int x3), some (.int x4), none, none, none]) (s2 := []) (t2 := (jm_S0 L, M, J)) (fun _ _ => rfl) h2 ?_
        rcases jm_bro H with ⟨h3, H⟩ | ⟨h3, H⟩
        · refine jm_go.brt 4 (b := !decide ((x4 - x4 / 2 * 2) = 0)) (p1 := 32) (l1 := [some (.ref 105), some (.int x0), some (.int x1), some (.int x2), some (.int x3), some (.int x4), none, none, none]) (s1 := []) (t1 := (jm_S0 L, M, J)) (p2 := 21) (l2 := [some (.ref 105), some (.int x0), some (.int x1), some (.int x2), some (.int x3), some (.int x4), none, none, none]) (s2 := []) (t2 := (jm_S0 L, M, J)) (fun _ _ => rfl) h3 ?_
          obtain ⟨h4, H⟩ := jm_gdo H
          refine jm_go.grd 5 (b := jm_inb x0 24) (pc' := 39) (ls' := [some (.ref 105), some (.int x0), some (.int x1), some (.int x2), some (.int x3), some (.int x4), none, none, none]) (st' := [.int (M 111 x0.toNatClampNeg), .int x2]) (t' := (jm_S0 L, M, J)) (fun _ _ => rfl) h4 ?_
          rcases jm_bro H with ⟨h5, H⟩ | ⟨h5, H⟩
          · refine jm_go.brt 7 (b := decide (x3 < ((x2 - (M 111 x0.toNatClampNeg)) * (x2 - (M 111 x0.toNatClampNeg))))) (p1 := 56) (l1 := [some (.ref 105), some (.int x0), some (.int x1), some (.int x2), some (.int x3), some (.int x4), some (.int (x2 - (M 111 x0.toNatClampNeg))), none, none]) (s1 := []) (t1 := (jm_S0 L, M, J)) (p2 := 52) (l2 := [some (.ref 105), some (.int x0), some (.int x1), some (.int x2), some (.int x3), some (.int x4), some (.int (x2 - (M 111 x0.toNatClampNeg))), none, none]) (s2 := []) (t2 := (jm_S0 L, M, J)) (fun _ _ => rfl) h5 ?_
            rcases jm_bro H with ⟨h6, H⟩ | ⟨h6, H⟩
            · refine jm_go.brt 6 (b := decide ((x2 - (M 111 x0.toNatClampNeg)) ≤ 0)) (p1 := 72) (l1 := [some (.ref 105), some (.int x0), some (.int x1), some (.int x2), some (.int x3), some (.int x4), some (.int (x2 - (M 111 x0.toNatClampNeg))), some (.int 0), some (.int 1)]) (s1 := []) (t1 := (jm_S0 L, M, J)) (p2 := 67) (l2 := [some (.ref 105), some (.int x0), some (.int x1), some (.int x2), some (.int x3), some (.int x4), some (.int (x2 - (M 111 x0.toNatClampNeg))), some (.int 0), some (.int 1)]) (s2 := []) (t2 := (jm_S0 L, M, J)) (fun _ _ => rfl) h6 ?_
              obtain ⟨h7, H⟩ := jm_gdo H
              refine jm_go.grd 6 (b := jm_inb x0 24) (pc' := 81) (ls' := [some (.ref 105), some (.int x0), some (.int x1), some (.int x2), some (.int x3), some (.int x4), some (.int (x2 - (M 111 x0.toNatClampNeg))), some (.int 0), some (.int 1)]) (st' := [.int (M 106 x0.toNatClampNeg), .ref 105, .int 1]) (t' := (jm_S0 L, M, J)) (fun _ _ => rfl) h7 ?_
              obtain ⟨q8, h9, H⟩ := jm_bdo H
              refine jm_go.call 7 (d := d + n) (b := true) (u := 55) (as := [.ref 105, .int (M 106 x0.toNatClampNeg), .int x1, .int x2, .int x3, .int (x4 + 1)]) (pc' := 92) (ls' := [some (.ref 105), some (.int x0), some (.int x1), some (.int x2), some (.int x3), some (.int x4), some (.int (x2 - (M 111 x0.toNatClampNeg))), some (.int 0), some (.int 1)]) (st' := [.int 1]) (t' := (jm_S0 L, M, J)) (fun _ _ => rfl) rfl rfl (g55 L d n M J (M 106 x0.toNatClampNeg) x1 x2 x3 (x4 + 1) _ h9) ?_
              rcases jm_bro H with ⟨h10, H⟩ | ⟨h10, H⟩
              · refine jm_go.brt 4 (b := decide (0 ≤ (x2 - (M 111 x0.toNatClampNeg)))) (p1 := 105) (l1 := [some (.ref 105), some (.int x0), some (.int x1), some (.int x2), some (.int x3), some (.int x4), some (.int (x2 - (M 111 x0.toNatClampNeg))), some (.int 0), some (.int (1 + q8))]) (s1 := []) (t1 := (jm_S0 L, M, J)) (p2 := 100) (l2 := [some (.ref 105), some (.int x0), some (.int x1), some (.int x2), some (.int x3), some (.int x4), some (.int (x2 - (M 111 x0.toNatClampNeg))), some (.int 0), some (.int (1 + q8))]) (s2 := []) (t2 := (jm_S0 L, M, J)) (fun _ _ => rfl) h10 ?_
                obtain ⟨h11, H⟩ := jm_gdo H
                refine jm_go.grd 6 (b := jm_inb x0 24) (pc' := 114) (ls' := [some (.ref 105), some (.int x0), some (.int x1), some (.int x2), some (.int x3), some (.int x4), none, none, some (.int (1 + q8))]) (st' := [.int (M 107 x0.toNatClampNeg), .ref 105, .int (1 + q8)]) (t' := (jm_S0 L, M, J)) (fun _ _ => rfl) h11 ?_
                obtain ⟨q12, h13, H⟩ := jm_bdo H
                refine jm_go.call 7 (d := d + n) (b := true) (u := 55) (as := [.ref 105, .int (M 107 x0.toNatClampNeg), .int x1, .int x2, .int x3, .int (x4 + 1)]) (pc' := 125) (ls' := [some (.ref 105), some (.int x0), some (.int x1), some (.int x2), some (.int x3), some (.int x4), none, none, some (.int (1 + q8))]) (st' := [.int (1 + q8)]) (t' := (jm_S0 L, M, J)) (fun _ _ => rfl) rfl rfl (g55 L d n M J (M 107 x0.toNatClampNeg) x1 x2 x3 (x4 + 1) _ h13) ?_
                cases H
                exact jm_go.ret 4 (fun _ _ => rfl)
              · refine jm_go.brf 4 (b := decide (0 ≤ (x2 - (M 111 x0.toNatClampNeg)))) (p1 := 105) (l1 := [some (.ref 105), some (.int x0), some (.int x1), some (.int x2), some (.int x3), some (.int x4), some (.int (x2 - (M 111 x0.toNatClampNeg))), some (.int 0), some (.int (1 + q8))]) (s1 := []) (t1 := (jm_S0 L, M, J)) (p2 := 100) (l2 := [some (.ref 105), some (.int x0), some (.int x1), some (.int x2), some (.int x3), some (.int x4), some (.int (x2 - (M 111 x0.toNatClampNeg))), some (.int 0), some (.int (1 + q8))]) (s2 := []) (t2 := (jm_S0 L, M, J)) (fun _ _ => rfl) h10 ?_
                rcases jm_bro H with ⟨h14, H⟩ | ⟨h14, H⟩
                · refine jm_go.brt 2 (b := decide (0 = 0)) (p1 := 128) (l1 := [some (.ref 105), some (.int x0), some (.int x1), some (.int x2), some (.int x3), some (.int x4), some (.int (x2 - (M 111 x0.toNatClampNeg))), some (.int 0), some (.int (1 + q8))]) (s1 := []) (t1 := (jm_S0 L, M, J)) (p2 := 105) (l2 := [some (.ref 105), some (.int x0), some (.int x1), some (.int x2), some (.int x3), some (.int x4), some (.int (x2 - (M 111 x0.toNatClampNeg))), some (.int 0), some (.int (1 + q8))]) (s2 := []) (t2 := (jm_S0 L, M, J)) (fun _ _ => rfl) h14 ?_
                  cases H
                  exact jm_go.ret 2 (fun _ _ => rfl)
                · refine jm_go.brf 2 (b := decide (0 = 0)) (p1 := 128) (l1 := [some (.ref 105), some (.int x0), some (.int x1), some (.int x2), some (.int x3), some (.int x4), some (.int (x2 - (M 111 x0.toNatClampNeg))), some (.int 0), some (.int (1 + q8))]) (s1 := []) (t1 := (jm_S0 L, M, J)) (p2 := 105) (l2 := [some (.ref 105), some (.int x0), some (.int x1), some (.int x2), some (.int x3), some (.int x4), some (.int (x2 - (M 111 x0.toNatClampNeg))), some (.int 0), some (.int (1 + q8))]) (s2 := []) (t2 := (jm_S0 L, M, J)) (fun _ _ => rfl) h14 ?_
                  obtain ⟨h15, H⟩ := jm_gdo H
                  refine jm_go.grd 6 (b := jm_inb x0 24) (pc' := 114) (ls' := [some (.ref 105), some (.int x0), some (.int x1), some (.int x2), some (.int x3), some (.int x4), none, none, some (.int (1 + q8))]) (st' := [.int (M 107 x0.toNatClampNeg), .ref 105, .int (1 + q8)]) (t' := (jm_S0 L, M, J)) (fun _ _ => rfl) h15 ?_
                  obtain ⟨q16, h17, H⟩ := jm_bdo H
                  refine jm_go.call 7 (d := d + n) (b := true) (u := 55) (as := [.ref 105, .int (M 107 x0.toNatClampNeg), .int x1, .int x2, .int x3, .int (x4 + 1)]) (pc' := 125) (ls' := [some (.ref 105), some (.int x0), some (.int x1), some (.int x2), some (.int x3), some (.int x4), none, none, some (.int (1 + q8))]) (st' := [.int (1 + q8)]) (t' := (jm_S0 L, M, J)) (fun _ _ => rfl) rfl rfl (g55 L d n M J (M 107 x0.toNatClampNeg) x1 x2 x3 (x4 + 1) _ h17) ?_
                  cases H
                  exact jm_go.ret 4 (fun _ _ => rfl)
            · refine jm_go.brf 6 (b := decide ((x2 - (M 111 x0.toNatClampNeg)) ≤ 0)) (p1 := 72) (l1 := [some (.ref 105), some (.int x0), some (.int x1), some (.int x2), some (.int x3), some (.int x4), some (.int (x2 - (M 111 x0.toNatClampNeg))), some (.int 0), some (.int 1)]) (s1 := []) (t1 := (jm_S0 L, M, J)) (p2 := 67) (l2 := [some (.ref 105), some (.int x0), some (.int x1), some (.int x2), some (.int x3), some (.int x4), some (.int (x2 - (M 111 x0.toNatClampNeg))), some (.int 0), some (.int 1)]) (s2 := []) (t2 := (jm_S0 L, M, J)) (fun _ _ => rfl) h6 ?_
              rcases jm_bro H with ⟨h18, H⟩ | ⟨h18, H⟩
              · refine jm_go.brt 2 (b := decide (0 = 0)) (p1 := 95) (l1 := [some (.ref 105), some (.int x0), some (.int x1), some (.int x2), some (.int x3), some (.int x4), some (.int (x2 - (M 111 x0.toNatClampNeg))), some (.int 0), some (.int 1)]) (s1 := []) (t1 := (jm_S0 L, M, J)) (p2 := 72) (l2 := [some (.ref 105), some (.int x0), some (.int x1), some (.int x2), some (.int x3), some (.int x4), some (.int (x2 - (M 111 x0.toNatClampNeg))), some (.int 0), some (.int 1)]) (s2 := []) (t2 := (jm_S0 L, M, J)) (fun _ _ => rfl) h18 ?_
                rcases jm_bro H with ⟨h19, H⟩ | ⟨h19, H⟩
                · refine jm_go.brt 2 (b := decide (0 ≤ (x2 - (M 111 x0.toNatClampNeg)))) (p1 := 105) (l1 := [some (.ref 105), some (.int x0), some (.int x1), some (.int x2), some (.int x3), some (.int x4), some (.int (x2 - (M 111 x0.toNatClampNeg))), some (.int 0), some (.int 1)]) (s1 := []) (t1 := (jm_S0 L, M, J)) (p2 := 100) (l2 := [some (.ref 105), some (.int x0), some (.int x1), some (.int x2), some (.int x3), some (.int x4), some (.int (x2 - (M 111 x0.toNatClampNeg))), some (.int 0), some (.int 1)]) (s2 := []) (t2 := (jm_S0 L, M, J)) (fun _ _ => rfl) h19 ?_
                  obtain ⟨h20, H⟩ := jm_gdo H
                  refine jm_go.grd 6 (b := jm_inb x0 24) (pc' := 114) (ls' := [some (.ref 105), some (.int x0), some (.int x1), some (.int x2), some (.int x3), some (.int x4), none, none, some (.int 1)]) (st' := [.int (M 107 x0.toNatClampNeg), .ref 105, .int 1]) (t' := (jm_S0 L, M, J)) (fun _ _ => rfl) h20 ?_
                  obtain ⟨q21, h22, H⟩ := jm_bdo H
                  refine jm_go.call 7 (d := d + n) (b := true) (u := 55) (as := [.ref 105, .int (M 107 x0.toNatClampNeg), .int x1, .int x2, .int x3, .int (x4 + 1)]) (pc' := 125) (ls' := [some (.ref 105), some (.int x0), some (.int x1), some (.int x2), some (.int x3), some (.int x4), none, none, some (.int 1)]) (st' := [.int 1]) (t' := (jm_S0 L, M, J)) (fun _ _ => rfl) rfl rfl (g55 L d n M J (M 107 x0.toNatClampNeg) x1 x2 x3 (x4 + 1) _ h22) ?_
                  cases H
                  exact jm_go.ret 4 (fun _ _ => rfl)
                · refine jm_go.brf 2 (b := decide (0 ≤ (x2 - (M 111 x0.toNatClampNeg)))) (p1 := 105) (l1 := [some (.ref 105), some (.int x0), some (.int x1), some (.int x2), some (.int x3), some (.int x4), some (.int (x2 - (M 111 x0.toNatClampNeg))), some (.int 0), some (.int 1)]) (s1 := []) (t1 := (jm_S0 L, M, J)) (p2 := 100) (l2 := [some (.ref 105), some (.int x0), some (.int x1), some (.int x2), some (.int x3), some (.int x4), some (.int (x2 - (M 111 x0.toNatClampNeg))), some (.int 0), some (.int 1)]) (s2 := []) (t2 := (jm_S0 L, M, J)) (fun _ _ => rfl) h19 ?_
                  rcases jm_bro H with ⟨h23, H⟩ | ⟨h23, H⟩
                  · refine jm_go.brt 2 (b := decide (0 = 0)) (p1 := 128) (l1 := [some (.ref 105), some (.int x0), some (.int x1), some (.int x2), some (.int x3), some (.int x4), some (.int (x2 - (M 111 x0.toNatClampNeg))), some (.int 0), some (.int 1)]) (s1 := []) (t1 := (jm_S0 L, M, J)) (p2 := 105) (l2 := [some (.ref 105), some (.int x0), some (.int x1), some (.int x2), some (.int x3), some (.int x4), some (.int (x2 - (M 111 x0.toNatClampNeg))), some (.int 0), some (.int 1)]) (s2 := []) (t2 := (jm_S0 L, M, J)) (fun _ _ => rfl) h23 ?_
                    cases H
                    exact jm_go.ret 2 (fun _ _ => rfl)
                  · refine jm_go.brf 2 (b := decide (0 = 0)) (p1 := 128) (l1 := [some (.ref 105), some (.int x0), some (.int x1), some (.int x2), some (.int x3), some (.int x4), some (.int (x2 - (M 111 x0.toNatClampNeg))), some (.int 0), some (.int 1)]) (s1 := []) (t1 := (jm_S0 L, M, J)) (p2 := 105) (l2 := [some (.ref 105), some (.int x0), some (.int x1), some (.int x2), some (.int x3), some (.int x4), some (.int (x2 - (M 111 x0.toNatClampNeg))), some (.int 0), some (.int 1)]) (s2 := []) (t2 := (jm_S0 L, M, J)) (fun _ _ => rfl) h23 ?_
                    obtain ⟨h24, H⟩ := jm_gdo H
                    refine jm_go.grd 6 (b := jm_inb x0 24) (pc' := 114) (ls' := [some (.ref 105), some (.int x0), some (.int x1), some (.int x2), some (.int x3), some (.int x4), none, none, some (.int 1)]) (st' := [.int (M 107 x0.toNatClampNeg), .ref 105, .int 1]) (t' := (jm_S0 L, M, J)) (fun _ _ => rfl) h24 ?_
                    obtain ⟨q25, h26, H⟩ := jm_bdo H
                    refine jm_go.call 7 (d := d + n) (b := true) (u := 55) (as := [.ref 105, .int (M 107 x0.toNatClampNeg), .int x1, .int x2, .int x3, .int (x4 + 1)]) (pc' := 125) (ls' := [some (.ref 105), some (.int x0), some (.int x1), some (.int x2), some (.int x3), some (.int x4), none, none, some (.int 1)]) (st' := [.int 1]) (t' := (jm_S0 L, M, J)) (fun _ _ => rfl) rfl rfl (g55 L d n M J (M 107 x0.toNatClampNeg) x1 x2 x3 (x4 + 1) _ h26) ?_
                    cases H
                    exact jm_go.ret 4 (fun _ _ => rfl)
              · refine jm_go.brf 2 (b := decide (0 = 0)) (p1 := 95) (l1 := [some (.ref 105), some (.int x0), some (.int x1), some (.int x2), some (.int x3), some (.int x4), some (.int (x2 - (M 111 x0.toNatClampNeg))), some (.int 0), some (.int 1)]) (s1 := []) (t1 := (jm_S0 L, M, J)) (p2 := 72) (l2 := [some (.ref 105), some (.int x0), some (.int x1), some (.int x2), some (.int x3), some (.int x4), some (.int (x2 - (M 111 x0.toNatClampNeg))), some (.int 0), some (.int 1)]) (s2 := []) (t2 := (jm_S0 L, M, J)) (fun _ _ => rfl) h18 ?_
                obtain ⟨h27, H⟩ := jm_gdo H
                refine jm_go.grd 6 (b := jm_inb x0 24) (pc' := 81) (ls' := [some (.ref 105), some (.int x0), some (.int x1), some (.int x2), some (.int x3), some (.int x4), some (.int (x2 - (M 111 x0.toNatClampNeg))), some (.int 0), some (.int 1)]) (st' := [.int (M 106 x0.toNatClampNeg), .ref 105, .int 1]) (t' := (jm_S0 L, M, J)) (fun _ _ => rfl) h27 ?_
                obtain ⟨q28, h29, H⟩ := jm_bdo H
                refine jm_go.call 7 (d := d + n) (b := true) (u := 55) (as := [.ref 105, .int (M 106 x0.toNatClampNeg), .int x1, .int x2, .int x3, .int (x4 + 1)]) (pc' := 92) (ls' := [some (.ref 105), some (.int x0), some (.int x1), some (.int x2), some (.int x3), some (.int x4), some (.int (x2 - (M 111 x0.toNatClampNeg))), some (.int 0), some (.int 1)]) (st' := [.int 1]) (t' := (jm_S0 L, M, J)) (fun _ _ => rfl) rfl rfl (g55 L d n M J (M 106 x0.toNatClampNeg) x1 x2 x3 (x4 + 1) _ h29) ?_
                rcases jm_bro H with ⟨h30, H⟩ | ⟨h30, H⟩
                · refine jm_go.brt 4 (b := decide (0 ≤ (x2 - (M 111 x0.toNatClampNeg)))) (p1 := 105) (l1 := [some (.ref 105), some (.int x0), some (.int x1), some (.int x2), some (.int x3), some (.int x4), some (.int (x2 - (M 111 x0.toNatClampNeg))), some (.int 0), some (.int (1 + q28))]) (s1 := []) (t1 := (jm_S0 L, M, J)) (p2 := 100) (l2 := [some (.ref 105), some (.int x0), some (.int x1), some (.int x2), some (.int x3), some (.int x4), some (.int (x2 - (M 111 x0.toNatClampNeg))), some (.int 0), some (.int (1 + q28))]) (s2 := []) (t2 := (jm_S0 L, M, J)) (fun _ _ => rfl) h30 ?_
                  obtain ⟨h31, H⟩ := jm_gdo H
                  refine jm_go.grd 6 (b := jm_inb x0 24) (pc' := 114) (ls' := [some (.ref 105), some (.int x0), some (.int x1), some (.int x2), some (.int x3), some (.int x4), none, none, some (.int (1 + q28))]) (st' := [.int (M 107 x0.toNatClampNeg), .ref 105, .int (1 + q28)]) (t' := (jm_S0 L, M, J)) (fun _ _ => rfl) h31 ?_
                  obtain ⟨q32, h33, H⟩ := jm_bdo H
                  refine jm_go.call 7 (d := d + n) (b := true) (u := 55) (as := [.ref 105, .int (M 107 x0.toNatClampNeg), .int x1, .int x2, .int x3, .int (x4 + 1)]) (pc' := 125) (ls' := [some (.ref 105), some (.int x0), some (.int x1), some (.int x2), some (.int x3), some (.int x4), none, none, some (.int (1 + q28))]) (st' := [.int (1 + q28)]) (t' := (jm_S0 L, M, J)) (fun _ _ => rfl) rfl rfl (g55 L d n M J (M 107 x0.toNatClampNeg) x1 x2 x3 (x4 + 1) _ h33) ?_
                  cases H
                  exact jm_go.ret 4 (fun _ _ => rfl)
                · refine jm_go.brf 4 (b := decide (0 ≤ (x2 - (M 111 x0.toNatClampNeg)))) (p1 := 105) (l1 := [some (.ref 105), some (.int x0), some (.int x1), some (.int x2), some (.int x3), some (.int x4), some (.int (x2 - (M 111 x0.toNatClampNeg))), some (.int 0), some (.int (1 + q28))]) (s1 := []) (t1 := (jm_S0 L, M, J)) (p2 := 100) (l2 := [some (.ref 105), some (.int x0), some (.int x1), some (.int x2), some (.int x3), some (.int x4), some (.int (x2 - (M 111 x0.toNatClampNeg))), some (.int 0), some (.int (1 + q28))]) (s2 := []) (t2 := (jm_S0 L, M, J)) (fun _ _ => rfl) h30 ?_
                  rcases jm_bro H with ⟨h34, H⟩ | ⟨h34, H⟩
                  · refine jm_go.brt 2 (b := decide (0 = 0)) (p1 := 128) (l1 := [some (.ref 105), some (.int x0), some (.int x1), some (.int x2), some (.int x3), some (.int x4), some (.int (x2 - (M 111 x0.toNatClampNeg))), some (.int 0), some (.int (1 + q28))]) (s1 := []) (t1 := (jm_S0 L, M, J)) (p2 := 105) (l2 := [some (.ref 105), some (.int x0), some (.int x1), some (.int x2), some (.int x3), some (.int x4), some (.int (x2 - (M 111 x0.toNatClampNeg))), some (.int 0), some (.int (1 + q28))]) (s2 := []) (t2 := (jm_S0 L, M, J)) (fun _ _ => rfl) h34 ?_
                    cases H
                    exact jm_go.ret 2 (fun _ _ => rfl)
                  · refine jm_go.brf 2 (b := decide (0 = 0)) (p1 := 128) (l1 := [some (.ref 105), some (.int x0), some (.int x1), some (.int x2), some (.int x3), some (.int x4), some (.int (x2 - (M 111 x0.toNatClampNeg))), some (.int 0), some (.int (1 + q28))]) (s1 := []) (t1 := (jm_S0 L, M, J)) (p2 := 105) (l2 := [some (.ref 105), some (.int x0), some (.int x1), some (.int x2), some (.int x3), some (.int x4), some (.int (x2 - (M 111 x0.toNatClampNeg))), some (.int 0), some (.int (1 + q28))]) (s2 := []) (t2 := (jm_S0 L, M, J)) (fun _ _ => rfl) h34 ?_
                    obtain ⟨h35, H⟩ := jm_gdo H
                    refine jm_go.grd 6 (b := jm_inb x0 24) (pc' := 114) (ls' := [some (.ref 105), some (.int x0), some (.int x1), some (.int x2), some (.int x3), some (.int x4), none, none, some (.int (1 + q28))]) (st' := [.int (M 107 x0.toNatClampNeg), .ref 105, .int (1 + q28)]) (t' := (jm_S0 L, M, J)) (fun _ _ => rfl) h35 ?_
                    obtain ⟨q36, h37, H⟩ := jm_bdo H
                    refine jm_go.call 7 (d := d + n) (b := true) (u := 55) (as := [.ref 105, .int (M 107 x0.toNatClampNeg), .int x1, .int x2, .int x3, .int (x4 + 1)]) (pc' := 125) (ls' := [some (.ref 105), some (.int x0), some (.int x1), some (.int x2), some (.int x3), some (.int x4), none, none, some (.int (1 + q28))]) (st' := [.int (1 + q28)]) (t' := (jm_S0 L, M, J)) (fun _ _ => rfl) rfl rfl (g55 L d n M J (M 107 x0.toNatClampNeg) x1 x2 x3 (x4 + 1) _ h37) ?_
                    cases H
                    exact jm_go.ret 4 (fun _ _ => rfl)
          · refine jm_go.brf 7 (b := decide (x3 < ((x2 - (M 111 x0.toNatClampNeg)) * (x2 - (M 111 x0.toNatClampNeg))))) (p1 := 56) (l1 := [some (.ref 105), some (.int x0), some (.int x1), some (.int x2), some (.int x3), some (.int x4), some (.int (x2 - (M 111 x0.toNatClampNeg))), none, none]) (s1 := []) (t1 := (jm_S0 L, M, J)) (p2 := 52) (l2 := [some (.ref 105), some (.int x0), some (.int x1), some (.int x2), some (.int x3), some (.int x4), some (.int (x2 - (M 111 x0.toNatClampNeg))), none, none]) (s2 := []) (t2 := (jm_S0 L, M, J)) (fun _ _ => rfl) h5 ?_
            rcases jm_bro H with ⟨h38, H⟩ | ⟨h38, H⟩
            · refine jm_go.brt 7 (b := decide ((x2 - (M 111 x0.toNatClampNeg)) ≤ 0)) (p1 := 72) (l1 := [some (.ref 105), some (.int x0), some (.int x1), some (.int x2), some (.int x3), some (.int x4), some (.int (x2 - (M 111 x0.toNatClampNeg))), some (.int 1), some (.int 1)]) (s1 := []) (t1 := (jm_S0 L, M, J)) (p2 := 67) (l2 := [some (.ref 105), some (.int x0), some (.int x1), some (.int x2), some (.int x3), some (.int x4), some (.int (x2 - (M 111 x0.toNatClampNeg))), some (.int 1), some (.int 1)]) (s2 := []) (t2 := (jm_S0 L, M, J)) (fun _ _ => rfl) h38 ?_
              obtain ⟨h39, H⟩ := jm_gdo H
              refine jm_go.grd 6 (b := jm_inb x0 24) (pc' := 81) (ls' := [some (.ref 105), some (.int x0), some (.int x1), some (.int x2), some (.int x3), some (.int x4), some (.int (x2 - (M 111 x0.toNatClampNeg))), some (.int 1), some (.int 1)]) (st' := [.int (M 106 x0.toNatClampNeg), .ref 105, .int 1]) (t' := (jm_S0 L, M, J)) (fun _ _ => rfl) h39 ?_
              obtain ⟨q40, h41, H⟩ := jm_bdo H
              refine jm_go.call 7 (d := d + n) (b := true) (u := 55) (as := [.ref 105, .int (M 106 x0.toNatClampNeg), .int x1, .int x2, .int x3, .int (x4 + 1)]) (pc' := 92) (ls' := [some (.ref 105), some (.int x0), some (.int x1), some (.int x2), some (.int x3), some (.int x4), some (.int (x2 - (M 111 x0.toNatClampNeg))), some (.int 1), some (.int 1)]) (st' := [.int 1]) (t' := (jm_S0 L, M, J)) (fun _ _ => rfl) rfl rfl (g55 L d n M J (M 106 x0.toNatClampNeg) x1 x2 x3 (x4 + 1) _ h41) ?_
              rcases jm_bro H with ⟨h42, H⟩ | ⟨h42, H⟩
              · refine jm_go.brt 4 (b := decide (0 ≤ (x2 - (M 111 x0.toNatClampNeg)))) (p1 := 105) (l1 := [some (.ref 105), some (.int x0), some (.int x1), some (.int x2), some (.int x3), some (.int x4), some (.int (x2 - (M 111 x0.toNatClampNeg))), some (.int 1), some (.int (1 + q40))]) (s1 := []) (t1 := (jm_S0 L, M, J)) (p2 := 100) (l2 := [some (.ref 105), some (.int x0), some (.int x1), some (.int x2), some (.int x3), some (.int x4), some (.int (x2 - (M 111 x0.toNatClampNeg))), some (.int 1), some (.int (1 + q40))]) (s2 := []) (t2 := (jm_S0 L, M, J)) (fun _ _ => rfl) h42 ?_
                obtain ⟨h43, H⟩ := jm_gdo H
                refine jm_go.grd 6 (b := jm_inb x0 24) (pc' := 114) (ls' := [some (.ref 105), some (.int x0), some (.int x1), some (.int x2), some (.int x3), some (.int x4), none, none, some (.int (1 + q40))]) (st' := [.int (M 107 x0.toNatClampNeg), .ref 105, .int (1 + q40)]) (t' := (jm_S0 L, M, J)) (fun _ _ => rfl) h43 ?_
                obtain ⟨q44, h45, H⟩ := jm_bdo H
                refine jm_go.call 7 (d := d + n) (b := true) (u := 55) (as := [.ref 105, .int (M 107 x0.toNatClampNeg), .int x1, .int x2, .int x3, .int (x4 + 1)]) (pc' := 125) (ls' := [some (.ref 105), some (.int x0), some (.int x1), some (.int x2), some (.int x3), some (.int x4), none, none, some (.int (1 + q40))]) (st' := [.int (1 + q40)]) (t' := (jm_S0 L, M, J)) (fun _ _ => rfl) rfl rfl (g55 L d n M J (M 107 x0.toNatClampNeg) x1 x2 x3 (x4 + 1) _ h45) ?_
                cases H
                exact jm_go.ret 4 (fun _ _ => rfl)
              · refine jm_go.brf 4 (b := decide (0 ≤ (x2 - (M 111 x0.toNatClampNeg)))) (p1 := 105) (l1 := [some (.ref 105), some (.int x0), some (.int x1), some (.int x2), some (.int x3), some (.int x4), some (.int (x2 - (M 111 x0.toNatClampNeg))), some (.int 1), some (.int (1 + q40))]) (s1 := []) (t1 := (jm_S0 L, M, J)) (p2 := 100) (l2 := [some (.ref 105), some (.int x0), some (.int x1), some (.int x2), some (.int x3), some (.int x4), some (.int (x2 - (M 111 x0.toNatClampNeg))), some (.int 1), some (.int (1 + q40))]) (s2 := []) (t2 := (jm_S0 L, M, J)) (fun _ _ => rfl) h42 ?_
                rcases jm_bro H with ⟨h46, H⟩ | ⟨h46, H⟩
                · refine jm_go.brt 2 (b := decide (1 = 0)) (p1 := 128) (l1 := [some (.ref 105), some (.int x0), some (.int x1), some (.int x2), some (.int x3), some (.int x4), some (.int (x2 - (M 111 x0.toNatClampNeg))), some (.int 1), some (.int (1 + q40))]) (s1 := []) (t1 := (jm_S0 L, M, J)) (p2 := 105) (l2 := [some (.ref 105), some (.int x0), some (.int x1), some (.int x2), some (.int x3), some (.int x4), some (.int (x2 - (M 111 x0.toNatClampNeg))), some (.int 1), some (.int (1 + q40))]) (s2 := []) (t2 := (jm_S0 L, M, J)) (fun _ _ => rfl) h46 ?_
                  cases H
                  exact jm_go.ret 2 (fun _ _ => rfl)
                · refine jm_go.brf 2 (b := decide (1 = 0)) (p1 := 128) (l1 := [some (.ref 105), some (.int x0), some (.int x1), some (.int x2), some (.int x3), some (.int x4), some (.int (x2 - (M 111 x0.toNatClampNeg))), some (.int 1), some (.int (1 + q40))]) (s1 := []) (t1 := (jm_S0 L, M, J)) (p2 := 105) (l2 := [some (.ref 105), some (.int x0), some (.int x1), some (.int x2), some (.int x3), some (.int x4), some (.int (x2 - (M 111 x0.toNatClampNeg))), some (.int 1), some (.int (1 + q40))]) (s2 := []) (t2 := (jm_S0 L, M, J)) (fun _ _ => rfl) h46 ?_
                  obtain ⟨h47, H⟩ := jm_gdo H
                  refine jm_go.grd 6 (b := jm_inb x0 24) (pc' := 114) (ls' := [some (.ref 105), some (.int x0), some (.int x1), some (.int x2), some (.int x3), some (.int x4), none, none, some (.int (1 + q40))]) (st' := [.int (M 107 x0.toNatClampNeg), .ref 105, .int (1 + q40)]) (t' := (jm_S0 L, M, J)) (fun _ _ => rfl) h47 ?_
                  obtain ⟨q48, h49, H⟩ := jm_bdo H
                  refine jm_go.call 7 (d := d + n) (b := true) (u := 55) (as := [.ref 105, .int (M 107 x0.toNatClampNeg), .int x1, .int x2, .int x3, .int (x4 + 1)]) (pc' := 125) (ls' := [some (.ref 105), some (.int x0), some (.int x1), some (.int x2), some (.int x3), some (.int x4), none, none, some (.int (1 + q40))]) (st' := [.int (1 + q40)]) (t' := (jm_S0 L, M, J)) (fun _ _ => rfl) rfl rfl (g55 L d n M J (M 107 x0.toNatClampNeg) x1 x2 x3 (x4 + 1) _ h49) ?_
                  cases H
                  exact jm_go.ret 4 (fun _ _ => rfl)
            · refine jm_go.brf 7 (b := decide ((x2 - (M 111 x0.toNatClampNeg)) ≤ 0)) (p1 := 72) (l1 := [some (.ref 105), some (.int x0), some (.int x1), some (.int x2), some (.int x3), some (.int x4), some (.int (x2 - (M 111 x0.toNatClampNeg))), some (.int 1), some (.int 1)]) (s1 := []) (t1 := (jm_S0 L, M, J)) (p2 := 67) (l2 := [some (.ref 105), some (.int x0), some (.int x1), some (.int x2), some (.int x3), some (.int x4), some (.int (x2 - (M 111 x0.toNatClampNeg))), some (.int 1), some (.int 1)]) (s2 := []) (t2 := (jm_S0 L, M, J)) (fun _ _ => rfl) h38 ?_
              rcases jm_bro H with ⟨h50, H⟩ | ⟨h50, H⟩
              · refine jm_go.brt 2 (b := decide (1 = 0)) (p1 := 95) (l1 := [some (.ref 105), some (.int x0), some (.int x1), some (.int x2), some (.int x3), some (.int x4), some (.int (x2 - (M 111 x0.toNatClampNeg))), some (.int 1), some (.int 1)]) (s1 := []) (t1 := (jm_S0 L, M, J)) (p2 := 72) (l2 := [some (.ref 105), some (.int x0), some (.int x1), some (.int x2), some (.int x3), some (.int x4), some (.int (x2 - (M 111 x0.toNatClampNeg))), some (.int 1), some (.int 1)]) (s2 := []) (t2 := (jm_S0 L, M, J)) (fun _ _ => rfl) h50 ?_
                rcases jm_bro H with ⟨h51, H⟩ | ⟨h51, H⟩
                · refine jm_go.brt 2 (b := decide (0 ≤ (x2 - (M 111 x0.toNatClampNeg)))) (p1 := 105) (l1 := [some (.ref 105), some (.int x0), some (.int x1), some (.int x2), some (.int x3), some (.int x4), some (.int (x2 - (M 111 x0.toNatClampNeg))), some (.int 1), some (.int 1)]) (s1 := []) (t1 := (jm_S0 L, M, J)) (p2 := 100) (l2 := [some (.ref 105), some (.int x0), some (.int x1), some (.int x2), some (.int x3), some (.int x4), some (.int (x2 - (M 111 x0.toNatClampNeg))), some (.int 1), some (.int 1)]) (s2 := []) (t2 := (jm_S0 L, M, J)) (fun _ _ => rfl) h51 ?_
                  obtain ⟨h52, H⟩ := jm_gdo H
                  refine jm_go.grd 6 (b := jm_inb x0 24) (pc' := 114) (ls' := [some (.ref 105), some (.int x0), some (.int x1), some (.int x2), some (.int x3), some (.int x4), none, none, some (.int 1)]) (st' := [.int (M 107 x0.toNatClampNeg), .ref 105, .int 1]) (t' := (jm_S0 L, M, J)) (fun _ _ => rfl) h52 ?_
                  obtain ⟨q53, h54, H⟩ := jm_bdo H
                  refine jm_go.call 7 (d := d + n) (b := true) (u := 55) (as := [.ref 105, .int (M 107 x0.toNatClampNeg), .int x1, .int x2, .int x3, .int (x4 + 1)]) (pc' := 125) (ls' := [some (.ref 105), some (.int x0), some (.int x1), some (.int x2), some (.int x3), some (.int x4), none, none, some (.int 1)]) (st' := [.int 1]) (t' := (jm_S0 L, M, J)) (fun _ _ => rfl) rfl rfl (g55 L d n M J (M 107 x0.toNatClampNeg) x1 x2 x3 (x4 + 1) _ h54) ?_
                  cases H
                  exact jm_go.ret 4 (fun _ _ => rfl)
                · refine jm_go.brf 2 (b := decide (0 ≤ (x2 - (M 111 x0.toNatClampNeg)))) (p1 := 105) (l1 := [some (.ref 105), some (.int x0), some (.int x1), some (.int x2), some (.int x3), some (.int x4), some (.int (x2 - (M 111 x0.toNatClampNeg))), some (.int 1), some (.int 1)]) (s1 := []) (t1 := (jm_S0 L, M, J)) (p2 := 100) (l2 := [some (.ref 105), some (.int x0), some (.int x1), some (.int x2), some (.int x3), some (.int x4), some (.int (x2 - (M 111 x0.toNatClampNeg))), some (.int 1), some (.int 1)]) (s2 := []) (t2 := (jm_S0 L, M, J)) (fun _ _ => rfl) h51 ?_
                  rcases jm_bro H with ⟨h55, H⟩ | ⟨h55, H⟩
                  · refine jm_go.brt 2 (b := decide (1 = 0)) (p1 := 128) (l1 := [some (.ref 105), some (.int x0), some (.int x1), some (.int x2), some (.int x3), some (.int x4), some (.int (x2 - (M 111 x0.toNatClampNeg))), some (.int 1), some (.int 1)]) (s1 := []) (t1 := (jm_S0 L, M, J)) (p2 := 105) (l2 := [some (.ref 105), some (.int x0), some (.int x1), some (.int x2), some (.int x3), some (.int x4), some (.int (x2 - (M 111 x0.toNatClampNeg))), some (.int 1), some (.int 1)]) (s2 := []) (t2 := (jm_S0 L, M, J)) (fun _ _ => rfl) h55 ?_
                    cases H
                    exact jm_go.ret 2 (fun _ _ => rfl)
                  · refine jm_go.brf 2 (b := decide (1 = 0)) (p1 := 128) (l1 := [some (.ref 105), some (.int x0), some (.int x1), some (.int x2), some (.int x3), some (.int x4), some (.int (x2 - (M 111 x0.toNatClampNeg))), some (.int 1), some (.int 1)]) (s1 := []) (t1 := (jm_S0 L, M, J)) (p2 := 105) (l2 := [some (.ref 105), some (.int x0), some (.int x1), some (.int x2), some (.int x3), some (.int x4), some (.int (x2 - (M 111 x0.toNatClampNeg))), some (.int 1), some (.int 1)]) (s2 := []) (t2 := (jm_S0 L, M, J)) (fun _ _ => rfl) h55 ?_
                    obtain ⟨h56, H⟩ := jm_gdo H
                    refine jm_go.grd 6 (b := jm_inb x0 24) (pc' := 114) (ls' := [some (.ref 105), some (.int x0), some (.int x1), some (.int x2), some (.int x3), some (.int x4), none, none, some (.int 1)]) (st' := [.int (M 107 x0.toNatClampNeg), .ref 105, .int 1]) (t' := (jm_S0 L, M, J)) (fun _ _ => rfl) h56 ?_
                    obtain ⟨q57, h58, H⟩ := jm_bdo H
                    refine jm_go.call 7 (d := d + n) (b := true) (u := 55) (as := [.ref 105, .int (M 107 x0.toNatClampNeg), .int x1, .int x2, .int x3, .int (x4 + 1)]) (pc' := 125) (ls' := [some (.ref 105), some (.int x0), some (.int x1), some (.int x2), some (.int x3), some (.int x4), none, none, some (.int 1)]) (st' := [.int 1]) (t' := (jm_S0 L, M, J)) (fun _ _ => rfl) rfl rfl (g55 L d n M J (M 107 x0.toNatClampNeg) x1 x2 x3 (x4 + 1) _ h58) ?_
                    cases H
                    exact jm_go.ret 4 (fun _ _ => rfl)
              · refine jm_go.brf 2 (b := decide (1 = 0)) (p1 := 95) (l1 := [some (.ref 105), some (.int x0), some (.int x1), some (.int x2), some (.int x3), some (.int x4), some (.int (x2 - (M 111 x0.toNatClampNeg))), some (.int 1), some (.int 1)]) (s1 := []) (t1 := (jm_S0 L, M, J)) (p2 := 72) (l2 := [some (.ref 105), some (.int x0), some (.int x1), some (.int x2), some (.int x3), some (.int x4), some (.int (x2 - (M 111 x0.toNatClampNeg))), some (.int 1), some (.int 1)]) (s2 := []) (t2 := (jm_S0 L, M, J)) (fun _ _ => rfl) h50 ?_
                obtain ⟨h59, H⟩ := jm_gdo H
                refine jm_go.grd 6 (b := jm_inb x0 24) (pc' := 81) (ls' := [some (.ref 105), some (.int x0), some (.int x1), some (.int x2), some (.int x3), some (.int x4), some (.int (x2 - (M 111 x0.toNatClampNeg))), some (.int 1), some (.int 1)]) (st' := [.int (M 106 x0.toNatClampNeg), .ref 105, .int 1]) (t' := (jm_S0 L, M, J)) (fun _ _ => rfl) h59 ?_
                obtain ⟨q60, h61, H⟩ := jm_bdo H
                refine jm_go.call 7 (d := d + n) (b := true) (u := 55) (as := [.ref 105, .int (M 106 x0.toNatClampNeg), .int x1, .int x2, .int x3, .int (x4 + 1)]) (pc' := 92) (ls' := [some (.ref 105), some (.int x0), some (.int x1), some (.int x2), some (.int x3), some (.int x4), some (.int (x2 - (M 111 x0.toNatClampNeg))), some (.int 1), some (.int 1)]) (st' := [.int 1]) (t' := (jm_S0 L, M, J)) (fun _ _ => rfl) rfl rfl (g55 L d n M J (M 106 x0.toNatClampNeg) x1 x2 x3 (x4 + 1) _ h61) ?_
                rcases jm_bro H with ⟨h62, H⟩ | ⟨h62, H⟩
                · refine jm_go.brt 4 (b := decide (0 ≤ (x2 - (M 111 x0.toNatClampNeg)))) (p1 := 105) (l1 := [some (.ref 105), some (.int x0), some (.int x1), some (.int x2), some (.int x3), some (.int x4), some (.int (x2 - (M 111 x0.toNatClampNeg))), some (.int 1), some (.int (1 + q60))]) (s1 := []) (t1 := (jm_S0 L, M, J)) (p2 := 100) (l2 := [some (.ref 105), some (.int x0), some (.int x1), some (.int x2), some (.int x3), some (.int x4), some (.int (x2 - (M 111 x0.toNatClampNeg))), some (.int 1), some (.int (1 + q60))]) (s2 := []) (t2 := (jm_S0 L, M, J)) (fun _ _ => rfl) h62 ?_
                  obtain ⟨h63, H⟩ := jm_gdo H
                  refine jm_go.grd 6 (b := jm_inb x0 24) (pc' := 114) (ls' := [some (.ref 105), some (.int x0), some (.int x1), some (.int x2), some (.int x3), some (.int x4), none, none, some (.int (1 + q60))]) (st' := [.int (M 107 x0.toNatClampNeg), .ref 105, .int (1 + q60)]) (t' := (jm_S0 L, M, J)) (fun _ _ => rfl) h63 ?_
                  obtain ⟨q64, h65, H⟩ := jm_bdo H
                  refine jm_go.call 7 (d := d + n) (b := true) (u := 55) (as := [.ref 105, .int (M 107 x0.toNatClampNeg), .int x1, .int x2, .int x3, .int (x4 + 1)]) (pc' := 125) (ls' := [some (.ref 105), some (.int x0), some (.int x1), some (.int x2), some (.int x3), some (.int x4), none, none, some (.int (1 + q60))]) (st' := [.int (1 + q60)]) (t' := (jm_S0 L, M, J)) (fun _ _ => rfl) rfl rfl (g55 L d n M J (M 107 x0.toNatClampNeg) x1 x2 x3 (x4 + 1) _ h65) ?_
                  cases H
                  exact jm_go.ret 4 (fun _ _ => rfl)
                · refine jm_go.brf 4 (b := decide (0 ≤ (x2 - (M 111 x0.toNatClampNeg)))) (p1 := 105) (l1 := [some (.ref 105), some (.int x0), some (.int x1), some (.int x2), some (.int x3), some (.int x4), some (.int (x2 - (M 111 x0.toNatClampNeg))), some (.int 1), some (.int (1 + q60))]) (s1 := []) (t1 := (jm_S0 L, M, J)) (p2 := 100) (l2 := [some (.ref 105), some (.int x0), some (.int x1), some (.int x2), some (.int x3), some (.int x4), some (.int (x2 - (M 111 x0.toNatClampNeg))), some (.int 1), some (.int (1 + q60))]) (s2 := []) (t2 := (jm_S0 L, M, J)) (fun _ _ => rfl) h62 ?_
                  rcases jm_bro H with ⟨h66, H⟩ | ⟨h66, H⟩
                  · refine jm_go.brt 2 (b := decide (1 = 0)) (p1 := 128) (l1 := [some (.ref 105), some (.int x0), some (.int x1), some (.int x2), some (.int x3), some (.int x4), some (.int (x2 - (M 111 x0.toNatClampNeg))), some (.int 1), some (.int (1 + q60))]) (s1 := []) (t1 := (jm_S0 L, M, J)) (p2 := 105) (l2 := [some (.ref 105), some (.int x0), some (.int x1), some (.int x2), some (.int x3), some (.int x4), some (.int (x2 - (M 111 x0.toNatClampNeg))), some (.int 1), some (.int (1 + q60))]) (s2 := []) (t2 := (jm_S0 L, M, J)) (fun _ _ => rfl) h66 ?_
                    cases H
                    exact jm_go.ret 2 (fun _ _ => rfl)
                  · refine jm_go.brf 2 (b := decide (1 = 0)) (p1 := 128) (l1 := [some (.ref 105), some (.int x0), some (.int x1), some (.int x2), some (.int x3), some (.int x4), some (.int (x2 - (M 111 x0.toNatClampNeg))), some (.int 1), some (.int (1 + q60))]) (s1 := []) (t1 := (jm_S0 L, M, J)) (p2 := 105) (l2 := [some (.ref 105), some (.int x0), some (.int x1), some (.int x2), some (.int x3), some (.int x4), some (.int (x2 - (M 111 x0.toNatClampNeg))), some (.int 1), some (.int (1 + q60))]) (s2 := []) (t2 := (jm_S0 L, M, J)) (fun _ _ => rfl) h66 ?_
                    obtain ⟨h67, H⟩ := jm_gdo H
                    refine jm_go.grd 6 (b := jm_inb x0 24) (pc' := 114) (ls' := [some (.ref 105), some (.int x0), some (.int x1), some (.int x2), some (.int x3), some (.int x4), none, none, some (.int (1 + q60))]) (st' := [.int (M 107 x0.toNatClampNeg), .ref 105, .int (1 + q60)]) (t' := (jm_S0 L, M, J)) (fun _ _ => rfl) h67 ?_
                    obtain ⟨q68, h69, H⟩ := jm_bdo H
                    refine jm_go.call 7 (d := d + n) (b := true) (u := 55) (as := [.ref 105, .int (M 107 x0.toNatClampNeg), .int x1, .int x2, .int x3, .int (x4 + 1)]) (pc' := 125) (ls' := [some (.ref 105), some (.int x0), some (.int x1), some (.int x2), some (.int x3), some (.int x4), none, none, some (.int (1 + q60))]) (st' := [.int (1 + q60)]) (t' := (jm_S0 L, M, J)) (fun _ _ => rfl) rfl rfl (g55 L d n M J (M 107 x0.toNatClampNeg) x1 x2 x3 (x4 + 1) _ h69) ?_
                    cases H
                    exact jm_go.ret 4 (fun _ _ => rfl)
        · refine jm_go.brf 4 (b := !decide ((x4 - x4 / 2 * 2) = 0)) (p1 := 32) (l1 := [some (.ref 105), some (.int x0), some (.int x1), some (.int x2), some (.int x3), some (.int x4), none, none, none]) (s1 := []) (t1 := (jm_S0 L, M, J)) (p2 := 21) (l2 := [some (.ref 105), some (.int x0), some (.int x1), some (.int x2), some (.int x3), some (.int x4), none, none, none]) (s2 := []) (t2 := (jm_S0 L, M, J)) (fun _ _ => rfl) h3 ?_
          obtain ⟨h70, H⟩ := jm_gdo H
          refine jm_go.grd 5 (b := jm_inb x0 24) (pc' := 28) (ls' := [some (.ref 105), some (.int x0), some (.int x1), some (.int x2), some (.int x3), some (.int x4), none, none, none]) (st' := [.int (M 110 x0.toNatClampNeg), .int x1]) (t' := (jm_S0 L, M, J)) (fun _ _ => rfl) h70 ?_
          rcases jm_bro H with ⟨h71, H⟩ | ⟨h71, H⟩
          · refine jm_go.brt 8 (b := decide (x3 < ((x1 - (M 110 x0.toNatClampNeg)) * (x1 - (M 110 x0.toNatClampNeg))))) (p1 := 56) (l1 := [some (.ref 105), some (.int x0), some (.int x1), some (.int x2), some (.int x3), some (.int x4), some (.int (x1 - (M 110 x0.toNatClampNeg))), none, none]) (s1 := []) (t1 := (jm_S0 L, M, J)) (p2 := 52) (l2 := [some (.ref 105), some (.int x0), some (.int x1), some (.int x2), some (.int x3), some (.int x4), some (.int (x1 - (M 110 x0.toNatClampNeg))), none, none]) (s2 := []) (t2 := (jm_S0 L, M, J)) (fun _ _ => rfl) h71 ?_
            rcases jm_bro H with ⟨h72, H⟩ | ⟨h72, H⟩
            · refine jm_go.brt 6 (b := decide ((x1 - (M 110 x0.toNatClampNeg)) ≤ 0)) (p1 := 72) (l1 := [some (.ref 105), some (.int x0), some (.int x1), some (.int x2), some (.int x3), some (.int x4), some (.int (x1 - (M 110 x0.toNatClampNeg))), some (.int 0), some (.int 1)]) (s1 := []) (t1 := (jm_S0 L, M, J)) (p2 := 67) (l2 := [some (.ref 105), some (.int x0), some (.int x1), some (.int x2), some (.int x3), some (.int x4), some (.int (x1 - (M 110 x0.toNatClampNeg))), some (.int 0), some (.int 1)]) (s2 := []) (t2 := (jm_S0 L, M, J)) (fun _ _ => rfl) h72 ?_
              obtain ⟨h73, H⟩ := jm_gdo H
              refine jm_go.grd 6 (b := jm_inb x0 24) (pc' := 81) (ls' := [some (.ref 105), some (.int x0), some (.int x1), some (.int x2), some (.int x3), some (.int x4), some (.int (x1 - (M 110 x0.toNatClampNeg))), some (.int 0), some (.int 1)]) (st' := [.int (M 106 x0.toNatClampNeg), .ref 105, .int 1]) (t' := (jm_S0 L, M, J)) (fun _ _ => rfl) h73 ?_
              obtain ⟨q74, h75, H⟩ := jm_bdo H
              refine jm_go.call 7 (d := d + n) (b := true) (u := 55) (as := [.ref 105, .int (M 106 x0.toNatClampNeg), .int x1, .int x2, .int x3, .int (x4 + 1)]) (pc' := 92) (ls' := [some (.ref 105), some (.int x0), some (.int x1), some (.int x2), some (.int x3), some (.int x4), some (.int (x1 - (M 110 x0.toNatClampNeg))), some (.int 0), some (.int 1)]) (st' := [.int 1]) (t' := (jm_S0 L, M, J)) (fun _ _ => rfl) rfl rfl (g55 L d n M J (M 106 x0.toNatClampNeg) x1 x2 x3 (x4 + 1) _ h75) ?_
              rcases jm_bro H with ⟨h76, H⟩ | ⟨h76, H⟩
              · refine jm_go.brt 4 (b := decide (0 ≤ (x1 - (M 110 x0.toNatClampNeg)))) (p1 := 105) (l1 := [some (.ref 105), some (.int x0), some (.int x1), some (.int x2), some (.int x3), some (.int x4), some (.int (x1 - (M 110 x0.toNatClampNeg))), some (.int 0), some (.int (1 + q74))]) (s1 := []) (t1 := (jm_S0 L, M, J)) (p2 := 100) (l2 := [some (.ref 105), some (.int x0), some (.int x1), some (.int x2), some (.int x3), some (.int x4), some (.int (x1 - (M 110 x0.toNatClampNeg))), some (.int 0), some (.int (1 + q74))]) (s2 := []) (t2 := (jm_S0 L, M, J)) (fun _ _ => rfl) h76 ?_
                obtain ⟨h77, H⟩ := jm_gdo H
                refine jm_go.grd 6 (b := jm_inb x0 24) (pc' := 114) (ls' := [some (.ref 105), some (.int x0), some (.int x1), some (.int x2), some (.int x3), some (.int x4), none, none, some (.int (1 + q74))]) (st' := [.int (M 107 x0.toNatClampNeg), .ref 105, .int (1 + q74)]) (t' := (jm_S0 L, M, J)) (fun _ _ => rfl) h77 ?_
                obtain ⟨q78, h79, H⟩ := jm_bdo H
                refine jm_go.call 7 (d := d + n) (b := true) (u := 55) (as := [.ref 105, .int (M 107 x0.toNatClampNeg), .int x1, .int x2, .int x3, .int (x4 + 1)]) (pc' := 125) (ls' := [some (.ref 105), some (.int x0), some (.int x1), some (.int x2), some (.int x3), some (.int x4), none, none, some (.int (1 + q74))]) (st' := [.int (1 + q74)]) (t' := (jm_S0 L, M, J)) (fun _ _ => rfl) rfl rfl (g55 L d n M J (M 107 x0.toNatClampNeg) x1 x2 x3 (x4 + 1) _ h79) ?_
                cases H
                exact jm_go.ret 4 (fun _ _ => rfl)
              · refine jm_go.brf 4 (b := decide (0 ≤ (x1 - (M 110 x0.toNatClampNeg)))) (p1 := 105) (l1 := [some (.ref 105), some (.int x0), some (.int x1), some (.int x2), some (.int x3), some (.int x4), some (.int (x1 - (M 110 x0.toNatClampNeg))), some (.int 0), some (.int (1 + q74))]) (s1 := []) (t1 := (jm_S0 L, M, J)) (p2 := 100) (l2 := [some (.ref 105), some (.int x0), some (.int x1), some (.int x2), some (.int x3), some (.int x4), some (.int (x1 - (M 110 x0.toNatClampNeg))), some (.int 0), some (.int (1 + q74))]) (s2 := []) (t2 := (jm_S0 L, M, J)) (fun _ _ => rfl) h76 ?_
                rcases jm_bro H with ⟨h80, H⟩ | ⟨h80, H⟩
                · refine jm_go.brt 2 (b := decide (0 = 0)) (p1 := 128) (l1 := [some (.ref 105), some (.int x0), some (.int x1), some (.int x2), some (.int x3), some (.int x4), some (.int (x1 - (M 110 x0.toNatClampNeg))), some (.int 0), some (.int (1 + q74))]) (s1 := []) (t1 := (jm_S0 L, M, J)) (p2 := 105) (l2 := [some (.ref 105), some (.int x0), some (.int x1), some (.int x2), some (.int x3), some (.int x4), some (.int (x1 - (M 110 x0.toNatClampNeg))), some (.int 0), some (.int (1 + q74))]) (s2 := []) (t2 := (jm_S0 L, M, J)) (fun _ _ => rfl) h80 ?_
                  cases H
                  exact jm_go.ret 2 (fun _ _ => rfl)
                · refine jm_go.brf 2 (b := decide (0 = 0)) (p1 := 128) (l1 := [some (.ref 105), some (.int x0), some (.int x1), some (.int x2), some (.int x3), some (.int x4), some (.int (x1 - (M 110 x0.toNatClampNeg))), some (.int 0), some (.int (1 + q74))]) (s1 := []) (t1 := (jm_S0 L, M, J)) (p2 := 105) (l2 := [some (.ref 105), some (.int x0), some (.int x1), some (.int x2), some (.int x3), some (.int x4), some (.int (x1 - (M 110 x0.toNatClampNeg))), some (.int 0), some (.int (1 + q74))]) (s2 := []) (t2 := (jm_S0 L, M, J)) (fun _ _ => rfl) h80 ?_
                  obtain ⟨h81, H⟩ := jm_gdo H
                  refine jm_go.grd 6 (b := jm_inb x0 24) (pc' := 114) (ls' := [some (.ref 105), some (.int x0), some (.int x1), some (.int x2), some (.int x3), some (.int x4), none, none, some (.int (1 + q74))]) (st' := [.int (M 107 x0.toNatClampNeg), .ref 105, .int (1 + q74)]) (t' := (jm_S0 L, M, J)) (fun _ _ => rfl) h81 ?_
                  obtain ⟨q82, h83, H⟩ := jm_bdo H
                  refine jm_go.call 7 (d := d + n) (b := true) (u := 55) (as := [.ref 105, .int (M 107 x0.toNatClampNeg), .int x1, .int x2, .int x3, .int (x4 + 1)]) (pc' := 125) (ls' := [some (.ref 105), some (.int x0), some (.int x1), some (.int x2), some (.int x3), some (.int x4), none, none, some (.int (1 + q74))]) (st' := [.int (1 + q74)]) (t' := (jm_S0 L, M, J)) (fun _ _ => rfl) rfl rfl (g55 L d n M J (M 107 x0.toNatClampNeg) x1 x2 x3 (x4 + 1) _ h83) ?_
                  cases H
                  exact jm_go.ret 4 (fun _ _ => rfl)
            · refine jm_go.brf 6 (b := decide ((x1 - (M 110 x0.toNatClampNeg)) ≤ 0)) (p1 := 72) (l1 := [some (.ref 105), some (.int x0), some (.int x1), some (.int x2), some (.int x3), some (.int x4), some (.int (x1 - (M 110 x0.toNatClampNeg))), some (.int 0), some (.int 1)]) (s1 := []) (t1 := (jm_S0 L, M, J)) (p2 := 67) (l2 := [some (.ref 105), some (.int x0), some (.int x1), some (.int x2), some (.int x3), some (.int x4), some (.int (x1 - (M 110 x0.toNatClampNeg))), some (.int 0), some (.int 1)]) (s2 := []) (t2 := (jm_S0 L, M, J)) (fun _ _ => rfl) h72 ?_
              rcases jm_bro H with ⟨h84, H⟩ | ⟨h84, H⟩
              · refine jm_go.brt 2 (b := decide (0 = 0)) (p1 := 95) (l1 := [some (.ref 105), some (.int x0), some (.int x1), some (.int x2), some (.int x3), some (.int x4), some (.int (x1 - (M 110 x0.toNatClampNeg))), some (.int 0), some (.int 1)]) (s1 := []) (t1 := (jm_S0 L, M, J)) (p2 := 72) (l2 := [some (.ref 105), some (.int x0), some (.int x1), some (.int x2), some (.int x3), some (.int x4), some (.int (x1 - (M 110 x0.toNatClampNeg))), some (.int 0), some (.int 1)]) (s2 := []) (t2 := (jm_S0 L, M, J)) (fun _ _ => rfl) h84 ?_
                rcases jm_bro H with ⟨h85, H⟩ | ⟨h85, H⟩
                · refine jm_go.brt 2 (b := decide (0 ≤ (x1 - (M 110 x0.toNatClampNeg)))) (p1 := 105) (l1 := [some (.ref 105), some (.int x0), some (.int x1), some (.int x2), some (.int x3), some (.int x4), some (.int (x1 - (M 110 x0.toNatClampNeg))), some (.int 0), some (.int 1)]) (s1 := []) (t1 := (jm_S0 L, M, J)) (p2 := 100) (l2 := [some (.ref 105), some (.int x0), some (.int x1), some (.int x2), some (.int x3), some (.int x4), some (.int (x1 - (M 110 x0.toNatClampNeg))), some (.int 0), some (.int 1)]) (s2 := []) (t2 := (jm_S0 L, M, J)) (fun _ _ => rfl) h85 ?_
                  obtain ⟨h86, H⟩ := jm_gdo H
                  refine jm_go.grd 6 (b := jm_inb x0 24) (pc' := 114) (ls' := [some (.ref 105), some (.int x0), some (.int x1), some (.int x2), some (.int x3), some (.int x4), none, none, some (.int 1)]) (st' := [.int (M 107 x0.toNatClampNeg), .ref 105, .int 1]) (t' := (jm_S0 L, M, J)) (fun _ _ => rfl) h86 ?_
                  obtain ⟨q87, h88, H⟩ := jm_bdo H
                  refine jm_go.call 7 (d := d + n) (b := true) (u := 55) (as := [.ref 105, .int (M 107 x0.toNatClampNeg), .int x1, .int x2, .int x3, .int (x4 + 1)]) (pc' := 125) (ls' := [some (.ref 105), some (.int x0), some (.int x1), some (.int x2), some (.int x3), some (.int x4), none, none, some (.int 1)]) (st' := [.int 1]) (t' := (jm_S0 L, M, J)) (fun _ _ => rfl) rfl rfl (g55 L d n M J (M 107 x0.toNatClampNeg) x1 x2 x3 (x4 + 1) _ h88) ?_
                  cases H
                  exact jm_go.ret 4 (fun _ _ => rfl)
                · refine jm_go.brf 2 (b := decide (0 ≤ (x1 - (M 110 x0.toNatClampNeg)))) (p1 := 105) (l1 := [some (.ref 105), some (.int x0), some (.int x1), some (.int x2), some (.int x3), some (.int x4), some (.int (x1 - (M 110 x0.toNatClampNeg))), some (.int 0), some (.int 1)]) (s1 := []) (t1 := (jm_S0 L, M, J)) (p2 := 100) (l2 := [some (.ref 105), some (.int x0), some (.int x1), some (.int x2), some (.int x3), some (.int x4), some (.int (x1 - (M 110 x0.toNatClampNeg))), some (.int 0), some (.int 1)]) (s2 := []) (t2 := (jm_S0 L, M, J)) (fun _ _ => rfl) h85 ?_
                  rcases jm_bro H with ⟨h89, H⟩ | ⟨h89, H⟩
                  · refine jm_go.brt 2 (b := decide (0 = 0)) (p1 := 128) (l1 := [some (.ref 105), some (.int x0), some (.int x1), some (.int x2), some (.int x3), some (.int x4), some (.int (x1 - (M 110 x0.toNatClampNeg))), some (.int 0), some (.int 1)]) (s1 := []) (t1 := (jm_S0 L, M, J)) (p2 := 105) (l2 := [some (.ref 105), some (.int x0), some (.int x1), some (.int x2), some (.int x3), some (.int x4), some (.int (x1 - (M 110 x0.toNatClampNeg))), some (.int 0), some (.int 1)]) (s2 := []) (t2 := (jm_S0 L, M, J)) (fun _ _ => rfl) h89 ?_
                    cases H
                    exact jm_go.ret 2 (fun _ _ => rfl)
                  · refine jm_go.brf 2 (b := decide (0 = 0)) (p1 := 128) (l1 := [some (.ref 105), some (.int x0), some (.int x1), some (.int x2), some (.int x3), some (.int x4), some (.int (x1 - (M 110 x0.toNatClampNeg))), some (.int 0), some (.int 1)]) (s1 := []) (t1 := (jm_S0 L, M, J)) (p2 := 105) (l2 := [some (.ref 105), some (.int x0), some (.int x1), some (.int x2), some (.int x3), some (.int x4), some (.int (x1 - (M 110 x0.toNatClampNeg))), some (.int 0), some (.int 1)]) (s2 := []) (t2 := (jm_S0 L, M, J)) (fun _ _ => rfl) h89 ?_
                    obtain ⟨h90, H⟩ := jm_gdo H
                    refine jm_go.grd 6 (b := jm_inb x0 24) (pc' := 114) (ls' := [some (.ref 105), some (.int x0), some (.int x1), some (.int x2), some (.int x3), some (.int x4), none, none, some (.int 1)]) (st' := [.int (M 107 x0.toNatClampNeg), .ref 105, .int 1]) (t' := (jm_S0 L, M, J)) (fun _ _ => rfl) h90 ?_
                    obtain ⟨q91, h92, H⟩ := jm_bdo H
                    refine jm_go.call 7 (d := d + n) (b := true) (u := 55) (as := [.ref 105, .int (M 107 x0.toNatClampNeg), .int x1, .int x2, .int x3, .int (x4 + 1)]) (pc' := 125) (ls' := [some (.ref 105), some (.int x0), some (.int x1), some (.int x2), some (.int x3), some (.int x4), none, none, some (.int 1)]) (st' := [.int 1]) (t' := (jm_S0 L, M, J)) (fun _ _ => rfl) rfl rfl (g55 L d n M J (M 107 x0.toNatClampNeg) x1 x2 x3 (x4 + 1) _ h92) ?_
                    cases H
                    exact jm_go.ret 4 (fun _ _ => rfl)
              · refine jm_go.brf 2 (b := decide (0 = 0)) (p1 := 95) (l1 := [some (.ref 105), some (.int x0), some (.int x1), some (.int x2), some (.int x3), some (.int x4), some (.int (x1 - (M 110 x0.toNatClampNeg))), some (.int 0), some (.int 1)]) (s1 := []) (t1 := (jm_S0 L, M, J)) (p2 := 72) (l2 := [some (.ref 105), some (.int x0), some (.int x1), some (.int x2), some (.int x3), some (.int x4), some (.int (x1 - (M 110 x0.toNatClampNeg))), some (.int 0), some (.int 1)]) (s2 := []) (t2 := (jm_S0 L, M, J)) (fun _ _ => rfl) h84 ?_
                obtain ⟨h93, H⟩ := jm_gdo H
                refine jm_go.grd 6 (b := jm_inb x0 24) (pc' := 81) (ls' := [some (.ref 105), some (.int x0), some (.int x1), some (.int x2), some (.int x3), some (.int x4), some (.int (x1 - (M 110 x0.toNatClampNeg))), some (.int 0), some (.int 1)]) (st' := [.int (M 106 x0.toNatClampNeg), .ref 105, .int 1]) (t' := (jm_S0 L, M, J)) (fun _ _ => rfl) h93 ?_
                obtain ⟨q94, h95, H⟩ := jm_bdo H
                refine jm_go.call 7 (d := d + n) (b := true) (u := 55) (as := [.ref 105, .int (M 106 x0.toNatClampNeg), .int x1, .int x2, .int x3, .int (x4 + 1)]) (pc' := 92) (ls' := [some (.ref 105), some (.int x0), some (.int x1), some (.int x2), some (.int x3), some (.int x4), some (.int (x1 - (M 110 x0.toNatClampNeg))), some (.int 0), some (.int 1)]) (st' := [.int 1]) (t' := (jm_S0 L, M, J)) (fun _ _ => rfl) rfl rfl (g55 L d n M J (M 106 x0.toNatClampNeg) x1 x2 x3 (x4 + 1) _ h95) ?_
                rcases jm_bro H with ⟨h96, H⟩ | ⟨h96, H⟩
                · refine jm_go.brt 4 (b := decide (0 ≤ (x1 - (M 110 x0.toNatClampNeg)))) (p1 := 105) (l1 := [some (.ref 105), some (.int x0), some (.int x1), some (.int x2), some (.int x3), some (.int x4), some (.int (x1 - (M 110 x0.toNatClampNeg))), some (.int 0), some (.int (1 + q94))]) (s1 := []) (t1 := (jm_S0 L, M, J)) (p2 := 100) (l2 := [some (.ref 105), some (.int x0), some (.int x1), some (.int x2), some (.int x3), some (.int x4), some (.int (x1 - (M 110 x0.toNatClampNeg))), some (.int 0), some (.int (1 + q94))]) (s2 := []) (t2 := (jm_S0 L, M, J)) (fun _ _ => rfl) h96 ?_
                  obtain ⟨h97, H⟩ := jm_gdo H
                  refine jm_go.grd 6 (b := jm_inb x0 24) (pc' := 114) (ls' := [some (.ref 105), some (.int x0), some (.int x1), some (.int x2), some (.int x3), some (.int x4), none, none, some (.int (1 + q94))]) (st' := [.int (M 107 x0.toNatClampNeg), .ref 105, .int (1 + q94)]) (t' := (jm_S0 L, M, J)) (fun _ _ => rfl) h97 ?_
                  obtain ⟨q98, h99, H⟩ := jm_bdo H
                  refine jm_go.call 7 (d := d + n) (b := true) (u := 55) (as := [.ref 105, .int (M 107 x0.toNatClampNeg), .int x1, .int x2, .int x3, .int (x4 + 1)]) (pc' := 125) (ls' := [some (.ref 105), some (.int x0), some (.int x1), some (.int x2), some (.int x3), some (.int x4), none, none, some (.int (1 + q94))]) (st' := [.int (1 + q94)]) (t' := (jm_S0 L, M, J)) (fun _ _ => rfl) rfl rfl (g55 L d n M J (M 107 x0.toNatClampNeg) x1 x2 x3 (x4 + 1) _ h99) ?_
                  cases H
                  exact jm_go.ret 4 (fun _ _ => rfl)
                · refine jm_go.brf 4 (b := decide (0 ≤ (x1 - (M 110 x0.toNatClampNeg)))) (p1 := 105) (l1 := [some (.ref 105), some (.int x0), some (.int x1), some (.int x2), some (.int x3), some (.int x4), some (.int (x1 - (M 110 x0.toNatClampNeg))), some (.int 0), some (.int (1 + q94))]) (s1 := []) (t1 := (jm_S0 L, M, J)) (p2 := 100) (l2 := [some (.ref 105), some (.int x0), some (.int x1), some (.int x2), some (.int x3), some (.int x4), some (.int (x1 - (M 110 x0.toNatClampNeg))), some (.int 0), some (.int (1 + q94))]) (s2 := []) (t2 := (jm_S0 L, M, J)) (fun _ _ => rfl) h96 ?_
                  rcases jm_bro H with ⟨h100, H⟩ | ⟨h100, H⟩
                  · refine jm_go.brt 2 (b := decide (0 = 0)) (p1 := 128) (l1 := [some (.ref 105), some (.int x0), some (.int x1), some (.int x2), some (.int x3), some (.int x4), some (.int (x1 - (M 110 x0.toNatClampNeg))), some (.int 0), some (.int (1 + q94))]) (s1 := []) (t1 := (jm_S0 L, M, J)) (p2 := 105) (l2 := [some (.ref 105), some (.int x0), some (.int x1), some (.int x2), some (.int x3), some (.int x4), some (.int (x1 - (M 110 x0.toNatClampNeg))), some (.int 0), some (.int (1 + q94))]) (s2 := []) (t2 := (jm_S0 L, M, J)) (fun _ _ => rfl) h100 ?_
                    cases H
                    exact jm_go.ret 2 (fun _ _ => rfl)
                  · refine jm_go.brf 2 (b := decide (0 = 0)) (p1 := 128) (l1 := [some (.ref 105), some (.int x0), some (.int x1), some (.int x2), some (.int x3), some (.int x4), some (.int (x1 - (M 110 x0.toNatClampNeg))), some (.int 0), some (.int (1 + q94))]) (s1 := []) (t1 := (jm_S0 L, M, J)) (p2 := 105) (l2 := [some (.ref 105), some (.int x0), some (.int x1), some (.int x2), some (.int x3), some (.int x4), some (.int (x1 - (M 110 x0.toNatClampNeg))), some (.int 0), some (.int (1 + q94))]) (s2 := []) (t2 := (jm_S0 L, M, J)) (fun _ _ => rfl) h100 ?_
                    obtain ⟨h101, H⟩ := jm_gdo H
                    refine jm_go.grd 6 (b := jm_inb x0 24) (pc' := 114) (ls' := [some (.ref 105), some (.int x0), some (.int x1), some (.int x2), some (.int x3), some (.int x4), none, none, some (.int (1 + q94))]) (st' := [.int (M 107 x0.toNatClampNeg), .ref 105, .int (1 + q94)]) (t' := (jm_S0 L, M, J)) (fun _ _ => rfl) h101 ?_
                    obtain ⟨q102, h103, H⟩ := jm_bdo H
                    refine jm_go.call 7 (d := d + n) (b := true) (u := 55) (as := [.ref 105, .int (M 107 x0.toNatClampNeg), .int x1, .int x2, .int x3, .int (x4 + 1)]) (pc' := 125) (ls' := [some (.ref 105), some (.int x0), some (.int x1), some (.int x2), some (.int x3), some (.int x4), none, none, some (.int (1 + q94))]) (st' := [.int (1 + q94)]) (t' := (jm_S0 L, M, J)) (fun _ _ => rfl) rfl rfl (g55 L d n M J (M 107 x0.toNatClampNeg) x1 x2 x3 (x4 + 1) _ h103) ?_
                    cases H
                    exact jm_go.ret 4 (fun _ _ => rfl)
          · refine jm_go.brf 8 (b := decide (x3 < ((x1 - (M 110 x0.toNatClampNeg)) * (x1 - (M 110 x0.toNatClampNeg))))) (p1 := 56) (l1 := [some (.ref 105), some (.int x0), some (.int x1), some (.int x2), some (.int x3), some (.int x4), some (.int (x1 - (M 110 x0.toNatClampNeg))), none, none]) (s1 := []) (t1 := (jm_S0 L, M, J)) (p2 := 52) (l2 := [some (.ref 105), some (.int x0), some (.int x1), some (.int x2), some (.int x3), some (.int x4), some (.int (x1 - (M 110 x0.toNatClampNeg))), none, none]) (s2 := []) (t2 := (jm_S0 L, M, J)) (fun _ _ => rfl) h71 ?_
            rcases jm_bro H with ⟨h104, H⟩ | ⟨h104, H⟩
            · refine jm_go.brt 7 (b := decide ((x1 - (M 110 x0.toNatClampNeg)) ≤ 0)) (p1 := 72) (l1 := [some (.ref 105), some (.int x0), some (.int x1), some (.int x2), some (.int x3), some (.int x4), some (.int (x1 - (M 110 x0.toNatClampNeg))), some (.int 1), some (.int 1)]) (s1 := []) (t1 := (jm_S0 L, M, J)) (p2 := 67) (l2 := [some (.ref 105), some (.int x0), some (.int x1), some (.int x2), some (.int x3), some (.int x4), some (.int (x1 - (M 110 x0.toNatClampNeg))), some (.int 1), some (.int 1)]) (s2 := []) (t2 := (jm_S0 L, M, J)) (fun _ _ => rfl) h104 ?_
              obtain ⟨h105, H⟩ := jm_gdo H
              refine jm_go.grd 6 (b := jm_inb x0 24) (pc' := 81) (ls' := [some (.ref 105), some (.int x0), some (.int x1), some (.int x2), some (.int x3), some (.int x4), some (.int (x1 - (M 110 x0.toNatClampNeg))), some (.int 1), some (.int 1)]) (st' := [.int (M 106 x0.toNatClampNeg), .ref 105, .int 1]) (t' := (jm_S0 L, M, J)) (fun _ _ => rfl) h105 ?_
              obtain ⟨q106, h107, H⟩ := jm_bdo H
              refine jm_go.call 7 (d := d + n) (b := true) (u := 55) (as := [.ref 105, .int (M 106 x0.toNatClampNeg), .int x1, .int x2, .int x3, .int (x4 + 1)]) (pc' := 92) (ls' := [some (.ref 105), some (.int x0), some (.int x1), some (.int x2), some (.int x3), some (.int x4), some (.int (x1 - (M 110 x0.toNatClampNeg))), some (.int 1), some (.int 1)]) (st' := [.int 1]) (t' := (jm_S0 L, M, J)) (fun _ _ => rfl) rfl rfl (g55 L d n M J (M 106 x0.toNatClampNeg) x1 x2 x3 (x4 + 1) _ h107) ?_
              rcases jm_bro H with ⟨h108, H⟩ | ⟨h108, H⟩
              · refine jm_go.brt 4 (b := decide (0 ≤ (x1 - (M 110 x0.toNatClampNeg)))) (p1 := 105) (l1 := [some (.ref 105), some (.int x0), some (.int x1), some (.int x2), some (.int x3), some (.int x4), some (.int (x1 - (M 110 x0.toNatClampNeg))), some (.int 1), some (.int (1 + q106))]) (s1 := []) (t1 := (jm_S0 L, M, J)) (p2 := 100) (l2 := [some (.ref 105), some (.int x0), some (.int x1), some (.int x2), some (.int x3), some (.int x4), some (.int (x1 - (M 110 x0.toNatClampNeg))), some (.int 1), some (.int (1 + q106))]) (s2 := []) (t2 := (jm_S0 L, M, J)) (fun _ _ => rfl) h108 ?_
                obtain ⟨h109, H⟩ := jm_gdo H
                refine jm_go.grd 6 (b := jm_inb x0 24) (pc' := 114) (ls' := [some (.ref 105), some (.int x0), some (.int x1), some (.int x2), some (.int x3), some (.int x4), none, none, some (.int (1 + q106))]) (st' := [.int (M 107 x0.toNatClampNeg), .ref 105, .int (1 + q106)]) (t' := (jm_S0 L, M, J)) (fun _ _ => rfl) h109 ?_
                obtain ⟨q110, h111, H⟩ := jm_bdo H
                refine jm_go.call 7 (d := d + n) (b := true) (u := 55) (as := [.ref 105, .int (M 107 x0.toNatClampNeg), .int x1, .int x2, .int x3, .int (x4 + 1)]) (pc' := 125) (ls' := [some (.ref 105), some (.int x0), some (.int x1), some (.int x2), some (.int x3), some (.int x4), none, none, some (.int (1 + q106))]) (st' := [.int (1 + q106)]) (t' := (jm_S0 L, M, J)) (fun _ _ => rfl) rfl rfl (g55 L d n M J (M 107 x0.toNatClampNeg) x1 x2 x3 (x4 + 1) _ h111) ?_
                cases H
                exact jm_go.ret 4 (fun _ _ => rfl)
              · refine jm_go.brf 4 (b := decide (0 ≤ (x1 - (M 110 x0.toNatClampNeg)))) (p1 := 105) (l1 := [some (.ref 105), some (.int x0), some (.int x1), some (.int x2), some (.int x3), some (.int x4), some (.int (x1 - (M 110 x0.toNatClampNeg))), some (.int 1), some (.int (1 + q106))]) (s1 := []) (t1 := (jm_S0 L, M, J)) (p2 := 100) (l2 := [some (.ref 105), some (.int x0), some (.int x1), some (.int x2), some (.int x3), some (.int x4), some (.int (x1 - (M 110 x0.toNatClampNeg))), some (.int 1), some (.int (1 + q106))]) (s2 := []) (t2 := (jm_S0 L, M, J)) (fun _ _ => rfl) h108 ?_
                rcases jm_bro H with ⟨h112, H⟩ | ⟨h112, H⟩
                · refine jm_go.brt 2 (b := decide (1 = 0)) (p1 := 128) (l1 := [some (.ref 105), some (.int x0), some (.int x1), some (.int x2), some (.int x3), some (.int x4), some (.int (x1 - (M 110 x0.toNatClampNeg))), some (.int 1), some (.int (1 + q106))]) (s1 := []) (t1 := (jm_S0 L, M, J)) (p2 := 105) (l2 := [some (.ref 105), some (.int x0), some (.int x1), some (.int x2), some (.int x3), some (.int x4), some (.int (x1 - (M 110 x0.toNatClampNeg))), some (.int 1), some (.int (1 + q106))]) (s2 := []) (t2 := (jm_S0 L, M, J)) (fun _ _ => rfl) h112 ?_
                  cases H
                  exact jm_go.ret 2 (fun _ _ => rfl)
                · refine jm_go.brf 2 (b := decide (1 = 0)) (p1 := 128) (l1 := [some (.ref 105), some (.int x0), some (.int x1), some (.int x2), some (.int x3), some (.int x4), some (.int (x1 - (M 110 x0.toNatClampNeg))), some (.int 1), some (.int (1 + q106))]) (s1 := []) (t1 := (jm_S0 L, M, J)) (p2 := 105) (l2 := [some (.ref 105), some (.int x0), some (.int x1), some (.int x2), some (.int x3), some (.int x4), some (.int (x1 - (M 110 x0.toNatClampNeg))), some (.int 1), some (.int (1 + q106))]) (s2 := []) (t2 := (jm_S0 L, M, J)) (fun _ _ => rfl) h112 ?_
                  obtain ⟨h113, H⟩ := jm_gdo H
                  refine jm_go.grd 6 (b := jm_inb x0 24) (pc' := 114) (ls' := [some (.ref 105), some (.int x0), some (.int x1), some (.int x2), some (.int x3), some (.int x4), none, none, some (.int (1 + q106))]) (st' := [.int (M 107 x0.toNatClampNeg), .ref 105, .int (1 + q106)]) (t' := (jm_S0 L, M, J)) (fun _ _ => rfl) h113 ?_
                  obtain ⟨q114, h115, H⟩ := jm_bdo H
                  refine jm_go.call 7 (d := d + n) (b := true) (u := 55) (as := [.ref 105, .int (M 107 x0.toNatClampNeg), .int x1, .int x2, .int x3, .int (x4 + 1)]) (pc' := 125) (ls' := [some (.ref 105), some (.int x0), some (.int x1), some (.int x2), some (.int x3), some (.int x4), none, none, some (.int (1 + q106))]) (st' := [.int (1 + q106)]) (t' := (jm_S0 L, M, J)) (fun _ _ => rfl) rfl rfl (g55 L d n M J (M 107 x0.toNatClampNeg) x1 x2 x3 (x4 + 1) _ h115) ?_
                  cases H
                  exact jm_go.ret 4 (fun _ _ => rfl)
            · refine jm_go.brf 7 (b := decide ((x1 - (M 110 x0.toNatClampNeg)) ≤ 0)) (p1 := 72) (l1 := [some (.ref 105), some (.int x0), some (.int x1), some (.int x2), some (.int x3), some (.int x4), some (.int (x1 - (M 110 x0.toNatClampNeg))), some (.int 1), some (.int 1)]) (s1 := []) (t1 := (jm_S0 L, M, J)) (p2 := 67) (l2 := [some (.ref 105), some (.int x0), some (.int x1), some (.int x2), some (.int x3), some (.int x4), some (.int (x1 - (M 110 x0.toNatClampNeg))), some (.int 1), some (.int 1)]) (s2 := []) (t2 := (jm_S0 L, M, J)) (fun _ _ => rfl) h104 ?_
              rcases jm_bro H with ⟨h116, H⟩ | ⟨h116, H⟩
              · refine jm_go.brt 2 (b := decide (1 = 0)) (p1 := 95) (l1 := [some (.ref 105), some (.int x0), some (.int x1), some (.int x2), some (.int x3), some (.int x4), some (.int (x1 - (M 110 x0.toNatClampNeg))), some (.int 1), some (.int 1)]) (s1 := []) (t1 := (jm_S0 L, M, J)) (p2 := 72) (l2 := [some (.ref 105), some (.int x0), some (.int x1), some (.int x2), some (.int x3), some (.int x4), some (.int (x1 - (M 110 x0.toNatClampNeg))), some (.int 1), some (.int 1)]) (s2 := []) (t2 := (jm_S0 L, M, J)) (fun _ _ => rfl) h116 ?_
                rcases jm_bro H with ⟨h117, H⟩ | ⟨h117, H⟩
                · refine jm_go.brt 2 (b := decide (0 ≤ (x1 - (M 110 x0.toNatClampNeg)))) (p1 := 105) (l1 := [some (.ref 105), some (.int x0), some (.int x1), some (.int x2), some (.int x3), some (.int x4), some (.int (x1 - (M 110 x0.toNatClampNeg))), some (.int 1), some (.int 1)]) (s1 := []) (t1 := (jm_S0 L, M, J)) (p2 := 100) (l2 := [some (.ref 105), some (.int x0), some (.int x1), some (.int x2), some (.int x3), some (.int x4), some (.int (x1 - (M 110 x0.toNatClampNeg))), some (.int 1), some (.int 1)]) (s2 := []) (t2 := (jm_S0 L, M, J)) (fun _ _ => rfl) h117 ?_
                  obtain ⟨h118, H⟩ := jm_gdo H
                  refine jm_go.grd 6 (b := jm_inb x0 24) (pc' := 114) (ls' := [some (.ref 105), some (.int x0), some (.int x1), some (.int x2), some (.int x3), some (.int x4), none, none, some (.int 1)]) (st' := [.int (M 107 x0.toNatClampNeg), .ref 105, .int 1]) (t' := (jm_S0 L, M, J)) (fun _ _ => rfl) h118 ?_
                  obtain ⟨q119, h120, H⟩ := jm_bdo H
                  refine jm_go.call 7 (d := d + n) (b := true) (u := 55) (as := [.ref 105, .int (M 107 x0.toNatClampNeg), .int x1, .int x2, .int x3, .int (x4 + 1)]) (pc' := 125) (ls' := [some (.ref 105), some (.int x0), some (.int x1), some (.int x2), some (.int x3), some (.int x4), none, none, some (.int 1)]) (st' := [.int 1]) (t' := (jm_S0 L, M, J)) (fun _ _ => rfl) rfl rfl (g55 L d n M J (M 107 x0.toNatClampNeg) x1 x2 x3 (x4 + 1) _ h120) ?_
                  cases H
                  exact jm_go.ret 4 (fun _ _ => rfl)
                · refine jm_go.brf 2 (b := decide (0 ≤ (x1 - (M 110 x0.toNatClampNeg)))) (p1 := 105) (l1 := [some (.ref 105), some (.int x0), some (.int x1), some (.int x2), some (.int x3), some (.int x4), some (.int (x1 - (M 110 x0.toNatClampNeg))), some (.int 1), some (.int 1)]) (s1 := []) (t1 := (jm_S0 L, M, J)) (p2 := 100) (l2 := [some (.ref 105), some (.int x0), some (.int x1), some (.int x2), some (.int x3), some (.int x4), some (.int (x1 - (M 110 x0.toNatClampNeg))), some (.int 1), some (.int 1)]) (s2 := []) (t2 := (jm_S0 L, M, J)) (fun _ _ => rfl) h117 ?_
                  rcases jm_bro H with ⟨h121, H⟩ | ⟨h121, H⟩
                  · refine jm_go.brt 2 (b := decide (1 = 0)) (p1 := 128) (l1 := [some (.ref 105), some (.int x0), some (.int x1), some (.int x2), some (.int x3), some (.int x4), some (.int (x1 - (M 110 x0.toNatClampNeg))), some (.int 1), some (.int 1)]) (s1 := []) (t1 := (jm_S0 L, M, J)) (p2 := 105) (l2 := [some (.ref 105), some (.int x0), some (.int x1), some (.int x2), some (.int x3), some (.int x4), some (.int (x1 - (M 110 x0.toNatClampNeg))), some (.int 1), some (.int 1)]) (s2 := []) (t2 := (jm_S0 L, M, J)) (fun _ _ => rfl) h121 ?_
                    cases H
                    exact jm_go.ret 2 (fun _ _ => rfl)
                  · refine jm_go.brf 2 (b := decide (1 = 0)) (p1 := 128) (l1 := [some (.ref 105), some (.int x0), some (.int x1), some (.int x2), some (.int x3), some (.int x4), some (.int (x1 - (M 110 x0.toNatClampNeg))), some (.int 1), some (.int 1)]) (s1 := []) (t1 := (jm_S0 L, M, J)) (p2 := 105) (l2 := [some (.ref 105), some (.int x0), some (.int x1), some (.int x2), some (.int x3), some (.int x4), some (.int (x1 - (M 110 x0.toNatClampNeg))), some (.int 1), some (.int 1)]) (s2 := []) (t2 := (jm_S0 L, M, J)) (fun _ _ => rfl) h121 ?_
                    obtain ⟨h122, H⟩ := jm_gdo H
                    refine jm_go.grd 6 (b := jm_inb x0 24) (pc' := 114) (ls' := [some (.ref 105), some (.int x0), some (.int x1), some (.int x2), some (.int x3), some (.int x4), none, none, some (.int 1)]) (st' := [.int (M 107 x0.toNatClampNeg), .ref 105, .int 1]) (t' := (jm_S0 L, M, J)) (fun _ _ => rfl) h122 ?_
                    obtain ⟨q123, h124, H⟩ := jm_bdo H
                    refine jm_go.call 7 (d := d + n) (b := true) (u := 55) (as := [.ref 105, .int (M 107 x0.toNatClampNeg), .int x1, .int x2, .int x3, .int (x4 + 1)]) (pc' := 125) (ls' := [some (.ref 105), some (.int x0), some (.int x1), some (.int x2), some (.int x3), some (.int x4), none, none, some (.int 1)]) (st' := [.int 1]) (t' := (jm_S0 L, M, J)) (fun _ _ => rfl) rfl rfl (g55 L d n M J (M 107 x0.toNatClampNeg) x1 x2 x3 (x4 + 1) _ h124) ?_
                    cases H
                    exact jm_go.ret 4 (fun _ _ => rfl)
              · refine jm_go.brf 2 (b := decide (1 = 0)) (p1 := 95) (l1 := [some (.ref 105), some (.int x0), some (.int x1), some (.int x2), some (.int x3), some (.int x4), some (.int (x1 - (M 110 x0.toNatClampNeg))), some (.int 1), some (.int 1)]) (s1 := []) (t1 := (jm_S0 L, M, J)) (p2 := 72) (l2 := [some (.ref 105), some (.int x0), some (.int x1), some (.int x2), some (.int x3), some (.int x4), some (.int (x1 - (M 110 x0.toNatClampNeg))), some (.int 1), some (.int 1)]) (s2 := []) (t2 := (jm_S0 L, M, J)) (fun _ _ => rfl) h116 ?_
                obtain ⟨h125, H⟩ := jm_gdo H
                refine jm_go.grd 6 (b := jm_inb x0 24) (pc' := 81) (ls' := [some (.ref 105), some (.int x0), some (.int x1), some (.int x2), some (.int x3), some (.int x4), some (.int (x1 - (M 110 x0.toNatClampNeg))), some (.int 1), some (.int 1)]) (st' := [.int (M 106 x0.toNatClampNeg), .ref 105, .int 1]) (t' := (jm_S0 L, M, J)) (fun _ _ => rfl) h125 ?_
                obtain ⟨q126, h127, H⟩ := jm_bdo H
                refine jm_go.call 7 (d := d + n) (b := true) (u := 55) (as := [.ref 105, .int (M 106 x0.toNatClampNeg), .int x1, .int x2, .int x3, .int (x4 + 1)]) (pc' := 92) (ls' := [some (.ref 105), some (.int x0), some (.int x1), some (.int x2), some (.int x3), some (.int x4), some (.int (x1 - (M 110 x0.toNatClampNeg))), some (.int 1), some (.int 1)]) (st' := [.int 1]) (t' := (jm_S0 L, M, J)) (fun _ _ => rfl) rfl rfl (g55 L d n M J (M 106 x0.toNatClampNeg) x1 x2 x3 (x4 + 1) _ h127) ?_
                rcases jm_bro H with ⟨h128, H⟩ | ⟨h128, H⟩
                · refine jm_go.brt 4 (b := decide (0 ≤ (x1 - (M 110 x0.toNatClampNeg)))) (p1 := 105) (l1 := [some (.ref 105), some (.int x0), some (.int x1), some (.int x2), some (.int x3), some (.int x4), some (.int (x1 - (M 110 x0.toNatClampNeg))), some (.int 1), some (.int (1 + q126))]) (s1 := []) (t1 := (jm_S0 L, M, J)) (p2 := 100) (l2 := [some (.ref 105), some (.int x0), some (.int x1), some (.int x2), some (.int x3), some (.int x4), some (.int (x1 - (M 110 x0.toNatClampNeg))), some (.int 1), some (.int (1 + q126))]) (s2 := []) (t2 := (jm_S0 L, M, J)) (fun _ _ => rfl) h128 ?_
                  obtain ⟨h129, H⟩ := jm_gdo H
                  refine jm_go.grd 6 (b := jm_inb x0 24) (pc' := 114) (ls' := [some (.ref 105), some (.int x0), some (.int x1), some (.int x2), some (.int x3), some (.int x4), none, none, some (.int (1 + q126))]) (st' := [.int (M 107 x0.toNatClampNeg), .ref 105, .int (1 + q126)]) (t' := (jm_S0 L, M, J)) (fun _ _ => rfl) h129 ?_
                  obtain ⟨q130, h131, H⟩ := jm_bdo H
                  refine jm_go.call 7 (d := d + n) (b := true) (u := 55) (as := [.ref 105, .int (M 107 x0.toNatClampNeg), .int x1, .int x2, .int x3, .int (x4 + 1)]) (pc' := 125) (ls' := [some (.ref 105), some (.int x0), some (.int x1), some (.int x2), some (.int x3), some (.int x4), none, none, some (.int (1 + q126))]) (st' := [.int (1 + q126)]) (t' := (jm_S0 L, M, J)) (fun _ _ => rfl) rfl rfl (g55 L d n M J (M 107 x0.toNatClampNeg) x1 x2 x3 (x4 + 1) _ h131) ?_
                  cases H
                  exact jm_go.ret 4 (fun _ _ => rfl)
                · refine jm_go.brf 4 (b := decide (0 ≤ (x1 - (M 110 x0.toNatClampNeg)))) (p1 := 105) (l1 := [some (.ref 105), some (.int x0), some (.int x1), some (.int x2), some (.int x3), some (.int x4), some (.int (x1 - (M 110 x0.toNatClampNeg))), some (.int 1), some (.int (1 + q126))]) (s1 := []) (t1 := (jm_S0 L, M, J)) (p2 := 100) (l2 := [some (.ref 105), some (.int x0), some (.int x1), some (.int x2), some (.int x3), some (.int x4), some (.int (x1 - (M 110 x0.toNatClampNeg))), some (.int 1), some (.int (1 + q126))]) (s2 := []) (t2 := (jm_S0 L, M, J)) (fun _ _ => rfl) h128 ?_
                  rcases jm_bro H with ⟨h132, H⟩ | ⟨h132, H⟩
                  · refine jm_go.brt 2 (b := decide (1 = 0)) (p1 := 128) (l1 := [some (.ref 105), some (.int x0), some (.int x1), some (.int x2), some (.int x3), some (.int x4), some (.int (x1 - (M 110 x0.toNatClampNeg))), some (.int 1), some (.int (1 + q126))]) (s1 := []) (t1 := (jm_S0 L, M, J)) (p2 := 105) (l2 := [some (.ref 105), some (.int x0), some (.int x1), some (.int x2), some (.int x3), some (.int x4), some (.int (x1 - (M 110 x0.toNatClampNeg))), some (.int 1), some (.int (1 + q126))]) (s2 := []) (t2 := (jm_S0 L, M, J)) (fun _ _ => rfl) h132 ?_
                    cases H
                    exact jm_go.ret 2 (fun _ _ => rfl)
                  · refine jm_go.brf 2 (b := decide (1 = 0)) (p1 := 128) (l1 := [some (.ref 105), some (.int x0), some (.int x1), some (.int x2), some (.int x3), some (.int x4), some (.int (x1 - (M 110 x0.toNatClampNeg))), some (.int 1), some (.int (1 + q126))]) (s1 := []) (t1 := (jm_S0 L, M, J)) (p2 := 105) (l2 := [some (.ref 105), some (.int x0), some (.int x1), some (.int x2), some (.int x3), some (.int x4), some (.int (x1 - (M 110 x0.toNatClampNeg))), some (.int 1), some (.int (1 + q126))]) (s2 := []) (t2 := (jm_S0 L, M, J)) (fun _ _ => rfl) h132 ?_
                    obtain ⟨h133, H⟩ := jm_gdo H
                    refine jm_go.grd 6 (b := jm_inb x0 24) (pc' := 114) (ls' := [some (.ref 105), some (.int x0), some (.int x1), some (.int x2), some (.int x3), some (.int x4), none, none, some (.int (1 + q126))]) (st' := [.int (M 107 x0.toNatClampNeg), .ref 105, .int (1 + q126)]) (t' := (jm_S0 L, M, J)) (fun _ _ => rfl) h133 ?_
                    obtain ⟨q134, h135, H⟩ := jm_bdo H
                    refine jm_go.call 7 (d := d + n) (b := true) (u := 55) (as := [.ref 105, .int (M 107 x0.toNatClampNeg), .int x1, .int x2, .int x3, .int (x4 + 1)]) (pc' := 125) (ls' := [some (.ref 105), some (.int x0), some (.int x1), some (.int x2), some (.int x3), some (.int x4), none, none, some (.int (1 + q126))]) (st' := [.int (1 + q126)]) (t' := (jm_S0 L, M, J)) (fun _ _ => rfl) rfl rfl (g55 L d n M J (M 107 x0.toNatClampNeg) x1 x2 x3 (x4 + 1) _ h135) ?_
                    cases H
                    exact jm_go.ret 4 (fun _ _ => rfl)
      · refine jm_go.brf 3 (b := decide (x4 < 24)) (p1 := 14) (l1 := [some (.ref 105), some (.int x0), some (.int x1), some (.int x2), some (.int x3), some (.int x4), none, none, none]) (s1 := []) (t1 := (jm_S0 L, M, J)) (p2 := 12) (l2 := [some (.ref 105), some (.int x0), some (.int x1), some (.int x2), some (.int x3), some (.int x4), none, none, none]) (s2 := []) (t2 := (jm_S0 L, M, J)) (fun _ _ => rfl) h2 ?_
        cases H
        exact jm_go.ret 2 (fun _ _ => rfl)
end
