section
-- ===== PART A: goes FIRST, ahead of the names: the tables' words, and 'selects' of the private methods out of them =====
/-- a private method of a class that the tables say can be made, by its rows of tables_1 -/
def lw_okq (q : MethodName × Nat) : Prop := (q.1.cls ≠ "java/lang/invoke/MethodHandle" ∧ q.1.cls ≠ "java/lang/invoke/VarHandle") ∧ Cond.instantiable q.1.cls q.2 ∈ tables_1 ∧ Cond.privateMethod q.1 ∈ tables_1 ∧ Cond.instanceMethod q.1 ∈ tables_1
theorem lw_p0 : lw_okq (⟨"HaloTrees", "remember", "()V"⟩, 8) := ⟨⟨by decide +kernel, by decide +kernel⟩, List.mem_of_getElem? (i := 15) (by decide +kernel), List.mem_of_getElem? (i := 244) (by decide +kernel), List.mem_of_getElem? (i := 245) (by decide +kernel)⟩
theorem lw_p1 : lw_okq (⟨"HaloTrees", "isGrainOfPicture", "(II)Z"⟩, 8) := ⟨⟨by decide +kernel, by decide +kernel⟩, List.mem_of_getElem? (i := 15) (by decide +kernel), List.mem_of_getElem? (i := 276) (by decide +kernel), List.mem_of_getElem? (i := 277) (by decide +kernel)⟩
theorem lw_p2 : lw_okq (⟨"HaloTrees", "isPicture", "(I)Z"⟩, 8) := ⟨⟨by decide +kernel, by decide +kernel⟩, List.mem_of_getElem? (i := 15) (by decide +kernel), List.mem_of_getElem? (i := 280) (by decide +kernel), List.mem_of_getElem? (i := 281) (by decide +kernel)⟩
theorem lw_p3 : lw_okq (⟨"HaloTrees$Lots", "draw", "()I"⟩, 1) := ⟨⟨by decide +kernel, by decide +kernel⟩, List.mem_of_getElem? (i := 204) (by decide +kernel), List.mem_of_getElem? (i := 340) (by decide +kernel), List.mem_of_getElem? (i := 341) (by decide +kernel)⟩
theorem lw_p4 : lw_okq (⟨"HaloTrees$Lots", "layAnywhere", "(LHaloTrees$Field;II)V"⟩, 1) := ⟨⟨by decide +kernel, by decide +kernel⟩, List.mem_of_getElem? (i := 204) (by decide +kernel), List.mem_of_getElem? (i := 346) (by decide +kernel), List.mem_of_getElem? (i := 347) (by decide +kernel)⟩
theorem lw_p5 : lw_okq (⟨"HaloTrees$Lots", "shifted", "(I)I"⟩, 1) := ⟨⟨by decide +kernel, by decide +kernel⟩, List.mem_of_getElem? (i := 204) (by decide +kernel), List.mem_of_getElem? (i := 360) (by decide +kernel), List.mem_of_getElem? (i := 361) (by decide +kernel)⟩
theorem lw_p6 : lw_okq (⟨"HaloTrees$Clumping", "linkToLesser", "(LHaloTrees$Field;III)V"⟩, 4) := ⟨⟨by decide +kernel, by decide +kernel⟩, List.mem_of_getElem? (i := 85) (by decide +kernel), List.mem_of_getElem? (i := 396) (by decide +kernel), List.mem_of_getElem? (i := 397) (by decide +kernel)⟩
theorem lw_p7 : lw_okq (⟨"HaloTrees$Clumping", "reachedFrom", "(II)I"⟩, 4) := ⟨⟨by decide +kernel, by decide +kernel⟩, List.mem_of_getElem? (i := 85) (by decide +kernel), List.mem_of_getElem? (i := 416) (by decide +kernel), List.mem_of_getElem? (i := 417) (by decide +kernel)⟩
theorem lw_p8 : lw_okq (⟨"HaloTrees$Clumping", "linkedToAny", "(I)I"⟩, 4) := ⟨⟨by decide +kernel, by decide +kernel⟩, List.mem_of_getElem? (i := 85) (by decide +kernel), List.mem_of_getElem? (i := 420) (by decide +kernel), List.mem_of_getElem? (i := 421) (by decide +kernel)⟩
theorem lw_p9 : lw_okq (⟨"HaloTrees$Clumping", "tellMembers", "(I)V"⟩, 4) := ⟨⟨by decide +kernel, by decide +kernel⟩, List.mem_of_getElem? (i := 85) (by decide +kernel), List.mem_of_getElem? (i := 424) (by decide +kernel), List.mem_of_getElem? (i := 425) (by decide +kernel)⟩
theorem lw_p10 : lw_okq (⟨"HaloTrees$Halos", "insert", "(II)V"⟩, 7) := ⟨⟨by decide +kernel, by decide +kernel⟩, List.mem_of_getElem? (i := 109) (by decide +kernel), List.mem_of_getElem? (i := 438) (by decide +kernel), List.mem_of_getElem? (i := 439) (by decide +kernel)⟩
theorem lw_p11 : lw_okq (⟨"HaloTrees$Halos", "withMostOf", "(LHaloTrees$Field;I)I"⟩, 7) := ⟨⟨by decide +kernel, by decide +kernel⟩, List.mem_of_getElem? (i := 109) (by decide +kernel), List.mem_of_getElem? (i := 455) (by decide +kernel), List.mem_of_getElem? (i := 456) (by decide +kernel)⟩
theorem lw_p12 : lw_okq (⟨"HaloTrees", "treeOf", "(I)LHaloTrees$SplittingTree;"⟩, 8) := ⟨⟨by decide +kernel, by decide +kernel⟩, List.mem_of_getElem? (i := 15) (by decide +kernel), List.mem_of_getElem? (i := 485) (by decide +kernel), List.mem_of_getElem? (i := 486) (by decide +kernel)⟩
theorem lw_p13 : lw_okq (⟨"HaloTrees$SplittingTree", "split", "(III)I"⟩, 8) := ⟨⟨by decide +kernel, by decide +kernel⟩, List.mem_of_getElem? (i := 168) (by decide +kernel), List.mem_of_getElem? (i := 497) (by decide +kernel), List.mem_of_getElem? (i := 498) (by decide +kernel)⟩
theorem lw_p14 : lw_okq (⟨"HaloTrees$SplittingTree", "sort", "(III)V"⟩, 8) := ⟨⟨by decide +kernel, by decide +kernel⟩, List.mem_of_getElem? (i := 168) (by decide +kernel), List.mem_of_getElem? (i := 501) (by decide +kernel), List.mem_of_getElem? (i := 502) (by decide +kernel)⟩
theorem lw_p15 : lw_okq (⟨"HaloTrees$SplittingTree", "rankOf", "(II)I"⟩, 8) := ⟨⟨by decide +kernel, by decide +kernel⟩, List.mem_of_getElem? (i := 168) (by decide +kernel), List.mem_of_getElem? (i := 505) (by decide +kernel), List.mem_of_getElem? (i := 506) (by decide +kernel)⟩
def lw_privs_1 : List (MethodName × Nat) := [(⟨"HaloTrees", "remember", "()V"⟩, 8), (⟨"HaloTrees", "isGrainOfPicture", "(II)Z"⟩, 8), (⟨"HaloTrees", "isPicture", "(I)Z"⟩, 8), (⟨"HaloTrees$Lots", "draw", "()I"⟩, 1), (⟨"HaloTrees$Lots", "layAnywhere", "(LHaloTrees$Field;II)V"⟩, 1), (⟨"HaloTrees$Lots", "shifted", "(I)I"⟩, 1), (⟨"HaloTrees$Clumping", "linkToLesser", "(LHaloTrees$Field;III)V"⟩, 4), (⟨"HaloTrees$Clumping", "reachedFrom", "(II)I"⟩, 4), (⟨"HaloTrees$Clumping", "linkedToAny", "(I)I"⟩, 4), (⟨"HaloTrees$Clumping", "tellMembers", "(I)V"⟩, 4), (⟨"HaloTrees$Halos", "insert", "(II)V"⟩, 7), (⟨"HaloTrees$Halos", "withMostOf", "(LHaloTrees$Field;I)I"⟩, 7), (⟨"HaloTrees", "treeOf", "(I)LHaloTrees$SplittingTree;"⟩, 8), (⟨"HaloTrees$SplittingTree", "split", "(III)I"⟩, 8), (⟨"HaloTrees$SplittingTree", "sort", "(III)V"⟩, 8), (⟨"HaloTrees$SplittingTree", "rankOf", "(II)I"⟩, 8)]
theorem lw_r1 : ∀ q ∈ lw_privs_1, lw_okq q := List.forall_mem_cons.mpr ⟨lw_p0, List.forall_mem_cons.mpr ⟨lw_p1, List.forall_mem_cons.mpr ⟨lw_p2, List.forall_mem_cons.mpr ⟨lw_p3, List.forall_mem_cons.mpr ⟨lw_p4, List.forall_mem_cons.mpr ⟨lw_p5, List.forall_mem_cons.mpr ⟨lw_p6, List.forall_mem_cons.mpr ⟨lw_p7, List.forall_mem_cons.mpr ⟨lw_p8, List.forall_mem_cons.mpr ⟨lw_p9, List.forall_mem_cons.mpr ⟨lw_p10, List.forall_mem_cons.mpr ⟨lw_p11, List.forall_mem_cons.mpr ⟨lw_p12, List.forall_mem_cons.mpr ⟨lw_p13, List.forall_mem_cons.mpr ⟨lw_p14, List.forall_mem_cons.mpr ⟨lw_p15, fun _ h => absurd h List.not_mem_nil⟩⟩⟩⟩⟩⟩⟩⟩⟩⟩⟩⟩⟩⟩⟩⟩
theorem lw_p16 : lw_okq (⟨"HaloTrees", "isHalo", "(II)Z"⟩, 8) := ⟨⟨by decide +kernel, by decide +kernel⟩, List.mem_of_getElem? (i := 15) (by decide +kernel), List.mem_of_getElem? (i := 529) (by decide +kernel), List.mem_of_getElem? (i := 530) (by decide +kernel)⟩
theorem lw_p17 : lw_okq (⟨"HaloTrees", "strayed", "(II)I"⟩, 8) := ⟨⟨by decide +kernel, by decide +kernel⟩, List.mem_of_getElem? (i := 15) (by decide +kernel), List.mem_of_getElem? (i := 537) (by decide +kernel), List.mem_of_getElem? (i := 538) (by decide +kernel)⟩
theorem lw_p18 : lw_okq (⟨"HaloTrees$SplittingTree", "lookedAtFrom", "(IIIII)I"⟩, 8) := ⟨⟨by decide +kernel, by decide +kernel⟩, List.mem_of_getElem? (i := 168) (by decide +kernel), List.mem_of_getElem? (i := 570) (by decide +kernel), List.mem_of_getElem? (i := 571) (by decide +kernel)⟩
theorem lw_p19 : lw_okq (⟨"HaloTrees", "clumpedBy", "(II)LHaloTrees$Clumping;"⟩, 8) := ⟨⟨by decide +kernel, by decide +kernel⟩, List.mem_of_getElem? (i := 15) (by decide +kernel), List.mem_of_getElem? (i := 595) (by decide +kernel), List.mem_of_getElem? (i := 596) (by decide +kernel)⟩
theorem lw_p20 : lw_okq (⟨"HaloTreesModel", "minds", "()V"⟩, 16) := ⟨⟨by decide +kernel, by decide +kernel⟩, List.mem_of_getElem? (i := 622) (by decide +kernel), List.mem_of_getElem? (i := 682) (by decide +kernel), List.mem_of_getElem? (i := 683) (by decide +kernel)⟩
theorem lw_p21 : lw_okq (⟨"HaloTreesModel", "copy", "(II)V"⟩, 16) := ⟨⟨by decide +kernel, by decide +kernel⟩, List.mem_of_getElem? (i := 622) (by decide +kernel), List.mem_of_getElem? (i := 686) (by decide +kernel), List.mem_of_getElem? (i := 687) (by decide +kernel)⟩
theorem lw_p22 : lw_okq (⟨"HaloTreesModel", "begins", "()I"⟩, 16) := ⟨⟨by decide +kernel, by decide +kernel⟩, List.mem_of_getElem? (i := 622) (by decide +kernel), List.mem_of_getElem? (i := 690) (by decide +kernel), List.mem_of_getElem? (i := 691) (by decide +kernel)⟩
theorem lw_p23 : lw_okq (⟨"HaloTreesModel", "isPicture", "(I)Z"⟩, 16) := ⟨⟨by decide +kernel, by decide +kernel⟩, List.mem_of_getElem? (i := 622) (by decide +kernel), List.mem_of_getElem? (i := 706) (by decide +kernel), List.mem_of_getElem? (i := 707) (by decide +kernel)⟩
theorem lw_p24 : lw_okq (⟨"HaloTreesModel", "setOf", "(I)I"⟩, 16) := ⟨⟨by decide +kernel, by decide +kernel⟩, List.mem_of_getElem? (i := 622) (by decide +kernel), List.mem_of_getElem? (i := 723) (by decide +kernel), List.mem_of_getElem? (i := 724) (by decide +kernel)⟩
theorem lw_p25 : lw_okq (⟨"HaloTreesModel", "lays", "(IIII)V"⟩, 16) := ⟨⟨by decide +kernel, by decide +kernel⟩, List.mem_of_getElem? (i := 622) (by decide +kernel), List.mem_of_getElem? (i := 730) (by decide +kernel), List.mem_of_getElem? (i := 731) (by decide +kernel)⟩
theorem lw_p26 : lw_okq (⟨"HaloTreesModel", "draw", "(I)I"⟩, 16) := ⟨⟨by decide +kernel, by decide +kernel⟩, List.mem_of_getElem? (i := 622) (by decide +kernel), List.mem_of_getElem? (i := 757) (by decide +kernel), List.mem_of_getElem? (i := 758) (by decide +kernel)⟩
theorem lw_p27 : lw_okq (⟨"HaloTreesModel", "x", "(II)I"⟩, 16) := ⟨⟨by decide +kernel, by decide +kernel⟩, List.mem_of_getElem? (i := 622) (by decide +kernel), List.mem_of_getElem? (i := 763) (by decide +kernel), List.mem_of_getElem? (i := 764) (by decide +kernel)⟩
theorem lw_p28 : lw_okq (⟨"HaloTreesModel", "y", "(II)I"⟩, 16) := ⟨⟨by decide +kernel, by decide +kernel⟩, List.mem_of_getElem? (i := 622) (by decide +kernel), List.mem_of_getElem? (i := 770) (by decide +kernel), List.mem_of_getElem? (i := 771) (by decide +kernel)⟩
theorem lw_p29 : lw_okq (⟨"HaloTreesModel", "countHalos", "(I)I"⟩, 16) := ⟨⟨by decide +kernel, by decide +kernel⟩, List.mem_of_getElem? (i := 622) (by decide +kernel), List.mem_of_getElem? (i := 782) (by decide +kernel), List.mem_of_getElem? (i := 783) (by decide +kernel)⟩
theorem lw_p30 : lw_okq (⟨"HaloTreesModel", "layAll", "()V"⟩, 16) := ⟨⟨by decide +kernel, by decide +kernel⟩, List.mem_of_getElem? (i := 622) (by decide +kernel), List.mem_of_getElem? (i := 786) (by decide +kernel), List.mem_of_getElem? (i := 787) (by decide +kernel)⟩
theorem lw_p31 : lw_okq (⟨"HaloTreesModel", "layHalos", "(I)V"⟩, 16) := ⟨⟨by decide +kernel, by decide +kernel⟩, List.mem_of_getElem? (i := 622) (by decide +kernel), List.mem_of_getElem? (i := 790) (by decide +kernel), List.mem_of_getElem? (i := 791) (by decide +kernel)⟩
def lw_privs_2 : List (MethodName × Nat) := [(⟨"HaloTrees", "isHalo", "(II)Z"⟩, 8), (⟨"HaloTrees", "strayed", "(II)I"⟩, 8), (⟨"HaloTrees$SplittingTree", "lookedAtFrom", "(IIIII)I"⟩, 8), (⟨"HaloTrees", "clumpedBy", "(II)LHaloTrees$Clumping;"⟩, 8), (⟨"HaloTreesModel", "minds", "()V"⟩, 16), (⟨"HaloTreesModel", "copy", "(II)V"⟩, 16), (⟨"HaloTreesModel", "begins", "()I"⟩, 16), (⟨"HaloTreesModel", "isPicture", "(I)Z"⟩, 16), (⟨"HaloTreesModel", "setOf", "(I)I"⟩, 16), (⟨"HaloTreesModel", "lays", "(IIII)V"⟩, 16), (⟨"HaloTreesModel", "draw", "(I)I"⟩, 16), (⟨"HaloTreesModel", "x", "(II)I"⟩, 16), (⟨"HaloTreesModel", "y", "(II)I"⟩, 16), (⟨"HaloTreesModel", "countHalos", "(I)I"⟩, 16), (⟨"HaloTreesModel", "layAll", "()V"⟩, 16), (⟨"HaloTreesModel", "layHalos", "(I)V"⟩, 16)]
theorem lw_r2 : ∀ q ∈ lw_privs_2, lw_okq q := List.forall_mem_cons.mpr ⟨lw_p16, List.forall_mem_cons.mpr ⟨lw_p17, List.forall_mem_cons.mpr ⟨lw_p18, List.forall_mem_cons.mpr ⟨lw_p19, List.forall_mem_cons.mpr ⟨lw_p20, List.forall_mem_cons.mpr ⟨lw_p21, List.forall_mem_cons.mpr ⟨lw_p22, List.forall_mem_cons.mpr ⟨lw_p23, List.forall_mem_cons.mpr ⟨lw_p24, List.forall_mem_cons.mpr ⟨lw_p25, List.forall_mem_cons.mpr ⟨lw_p26, List.forall_mem_cons.mpr ⟨lw_p27, List.forall_mem_cons.mpr ⟨lw_p28, List.forall_mem_cons.mpr ⟨lw_p29, List.forall_mem_cons.mpr ⟨lw_p30, List.forall_mem_cons.mpr ⟨lw_p31, fun _ h => absurd h List.not_mem_nil⟩⟩⟩⟩⟩⟩⟩⟩⟩⟩⟩⟩⟩⟩⟩⟩
theorem lw_p32 : lw_okq (⟨"HaloTreesModel", "clumpOf", "(IIII)I"⟩, 16) := ⟨⟨by decide +kernel, by decide +kernel⟩, List.mem_of_getElem? (i := 622) (by decide +kernel), List.mem_of_getElem? (i := 794) (by decide +kernel), List.mem_of_getElem? (i := 795) (by decide +kernel)⟩
theorem lw_p33 : lw_okq (⟨"HaloTreesModel", "isLinked", "(IIII)Z"⟩, 16) := ⟨⟨by decide +kernel, by decide +kernel⟩, List.mem_of_getElem? (i := 622) (by decide +kernel), List.mem_of_getElem? (i := 798) (by decide +kernel), List.mem_of_getElem? (i := 799) (by decide +kernel)⟩
theorem lw_p34 : lw_okq (⟨"HaloTreesModel", "way", "(III)I"⟩, 16) := ⟨⟨by decide +kernel, by decide +kernel⟩, List.mem_of_getElem? (i := 622) (by decide +kernel), List.mem_of_getElem? (i := 802) (by decide +kernel), List.mem_of_getElem? (i := 803) (by decide +kernel)⟩
theorem lw_p35 : lw_okq (⟨"HaloTreesModel", "weight", "(I)I"⟩, 16) := ⟨⟨by decide +kernel, by decide +kernel⟩, List.mem_of_getElem? (i := 622) (by decide +kernel), List.mem_of_getElem? (i := 806) (by decide +kernel), List.mem_of_getElem? (i := 807) (by decide +kernel)⟩
theorem lw_p36 : lw_okq (⟨"HaloTreesModel", "isAhead", "(II)Z"⟩, 16) := ⟨⟨by decide +kernel, by decide +kernel⟩, List.mem_of_getElem? (i := 622) (by decide +kernel), List.mem_of_getElem? (i := 810) (by decide +kernel), List.mem_of_getElem? (i := 811) (by decide +kernel)⟩
theorem lw_p37 : lw_okq (⟨"HaloTreesModel", "goesOn", "(II)I"⟩, 16) := ⟨⟨by decide +kernel, by decide +kernel⟩, List.mem_of_getElem? (i := 622) (by decide +kernel), List.mem_of_getElem? (i := 817) (by decide +kernel), List.mem_of_getElem? (i := 818) (by decide +kernel)⟩
theorem lw_p38 : lw_okq (⟨"HaloTreesModel", "haloSet", "(II)I"⟩, 16) := ⟨⟨by decide +kernel, by decide +kernel⟩, List.mem_of_getElem? (i := 622) (by decide +kernel), List.mem_of_getElem? (i := 821) (by decide +kernel), List.mem_of_getElem? (i := 822) (by decide +kernel)⟩
theorem lw_p39 : lw_okq (⟨"HaloTreesModel", "comesFrom", "(II)I"⟩, 16) := ⟨⟨by decide +kernel, by decide +kernel⟩, List.mem_of_getElem? (i := 622) (by decide +kernel), List.mem_of_getElem? (i := 825) (by decide +kernel), List.mem_of_getElem? (i := 826) (by decide +kernel)⟩
theorem lw_p40 : lw_okq (⟨"HaloTreesModel", "branchLong", "(II)I"⟩, 16) := ⟨⟨by decide +kernel, by decide +kernel⟩, List.mem_of_getElem? (i := 622) (by decide +kernel), List.mem_of_getElem? (i := 829) (by decide +kernel), List.mem_of_getElem? (i := 830) (by decide +kernel)⟩
theorem lw_p41 : lw_okq (⟨"HaloTreesModel", "mainOf", "(II)I"⟩, 16) := ⟨⟨by decide +kernel, by decide +kernel⟩, List.mem_of_getElem? (i := 622) (by decide +kernel), List.mem_of_getElem? (i := 833) (by decide +kernel), List.mem_of_getElem? (i := 834) (by decide +kernel)⟩
theorem lw_p42 : lw_okq (⟨"HaloTreesModel", "links", "(I)I"⟩, 16) := ⟨⟨by decide +kernel, by decide +kernel⟩, List.mem_of_getElem? (i := 622) (by decide +kernel), List.mem_of_getElem? (i := 841) (by decide +kernel), List.mem_of_getElem? (i := 842) (by decide +kernel)⟩
theorem lw_p43 : lw_okq (⟨"HaloTreesModel", "linksOf", "(II)I"⟩, 16) := ⟨⟨by decide +kernel, by decide +kernel⟩, List.mem_of_getElem? (i := 622) (by decide +kernel), List.mem_of_getElem? (i := 845) (by decide +kernel), List.mem_of_getElem? (i := 846) (by decide +kernel)⟩
theorem lw_p44 : lw_okq (⟨"HaloTreesModel", "clumpsOf", "(III)I"⟩, 16) := ⟨⟨by decide +kernel, by decide +kernel⟩, List.mem_of_getElem? (i := 622) (by decide +kernel), List.mem_of_getElem? (i := 849) (by decide +kernel), List.mem_of_getElem? (i := 850) (by decide +kernel)⟩
theorem lw_p45 : lw_okq (⟨"HaloTreesModel", "halosOf", "(I)I"⟩, 16) := ⟨⟨by decide +kernel, by decide +kernel⟩, List.mem_of_getElem? (i := 622) (by decide +kernel), List.mem_of_getElem? (i := 853) (by decide +kernel), List.mem_of_getElem? (i := 854) (by decide +kernel)⟩
theorem lw_p46 : lw_okq (⟨"HaloTreesModel", "longest", "(I)I"⟩, 16) := ⟨⟨by decide +kernel, by decide +kernel⟩, List.mem_of_getElem? (i := 622) (by decide +kernel), List.mem_of_getElem? (i := 857) (by decide +kernel), List.mem_of_getElem? (i := 858) (by decide +kernel)⟩
theorem lw_p47 : lw_okq (⟨"HaloTreesModel", "layTree", "(I)V"⟩, 16) := ⟨⟨by decide +kernel, by decide +kernel⟩, List.mem_of_getElem? (i := 622) (by decide +kernel), List.mem_of_getElem? (i := 861) (by decide +kernel), List.mem_of_getElem? (i := 862) (by decide +kernel)⟩
def lw_privs_3 : List (MethodName × Nat) := [(⟨"HaloTreesModel", "clumpOf", "(IIII)I"⟩, 16), (⟨"HaloTreesModel", "isLinked", "(IIII)Z"⟩, 16), (⟨"HaloTreesModel", "way", "(III)I"⟩, 16), (⟨"HaloTreesModel", "weight", "(I)I"⟩, 16), (⟨"HaloTreesModel", "isAhead", "(II)Z"⟩, 16), (⟨"HaloTreesModel", "goesOn", "(II)I"⟩, 16), (⟨"HaloTreesModel", "haloSet", "(II)I"⟩, 16), (⟨"HaloTreesModel", "comesFrom", "(II)I"⟩, 16), (⟨"HaloTreesModel", "branchLong", "(II)I"⟩, 16), (⟨"HaloTreesModel", "mainOf", "(II)I"⟩, 16), (⟨"HaloTreesModel", "links", "(I)I"⟩, 16), (⟨"HaloTreesModel", "linksOf", "(II)I"⟩, 16), (⟨"HaloTreesModel", "clumpsOf", "(III)I"⟩, 16), (⟨"HaloTreesModel", "halosOf", "(I)I"⟩, 16), (⟨"HaloTreesModel", "longest", "(I)I"⟩, 16), (⟨"HaloTreesModel", "layTree", "(I)V"⟩, 16)]
theorem lw_r3 : ∀ q ∈ lw_privs_3, lw_okq q := List.forall_mem_cons.mpr ⟨lw_p32, List.forall_mem_cons.mpr ⟨lw_p33, List.forall_mem_cons.mpr ⟨lw_p34, List.forall_mem_cons.mpr ⟨lw_p35, List.forall_mem_cons.mpr ⟨lw_p36, List.forall_mem_cons.mpr ⟨lw_p37, List.forall_mem_cons.mpr ⟨lw_p38, List.forall_mem_cons.mpr ⟨lw_p39, List.forall_mem_cons.mpr ⟨lw_p40, List.forall_mem_cons.mpr ⟨lw_p41, List.forall_mem_cons.mpr ⟨lw_p42, List.forall_mem_cons.mpr ⟨lw_p43, List.forall_mem_cons.mpr ⟨lw_p44, List.forall_mem_cons.mpr ⟨lw_p45, List.forall_mem_cons.mpr ⟨lw_p46, List.forall_mem_cons.mpr ⟨lw_p47, fun _ h => absurd h List.not_mem_nil⟩⟩⟩⟩⟩⟩⟩⟩⟩⟩⟩⟩⟩⟩⟩⟩
theorem lw_p48 : lw_okq (⟨"HaloTreesModel", "adds", "(IIII)V"⟩, 16) := ⟨⟨by decide +kernel, by decide +kernel⟩, List.mem_of_getElem? (i := 622) (by decide +kernel), List.mem_of_getElem? (i := 865) (by decide +kernel), List.mem_of_getElem? (i := 866) (by decide +kernel)⟩
theorem lw_p49 : lw_okq (⟨"HaloTreesModel", "sorts", "(IIII)V"⟩, 16) := ⟨⟨by decide +kernel, by decide +kernel⟩, List.mem_of_getElem? (i := 622) (by decide +kernel), List.mem_of_getElem? (i := 869) (by decide +kernel), List.mem_of_getElem? (i := 870) (by decide +kernel)⟩
theorem lw_p50 : lw_okq (⟨"HaloTreesModel", "key", "(III)I"⟩, 16) := ⟨⟨by decide +kernel, by decide +kernel⟩, List.mem_of_getElem? (i := 622) (by decide +kernel), List.mem_of_getElem? (i := 873) (by decide +kernel), List.mem_of_getElem? (i := 874) (by decide +kernel)⟩
theorem lw_p51 : lw_okq (⟨"HaloTreesModel", "topOf", "(I)I"⟩, 16) := ⟨⟨by decide +kernel, by decide +kernel⟩, List.mem_of_getElem? (i := 622) (by decide +kernel), List.mem_of_getElem? (i := 878) (by decide +kernel), List.mem_of_getElem? (i := 879) (by decide +kernel)⟩
theorem lw_p52 : lw_okq (⟨"HaloTreesModel", "haloIn", "(II)I"⟩, 16) := ⟨⟨by decide +kernel, by decide +kernel⟩, List.mem_of_getElem? (i := 622) (by decide +kernel), List.mem_of_getElem? (i := 886) (by decide +kernel), List.mem_of_getElem? (i := 887) (by decide +kernel)⟩
theorem lw_p53 : lw_okq (⟨"HaloTreesModel", "holds", "(II)I"⟩, 16) := ⟨⟨by decide +kernel, by decide +kernel⟩, List.mem_of_getElem? (i := 622) (by decide +kernel), List.mem_of_getElem? (i := 890) (by decide +kernel), List.mem_of_getElem? (i := 891) (by decide +kernel)⟩
theorem lw_p54 : lw_okq (⟨"HaloTreesModel", "depthOf", "(II)I"⟩, 16) := ⟨⟨by decide +kernel, by decide +kernel⟩, List.mem_of_getElem? (i := 622) (by decide +kernel), List.mem_of_getElem? (i := 894) (by decide +kernel), List.mem_of_getElem? (i := 895) (by decide +kernel)⟩
theorem lw_p55 : lw_okq (⟨"HaloTreesModel", "isHalo", "(II)Z"⟩, 16) := ⟨⟨by decide +kernel, by decide +kernel⟩, List.mem_of_getElem? (i := 622) (by decide +kernel), List.mem_of_getElem? (i := 902) (by decide +kernel), List.mem_of_getElem? (i := 903) (by decide +kernel)⟩
theorem lw_p56 : lw_okq (⟨"HaloTreesModel", "grew", "(II)I"⟩, 16) := ⟨⟨by decide +kernel, by decide +kernel⟩, List.mem_of_getElem? (i := 622) (by decide +kernel), List.mem_of_getElem? (i := 906) (by decide +kernel), List.mem_of_getElem? (i := 907) (by decide +kernel)⟩
theorem lw_p57 : lw_okq (⟨"HaloTreesModel", "strayed", "(II)I"⟩, 16) := ⟨⟨by decide +kernel, by decide +kernel⟩, List.mem_of_getElem? (i := 622) (by decide +kernel), List.mem_of_getElem? (i := 910) (by decide +kernel), List.mem_of_getElem? (i := 911) (by decide +kernel)⟩
theorem lw_p58 : lw_okq (⟨"HaloTreesModel", "farFrom", "(IIII)I"⟩, 16) := ⟨⟨by decide +kernel, by decide +kernel⟩, List.mem_of_getElem? (i := 622) (by decide +kernel), List.mem_of_getElem? (i := 932) (by decide +kernel), List.mem_of_getElem? (i := 933) (by decide +kernel)⟩
theorem lw_p59 : lw_okq (⟨"HaloTreesModel", "looked", "(IIII)I"⟩, 16) := ⟨⟨by decide +kernel, by decide +kernel⟩, List.mem_of_getElem? (i := 622) (by decide +kernel), List.mem_of_getElem? (i := 936) (by decide +kernel), List.mem_of_getElem? (i := 937) (by decide +kernel)⟩
def lw_privs_4 : List (MethodName × Nat) := [(⟨"HaloTreesModel", "adds", "(IIII)V"⟩, 16), (⟨"HaloTreesModel", "sorts", "(IIII)V"⟩, 16), (⟨"HaloTreesModel", "key", "(III)I"⟩, 16), (⟨"HaloTreesModel", "topOf", "(I)I"⟩, 16), (⟨"HaloTreesModel", "haloIn", "(II)I"⟩, 16), (⟨"HaloTreesModel", "holds", "(II)I"⟩, 16), (⟨"HaloTreesModel", "depthOf", "(II)I"⟩, 16), (⟨"HaloTreesModel", "isHalo", "(II)Z"⟩, 16), (⟨"HaloTreesModel", "grew", "(II)I"⟩, 16), (⟨"HaloTreesModel", "strayed", "(II)I"⟩, 16), (⟨"HaloTreesModel", "farFrom", "(IIII)I"⟩, 16), (⟨"HaloTreesModel", "looked", "(IIII)I"⟩, 16)]
theorem lw_r4 : ∀ q ∈ lw_privs_4, lw_okq q := List.forall_mem_cons.mpr ⟨lw_p48, List.forall_mem_cons.mpr ⟨lw_p49, List.forall_mem_cons.mpr ⟨lw_p50, List.forall_mem_cons.mpr ⟨lw_p51, List.forall_mem_cons.mpr ⟨lw_p52, List.forall_mem_cons.mpr ⟨lw_p53, List.forall_mem_cons.mpr ⟨lw_p54, List.forall_mem_cons.mpr ⟨lw_p55, List.forall_mem_cons.mpr ⟨lw_p56, List.forall_mem_cons.mpr ⟨lw_p57, List.forall_mem_cons.mpr ⟨lw_p58, List.forall_mem_cons.mpr ⟨lw_p59, fun _ h => absurd h List.not_mem_nil⟩⟩⟩⟩⟩⟩⟩⟩⟩⟩⟩⟩
def lw_privs : List (MethodName × Nat) := lw_privs_1 ++ (lw_privs_2 ++ (lw_privs_3 ++ (lw_privs_4)))
def lw_tbl : List Cond := k2_sels lw_privs ++ tables_1
theorem lw_privs_ok : ∀ q ∈ lw_privs, lw_okq q := by
  show ∀ q ∈ lw_privs_1 ++ (lw_privs_2 ++ (lw_privs_3 ++ (lw_privs_4))), lw_okq q
  exact List.forall_mem_append.mpr ⟨lw_r1, List.forall_mem_append.mpr ⟨lw_r2, List.forall_mem_append.mpr ⟨lw_r3, lw_r4⟩⟩⟩
end
section
def RX0 : String := "HaloTrees$Clumping"
def TX0 : u_T := fun k => match k with
  | 0 => ("HaloTrees$Clumping", "links", "I", false)
  | 1 => ("HaloTrees$Clumping", "count", "I", false)
  | 2 => ("HaloTrees$Clumping", "linked", "[I", true)
  | _ => ("HaloTrees$Clumping", "clump", "[I", true)
def tyX0 : Nat → FieldType := fun k => match k with
  | 0 => .int
  | 1 => .int
  | 2 => .array .int
  | _ => .array .int
theorem nmX0 : ∀ a, a < 4 → ∀ b, b < 4 → a ≠ b → (TX0 a).2.1 ≠ (TX0 b).2.1 := by decide +kernel
theorem tyX0_ok : ∀ k, k < 4 → parseFieldDescriptor (TX0 k).2.2.1 = some (tyX0 k) := by decide +kernel
abbrev cX0_init : ByteArray := prog_2_method_1_code
def yX0_init : MethodName := ⟨RX0, "<init>", "()V"⟩
abbrev cX0_link : ByteArray := prog_2_method_2_code
def yX0_link : MethodName := ⟨RX0, "link", "(LHaloTrees$Field;II)V"⟩
abbrev cX0_linkToLesser : ByteArray := prog_2_method_3_code
def yX0_linkToLesser : MethodName := ⟨RX0, "linkToLesser", "(LHaloTrees$Field;III)V"⟩
abbrev cX0_gatherClumps : ByteArray := prog_2_method_4_code
def yX0_gatherClumps : MethodName := ⟨RX0, "gatherClumps", "(I)V"⟩
abbrev cX0_tellMembers : ByteArray := prog_2_method_5_code
def yX0_tellMembers : MethodName := ⟨RX0, "tellMembers", "(I)V"⟩
abbrev cX0_reachedFrom : ByteArray := prog_2_method_6_code
def yX0_reachedFrom : MethodName := ⟨RX0, "reachedFrom", "(II)I"⟩
abbrev cX0_linkedToAny : ByteArray := prog_2_method_7_code
def yX0_linkedToAny : MethodName := ⟨RX0, "linkedToAny", "(I)I"⟩
abbrev cX0_countSteps : ByteArray := prog_2_method_8_code
def yX0_countSteps : MethodName := ⟨RX0, "countSteps", "(II)I"⟩
abbrev cX0_isHolding : ByteArray := prog_2_method_9_code
def yX0_isHolding : MethodName := ⟨RX0, "isHolding", "(I)Z"⟩
def RX1 : String := "HaloTrees$Field"
def TX1 : u_T := fun k => match k with
  | 0 => ("HaloTrees$Field", "pictures", "I", false)
  | 1 => ("HaloTrees$Field", "length", "I", false)
  | 2 => ("HaloTrees$Field", "least", "I", false)
  | 3 => ("HaloTrees$Field", "weight", "[I", true)
  | _ => ("HaloTrees$Field", "place", "[I", true)
def tyX1 : Nat → FieldType := fun k => match k with
  | 0 => .int
  | 1 => .int
  | 2 => .int
  | 3 => .array .int
  | _ => .array .int
theorem nmX1 : ∀ a, a < 5 → ∀ b, b < 5 → a ≠ b → (TX1 a).2.1 ≠ (TX1 b).2.1 := by decide +kernel
theorem tyX1_ok : ∀ k, k < 5 → parseFieldDescriptor (TX1 k).2.2.1 = some (tyX1 k) := by decide +kernel
abbrev cX1_init : ByteArray := prog_3_method_1_code
def yX1_init : MethodName := ⟨RX1, "<init>", "()V"⟩
abbrev cX1_become : ByteArray := prog_3_method_2_code
def yX1_become : MethodName := ⟨RX1, "become", "(LHaloTrees$Field;)V"⟩
abbrev cX1_addPicture : ByteArray := prog_3_method_3_code
def yX1_addPicture : MethodName := ⟨RX1, "addPicture", "()I"⟩
abbrev cX1_lay : ByteArray := prog_3_method_4_code
def yX1_lay : MethodName := ⟨RX1, "lay", "(IIII)V"⟩
abbrev cX1_takeAway : ByteArray := prog_3_method_5_code
def yX1_takeAway : MethodName := ⟨RX1, "takeAway", "(II)V"⟩
abbrev cX1_isIn : ByteArray := prog_3_method_6_code
def yX1_isIn : MethodName := ⟨RX1, "isIn", "(II)Z"⟩
abbrev cX1_xOf : ByteArray := prog_3_method_7_code
def yX1_xOf : MethodName := ⟨RX1, "xOf", "(II)I"⟩
abbrev cX1_yOf : ByteArray := prog_3_method_8_code
def yX1_yOf : MethodName := ⟨RX1, "yOf", "(II)I"⟩
abbrev cX1_way : ByteArray := prog_3_method_9_code
def yX1_way : MethodName := ⟨RX1, "way", "(IIII)I"⟩
abbrev cX1_grainsOf : ByteArray := prog_3_method_10_code
def yX1_grainsOf : MethodName := ⟨RX1, "grainsOf", "(I)I"⟩
abbrev cX1_near : ByteArray := prog_3_method_11_code
def yX1_near : MethodName := ⟨RX1, "near", "(IIII)I"⟩
abbrev cX1_weightOf : ByteArray := prog_3_method_12_code
def yX1_weightOf : MethodName := ⟨RX1, "weightOf", "(I)I"⟩
def RX2 : String := "HaloTrees$Forest"
def TX2 : u_T := fun k => match k with
  | 0 => ("HaloTrees$Forest", "fresh", "Z", false)
  | 1 => ("HaloTrees$Forest", "pictures", "I", false)
  | 2 => ("HaloTrees$Forest", "clumpings", "[LHaloTrees$Clumping;", true)
  | _ => ("HaloTrees$Forest", "halos", "[LHaloTrees$Halos;", true)
def tyX2 : Nat → FieldType := fun k => match k with
  | 0 => .boolean
  | 1 => .int
  | 2 => .array (.object "HaloTrees$Clumping")
  | _ => .array (.object "HaloTrees$Halos")
theorem nmX2 : ∀ a, a < 4 → ∀ b, b < 4 → a ≠ b → (TX2 a).2.1 ≠ (TX2 b).2.1 := by decide +kernel
theorem tyX2_ok : ∀ k, k < 4 → parseFieldDescriptor (TX2 k).2.2.1 = some (tyX2 k) := by decide +kernel
abbrev cX2_init : ByteArray := prog_4_method_1_code
def yX2_init : MethodName := ⟨RX2, "<init>", "()V"⟩
abbrev cX2_surveyed : ByteArray := prog_4_method_2_code
def yX2_surveyed : MethodName := ⟨RX2, "surveyed", "(LHaloTrees$Field;)LHaloTrees$Forest;"⟩
abbrev cX2_branchBack : ByteArray := prog_4_method_3_code
def yX2_branchBack : MethodName := ⟨RX2, "branchBack", "(III)I"⟩
abbrev cX2_weightOfMain : ByteArray := prog_4_method_4_code
def yX2_weightOfMain : MethodName := ⟨RX2, "weightOfMain", "(II)I"⟩
abbrev cX2_countHalos : ByteArray := prog_4_method_5_code
def yX2_countHalos : MethodName := ⟨RX2, "countHalos", "()I"⟩
abbrev cX2_countEnding : ByteArray := prog_4_method_6_code
def yX2_countEnding : MethodName := ⟨RX2, "countEnding", "()I"⟩
abbrev cX2_countBeginning : ByteArray := prog_4_method_7_code
def yX2_countBeginning : MethodName := ⟨RX2, "countBeginning", "()I"⟩
abbrev cX2_longestBranch : ByteArray := prog_4_method_8_code
def yX2_longestBranch : MethodName := ⟨RX2, "longestBranch", "()I"⟩
def RX3 : String := "HaloTrees$Halos"
def TX3 : u_T := fun k => match k with
  | 0 => ("HaloTrees$Halos", "count", "I", false)
  | 1 => ("HaloTrees$Halos", "grains", "[I", true)
  | 2 => ("HaloTrees$Halos", "weight", "[I", true)
  | 3 => ("HaloTrees$Halos", "goesOn", "[I", true)
  | 4 => ("HaloTrees$Halos", "comesFrom", "[I", true)
  | 5 => ("HaloTrees$Halos", "main", "[I", true)
  | _ => ("HaloTrees$Halos", "branchLength", "[I", true)
def tyX3 : Nat → FieldType := fun k => match k with
  | 0 => .int
  | 1 => .array .int
  | 2 => .array .int
  | 3 => .array .int
  | 4 => .array .int
  | 5 => .array .int
  | _ => .array .int
theorem nmX3 : ∀ a, a < 7 → ∀ b, b < 7 → a ≠ b → (TX3 a).2.1 ≠ (TX3 b).2.1 := by decide +kernel
theorem tyX3_ok : ∀ k, k < 7 → parseFieldDescriptor (TX3 k).2.2.1 = some (tyX3 k) := by decide +kernel
abbrev cX3_init : ByteArray := prog_5_method_1_code
def yX3_init : MethodName := ⟨RX3, "<init>", "()V"⟩
abbrev cX3_gather : ByteArray := prog_5_method_2_code
def yX3_gather : MethodName := ⟨RX3, "gather", "(LHaloTrees$Field;LHaloTrees$Clumping;)V"⟩
abbrev cX3_insert : ByteArray := prog_5_method_3_code
def yX3_insert : MethodName := ⟨RX3, "insert", "(II)V"⟩
abbrev cX3_numberOf : ByteArray := prog_5_method_4_code
def yX3_numberOf : MethodName := ⟨RX3, "numberOf", "(I)I"⟩
abbrev cX3_goOnNowhere : ByteArray := prog_5_method_5_code
def yX3_goOnNowhere : MethodName := ⟨RX3, "goOnNowhere", "()V"⟩
abbrev cX3_goOnIn : ByteArray := prog_5_method_6_code
def yX3_goOnIn : MethodName := ⟨RX3, "goOnIn", "(LHaloTrees$Field;LHaloTrees$Halos;)V"⟩
abbrev cX3_withMostOf : ByteArray := prog_5_method_7_code
def yX3_withMostOf : MethodName := ⟨RX3, "withMostOf", "(LHaloTrees$Field;I)I"⟩
abbrev cX3_comeFromNowhere : ByteArray := prog_5_method_8_code
def yX3_comeFromNowhere : MethodName := ⟨RX3, "comeFromNowhere", "()V"⟩
abbrev cX3_comeFromThose : ByteArray := prog_5_method_9_code
def yX3_comeFromThose : MethodName := ⟨RX3, "comeFromThose", "(LHaloTrees$Halos;)V"⟩
def RX4 : String := "HaloTrees$Lots"
def TX4 : u_T := fun k => match k with
  | _ => ("HaloTrees$Lots", "latest", "J", false)
def tyX4 : Nat → FieldType := fun k => match k with
  | _ => .long
theorem nmX4 : ∀ a, a < 1 → ∀ b, b < 1 → a ≠ b → (TX4 a).2.1 ≠ (TX4 b).2.1 := by decide +kernel
theorem tyX4_ok : ∀ k, k < 1 → parseFieldDescriptor (TX4 k).2.2.1 = some (tyX4 k) := by decide +kernel
abbrev cX4_init : ByteArray := prog_6_method_1_code
def yX4_init : MethodName := ⟨RX4, "<init>", "()V"⟩
abbrev cX4_begin : ByteArray := prog_6_method_2_code
def yX4_begin : MethodName := ⟨RX4, "begin", "(I)V"⟩
abbrev cX4_draw : ByteArray := prog_6_method_3_code
def yX4_draw : MethodName := ⟨RX4, "draw", "()I"⟩
abbrev cX4_scatter : ByteArray := prog_6_method_4_code
def yX4_scatter : MethodName := ⟨RX4, "scatter", "(LHaloTrees$Field;II)V"⟩
abbrev cX4_carryOn : ByteArray := prog_6_method_5_code
def yX4_carryOn : MethodName := ⟨RX4, "carryOn", "(LHaloTrees$Field;II)V"⟩
abbrev cX4_layAnywhere : ByteArray := prog_6_method_6_code
def yX4_layAnywhere : MethodName := ⟨RX4, "layAnywhere", "(LHaloTrees$Field;II)V"⟩
abbrev cX4_shifted : ByteArray := prog_6_method_7_code
def yX4_shifted : MethodName := ⟨RX4, "shifted", "(I)I"⟩
def RX5 : String := "HaloTrees$Past"
def TX5 : u_T := fun k => match k with
  | 0 => ("HaloTrees$Past", "ring", "[LHaloTrees$Field;", true)
  | 1 => ("HaloTrees$Past", "oldest", "I", false)
  | _ => ("HaloTrees$Past", "count", "I", false)
def tyX5 : Nat → FieldType := fun k => match k with
  | 0 => .array (.object "HaloTrees$Field")
  | 1 => .int
  | _ => .int
theorem nmX5 : ∀ a, a < 3 → ∀ b, b < 3 → a ≠ b → (TX5 a).2.1 ≠ (TX5 b).2.1 := by decide +kernel
theorem tyX5_ok : ∀ k, k < 3 → parseFieldDescriptor (TX5 k).2.2.1 = some (tyX5 k) := by decide +kernel
abbrev cX5_init : ByteArray := prog_7_method_1_code
def yX5_init : MethodName := ⟨RX5, "<init>", "()V"⟩
abbrev cX5_take : ByteArray := prog_7_method_2_code
def yX5_take : MethodName := ⟨RX5, "take", "(LHaloTrees$Field;)V"⟩
abbrev cX5_bringBack : ByteArray := prog_7_method_3_code
def yX5_bringBack : MethodName := ⟨RX5, "bringBack", "(LHaloTrees$Field;)V"⟩
abbrev cX5_forget : ByteArray := prog_7_method_4_code
def yX5_forget : MethodName := ⟨RX5, "forget", "()V"⟩
def RX6 : String := "HaloTrees$SplittingTree"
def TX6 : u_T := fun k => match k with
  | 0 => ("HaloTrees$SplittingTree", "top", "I", false)
  | 1 => ("HaloTrees$SplittingTree", "height", "I", false)
  | 2 => ("HaloTrees$SplittingTree", "left", "[I", true)
  | 3 => ("HaloTrees$SplittingTree", "right", "[I", true)
  | 4 => ("HaloTrees$SplittingTree", "depthOf", "[I", true)
  | 5 => ("HaloTrees$SplittingTree", "order", "[I", true)
  | 6 => ("HaloTrees$SplittingTree", "x", "[I", true)
  | _ => ("HaloTrees$SplittingTree", "y", "[I", true)
def tyX6 : Nat → FieldType := fun k => match k with
  | 0 => .int
  | 1 => .int
  | 2 => .array .int
  | 3 => .array .int
  | 4 => .array .int
  | 5 => .array .int
  | 6 => .array .int
  | _ => .array .int
theorem nmX6 : ∀ a, a < 8 → ∀ b, b < 8 → a ≠ b → (TX6 a).2.1 ≠ (TX6 b).2.1 := by decide +kernel
theorem tyX6_ok : ∀ k, k < 8 → parseFieldDescriptor (TX6 k).2.2.1 = some (tyX6 k) := by decide +kernel
abbrev cX6_init : ByteArray := prog_8_method_1_code
def yX6_init : MethodName := ⟨RX6, "<init>", "()V"⟩
abbrev cX6_build : ByteArray := prog_8_method_2_code
def yX6_build : MethodName := ⟨RX6, "build", "(LHaloTrees$Field;I)V"⟩
abbrev cX6_split : ByteArray := prog_8_method_3_code
def yX6_split : MethodName := ⟨RX6, "split", "(III)I"⟩
abbrev cX6_sort : ByteArray := prog_8_method_4_code
def yX6_sort : MethodName := ⟨RX6, "sort", "(III)V"⟩
abbrev cX6_rankOf : ByteArray := prog_8_method_5_code
def yX6_rankOf : MethodName := ⟨RX6, "rankOf", "(II)I"⟩
abbrev cX6_countLookedAt : ByteArray := prog_8_method_6_code
def yX6_countLookedAt : MethodName := ⟨RX6, "countLookedAt", "(III)I"⟩
abbrev cX6_lookedAtFrom : ByteArray := prog_8_method_7_code
def yX6_lookedAtFrom : MethodName := ⟨RX6, "lookedAtFrom", "(IIIII)I"⟩
def RX7 : String := "HaloTrees"
def TX7 : u_T := fun k => match k with
  | 0 => ("HaloTrees", "now", "LHaloTrees$Field;", true)
  | 1 => ("HaloTrees", "past", "LHaloTrees$Past;", true)
  | 2 => ("HaloTrees", "images", "[LHaloTrees$Field;", true)
  | 3 => ("HaloTrees", "kept", "[Z", true)
  | 4 => ("HaloTrees", "forest", "LHaloTrees$Forest;", true)
  | 5 => ("HaloTrees", "trial", "LHaloTrees$Clumping;", true)
  | 6 => ("HaloTrees", "tree", "LHaloTrees$SplittingTree;", true)
  | _ => ("HaloTrees", "lots", "LHaloTrees$Lots;", true)
def tyX7 : Nat → FieldType := fun k => match k with
  | 0 => .object "HaloTrees$Field"
  | 1 => .object "HaloTrees$Past"
  | 2 => .array (.object "HaloTrees$Field")
  | 3 => .array .boolean
  | 4 => .object "HaloTrees$Forest"
  | 5 => .object "HaloTrees$Clumping"
  | 6 => .object "HaloTrees$SplittingTree"
  | _ => .object "HaloTrees$Lots"
theorem nmX7 : ∀ a, a < 8 → ∀ b, b < 8 → a ≠ b → (TX7 a).2.1 ≠ (TX7 b).2.1 := by decide +kernel
theorem tyX7_ok : ∀ k, k < 8 → parseFieldDescriptor (TX7 k).2.2.1 = some (tyX7 k) := by decide +kernel
abbrev cX7_init : ByteArray := prog_1_method_1_code
def yX7_init : MethodName := ⟨RX7, "<init>", "()V"⟩
abbrev cX7_picture : ByteArray := prog_1_method_2_code
def yX7_picture : MethodName := ⟨RX7, "picture", "()I"⟩
abbrev cX7_drop : ByteArray := prog_1_method_3_code
def yX7_drop : MethodName := ⟨RX7, "drop", "()I"⟩
abbrev cX7_put : ByteArray := prog_1_method_4_code
def yX7_put : MethodName := ⟨RX7, "put", "(IIII)I"⟩
abbrev cX7_lose : ByteArray := prog_1_method_5_code
def yX7_lose : MethodName := ⟨RX7, "lose", "(II)I"⟩
abbrev cX7_weigh : ByteArray := prog_1_method_6_code
def yX7_weigh : MethodName := ⟨RX7, "weigh", "(II)I"⟩
abbrev cX7_bound : ByteArray := prog_1_method_7_code
def yX7_bound : MethodName := ⟨RX7, "bound", "(II)I"⟩
abbrev cX7_drift : ByteArray := prog_1_method_8_code
def yX7_drift : MethodName := ⟨RX7, "drift", "(I)I"⟩
abbrev cX7_undo : ByteArray := prog_1_method_9_code
def yX7_undo : MethodName := ⟨RX7, "undo", "()I"⟩
abbrev cX7_told : ByteArray := prog_1_method_10_code
def yX7_told : MethodName := ⟨RX7, "told", "(I)I"⟩
abbrev cX7_ofPicture : ByteArray := prog_1_method_11_code
def yX7_ofPicture : MethodName := ⟨RX7, "ofPicture", "(II)I"⟩
abbrev cX7_grain : ByteArray := prog_1_method_12_code
def yX7_grain : MethodName := ⟨RX7, "grain", "(III)I"⟩
abbrev cX7_halo : ByteArray := prog_1_method_13_code
def yX7_halo : MethodName := ⟨RX7, "halo", "(III)I"⟩
abbrev cX7_from : ByteArray := prog_1_method_14_code
def yX7_from : MethodName := ⟨RX7, "from", "(II)I"⟩
abbrev cX7_branch : ByteArray := prog_1_method_15_code
def yX7_branch : MethodName := ⟨RX7, "branch", "(III)I"⟩
abbrev cX7_common : ByteArray := prog_1_method_16_code
def yX7_common : MethodName := ⟨RX7, "common", "(III)I"⟩
abbrev cX7_within : ByteArray := prog_1_method_17_code
def yX7_within : MethodName := ⟨RX7, "within", "(IIIII)I"⟩
abbrev cX7_nearest : ByteArray := prog_1_method_18_code
def yX7_nearest : MethodName := ⟨RX7, "nearest", "(III)I"⟩
abbrev cX7_below : ByteArray := prog_1_method_19_code
def yX7_below : MethodName := ⟨RX7, "below", "(III)I"⟩
abbrev cX7_steps : ByteArray := prog_1_method_20_code
def yX7_steps : MethodName := ⟨RX7, "steps", "(III)I"⟩
abbrev cX7_clumps : ByteArray := prog_1_method_21_code
def yX7_clumps : MethodName := ⟨RX7, "clumps", "(II)I"⟩
abbrev cX7_join : ByteArray := prog_1_method_22_code
def yX7_join : MethodName := ⟨RX7, "join", "(III)I"⟩
abbrev cX7_keep : ByteArray := prog_1_method_23_code
def yX7_keep : MethodName := ⟨RX7, "keep", "(I)I"⟩
abbrev cX7_goBack : ByteArray := prog_1_method_24_code
def yX7_goBack : MethodName := ⟨RX7, "goBack", "(I)I"⟩
abbrev cX7_isPicture : ByteArray := prog_1_method_25_code
def yX7_isPicture : MethodName := ⟨RX7, "isPicture", "(I)Z"⟩
abbrev cX7_isGrainOfPicture : ByteArray := prog_1_method_26_code
def yX7_isGrainOfPicture : MethodName := ⟨RX7, "isGrainOfPicture", "(II)Z"⟩
abbrev cX7_isHalo : ByteArray := prog_1_method_27_code
def yX7_isHalo : MethodName := ⟨RX7, "isHalo", "(II)Z"⟩
abbrev cX7_isGrain : ByteArray := prog_1_method_28_code
def yX7_isGrain : MethodName := ⟨RX7, "isGrain", "(I)Z"⟩
abbrev cX7_isImage : ByteArray := prog_1_method_29_code
def yX7_isImage : MethodName := ⟨RX7, "isImage", "(I)Z"⟩
abbrev cX7_isOnField : ByteArray := prog_1_method_30_code
def yX7_isOnField : MethodName := ⟨RX7, "isOnField", "(II)Z"⟩
abbrev cX7_isBetween : ByteArray := prog_1_method_31_code
def yX7_isBetween : MethodName := ⟨RX7, "isBetween", "(III)Z"⟩
abbrev cX7_has : ByteArray := prog_1_method_32_code
def yX7_has : MethodName := ⟨RX7, "has", "(II)Z"⟩
abbrev cX7_remember : ByteArray := prog_1_method_33_code
def yX7_remember : MethodName := ⟨RX7, "remember", "()V"⟩
abbrev cX7_clumpedBy : ByteArray := prog_1_method_34_code
def yX7_clumpedBy : MethodName := ⟨RX7, "clumpedBy", "(II)LHaloTrees$Clumping;"⟩
abbrev cX7_treeOf : ByteArray := prog_1_method_35_code
def yX7_treeOf : MethodName := ⟨RX7, "treeOf", "(I)LHaloTrees$SplittingTree;"⟩
abbrev cX7_strayed : ByteArray := prog_1_method_36_code
def yX7_strayed : MethodName := ⟨RX7, "strayed", "(II)I"⟩
def RX8 : String := "HaloTreesModel"
def TX8 : u_T := fun k => match k with
  | 0 => ("HaloTreesModel", "w", "[I", true)
  | 1 => ("HaloTreesModel", "isKept", "[Z", true)
  | 2 => ("HaloTreesModel", "undos", "I", false)
  | 3 => ("HaloTreesModel", "lot", "J", false)
  | 4 => ("HaloTreesModel", "halos", "[I", true)
  | 5 => ("HaloTreesModel", "haloMany", "[I", true)
  | 6 => ("HaloTreesModel", "top", "I", false)
  | 7 => ("HaloTreesModel", "left", "[I", true)
  | 8 => ("HaloTreesModel", "right", "[I", true)
  | 9 => ("HaloTreesModel", "depth", "[I", true)
  | 10 => ("HaloTreesModel", "line", "[I", true)
  | 11 => ("HaloTreesModel", "waits", "I", false)
  | 12 => ("HaloTreesModel", "waitFrom", "[I", true)
  | 13 => ("HaloTreesModel", "waitTo", "[I", true)
  | 14 => ("HaloTreesModel", "waitDepth", "[I", true)
  | _ => ("HaloTreesModel", "waitFor", "[I", true)
def tyX8 : Nat → FieldType := fun k => match k with
  | 0 => .array .int
  | 1 => .array .boolean
  | 2 => .int
  | 3 => .long
  | 4 => .array .int
  | 5 => .array .int
  | 6 => .int
  | 7 => .array .int
  | 8 => .array .int
  | 9 => .array .int
  | 10 => .array .int
  | 11 => .int
  | 12 => .array .int
  | 13 => .array .int
  | 14 => .array .int
  | _ => .array .int
theorem nmX8 : ∀ a, a < 16 → ∀ b, b < 16 → a ≠ b → (TX8 a).2.1 ≠ (TX8 b).2.1 := by decide +kernel
theorem tyX8_ok : ∀ k, k < 16 → parseFieldDescriptor (TX8 k).2.2.1 = some (tyX8 k) := by decide +kernel
abbrev cX8_init : ByteArray := prog_10_method_1_code
def yX8_init : MethodName := ⟨RX8, "<init>", "()V"⟩
abbrev cX8_in : ByteArray := prog_10_method_3_code
def yX8_in : MethodName := ⟨RX8, "in", "(JJJ)Z"⟩
abbrev cX8_has : ByteArray := prog_10_method_4_code
def yX8_has : MethodName := ⟨RX8, "has", "(II)Z"⟩
abbrev cX8_ones : ByteArray := prog_10_method_5_code
def yX8_ones : MethodName := ⟨RX8, "ones", "(I)I"⟩
abbrev cX8_isPicture : ByteArray := prog_10_method_6_code
def yX8_isPicture : MethodName := ⟨RX8, "isPicture", "(I)Z"⟩
abbrev cX8_isGrain : ByteArray := prog_10_method_7_code
def yX8_isGrain : MethodName := ⟨RX8, "isGrain", "(I)Z"⟩
abbrev cX8_isPlace : ByteArray := prog_10_method_8_code
def yX8_isPlace : MethodName := ⟨RX8, "isPlace", "(I)Z"⟩
abbrev cX8_copy : ByteArray := prog_10_method_9_code
def yX8_copy : MethodName := ⟨RX8, "copy", "(II)V"⟩
abbrev cX8_minds : ByteArray := prog_10_method_10_code
def yX8_minds : MethodName := ⟨RX8, "minds", "()V"⟩
abbrev cX8_of : ByteArray := prog_10_method_11_code
def yX8_of : MethodName := ⟨RX8, "of", "(I)I"⟩
abbrev cX8_setOf : ByteArray := prog_10_method_12_code
def yX8_setOf : MethodName := ⟨RX8, "setOf", "(I)I"⟩
abbrev cX8_x : ByteArray := prog_10_method_13_code
def yX8_x : MethodName := ⟨RX8, "x", "(II)I"⟩
abbrev cX8_y : ByteArray := prog_10_method_14_code
def yX8_y : MethodName := ⟨RX8, "y", "(II)I"⟩
abbrev cX8_lays : ByteArray := prog_10_method_15_code
def yX8_lays : MethodName := ⟨RX8, "lays", "(IIII)V"⟩
abbrev cX8_begins : ByteArray := prog_10_method_16_code
def yX8_begins : MethodName := ⟨RX8, "begins", "()I"⟩
abbrev cX8_picture : ByteArray := prog_10_method_17_code
def yX8_picture : MethodName := ⟨RX8, "picture", "()I"⟩
abbrev cX8_drop : ByteArray := prog_10_method_18_code
def yX8_drop : MethodName := ⟨RX8, "drop", "()I"⟩
abbrev cX8_put : ByteArray := prog_10_method_19_code
def yX8_put : MethodName := ⟨RX8, "put", "(IIII)I"⟩
abbrev cX8_lose : ByteArray := prog_10_method_20_code
def yX8_lose : MethodName := ⟨RX8, "lose", "(II)I"⟩
abbrev cX8_weigh : ByteArray := prog_10_method_21_code
def yX8_weigh : MethodName := ⟨RX8, "weigh", "(II)I"⟩
abbrev cX8_bound : ByteArray := prog_10_method_22_code
def yX8_bound : MethodName := ⟨RX8, "bound", "(II)I"⟩
abbrev cX8_draw : ByteArray := prog_10_method_23_code
def yX8_draw : MethodName := ⟨RX8, "draw", "(I)I"⟩
abbrev cX8_bounded : ByteArray := prog_10_method_24_code
def yX8_bounded : MethodName := ⟨RX8, "bounded", "(I)I"⟩
abbrev cX8_drift : ByteArray := prog_10_method_25_code
def yX8_drift : MethodName := ⟨RX8, "drift", "(I)I"⟩
abbrev cX8_undo : ByteArray := prog_10_method_26_code
def yX8_undo : MethodName := ⟨RX8, "undo", "()I"⟩
abbrev cX8_way : ByteArray := prog_10_method_27_code
def yX8_way : MethodName := ⟨RX8, "way", "(III)I"⟩
abbrev cX8_isLinked : ByteArray := prog_10_method_28_code
def yX8_isLinked : MethodName := ⟨RX8, "isLinked", "(IIII)Z"⟩
abbrev cX8_weight : ByteArray := prog_10_method_29_code
def yX8_weight : MethodName := ⟨RX8, "weight", "(I)I"⟩
abbrev cX8_clumpOf : ByteArray := prog_10_method_30_code
def yX8_clumpOf : MethodName := ⟨RX8, "clumpOf", "(IIII)I"⟩
abbrev cX8_clumpsOf : ByteArray := prog_10_method_31_code
def yX8_clumpsOf : MethodName := ⟨RX8, "clumpsOf", "(III)I"⟩
abbrev cX8_lowest : ByteArray := prog_10_method_32_code
def yX8_lowest : MethodName := ⟨RX8, "lowest", "(I)I"⟩
abbrev cX8_isAhead : ByteArray := prog_10_method_33_code
def yX8_isAhead : MethodName := ⟨RX8, "isAhead", "(II)Z"⟩
abbrev cX8_layHalos : ByteArray := prog_10_method_34_code
def yX8_layHalos : MethodName := ⟨RX8, "layHalos", "(I)V"⟩
abbrev cX8_layAll : ByteArray := prog_10_method_35_code
def yX8_layAll : MethodName := ⟨RX8, "layAll", "()V"⟩
abbrev cX8_isHalo : ByteArray := prog_10_method_36_code
def yX8_isHalo : MethodName := ⟨RX8, "isHalo", "(II)Z"⟩
abbrev cX8_haloSet : ByteArray := prog_10_method_37_code
def yX8_haloSet : MethodName := ⟨RX8, "haloSet", "(II)I"⟩
abbrev cX8_goesOn : ByteArray := prog_10_method_38_code
def yX8_goesOn : MethodName := ⟨RX8, "goesOn", "(II)I"⟩
abbrev cX8_comesFrom : ByteArray := prog_10_method_39_code
def yX8_comesFrom : MethodName := ⟨RX8, "comesFrom", "(II)I"⟩
abbrev cX8_mainOf : ByteArray := prog_10_method_40_code
def yX8_mainOf : MethodName := ⟨RX8, "mainOf", "(II)I"⟩
abbrev cX8_branchLong : ByteArray := prog_10_method_41_code
def yX8_branchLong : MethodName := ⟨RX8, "branchLong", "(II)I"⟩
abbrev cX8_strayed : ByteArray := prog_10_method_42_code
def yX8_strayed : MethodName := ⟨RX8, "strayed", "(II)I"⟩
abbrev cX8_countHalos : ByteArray := prog_10_method_43_code
def yX8_countHalos : MethodName := ⟨RX8, "countHalos", "(I)I"⟩
abbrev cX8_told : ByteArray := prog_10_method_44_code
def yX8_told : MethodName := ⟨RX8, "told", "(I)I"⟩
abbrev cX8_linksOf : ByteArray := prog_10_method_45_code
def yX8_linksOf : MethodName := ⟨RX8, "linksOf", "(II)I"⟩
abbrev cX8_links : ByteArray := prog_10_method_46_code
def yX8_links : MethodName := ⟨RX8, "links", "(I)I"⟩
abbrev cX8_halosOf : ByteArray := prog_10_method_47_code
def yX8_halosOf : MethodName := ⟨RX8, "halosOf", "(I)I"⟩
abbrev cX8_ofPicture : ByteArray := prog_10_method_48_code
def yX8_ofPicture : MethodName := ⟨RX8, "ofPicture", "(II)I"⟩
abbrev cX8_haloIn : ByteArray := prog_10_method_49_code
def yX8_haloIn : MethodName := ⟨RX8, "haloIn", "(II)I"⟩
abbrev cX8_holds : ByteArray := prog_10_method_50_code
def yX8_holds : MethodName := ⟨RX8, "holds", "(II)I"⟩
abbrev cX8_grain : ByteArray := prog_10_method_51_code
def yX8_grain : MethodName := ⟨RX8, "grain", "(III)I"⟩
abbrev cX8_grew : ByteArray := prog_10_method_52_code
def yX8_grew : MethodName := ⟨RX8, "grew", "(II)I"⟩
abbrev cX8_halo : ByteArray := prog_10_method_53_code
def yX8_halo : MethodName := ⟨RX8, "halo", "(III)I"⟩
abbrev cX8_from : ByteArray := prog_10_method_54_code
def yX8_from : MethodName := ⟨RX8, "from", "(II)I"⟩
abbrev cX8_branch : ByteArray := prog_10_method_55_code
def yX8_branch : MethodName := ⟨RX8, "branch", "(III)I"⟩
abbrev cX8_common : ByteArray := prog_10_method_56_code
def yX8_common : MethodName := ⟨RX8, "common", "(III)I"⟩
abbrev cX8_key : ByteArray := prog_10_method_57_code
def yX8_key : MethodName := ⟨RX8, "key", "(III)I"⟩
abbrev cX8_sorts : ByteArray := prog_10_method_58_code
def yX8_sorts : MethodName := ⟨RX8, "sorts", "(IIII)V"⟩
abbrev cX8_adds : ByteArray := prog_10_method_59_code
def yX8_adds : MethodName := ⟨RX8, "adds", "(IIII)V"⟩
abbrev cX8_layTree : ByteArray := prog_10_method_60_code
def yX8_layTree : MethodName := ⟨RX8, "layTree", "(I)V"⟩
abbrev cX8_longest : ByteArray := prog_10_method_61_code
def yX8_longest : MethodName := ⟨RX8, "longest", "(I)I"⟩
abbrev cX8_topOf : ByteArray := prog_10_method_62_code
def yX8_topOf : MethodName := ⟨RX8, "topOf", "(I)I"⟩
abbrev cX8_depthOf : ByteArray := prog_10_method_63_code
def yX8_depthOf : MethodName := ⟨RX8, "depthOf", "(II)I"⟩
abbrev cX8_farFrom : ByteArray := prog_10_method_64_code
def yX8_farFrom : MethodName := ⟨RX8, "farFrom", "(IIII)I"⟩
abbrev cX8_looked : ByteArray := prog_10_method_65_code
def yX8_looked : MethodName := ⟨RX8, "looked", "(IIII)I"⟩
abbrev cX8_within : ByteArray := prog_10_method_66_code
def yX8_within : MethodName := ⟨RX8, "within", "(IIIII)I"⟩
abbrev cX8_nearest : ByteArray := prog_10_method_67_code
def yX8_nearest : MethodName := ⟨RX8, "nearest", "(III)I"⟩
abbrev cX8_below : ByteArray := prog_10_method_68_code
def yX8_below : MethodName := ⟨RX8, "below", "(III)I"⟩
abbrev cX8_steps : ByteArray := prog_10_method_69_code
def yX8_steps : MethodName := ⟨RX8, "steps", "(III)I"⟩
abbrev cX8_clumps : ByteArray := prog_10_method_70_code
def yX8_clumps : MethodName := ⟨RX8, "clumps", "(II)I"⟩
abbrev cX8_join : ByteArray := prog_10_method_71_code
def yX8_join : MethodName := ⟨RX8, "join", "(III)I"⟩
abbrev cX8_keep : ByteArray := prog_10_method_72_code
def yX8_keep : MethodName := ⟨RX8, "keep", "(I)I"⟩
abbrev cX8_goBack : ByteArray := prog_10_method_73_code
def yX8_goBack : MethodName := ⟨RX8, "goBack", "(I)I"⟩
def RJ6 : String := "java/lang/Integer"
def TJ6 : u_T := fun k => match k with
  | _ => ("", "", "", false)
def tyJ6 : Nat → FieldType := fun k => match k with
  | _ => .int
theorem nmJ6 : ∀ a, a < 0 → ∀ b, b < 0 → a ≠ b → (TJ6 a).2.1 ≠ (TJ6 b).2.1 := by decide +kernel
theorem tyJ6_ok : ∀ k, k < 0 → parseFieldDescriptor (TJ6 k).2.2.1 = some (tyJ6 k) := by decide +kernel
abbrev cJ6_bitCount_0f7a4 : ByteArray := prog_11_method_49_code
def yJ6_bitCount_0f7a4 : MethodName := ⟨RJ6, "bitCount", "(I)I"⟩
def RJ9 : String := "java/lang/Math"
def TJ9 : u_T := fun k => match k with
  | _ => ("", "", "", false)
def tyJ9 : Nat → FieldType := fun k => match k with
  | _ => .int
theorem nmJ9 : ∀ a, a < 0 → ∀ b, b < 0 → a ≠ b → (TJ9 a).2.1 ≠ (TJ9 b).2.1 := by decide +kernel
theorem tyJ9_ok : ∀ k, k < 0 → parseFieldDescriptor (TJ9 k).2.2.1 = some (tyJ9 k) := by decide +kernel
abbrev cJ9_max_7cf53 : ByteArray := prog_12_method_65_code
def yJ9_max_7cf53 : MethodName := ⟨RJ9, "max", "(II)I"⟩
abbrev cJ9_min_7cf53 : ByteArray := prog_12_method_69_code
def yJ9_min_7cf53 : MethodName := ⟨RJ9, "min", "(II)I"⟩
def RJ10 : String := "java/lang/System"
def TJ10 : u_T := fun k => match k with
  | _ => ("", "", "", false)
def tyJ10 : Nat → FieldType := fun k => match k with
  | _ => .int
theorem nmJ10 : ∀ a, a < 0 → ∀ b, b < 0 → a ≠ b → (TJ10 a).2.1 ≠ (TJ10 b).2.1 := by decide +kernel
theorem tyJ10_ok : ∀ k, k < 0 → parseFieldDescriptor (TJ10 k).2.2.1 = some (tyJ10 k) := by decide +kernel
def RJ7 : String := "java/util/Arrays"
def TJ7 : u_T := fun k => match k with
  | _ => ("", "", "", false)
def tyJ7 : Nat → FieldType := fun k => match k with
  | _ => .int
theorem nmJ7 : ∀ a, a < 0 → ∀ b, b < 0 → a ≠ b → (TJ7 a).2.1 ≠ (TJ7 b).2.1 := by decide +kernel
theorem tyJ7_ok : ∀ k, k < 0 → parseFieldDescriptor (TJ7 k).2.2.1 = some (tyJ7 k) := by decide +kernel
abbrev cJ7_fill_53178 : ByteArray := prog_14_method_103_code
def yJ7_fill_53178 : MethodName := ⟨RJ7, "fill", "([II)V"⟩
def RL : String := "HaloTreesLaw"
abbrev cL_law : ByteArray := code
def yL_law : MethodName := ⟨RL, "law", "([I)Z"⟩
end
section
/-! THE SMALL MACHINE: a big-step reader of the same bytecode over a plain heap: what each cell holds is a function of its number.
    Cells are numbered 1, 2 .. as they are made; 0 is the law's script. -/
/-- cells made, slots made, the kind of each (0..8 an object of that class, 9 int[], 10 boolean[], 11.. rows of Clumping, Field, Halos), its length, what it refers to -/
abbrev jm_S : Type := Nat × Nat × (Nat → Nat) × (Nat → Nat) × (Nat → Nat → Option Nat)
/-- the shape, the ints (fields and elements), the longs -/
abbrev jm_T : Type := jm_S × (Nat → Nat → Int32) × (Nat → Nat → Int64)
abbrev jm_V : Type := List (Option Value)
abbrev jm_R : Type := Option Value × jm_T
/-- an instruction as it is read here: itself, its length, three numbers (jump, place, class, field, callee ..), an int, a long, a switch, the locals that are dead here -/
abbrev jm_I : Type := Instr × Nat × Nat × Nat × Nat × Int32 × Int64 × List (Int32 × Nat) × List Nat
/-- a method: its locals, what it gives back (0 nothing, 1 int, 2 boolean, 3 a reference), its code -/
abbrev jm_M : Type := Nat × Nat × List (Nat × jm_I)

def jm_fts : List (List Nat) := [[0, 0, 1, 1], [0, 0, 0, 1, 1], [3, 0, 1, 1], [0, 1, 1, 1, 1, 1, 1], [2], [1, 0, 0], [0, 0, 1, 1, 1, 1, 1, 1], [1, 1, 1, 1, 1, 1, 1, 1], [1, 1, 0, 2, 1, 1, 0, 1, 1, 1, 1, 0, 1, 1, 1, 1]]
def jm_ft (c k : Nat) : Nat := (jm_fts.getD c []).getD k 9
def jm_nf (c : Nat) : Nat := (jm_fts.getD c []).length
def jm_cn (c : Nat) : String := match c with
  | 0 => RX0 | 1 => RX1 | 2 => RX2 | 3 => RX3 | 4 => RX4 | 5 => RX5 | 6 => RX6 | 7 => RX7 | _ => RX8
def jm_cT (c : Nat) : u_T := match c with
  | 0 => TX0 | 1 => TX1 | 2 => TX2 | 3 => TX3 | 4 => TX4 | 5 => TX5 | 6 => TX6 | 7 => TX7 | _ => TX8
def jm_ty (c : Nat) : Nat → FieldType := match c with
  | 0 => tyX0 | 1 => tyX1 | 2 => tyX2 | 3 => tyX3 | 4 => tyX4 | 5 => tyX5 | 6 => tyX6 | 7 => tyX7 | _ => tyX8
def jm_cl : List vw_C := [(RX0, TX0, 4), (RX1, TX1, 5), (RX2, TX2, 4), (RX3, TX3, 7), (RX4, TX4, 1), (RX5, TX5, 3), (RX6, TX6, 8), (RX7, TX7, 8), (RX8, TX8, 16)]
/-- the class of the elements of a row of references -/
def jm_ec (k : Nat) : Nat := match k with
  | 11 => 0 | 12 => 1 | _ => 3

def jm_at : List (Nat × jm_I) → Nat → Option jm_I
  | [], _ => none
  | (k, i) :: r, pc => bif Nat.beq k pc then some i else jm_at r pc
def jm_lk (ls : jm_V) (i : Nat) : Option Value := match ls[i]? with
  | some (some v) => some v
  | _ => none
def jm_set : jm_V → Nat → Option Value → jm_V
  | [], _, _ => []
  | _ :: r, 0, v => v :: r
  | x :: r, i + 1, v => x :: jm_set r i v
/-- dead locals go -/
def jm_kl : List Nat → jm_V → jm_V
  | [], ls => ls
  | i :: r, ls => jm_kl r (jm_set ls i none)
/-- storing a value of one slot: a long that stood just ahead is broken -/
def jm_st1 (ls : jm_V) (i : Nat) (v : Value) : jm_V := match i with
  | 0 => jm_set ls 0 (some v)
  | j + 1 => match jm_lk ls j with
    | some (.long _) => jm_set (jm_set ls j none) (j + 1) (some v)
    | some (.double _) => jm_set (jm_set ls j none) (j + 1) (some v)
    | _ => jm_set ls (j + 1) (some v)
def jm_up (M : Nat → Nat → Int32) (a k : Nat) (v : Int32) : Nat → Nat → Int32 := va_up M a (upd (M a) k v)
def jm_upL (M : Nat → Nat → Int64) (a k : Nat) (v : Int64) : Nat → Nat → Int64 := va_up M a (vp_updL (M a) k v)
def jm_upR (M : Nat → Nat → Option Nat) (a k : Nat) (v : Option Nat) : Nat → Nat → Option Nat := va_up M a (va_up (M a) k v)
/-- cell a is there and is of this kind -/
def jm_is (S : jm_S) (a k : Nat) : Bool := Nat.blt 0 a && Nat.ble a S.1 && Nat.beq (S.2.2.1 a) k
/-- cell a is a row of references -/
def jm_ir (S : jm_S) (a : Nat) : Bool := Nat.blt 0 a && Nat.ble a S.1 && Nat.ble 11 (S.2.2.1 a) && Nat.ble (S.2.2.1 a) 13
def jm_inb (i : Int32) (n : Nat) : Bool := !(decide (i < 0)) && Nat.blt i.toNatClampNeg n
def jm_if (b : Bool) (x : Option jm_R) : Option jm_R := bif b then x else none
def jm_z1 (x : Int32) : Bool := decide (x = 0) || decide (x = 1)
def jm_c0 (c : Jvm.ClassFile.Cond) (x : Int32) : Bool := match c with
  | .eq => decide (x = 0) | .ne => !decide (x = 0) | .lt => decide (x < 0) | .ge => decide (0 ≤ x) | .gt => decide (0 < x) | .le => decide (x ≤ 0)
def jm_c2 (c : Jvm.ClassFile.Cond) (x y : Int32) : Bool := match c with
  | .eq => decide (x = y) | .ne => !decide (x = y) | .lt => decide (x < y) | .ge => decide (y ≤ x) | .gt => decide (y < x) | .le => decide (x ≤ y)
def jm_sw (k : Nat → Option jm_R) (x : Int32) (d : Nat) : List (Int32 × Nat) → Option jm_R
  | [] => k d
  | (c, q) :: r => bif decide (x = c) then k q else jm_sw k x d r
def jm_sum (st : List Value) : Nat := (st.map fun v => v.category).sum
/-- a new cell of a kind, of so many slots, of this length -/
def jm_nw (t : jm_T) (kind len slots : Nat) : jm_T := ((t.1.1 + 1, t.1.2.1 + slots, va_up t.1.2.2.1 (t.1.1 + 1) kind, va_up t.1.2.2.2.1 (t.1.1 + 1) len, va_up t.1.2.2.2.2 (t.1.1 + 1) (fun _ => none)), va_up t.2.1 (t.1.1 + 1) (fun _ => 0), va_up t.2.2 (t.1.1 + 1) (fun _ => 0))
def jm_en (n : Nat) (as : List Value) : jm_V := (as.flatMap fun v => match v.category with | 2 => [some v, none] | _ => [some v]) ++ List.replicate (n - (lg_sl as).length) none

/-- one instruction: k goes on in this method, C calls another -/
def jm_step (op : Instr) (u v w : Nat) (c : Int32) (cl : Int64) (ts : List (Int32 × Nat)) (d ret pc : Nat) (ls : jm_V) (st : List Value) (t : jm_T) (k : Nat → jm_V → List Value → jm_T → Option jm_R) (C : Nat → List Value → jm_T → Option jm_R) : Option jm_R := match op with
  | .iconst _ => k (pc + 1) ls (.int c :: st) t
  | .bipush _ => k (pc + 2) ls (.int c :: st) t
  | .sipush _ => k (pc + 3) ls (.int c :: st) t
  | .ldc _ => k (pc + 2) ls (.int c :: st) t
  | .ldc_w _ => k (pc + 3) ls (.int c :: st) t
  | .ldc2_w _ => k (pc + 3) ls (.long cl :: st) t
  | .lconst _ => k (pc + 1) ls (.long cl :: st) t
  | .iload _ => match jm_lk ls u with
    | some (.int x) => k (pc + 2) ls (.int x :: st) t
    | _ => none
  | .iload_n _ => match jm_lk ls u with
    | some (.int x) => k (pc + 1) ls (.int x :: st) t
    | _ => none
  | .lload _ => match jm_lk ls u with
    | some (.long x) => k (pc + 2) ls (.long x :: st) t
    | _ => none
  | .lload_n _ => match jm_lk ls u with
    | some (.long x) => k (pc + 1) ls (.long x :: st) t
    | _ => none
  | .aload _ => match jm_lk ls u with
    | some (.ref x) => k (pc + 2) ls (.ref x :: st) t
    | _ => none
  | .aload_n _ => match jm_lk ls u with
    | some (.ref x) => k (pc + 1) ls (.ref x :: st) t
    | _ => none
  | .istore _ => match st with
    | .int x :: st => k (pc + 2) (jm_st1 ls u (.int x)) st t
    | _ => none
  | .istore_n _ => match st with
    | .int x :: st => k (pc + 1) (jm_st1 ls u (.int x)) st t
    | _ => none
  | .astore _ => match st with
    | .ref x :: st => k (pc + 2) (jm_st1 ls u (.ref x)) st t
    | _ => none
  | .astore_n _ => match st with
    | .ref x :: st => k (pc + 1) (jm_st1 ls u (.ref x)) st t
    | _ => none
  | .iinc _ _ => match jm_lk ls u with
    | some (.int x) => k (pc + 3) (jm_st1 ls u (.int (x + c))) st t
    | _ => none
  | .iadd => match st with
    | .int y :: .int x :: st => k (pc + 1) ls (.int (x + y) :: st) t
    | _ => none
  | .isub => match st with
    | .int y :: .int x :: st => k (pc + 1) ls (.int (x - y) :: st) t
    | _ => none
  | .imul => match st with
    | .int y :: .int x :: st => k (pc + 1) ls (.int (x * y) :: st) t
    | _ => none
  | .iand => match st with
    | .int y :: .int x :: st => k (pc + 1) ls (.int (x &&& y) :: st) t
    | _ => none
  | .ior => match st with
    | .int y :: .int x :: st => k (pc + 1) ls (.int (x ||| y) :: st) t
    | _ => none
  | .ixor => match st with
    | .int y :: .int x :: st => k (pc + 1) ls (.int (x ^^^ y) :: st) t
    | _ => none
  | .ishl => match st with
    | .int y :: .int x :: st => k (pc + 1) ls (.int (x <<< (y &&& 31)) :: st) t
    | _ => none
  | .ishr => match st with
    | .int y :: .int x :: st => k (pc + 1) ls (.int (x >>> (y &&& 31)) :: st) t
    | _ => none
  | .iushr => match st with
    | .int y :: .int x :: st => k (pc + 1) ls (.int (x.toUInt32 >>> (y.toUInt32 &&& Int32.toUInt32 31)).toInt32 :: st) t
    | _ => none
  | .idiv => match st with
    | .int y :: .int x :: st => jm_if (!decide (y = 0)) (k (pc + 1) ls (.int (x / y) :: st) t)
    | _ => none
  | .irem => match st with
    | .int y :: .int x :: st => jm_if (!decide (y = 0)) (k (pc + 1) ls (.int (x - x / y * y) :: st) t)
    | _ => none
  | .lmul => match st with
    | .long y :: .long x :: st => k (pc + 1) ls (.long (x * y) :: st) t
    | _ => none
  | .lrem => match st with
    | .long y :: .long x :: st => jm_if (!decide (y = 0)) (k (pc + 1) ls (.long (x - x / y * y) :: st) t)
    | _ => none
  | .lcmp => match st with
    | .long y :: .long x :: st => k (pc + 1) ls (.int (lg_cmp x y) :: st) t
    | _ => none
  | .l2i => match st with
    | .long x :: st => k (pc + 1) ls (.int x.toInt32 :: st) t
    | _ => none
  | .i2l => match st with
    | .int x :: st => k (pc + 1) ls (.long x.toInt64 :: st) t
    | _ => none
  | .dup => match st with
    | x :: st => jm_if (Nat.beq x.category 1) (k (pc + 1) ls (x :: x :: st) t)
    | _ => none
  | .dup2 => match st with
    | x :: y :: st => jm_if (Nat.beq x.category 1 && Nat.beq y.category 1) (k (pc + 1) ls (x :: y :: x :: y :: st) t)
    | _ => none
  | .goto _ => k u ls st t
  | .ifCond q _ => match st with
    | .int x :: st => bif jm_c0 q x then k u ls st t else k (pc + 3) ls st t
    | _ => none
  | .if_icmp q _ => match st with
    | .int y :: .int x :: st => bif jm_c2 q x y then k u ls st t else k (pc + 3) ls st t
    | _ => none
  | .tableswitch _ _ _ _ => match st with
    | .int x :: st => jm_sw (fun q => k q ls st t) x u ts
    | _ => none
  | .lookupswitch _ _ => match st with
    | .int x :: st => jm_sw (fun q => k q ls st t) x u ts
    | _ => none
  | .getfield _ => match st with
    | .ref a :: st => jm_if (jm_is t.1 a u) (match jm_ft u v with
      | 1 => match t.1.2.2.2.2 a v with
        | some b => k (pc + 3) ls (.ref b :: st) t
        | none => none
      | 2 => k (pc + 3) ls (.long (t.2.2 a v) :: st) t
      | _ => k (pc + 3) ls (.int (t.2.1 a v) :: st) t)
    | _ => none
  | .putfield _ => match jm_ft u v with
    | 0 => match st with
      | .int x :: .ref a :: st => jm_if (jm_is t.1 a u) (k (pc + 3) ls st (t.1, jm_up t.2.1 a v x, t.2.2))
      | _ => none
    | 3 => match st with
      | .int x :: .ref a :: st => jm_if (jm_is t.1 a u && jm_z1 x) (k (pc + 3) ls st (t.1, jm_up t.2.1 a v x, t.2.2))
      | _ => none
    | 2 => match st with
      | .long x :: .ref a :: st => jm_if (jm_is t.1 a u) (k (pc + 3) ls st (t.1, t.2.1, jm_upL t.2.2 a v x))
      | _ => none
    | 1 => match st with
      | .ref x :: .ref a :: st => jm_if (jm_is t.1 a u) (k (pc + 3) ls st ((t.1.1, t.1.2.1, t.1.2.2.1, t.1.2.2.2.1, jm_upR t.1.2.2.2.2 a v (some x)), t.2.1, t.2.2))
      | _ => none
    | _ => none
  | .arraylength => match st with
    | .ref a :: st => jm_if ((Nat.beq w 1 && Nat.beq a 0) || (Nat.beq w 0 && jm_is t.1 a 9)) (k (pc + 1) ls (.int (Int32.ofNat (t.1.2.2.2.1 a)) :: st) t)
    | _ => none
  | .iaload => match st with
    | .int i :: .ref a :: st => jm_if (((Nat.beq w 1 && Nat.beq a 0) || (Nat.beq w 0 && jm_is t.1 a 9)) && jm_inb i (t.1.2.2.2.1 a)) (k (pc + 1) ls (.int (t.2.1 a i.toNatClampNeg) :: st) t)
    | _ => none
  | .baload => match st with
    | .int i :: .ref a :: st => jm_if (jm_is t.1 a 10 && jm_inb i (t.1.2.2.2.1 a)) (k (pc + 1) ls (.int (t.2.1 a i.toNatClampNeg) :: st) t)
    | _ => none
  | .iastore => match st with
    | .int x :: .int i :: .ref a :: st => jm_if (jm_is t.1 a 9 && jm_inb i (t.1.2.2.2.1 a)) (k (pc + 1) ls st (t.1, jm_up t.2.1 a i.toNatClampNeg x, t.2.2))
    | _ => none
  | .bastore => match st with
    | .int x :: .int i :: .ref a :: st => jm_if (jm_is t.1 a 10 && jm_inb i (t.1.2.2.2.1 a) && jm_z1 x) (k (pc + 1) ls st (t.1, jm_up t.2.1 a i.toNatClampNeg x, t.2.2))
    | _ => none
  | .aaload => match st with
    | .int i :: .ref a :: st => jm_if (jm_ir t.1 a && jm_inb i (t.1.2.2.2.1 a)) (match t.1.2.2.2.2 a i.toNatClampNeg with
      | some b => k (pc + 1) ls (.ref b :: st) t
      | none => none)
    | _ => none
  | .aastore => match st with
    | .ref b :: .int i :: .ref a :: st => jm_if (jm_ir t.1 a && jm_inb i (t.1.2.2.2.1 a) && jm_is t.1 b (jm_ec (t.1.2.2.1 a))) (k (pc + 1) ls st ((t.1.1, t.1.2.1, t.1.2.2.1, t.1.2.2.2.1, jm_upR t.1.2.2.2.2 a i.toNatClampNeg (some b)), t.2.1, t.2.2))
    | _ => none
  | .new _ => k (pc + 3) ls (.ref (t.1.1 + 1) :: st) (jm_nw t u 0 (jm_nf u))
  | .newarray _ => match st with
    | .int x :: st => jm_if (jm_inb x 10000) (k (pc + 2) ls (.ref (t.1.1 + 1) :: st) (jm_nw t u x.toNatClampNeg x.toNatClampNeg))
    | _ => none
  | .anewarray _ => match st with
    | .int x :: st => jm_if (jm_inb x 10000) (k (pc + 3) ls (.ref (t.1.1 + 1) :: st) (jm_nw t u x.toNatClampNeg x.toNatClampNeg))
    | _ => none
  | .invokevirtual _ => match (st.take v).reverse with
    | .ref a :: as => jm_if (Nat.ble (jm_sum (st.drop v)) 8 && Nat.beq as.length (v - 1) && jm_is t.1 a w) (match C u (.ref a :: as) t with
      | some r => k (pc + 3) ls (r.1.toList ++ st.drop v) r.2
      | none => none)
    | _ => none
  | .invokestatic _ => match w with
    | 7 => match st with
      | .int n :: .int dp :: .ref a :: .int sp :: .ref b :: st => jm_if (Nat.blt 0 d && Nat.ble (jm_sum st) 8 && jm_is t.1 a 9 && jm_is t.1 b 9 && !decide (n < 0) && !decide (dp < 0) && !decide (sp < 0) && Nat.ble (sp.toNatClampNeg + n.toNatClampNeg) (t.1.2.2.2.1 b) && Nat.ble (dp.toNatClampNeg + n.toNatClampNeg) (t.1.2.2.2.1 a))
        (k (pc + 3) ls st (t.1, va_up t.2.1 a (va_cpy (t.2.1 b) (t.2.1 a) sp.toNatClampNeg dp.toNatClampNeg n.toNatClampNeg), t.2.2))
      | _ => none
    | _ => jm_if (Nat.ble (jm_sum (st.drop v)) 8 && Nat.beq (st.take v).reverse.length v) (match C u (st.take v).reverse t with
      | some r => k (pc + 3) ls (r.1.toList ++ st.drop v) r.2
      | none => none)
  | .invokespecial _ => match w with
    | 7 => match st with
      | .ref _ :: st => jm_if (Nat.blt 0 d && Nat.ble (jm_sum st) 8) (k (pc + 3) ls st t)
      | _ => none
    | _ => match (st.take v).reverse with
      | .ref a :: as => jm_if (Nat.ble (jm_sum (st.drop v)) 8 && Nat.beq as.length (v - 1)) (match C u (.ref a :: as) t with
        | some r => k (pc + 3) ls (r.1.toList ++ st.drop v) r.2
        | none => none)
      | _ => none
  | .ireturn => match st with
    | [.int x] => match ret with
      | 1 => some (some (.int x), t)
      | 2 => jm_if (jm_z1 x) (some (some (.int x), t))
      | _ => none
    | _ => none
  | .areturn => match st with
    | [.ref a] => match ret with
      | 3 => some (some (.ref a), t)
      | _ => none
    | _ => none
  | .return_ => match st with
    | [] => match ret with
      | 0 => some (none, t)
      | _ => none
    | _ => none
  | _ => none

/-- a method's body from pc on, at most n instructions deep; d calls may stand open below it -/
def jm_run (G : Nat → jm_M) : Nat → Nat → jm_M → Nat → jm_V → List Value → jm_T → Option jm_R
  | 0, _, _, _, _, _, _ => none
  | n + 1, d, Y, pc, ls, st, t => match jm_at Y.2.2 pc with
    | none => none
    | some (op, _, u, v, w, c, cl, ts, kl) => jm_step op u v w c cl ts d Y.2.1 pc (jm_kl kl ls) st t (fun pc ls st t => jm_run G n d Y pc ls st t)
        (fun y as t => match d with
          | 0 => none
          | d + 1 => jm_if (Nat.ble (lg_sl as).length (G y).1) (jm_run G n d (G y) 0 (jm_en (G y).1 as) [] t))
end
section
theorem i_vc : Claimed_1_1 ∧ Claimed_1_2 := sorry
end
