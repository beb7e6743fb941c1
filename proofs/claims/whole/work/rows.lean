section
-- ===== PART A: goes FIRST, ahead of the names: the tables' words, and 'selects' of the private methods out of them =====
/-- a private method of a class that the tables say can be made, by its rows of tables_1 -/
def lw_okq (q : MethodName × Nat) : Prop := (q.1.cls ≠ "java/lang/invoke/MethodHandle" ∧ q.1.cls ≠ "java/lang/invoke/VarHandle") ∧ Cond.instantiable q.1.cls q.2 ∈ tables_1 ∧ Cond.privateMethod q.1 ∈ tables_1 ∧ Cond.instanceMethod q.1 ∈ tables_1
theorem lw_p0 : lw_okq (⟨"HaloTrees", "remember", "()V"⟩, 8) := ⟨⟨by decide +kernel, by decide +kernel⟩, List.mem_of_getElem? (i := 15) (by decide +kernel), List.mem_of_getElem? (i := 244) (by decide +kernel), List.mem_of_getElem? (i := 245) (by decide +kernel)⟩
theorem lw_p1 : lw_okq (⟨"HaloTrees", "isGrainOfPicture", "(II)Z"⟩, 8) := ⟨⟨by decide +kernel, by decide +kernel⟩, List.mem_of_getElem? (i := 15) (by decide +kernel), List.mem_of_getElem? (i := 276) (by decide +kernel), List.mem_of_getElem? (i := 277) (by decide +kernel)⟩
theorem lw_p2 : lw_okq (⟨"HaloTrees", "isPicture", "(I)Z"⟩, 8) := ⟨⟨by decide +kernel, by decide +kernel⟩, List.mem_of_getElem? (i := 15) (by decide +kernel), List.mem_of_getElem? (i := 280) (by decide +kernel), List.mem_of_getElem? (i := 281) (by decide +kernel)⟩
theorem lw_p3 : lw_okq (⟨"HaloTrees$Lots", "draw", "()I"⟩, 1) := ⟨⟨by decide +kernel, by decide +kernel⟩, List.mem_of_getElem? (i := 204) (by decide +kernel), List.mem_of_getElem? (i := 340) (by decide +kernel), List.mem_of_getElem? (i := 341) (by decide +kernel)⟩
theorem lw_p4 : lw_okq (⟨"HaloTrees$Lots", "layAnywhere", "(LHaloTrees$Field;II)V"⟩, 1) := ⟨⟨by decide +kernel, by decide +kernel⟩, List.mem_of_getElem? (i := 204) (by decide +kernel), List.mem_of_getElem? (i := 346) (by decide +kernel), List.mem_of_getElem? (i := 347) (by decide +kernel)⟩
theorem lw_p5 : lw_okq (⟨"HaloTrees$Lots", "shifted", "(I)I"⟩, 1) := ⟨⟨by decide +kernel, by decide +kernel⟩, List.mem_of_getElem? (i := 204) (by decide +kernel), List.mem_of_getElem? (i := 360) (by decide +kernel), List.mem_of_getElem? (i := 361) (by decide +kernel)⟩
theorem lw_p6 : lw_okq (⟨"HaloTrees$Clumping", "linkToLesser", "(LHaloTrees$Field;III)V"⟩, 4) := ⟨⟨by decide +kernel, by decide +kernel⟩, List.mem_of_getElem? (i := 85) (by decide +kernel), List.mem_of_getElem? (i := 396) (by decide +kernel), List.mem_of_getElem? (i := 397) (by decide +kernel)⟩
theorem lw_p7 : lw_okq (⟨"HaloTrees$Clumping", "reachedFrom", "(II)I"⟩, 4) := ⟨⟨by decide +kernel, by decide +kernel⟩, List.mem_of_getElem? (i := 85) (by decide +kernel), List.mem_of_getElem? (i := 416) (by decide +kernel), List.mem_of_getElem? (i := 417) (by decide +kernel)⟩
theorem lw_p8 : lw_okq (⟨"HaloTrees$Clumping", "linkedToAny", "(I)I"⟩, 4) := ⟨⟨by decide +kernel, by decide +kernel⟩, List.mem_of_getElem? (i := 85) (by decide +kernel), List.mem_of_getElem? (i := 420) (by decide +kernel), List.mem_of_getElem? (i := 421) (by decide +kernel)⟩
theorem lw_p9 : lw_okq (⟨"HaloTrees$Clumping", "tellMembers", "(I)V"⟩, 4) := ⟨⟨by decide +kernel, by decide +kernel⟩, List.mem_of_getElem? (i := 85) (by decide +kernel), List.mem_of_getElem? (i := 424) (by decide +kernel), List.mem_of_getElem? (i := 425) (by decide +kernel)⟩
theorem lw_p10 : lw_okq (⟨"HaloTrees$Halos", "insert", "(II)V"⟩, 7) := ⟨⟨by decide +kernel, by decide +kernel⟩, List.mem_of_getElem? (i := 109) (by decide +kernel), List.mem_of_getElem? (i := 438) (by decide +kernel), List.mem_of_getElem? (i := 439) (by decide +kernel)⟩
theorem lw_p11 : lw_okq (⟨"HaloTrees$Halos", "withMostOf", "(LHaloTrees$Field;I)I"⟩, 7) := ⟨⟨by decide +kernel, by decide +kernel⟩, List.mem_of_getElem? (i := 109) (by decide +kernel), List.mem_of_getElem? (i := 455) (by decide +kernel), List.mem_of_getElem? (i := 456) (by decide +kernel)⟩
theorem lw_p12 : lw_okq (⟨"HaloTrees", "treeOf", "(I)LHaloTrees$SplittingTree;"⟩, 8) := ⟨⟨by decide +kernel, by decide +kernel⟩, List.mem_of_getElem? (i := 15) (by decide +kernel), List.mem_of_getElem? (i := 485) (by decide +kernel), List.mem_of_getElem? (i := 486) (by decide +kernel)⟩
theorem lw_p13 : lw_okq (⟨"HaloTrees$SplittingTree", "split", "(III)I"⟩, 8) := ⟨⟨by decide +kernel, by decide +kernel⟩, List.mem_of_getElem? (i := 168) (by decide +kernel), List.mem_of_getElem? (i := 497) (by decide +kernel), List.mem_of_getElem? (i := 498) (by decide +kernel)⟩
theorem lw_p14 : lw_okq (⟨"HaloTrees$SplittingTree", "sort", "(III)V"⟩, 8) := ⟨⟨by decide +kernel, by decide +kernel⟩, List.mem_of_getElem? (i := 168) (by decide +kernel), List.mem_of_getElem? (i := 501) (by decide +kernel), List.mem_of_getElem? (i := 502) (by decide +kernel)⟩
theorem lw_p15 : lw_okq (⟨"HaloTrees$SplittingTree", "rankOf", "(II)I"⟩, 8) := ⟨⟨by decide +kernel, by decide +kernel⟩, List.mem_of_getElem? (i := 168) (by decide +kernel), List.mem_of_getElem? (i := 505) (by decide +kernel), List.mem_of_getElem? (i := 506) (by decide +kernel)⟩
def lw_privs_1 : List (MethodName × Nat) := [(⟨"HaloTrees", "remember", "()V"⟩, 8), (⟨"HaloTrees", "isGrainOfPicture", "(II)Z"⟩, 8), (⟨"HaloTrees", "isPicture", "(I)Z"⟩, 8), (⟨"HaloTrees$Lots", "draw", "()I"⟩, 1), (⟨"HaloTrees$Lots", "layAnywhere", "(LHaloTrees$Field;II)V"⟩, 1), (⟨"HaloTrees$Lots", "shifted", "(I)I"⟩, 1), (⟨"HaloTrees$Clumping", "linkToLesser", "(LHaloTrees$Field;III)V"⟩, 4), (⟨"HaloTrees$Clumping", "reachedFrom", "(II)I"⟩, 4), (⟨"HaloTrees$Clumping", "linkedToAny", "(I)I"⟩, 4), (⟨"HaloTrees$Clumping", "tellMembers", "(I)V"⟩, 4), (⟨"HaloTrees$Halos", "insert", "(II)V"⟩, 7), (⟨"HaloTrees$Halos", "withMostOf", "(LHaloTrees$Field;I)I"⟩, 7), (⟨"HaloTrees", "treeOf", "(I)LHaloTrees$SplittingTree;"⟩, 8), (⟨"HaloTrees$SplittingTree", "split", "(III)I"⟩, 8), (⟨"HaloTrees$SplittingTree", "sort", "(III)V"⟩, 8), (⟨"HaloTrees$SplittingTree", "rankOf", "(II)I"⟩, 8)]
theorem lw_r1 : ∀ q ∈ lw_privs_1, lw_okq q := List.forall_mem_cons.mpr ⟨lw_p0, List.forall_mem_cons.mpr ⟨lw_p1, List.forall_mem_cons.mpr ⟨lw_p2, List.forall_mem_cons.mpr ⟨lw_p3, List.forall_mem_cons.mpr ⟨lw_p4, List.forall_mem_cons.mpr ⟨lw_p5, List.forall_mem_cons.mpr ⟨lw_p6, List.forall_mem_cons.mpr ⟨lw_p7, List.forall_mem_cons.mpr ⟨lw_p8, List.forall_mem_cons.mpr ⟨lw_p9, List.forall_mem_cons.mpr ⟨lw_p10, List.forall_mem_cons.mpr ⟨lw_p11, List.forall_mem_cons.mpr ⟨lw_p12, List.forall_mem_cons.mpr ⟨lw_p13, List.forall_mem_cons.mpr ⟨lw_p14, List.forall_mem_cons.mpr ⟨lw_p15, fun _ h => absurd h List.not_mem_nil⟩⟩⟩⟩⟩⟩⟩⟩⟩⟩⟩⟩⟩⟩⟩⟩
theorem lw_p16 : lw_okq (⟨"HaloTrees", "isHalo", "(II)Z"⟩, 8) := ⟨⟨by decide +kernel, by decide +kernel⟩, List.mem_of_getElem? (i := 15) (by decide +kernel), List.mem_of_getElem? (i := 529) (by decide +kernel), List.mem_of_getElem? (i := 530) (by decide +kernel)⟩
theorem lw_p17 : lw_okq (⟨"HaloTrees", "strayed", "(II)I"⟩, 8) := ⟨⟨by decide +kernel, by decide +kernel⟩, List.mem_of_getElem? (i := 15) (by decide +kernel), List.mem_of_getElem? (i := 537) (by decide +kernel), List.mem_of_getElem? (i := 538) (by decide +kernel)⟩
theorem lw_p18 : lw_okq (⟨"HaloTrees$SplittingTree", "lookedAtFrom", "(IIIII)I"⟩, 8) := ⟨⟨by decide +kernel, by decide +kernel⟩, List.mem_of_getElem? (i := 168) (by decide +kernel), List.mem_of_getElem? (i := 570) (by decide +kernel), List.mem_of_getElem? (i := 571) (by decide +kernel)⟩
theorem lw_p19 : lw_okq (⟨"HaloTrees", "clumpedBy", "(II)LHaloTrees$Clumping;"⟩, 8) := ⟨⟨by decide +kernel, by decide +kernel⟩, List.mem_of_getElem? (i := 15) (by decide +kernel), List.mem_of_getElem? (i := 595) (by decide +kernel), List.mem_of_getElem? (i := 596) (by decide +kernel)⟩
theorem lw_p20 : lw_okq (⟨"HaloTreesModel", "minds", "()V"⟩, 16) := ⟨⟨by decide +kernel, by decide +kernel⟩, List.mem_of_getElem? (i := 622) (by decide +kernel), List.mem_of_getElem? (i := 682) (by decide +kernel), List.mem_of_getElem? (i := 683) (by decide +kernel)⟩
theorem lw_p21 : lw_okq (⟨"HaloTreesModel", "copy", "(II)V"⟩, 16) := ⟨⟨by decide +kernel, by decide +kernel⟩, List.mem_of_getElem? (i := 622) (by decide +kernel), List.mem_of_getElem? (i := 686) (by decide +kernel), List.mem_of_getElem? (i := 687) (by decide +kernel)⟩
theorem lw_p22 : lw_okq (⟨"HaloTreesModel", "begins", "()I"⟩, 16) := ⟨⟨by decide +kernel, by decide +kernel⟩, List.mem_of_getElem? (i := 622) (by decide +kernel), List.mem_of_getElem? (i := 690) (by decide +kernel), List.mem_of_getElem? (i := 691) (by decide +kernel)⟩
theorem lw_p23 : lw_okq (⟨"HaloTreesModel", "isPicture", "(I)Z"⟩, 16) := ⟨⟨by decide +kernel, by decide +kernel⟩, List.mem_of_getElem? (i := 622) (by decide +kernel), List.mem_of_getElem? (i := 706) (by decide +kernel), List.mem_of_getElem? (i := 707) (by decide +kernel)⟩
theorem lw_p24 : lw_okq (⟨"HaloTreesModel", "setOf", "(I)I"⟩, 16) := ⟨⟨by decide +kernel, by decide +kernel⟩, List.mem_of_getElem? (i := 622) (by decide +kernel), List.mem_of_getElem? (i := 723) (by decide +kernel), List.mem_of_getElem? (i := 724) (by decide +kernel)⟩
theorem lw_p25 : lw_okq (⟨"HaloTreesModel", "lays", "(IIII)V"⟩, 16) := ⟨⟨by decide +kernel, by decide +kernel⟩, List.mem_of_getElem? (i := 622) (by decide +kernel), List.mem_of_getElem? (i := 730) (by decide +kernel), List.mem_of_getElem? (i := 731) (by decide +kernel)⟩
theorem lw_p26 : lw_okq (⟨"HaloTreesModel", "draw", "(I)I"⟩, 16) := ⟨⟨by decide +kernel, by decide +kernel⟩, List.mem_of_getElem? (i := 622) (by decide +kernel), List.mem_of_getElem? (i := 757) (by decide +kernel), List.mem_of_getElem? (i := 758) (by decide +kernel)⟩
theorem lw_p27 : lw_okq (⟨"HaloTreesModel", "x", "(II)I"⟩, 16) := ⟨⟨by decide +kernel, by decide +kernel⟩, List.mem_of_getElem? (i := 622) (by decide +kernel), List.mem_of_getElem? (i := 763) (by decide +kernel), List.mem_of_getElem? (i := 764) (by decide +kernel)⟩
theorem lw_p28 : lw_okq (⟨"HaloTreesModel", "y", "(II)I"⟩, 16) := ⟨⟨by decide +kernel, by decide +kernel⟩, List.mem_of_getElem? (i := 622) (by decide +kernel), List.mem_of_getElem? (i := 770) (by decide +kernel), List.mem_of_getElem? (i := 771) (by decide +kernel)⟩
theorem lw_p29 : lw_okq (⟨"HaloTreesModel", "countHalos", "(I)I"⟩, 16) := ⟨⟨by decide +kernel, by decide +kernel⟩, List.mem_of_getElem? (i := 622) (by decide +kernel), List.mem_of_getElem? (i := 782) (by decide +kernel), List.mem_of_getElem? (i := 783) (by decide +kernel)⟩
theorem lw_p30 : lw_okq (⟨"HaloTreesModel", "layAll", "()V"⟩, 16) := ⟨⟨by decide +kernel, by decide +kernel⟩, List.mem_of_getElem? (i := 622) (by decide +kernel), List.mem_of_getElem? (i := 786) (by decide +kernel), List.mem_of_getElem? (i := 787) (by decide +kernel)⟩
theorem lw_p31 : lw_okq (⟨"HaloTreesModel", "layHalos", "(I)V"⟩, 16) := ⟨⟨by decide +kernel, by decide +kernel⟩, List.mem_of_getElem? (i := 622) (by decide +kernel), List.mem_of_getElem? (i := 790) (by decide +kernel), List.mem_of_getElem? (i := 791) (by decide +kernel)⟩
def lw_privs_2 : List (MethodName × Nat) := [(⟨"HaloTrees", "isHalo", "(II)Z"⟩, 8), (⟨"HaloTrees", "strayed", "(II)I"⟩, 8), (⟨"HaloTrees$SplittingTree", "lookedAtFrom", "(IIIII)I"⟩, 8), (⟨"HaloTrees", "clumpedBy", "(II)LHaloTrees$Clumping;"⟩, 8), (⟨"HaloTreesModel", "minds", "()V"⟩, 16), (⟨"HaloTreesModel", "copy", "(II)V"⟩, 16), (⟨"HaloTreesModel", "begins", "()I"⟩, 16), (⟨"HaloTreesModel", "isPicture", "(I)Z"⟩, 16), (⟨"HaloTreesModel", "setOf", "(I)I"⟩, 16), (⟨"HaloTreesModel", "lays", "(IIII)V"⟩, 16), (⟨"HaloTreesModel", "draw", "(I)I"⟩, 16), (⟨"HaloTreesModel", "x", "(II)I"⟩, 16), (⟨"HaloTreesModel", "y", "(II)I"⟩, 16), (⟨"HaloTreesModel", "countHalos", "(I)I"⟩, 16), (⟨"HaloTreesModel", "layAll", "()V"⟩, 16), (⟨"HaloTreesModel", "layHalos", "(I)V"⟩, 16)]
theorem lw_r2 : ∀ q ∈ lw_privs_2, lw_okq q := List.forall_mem_cons.mpr ⟨lw_p16, List.forall_mem_cons.mpr ⟨lw_p17, List.forall_mem_cons.mpr ⟨lw_p18, List.forall_mem_cons.mpr ⟨lw_p19, List.forall_mem_cons.mpr ⟨lw_p20, List.forall_mem_cons.mpr ⟨lw_p21, List.forall_mem_cons.mpr ⟨lw_p22, List.forall_mem_cons.mpr ⟨lw_p23, List.forall_mem_cons.mpr ⟨lw_p24, List.forall_mem_cons.mpr ⟨lw_p25, List.forall_mem_cons.mpr ⟨lw_p26, List.forall_mem_cons.mpr ⟨lw_p27, List.forall_mem_cons.mpr ⟨lw_p28, List.forall_mem_cons.mpr ⟨lw_p29, List.forall_mem_cons.mpr ⟨lw_p30, List.forall_mem_cons.mpr ⟨lw_p31, fun _ h => absurd h List.not_mem_nil⟩⟩⟩⟩⟩⟩⟩⟩⟩⟩⟩⟩⟩⟩⟩⟩
theorem lw_p32 : lw_okq (⟨"HaloTreesModel", "clumpOf", "(IIII)I"⟩, 16) := ⟨⟨by decide +kernel, by decide +kernel⟩, List.mem_of_getElem? (i := 622) (by decide +kernel), List.mem_of_getElem? (i := 794) (by decide +kernel), List.mem_of_getElem? (i := 795) (by decide +kernel)⟩
theorem lw_p33 : lw_okq (⟨"HaloTreesModel", "isLinked", "(IIII)Z"⟩, 16) := ⟨⟨by decide +kernel, by decide +kernel⟩, List.mem_of_getElem? (i := 622) (by decide +kernel), List.mem_of_getElem? (i := 798) (by decide +kernel), List.mem_of_getElem? (i := 799) (by decide +kernel)⟩
theorem lw_p34 : lw_okq (⟨"HaloTreesModel", "way", "(III)I"⟩, 16) := ⟨⟨by decide +kernel, by decide +kernel⟩, List.mem_of_getElem? (i := 622) (by decide +kernel), List.mem_of_getElem? (i := 802) (by decide +kernel), List.mem_of_getElem? (i := 803) (by decide +kernel)⟩
theorem lw_p35 : lw_okq (⟨"HaloTreesModel", "weight", "(I)I"⟩, 16) := ⟨⟨by decide +kernel, by decide +kernel⟩, List.mem_of_getElem? (i := 622) (by decide +kernel), List.mem_of_getElem? (i := 806) (by decide +kernel), List.mem_of_getElem? (i := 807) (by decide +kernel)⟩
theorem lw_p36 : lw_okq (⟨"HaloTreesModel", "isAhead", "(II)Z"⟩, 16) := ⟨⟨by decide +kernel, by decide +kernel⟩, List.mem_of_getElem? (i := 622) (by decide +kernel), List.mem_of_getElem? (i := 810) (by decide +kernel), List.mem_of_getElem? (i := 811) (by decide +kernel)⟩
theorem lw_p37 : lw_okq (⟨"HaloTreesModel", "goesOn", "(II)I"⟩, 16) := ⟨⟨by decide +kernel, by decide +kernel⟩, List.mem_of_getElem? (i := 622) (by decide +kernel), List.mem_of_getElem? (i := 817) (by decide +kernel), List.mem_of_getElem? (i := 818) (by decide +kernel)⟩
theorem lw_p38 : lw_okq (⟨"HaloTreesModel", "haloSet", "(II)I"⟩, 16) := ⟨⟨by decide +kernel, by decide +kernel⟩, List.mem_of_getElem? (i := 622) (by decide +kernel), List.mem_of_getElem? (i := 821) (by decide +kernel), List.mem_of_getElem? (i := 822) (by decide +kernel)⟩
theorem lw_p39 : lw_okq (⟨"HaloTreesModel", "comesFrom", "(II)I"⟩, 16) := ⟨⟨by decide +kernel, by decide +kernel⟩, List.mem_of_getElem? (i := 622) (by decide +kernel), List.mem_of_getElem? (i := 825) (by decide +kernel), List.mem_of_getElem? (i := 826) (by decide +kernel)⟩
theorem lw_p40 : lw_okq (⟨"HaloTreesModel", "branchLong", "(II)I"⟩, 16) := ⟨⟨by decide +kernel, by decide +kernel⟩, List.mem_of_getElem? (i := 622) (by decide +kernel), List.mem_of_getElem? (i := 829) (by decide +kernel), List.mem_of_getElem? (i := 830) (by decide +kernel)⟩
theorem lw_p41 : lw_okq (⟨"HaloTreesModel", "mainOf", "(II)I"⟩, 16) := ⟨⟨by decide +kernel, by decide +kernel⟩, List.mem_of_getElem? (i := 622) (by decide +kernel), List.mem_of_getElem? (i := 833) (by decide +kernel), List.mem_of_getElem? (i := 834) (by decide +kernel)⟩
theorem lw_p42 : lw_okq (⟨"HaloTreesModel", "links", "(I)I"⟩, 16) := ⟨⟨by decide +kernel, by decide +kernel⟩, List.mem_of_getElem? (i := 622) (by decide +kernel), List.mem_of_getElem? (i := 841) (by decide +kernel), List.mem_of_getElem? (i := 842) (by decide +kernel)⟩
theorem lw_p43 : lw_okq (⟨"HaloTreesModel", "linksOf", "(II)I"⟩, 16) := ⟨⟨by decide +kernel, by decide +kernel⟩, List.mem_of_getElem? (i := 622) (by decide +kernel), List.mem_of_getElem? (i := 845) (by decide +kernel), List.mem_of_getElem? (i := 846) (by decide +kernel)⟩
theorem lw_p44 : lw_okq (⟨"HaloTreesModel", "clumpsOf", "(III)I"⟩, 16) := ⟨⟨by decide +kernel, by decide +kernel⟩, List.mem_of_getElem? (i := 622) (by decide +kernel), List.mem_of_getElem? (i := 849) (by decide +kernel), List.mem_of_getElem? (i := 850) (by decide +kernel)⟩
theorem lw_p45 : lw_okq (⟨"HaloTreesModel", "halosOf", "(I)I"⟩, 16) := ⟨⟨by decide +kernel, by decide +kernel⟩, List.mem_of_getElem? (i := 622) (by decide +kernel), List.mem_of_getElem? (i := 853) (by decide +kernel), List.mem_of_getElem? (i := 854) (by decide +kernel)⟩
theorem lw_p46 : lw_okq (⟨"HaloTreesModel", "longest", "(I)I"⟩, 16) := ⟨⟨by decide +kernel, by decide +kernel⟩, List.mem_of_getElem? (i := 622) (by decide +kernel), List.mem_of_getElem? (i := 857) (by decide +kernel), List.mem_of_getElem? (i := 858) (by decide +kernel)⟩
theorem lw_p47 : lw_okq (⟨"HaloTreesModel", "layTree", "(I)V"⟩, 16) := ⟨⟨by decide +kernel, by decide +kernel⟩, List.mem_of_getElem? (i := 622) (by decide +kernel), List.mem_of_getElem? (i := 861) (by decide +kernel), List.mem_of_getElem? (i := 862) (by decide +kernel)⟩
def lw_privs_3 : List (MethodName × Nat) := [(⟨"HaloTreesModel", "clumpOf", "(IIII)I"⟩, 16), (⟨"HaloTreesModel", "isLinked", "(IIII)Z"⟩, 16), (⟨"HaloTreesModel", "way", "(III)I"⟩, 16), (⟨"HaloTreesModel", "weight", "(I)I"⟩, 16), (⟨"HaloTreesModel", "isAhead", "(II)Z"⟩, 16), (⟨"HaloTreesModel", "goesOn", "(II)I"⟩, 16), (⟨"HaloTreesModel", "haloSet", "(II)I"⟩, 16), (⟨"HaloTreesModel", "comesFrom", "(II)I"⟩, 16), (⟨"HaloTreesModel", "branchLong", "(II)I"⟩, 16), (⟨"HaloTreesModel", "mainOf", "(II)I"⟩, 16), (⟨"HaloTreesModel", "links", "(I)I"⟩, 16), (⟨"HaloTreesModel", "linksOf", "(II)I"⟩, 16), (⟨"HaloTreesModel", "clumpsOf", "(III)I"⟩, 16), (⟨"HaloTreesModel", "halosOf", "(I)I"⟩, 16), (⟨"HaloTreesModel", "longest", "(I)I"⟩, 16), (⟨"HaloTreesModel", "layTree", "(I)V"⟩, 16)]
theorem lw_r3 : ∀ q ∈ lw_privs_3, lw_okq q := List.forall_mem_cons.mpr ⟨lw_p32, List.forall_mem_cons.mpr ⟨lw_p33, List.forall_mem_cons.mpr ⟨lw_p34, List.forall_mem_cons.mpr ⟨lw_p35, List.forall_mem_cons.mpr ⟨lw_p36, List.forall_mem_cons.mpr ⟨lw_p37, List.forall_mem_cons.mpr ⟨lw_p38, List.forall_mem_cons.mpr ⟨lw_p39, List.forall_mem_cons.mpr ⟨lw_p40, List.forall_mem_cons.mpr ⟨lw_p41, List.forall_mem_cons.mpr ⟨lw_p42, List.forall_mem_cons.mpr ⟨lw_p43, List.forall_mem_cons.mpr ⟨lw_p44, List.forall_mem_cons.mpr ⟨lw_p45, List.forall_mem_cons.mpr ⟨lw_p46, List.forall_mem_cons.mpr ⟨lw_p47, fun _ h => absurd h List.not_mem_nil⟩⟩⟩⟩⟩⟩⟩⟩⟩⟩⟩⟩⟩⟩⟩⟩
theorem lw_p48 : lw_okq (⟨"HaloTreesModel", "adds", "(IIII)V"⟩, 16) := ⟨⟨by decide +kernel, by decide +kernel⟩, List.mem_of_getElem? (i := 622) (by decide +kernel), List.mem_of_getElem? (i := 865) (by decide +kernel), List.mem_of_getElem? (i := 866) (by decide +kernel)⟩
theorem lw_p49 : lw_okq (⟨"HaloTreesModel", "sorts", "(IIII)V"⟩, 16) := ⟨⟨by decide +kernel, by decide +kernel⟩, List.mem_of_getElem? (i := 622) (by decide +kernel), List.mem_of_getElem? (i := 869) (by decide +kernel), List.mem_of_getElem? (i := 870) (by decide +kernel)⟩
theorem lw_p50 : lw_okq (⟨"HaloTreesModel", "key", "(III)I"⟩, 16) := ⟨⟨by decide +kernel, by decide +kernel⟩, List.mem_of_getElem? (i := 622) (by decide +kernel), List.mem_of_getElem? (i := 873) (by decide +kernel), List.mem_of_getElem? (i := 874) (by decide +kernel)⟩
theorem lw_p51 : lw_okq (⟨"HaloTreesModel", "topOf", "(I)I"⟩, 16) := ⟨⟨by decide +kernel, by decide +kernel⟩, List.mem_of_getElem? (i := 622) (by decide +kernel), List.mem_of_getElem? (i := 878) (by decide +kernel), List.mem_of_getElem? (i := 879) (by decide +kernel)⟩
theorem lw_p52 : lw_okq (⟨"HaloTreesModel", "haloIn", "(II)I"⟩, 16) := ⟨⟨by decide +kernel, by decide +kernel⟩, List.mem_of_getElem? (i := 622) (by decide +kernel), List.mem_of_getElem? (i := 886) (by decide +kernel), List.mem_of_getElem? (i := 887) (by decide +kernel)⟩
theorem lw_p53 : lw_okq (⟨"HaloTreesModel", "holds", "(II)I"⟩, 16) := ⟨⟨by decide +kernel, by decide +kernel⟩, List.mem_of_getElem? (i := 622) (by decide +kernel), List.mem_of_getElem? (i := 890) (by decide +kernel), List.mem_of_getElem? (i := 891) (by decide +kernel)⟩
theorem lw_p54 : lw_okq (⟨"HaloTreesModel", "depthOf", "(II)I"⟩, 16) := ⟨⟨by decide +kernel, by decide +kernel⟩, List.mem_of_getElem? (i := 622) (by decide +kernel), List.mem_of_getElem? (i := 894) (by decide +kernel), List.mem_of_getElem? (i := 895) (by decide +kernel)⟩
theorem lw_p55 : lw_okq (⟨"HaloTreesModel", "isHalo", "(II)Z"⟩, 16) := ⟨⟨by decide +kernel, by decide +kernel⟩, List.mem_of_getElem? (i := 622) (by decide +kernel), List.mem_of_getElem? (i := 902) (by decide +kernel), List.mem_of_getElem? (i := 903) (by decide +kernel)⟩
theorem lw_p56 : lw_okq (⟨"HaloTreesModel", "grew", "(II)I"⟩, 16) := ⟨⟨by decide +kernel, by decide +kernel⟩, List.mem_of_getElem? (i := 622) (by decide +kernel), List.mem_of_getElem? (i := 906) (by decide +kernel), List.mem_of_getElem? (i := 907) (by decide +kernel)⟩
theorem lw_p57 : lw_okq (⟨"HaloTreesModel", "strayed", "(II)I"⟩, 16) := ⟨⟨by decide +kernel, by decide +kernel⟩, List.mem_of_getElem? (i := 622) (by decide +kernel), List.mem_of_getElem? (i := 910) (by decide +kernel), List.mem_of_getElem? (i := 911) (by decide +kernel)⟩
theorem lw_p58 : lw_okq (⟨"HaloTreesModel", "farFrom", "(IIII)I"⟩, 16) := ⟨⟨by decide +kernel, by decide +kernel⟩, List.mem_of_getElem? (i := 622) (by decide +kernel), List.mem_of_getElem? (i := 932) (by decide +kernel), List.mem_of_getElem? (i := 933) (by decide +kernel)⟩
theorem lw_p59 : lw_okq (⟨"HaloTreesModel", "looked", "(IIII)I"⟩, 16) := ⟨⟨by decide +kernel, by decide +kernel⟩, List.mem_of_getElem? (i := 622) (by decide +kernel), List.mem_of_getElem? (i := 936) (by decide +kernel), List.mem_of_getElem? (i := 937) (by decide +kernel)⟩
def lw_privs_4 : List (MethodName × Nat) := [(⟨"HaloTreesModel", "adds", "(IIII)V"⟩, 16), (⟨"HaloTreesModel", "sorts", "(IIII)V"⟩, 16), (⟨"HaloTreesModel", "key", "(III)I"⟩, 16), (⟨"HaloTreesModel", "topOf", "(I)I"⟩, 16), (⟨"HaloTreesModel", "haloIn", "(II)I"⟩, 16), (⟨"HaloTreesModel", "holds", "(II)I"⟩, 16), (⟨"HaloTreesModel", "depthOf", "(II)I"⟩, 16), (⟨"HaloTreesModel", "isHalo", "(II)Z"⟩, 16), (⟨"HaloTreesModel", "grew", "(II)I"⟩, 16), (⟨"HaloTreesModel", "strayed", "(II)I"⟩, 16), (⟨"HaloTreesModel", "farFrom", "(IIII)I"⟩, 16), (⟨"HaloTreesModel", "looked", "(IIII)I"⟩, 16)]
theorem lw_r4 : ∀ q ∈ lw_privs_4, lw_okq q := List.forall_mem_cons.mpr ⟨lw_p48, List.forall_mem_cons.mpr ⟨lw_p49, List.forall_mem_cons.mpr ⟨lw_p50, List.forall_mem_cons.mpr ⟨lw_p51, List.forall_mem_cons.mpr ⟨lw_p52, List.forall_mem_cons.mpr ⟨lw_p53, List.forall_mem_cons.mpr ⟨lw_p54, List.forall_mem_cons.mpr ⟨lw_p55, List.forall_mem_cons.mpr ⟨lw_p56, List.forall_mem_cons.mpr ⟨lw_p57, List.forall_mem_cons.mpr ⟨lw_p58, List.forall_mem_cons.mpr ⟨lw_p59, fun _ h => absurd h List.not_mem_nil⟩⟩⟩⟩⟩⟩⟩⟩⟩⟩⟩⟩
def lw_privs : List (MethodName × Nat) := lw_privs_1 ++ (lw_privs_2 ++ (lw_privs_3 ++ (lw_privs_4)))
def lw_tbl : List Cond := k2_sels lw_privs ++ tables_1
theorem lw_privs_ok : ∀ q ∈ lw_privs, lw_okq q := by
  show ∀ q ∈ lw_privs_1 ++ (lw_privs_2 ++ (lw_privs_3 ++ (lw_privs_4))), lw_okq q
  exact List.forall_mem_append.mpr ⟨lw_r1, List.forall_mem_append.mpr ⟨lw_r2, List.forall_mem_append.mpr ⟨lw_r3, lw_r4⟩⟩⟩
end
section
def RX0 : String := "HaloTrees$Clumping"
def TX0 : u_T := fun k => match k with
  | 0 => ("HaloTrees$Clumping", "links", "I", false)
  | 1 => ("HaloTrees$Clumping", "count", "I", false)
  | 2 => ("HaloTrees$Clumping", "linked", "[I", true)
  | _ => ("HaloTrees$Clumping", "clump", "[I", true)
def tyX0 : Nat → FieldType := fun k => match k with
  | 0 => .int
  | 1 => .int
  | 2 => .array .int
  | _ => .array .int
theorem nmX0 : ∀ a, a < 4 → ∀ b, b < 4 → a ≠ b → (TX0 a).2.1 ≠ (TX0 b).2.1 := by decide +kernel
theorem tyX0_ok : ∀ k, k < 4 → parseFieldDescriptor (TX0 k).2.2.1 = some (tyX0 k) := by decide +kernel
abbrev cX0_init : ByteArray := prog_2_method_1_code
def yX0_init : MethodName := ⟨RX0, "<init>", "()V"⟩
abbrev cX0_link : ByteArray := prog_2_method_2_code
def yX0_link : MethodName := ⟨RX0, "link", "(LHaloTrees$Field;II)V"⟩
abbrev cX0_linkToLesser : ByteArray := prog_2_method_3_code
def yX0_linkToLesser : MethodName := ⟨RX0, "linkToLesser", "(LHaloTrees$Field;III)V"⟩
abbrev cX0_gatherClumps : ByteArray := prog_2_method_4_code
def yX0_gatherClumps : MethodName := ⟨RX0, "gatherClumps", "(I)V"⟩
abbrev cX0_tellMembers : ByteArray := prog_2_method_5_code
def yX0_tellMembers : MethodName := ⟨RX0, "tellMembers", "(I)V"⟩
abbrev cX0_reachedFrom : ByteArray := prog_2_method_6_code
def yX0_reachedFrom : MethodName := ⟨RX0, "reachedFrom", "(II)I"⟩
abbrev cX0_linkedToAny : ByteArray := prog_2_method_7_code
def yX0_linkedToAny : MethodName := ⟨RX0, "linkedToAny", "(I)I"⟩
abbrev cX0_countSteps : ByteArray := prog_2_method_8_code
def yX0_countSteps : MethodName := ⟨RX0, "countSteps", "(II)I"⟩
abbrev cX0_isHolding : ByteArray := prog_2_method_9_code
def yX0_isHolding : MethodName := ⟨RX0, "isHolding", "(I)Z"⟩
def RX1 : String := "HaloTrees$Field"
def TX1 : u_T := fun k => match k with
  | 0 => ("HaloTrees$Field", "pictures", "I", false)
  | 1 => ("HaloTrees$Field", "length", "I", false)
  | 2 => ("HaloTrees$Field", "least", "I", false)
  | 3 => ("HaloTrees$Field", "weight", "[I", true)
  | _ => ("HaloTrees$Field", "place", "[I", true)
def tyX1 : Nat → FieldType := fun k => match k with
  | 0 => .int
  | 1 => .int
  | 2 => .int
  | 3 => .array .int
  | _ => .array .int
theorem nmX1 : ∀ a, a < 5 → ∀ b, b < 5 → a ≠ b → (TX1 a).2.1 ≠ (TX1 b).2.1 := by decide +kernel
theorem tyX1_ok : ∀ k, k < 5 → parseFieldDescriptor (TX1 k).2.2.1 = some (tyX1 k) := by decide +kernel
abbrev cX1_init : ByteArray := prog_3_method_1_code
def yX1_init : MethodName := ⟨RX1, "<init>", "()V"⟩
abbrev cX1_become : ByteArray := prog_3_method_2_code
def yX1_become : MethodName := ⟨RX1, "become", "(LHaloTrees$Field;)V"⟩
abbrev cX1_addPicture : ByteArray := prog_3_method_3_code
def yX1_addPicture : MethodName := ⟨RX1, "addPicture", "()I"⟩
abbrev cX1_lay : ByteArray := prog_3_method_4_code
def yX1_lay : MethodName := ⟨RX1, "lay", "(IIII)V"⟩
abbrev cX1_takeAway : ByteArray := prog_3_method_5_code
def yX1_takeAway : MethodName := ⟨RX1, "takeAway", "(II)V"⟩
abbrev cX1_isIn : ByteArray := prog_3_method_6_code
def yX1_isIn : MethodName := ⟨RX1, "isIn", "(II)Z"⟩
abbrev cX1_xOf : ByteArray := prog_3_method_7_code
def yX1_xOf : MethodName := ⟨RX1, "xOf", "(II)I"⟩
abbrev cX1_yOf : ByteArray := prog_3_method_8_code
def yX1_yOf : MethodName := ⟨RX1, "yOf", "(II)I"⟩
abbrev cX1_way : ByteArray := prog_3_method_9_code
def yX1_way : MethodName := ⟨RX1, "way", "(IIII)I"⟩
abbrev cX1_grainsOf : ByteArray := prog_3_method_10_code
def yX1_grainsOf : MethodName := ⟨RX1, "grainsOf", "(I)I"⟩
abbrev cX1_near : ByteArray := prog_3_method_11_code
def yX1_near : MethodName := ⟨RX1, "near", "(IIII)I"⟩
abbrev cX1_weightOf : ByteArray := prog_3_method_12_code
def yX1_weightOf : MethodName := ⟨RX1, "weightOf", "(I)I"⟩
def RX2 : String := "HaloTrees$Forest"
def TX2 : u_T := fun k => match k with
  | 0 => ("HaloTrees$Forest", "fresh", "Z", false)
  | 1 => ("HaloTrees$Forest", "pictures", "I", false)
  | 2 => ("HaloTrees$Forest", "clumpings", "[LHaloTrees$Clumping;", true)
  | _ => ("HaloTrees$Forest", "halos", "[LHaloTrees$Halos;", true)
def tyX2 : Nat → FieldType := fun k => match k with
  | 0 => .boolean
  | 1 => .int
  | 2 => .array (.object "HaloTrees$Clumping")
  | _ => .array (.object "HaloTrees$Halos")
theorem nmX2 : ∀ a, a < 4 → ∀ b, b < 4 → a ≠ b → (TX2 a).2.1 ≠ (TX2 b).2.1 := by decide +kernel
theorem tyX2_ok : ∀ k, k < 4 → parseFieldDescriptor (TX2 k).2.2.1 = some (tyX2 k) := by decide +kernel
abbrev cX2_init : ByteArray := prog_4_method_1_code
def yX2_init : MethodName := ⟨RX2, "<init>", "()V"⟩
abbrev cX2_surveyed : ByteArray := prog_4_method_2_code
def yX2_surveyed : MethodName := ⟨RX2, "surveyed", "(LHaloTrees$Field;)LHaloTrees$Forest;"⟩
abbrev cX2_branchBack : ByteArray := prog_4_method_3_code
def yX2_branchBack : MethodName := ⟨RX2, "branchBack", "(III)I"⟩
abbrev cX2_weightOfMain : ByteArray := prog_4_method_4_code
def yX2_weightOfMain : MethodName := ⟨RX2, "weightOfMain", "(II)I"⟩
abbrev cX2_countHalos : ByteArray := prog_4_method_5_code
def yX2_countHalos : MethodName := ⟨RX2, "countHalos", "()I"⟩
abbrev cX2_countEnding : ByteArray := prog_4_method_6_code
def yX2_countEnding : MethodName := ⟨RX2, "countEnding", "()I"⟩
abbrev cX2_countBeginning : ByteArray := prog_4_method_7_code
def yX2_countBeginning : MethodName := ⟨RX2, "countBeginning", "()I"⟩
abbrev cX2_longestBranch : ByteArray := prog_4_method_8_code
def yX2_longestBranch : MethodName := ⟨RX2, "longestBranch", "()I"⟩
def RX3 : String := "HaloTrees$Halos"
def TX3 : u_T := fun k => match k with
  | 0 => ("HaloTrees$Halos", "count", "I", false)
  | 1 => ("HaloTrees$Halos", "grains", "[I", true)
  | 2 => ("HaloTrees$Halos", "weight", "[I", true)
  | 3 => ("HaloTrees$Halos", "goesOn", "[I", true)
  | 4 => ("HaloTrees$Halos", "comesFrom", "[I", true)
  | 5 => ("HaloTrees$Halos", "main", "[I", true)
  | _ => ("HaloTrees$Halos", "branchLength", "[I", true)
def tyX3 : Nat → FieldType := fun k => match k with
  | 0 => .int
  | 1 => .array .int
  | 2 => .array .int
  | 3 => .array .int
  | 4 => .array .int
  | 5 => .array .int
  | _ => .array .int
theorem nmX3 : ∀ a, a < 7 → ∀ b, b < 7 → a ≠ b → (TX3 a).2.1 ≠ (TX3 b).2.1 := by decide +kernel
theorem tyX3_ok : ∀ k, k < 7 → parseFieldDescriptor (TX3 k).2.2.1 = some (tyX3 k) := by decide +kernel
abbrev cX3_init : ByteArray := prog_5_method_1_code
def yX3_init : MethodName := ⟨RX3, "<init>", "()V"⟩
abbrev cX3_gather : ByteArray := prog_5_method_2_code
def yX3_gather : MethodName := ⟨RX3, "gather", "(LHaloTrees$Field;LHaloTrees$Clumping;)V"⟩
abbrev cX3_insert : ByteArray := prog_5_method_3_code
def yX3_insert : MethodName := ⟨RX3, "insert", "(II)V"⟩
abbrev cX3_numberOf : ByteArray := prog_5_method_4_code
def yX3_numberOf : MethodName := ⟨RX3, "numberOf", "(I)I"⟩
abbrev cX3_goOnNowhere : ByteArray := prog_5_method_5_code
def yX3_goOnNowhere : MethodName := ⟨RX3, "goOnNowhere", "()V"⟩
abbrev cX3_goOnIn : ByteArray := prog_5_method_6_code
def yX3_goOnIn : MethodName := ⟨RX3, "goOnIn", "(LHaloTrees$Field;LHaloTrees$Halos;)V"⟩
abbrev cX3_withMostOf : ByteArray := prog_5_method_7_code
def yX3_withMostOf : MethodName := ⟨RX3, "withMostOf", "(LHaloTrees$Field;I)I"⟩
abbrev cX3_comeFromNowhere : ByteArray := prog_5_method_8_code
def yX3_comeFromNowhere : MethodName := ⟨RX3, "comeFromNowhere", "()V"⟩
abbrev cX3_comeFromThose : ByteArray := prog_5_method_9_code
def yX3_comeFromThose : MethodName := ⟨RX3, "comeFromThose", "(LHaloTrees$Halos;)V"⟩
def RX4 : String := "HaloTrees$Lots"
def TX4 : u_T := fun k => match k with
  | _ => ("HaloTrees$Lots", "latest", "J", false)
def tyX4 : Nat → FieldType := fun k => match k with
  | _ => .long
theorem nmX4 : ∀ a, a < 1 → ∀ b, b < 1 → a ≠ b → (TX4 a).2.1 ≠ (TX4 b).2.1 := by decide +kernel
theorem tyX4_ok : ∀ k, k < 1 → parseFieldDescriptor (TX4 k).2.2.1 = some (tyX4 k) := by decide +kernel
abbrev cX4_init : ByteArray := prog_6_method_1_code
def yX4_init : MethodName := ⟨RX4, "<init>", "()V"⟩
abbrev cX4_begin : ByteArray := prog_6_method_2_code
def yX4_begin : MethodName := ⟨RX4, "begin", "(I)V"⟩
abbrev cX4_draw : ByteArray := prog_6_method_3_code
def yX4_draw : MethodName := ⟨RX4, "draw", "()I"⟩
abbrev cX4_scatter : ByteArray := prog_6_method_4_code
def yX4_scatter : MethodName := ⟨RX4, "scatter", "(LHaloTrees$Field;II)V"⟩
abbrev cX4_carryOn : ByteArray := prog_6_method_5_code
def yX4_carryOn : MethodName := ⟨RX4, "carryOn", "(LHaloTrees$Field;II)V"⟩
abbrev cX4_layAnywhere : ByteArray := prog_6_method_6_code
def yX4_layAnywhere : MethodName := ⟨RX4, "layAnywhere", "(LHaloTrees$Field;II)V"⟩
abbrev cX4_shifted : ByteArray := prog_6_method_7_code
def yX4_shifted : MethodName := ⟨RX4, "shifted", "(I)I"⟩
def RX5 : String := "HaloTrees$Past"
def TX5 : u_T := fun k => match k with
  | 0 => ("HaloTrees$Past", "ring", "[LHaloTrees$Field;", true)
  | 1 => ("HaloTrees$Past", "oldest", "I", false)
  | _ => ("HaloTrees$Past", "count", "I", false)
def tyX5 : Nat → FieldType := fun k => match k with
  | 0 => .array (.object "HaloTrees$Field")
  | 1 => .int
  | _ => .int
theorem nmX5 : ∀ a, a < 3 → ∀ b, b < 3 → a ≠ b → (TX5 a).2.1 ≠ (TX5 b).2.1 := by decide +kernel
theorem tyX5_ok : ∀ k, k < 3 → parseFieldDescriptor (TX5 k).2.2.1 = some (tyX5 k) := by decide +kernel
abbrev cX5_init : ByteArray := prog_7_method_1_code
def yX5_init : MethodName := ⟨RX5, "<init>", "()V"⟩
abbrev cX5_take : ByteArray := prog_7_method_2_code
def yX5_take : MethodName := ⟨RX5, "take", "(LHaloTrees$Field;)V"⟩
abbrev cX5_bringBack : ByteArray := prog_7_method_3_code
def yX5_bringBack : MethodName := ⟨RX5, "bringBack", "(LHaloTrees$Field;)V"⟩
abbrev cX5_forget : ByteArray := prog_7_method_4_code
def yX5_forget : MethodName := ⟨RX5, "forget", "()V"⟩
def RX6 : String := "HaloTrees$SplittingTree"
def TX6 : u_T := fun k => match k with
  | 0 => ("HaloTrees$SplittingTree", "top", "I", false)
  | 1 => ("HaloTrees$SplittingTree", "height", "I", false)
  | 2 => ("HaloTrees$SplittingTree", "left", "[I", true)
  | 3 => ("HaloTrees$SplittingTree", "right", "[I", true)
  | 4 => ("HaloTrees$SplittingTree", "depthOf", "[I", true)
  | 5 => ("HaloTrees$SplittingTree", "order", "[I", true)
  | 6 => ("HaloTrees$SplittingTree", "x", "[I", true)
  | _ => ("HaloTrees$SplittingTree", "y", "[I", true)
def tyX6 : Nat → FieldType := fun k => match k with
  | 0 => .int
  | 1 => .int
  | 2 => .array .int
  | 3 => .array .int
  | 4 => .array .int
  | 5 => .array .int
  | 6 => .array .int
  | _ => .array .int
theorem nmX6 : ∀ a, a < 8 → ∀ b, b < 8 → a ≠ b → (TX6 a).2.1 ≠ (TX6 b).2.1 := by decide +kernel
theorem tyX6_ok : ∀ k, k < 8 → parseFieldDescriptor (TX6 k).2.2.1 = some (tyX6 k) := by decide +kernel
abbrev cX6_init : ByteArray := prog_8_method_1_code
def yX6_init : MethodName := ⟨RX6, "<init>", "()V"⟩
abbrev cX6_build : ByteArray := prog_8_method_2_code
def yX6_build : MethodName := ⟨RX6, "build", "(LHaloTrees$Field;I)V"⟩
abbrev cX6_split : ByteArray := prog_8_method_3_code
def yX6_split : MethodName := ⟨RX6, "split", "(III)I"⟩
abbrev cX6_sort : ByteArray := prog_8_method_4_code
def yX6_sort : MethodName := ⟨RX6, "sort", "(III)V"⟩
abbrev cX6_rankOf : ByteArray := prog_8_method_5_code
def yX6_rankOf : MethodName := ⟨RX6, "rankOf", "(II)I"⟩
abbrev cX6_countLookedAt : ByteArray := prog_8_method_6_code
def yX6_countLookedAt : MethodName := ⟨RX6, "countLookedAt", "(III)I"⟩
abbrev cX6_lookedAtFrom : ByteArray := prog_8_method_7_code
def yX6_lookedAtFrom : MethodName := ⟨RX6, "lookedAtFrom", "(IIIII)I"⟩
def RX7 : String := "HaloTrees"
def TX7 : u_T := fun k => match k with
  | 0 => ("HaloTrees", "now", "LHaloTrees$Field;", true)
  | 1 => ("HaloTrees", "past", "LHaloTrees$Past;", true)
  | 2 => ("HaloTrees", "images", "[LHaloTrees$Field;", true)
  | 3 => ("HaloTrees", "kept", "[Z", true)
  | 4 => ("HaloTrees", "forest", "LHaloTrees$Forest;", true)
  | 5 => ("HaloTrees", "trial", "LHaloTrees$Clumping;", true)
  | 6 => ("HaloTrees", "tree", "LHaloTrees$SplittingTree;", true)
  | _ => ("HaloTrees", "lots", "LHaloTrees$Lots;", true)
def tyX7 : Nat → FieldType := fun k => match k with
  | 0 => .object "HaloTrees$Field"
  | 1 => .object "HaloTrees$Past"
  | 2 => .array (.object "HaloTrees$Field")
  | 3 => .array .boolean
  | 4 => .object "HaloTrees$Forest"
  | 5 => .object "HaloTrees$Clumping"
  | 6 => .object "HaloTrees$SplittingTree"
  | _ => .object "HaloTrees$Lots"
theorem nmX7 : ∀ a, a < 8 → ∀ b, b < 8 → a ≠ b → (TX7 a).2.1 ≠ (TX7 b).2.1 := by decide +kernel
theorem tyX7_ok : ∀ k, k < 8 → parseFieldDescriptor (TX7 k).2.2.1 = some (tyX7 k) := by decide +kernel
abbrev cX7_init : ByteArray := prog_1_method_1_code
def yX7_init : MethodName := ⟨RX7, "<init>", "()V"⟩
abbrev cX7_picture : ByteArray := prog_1_method_2_code
def yX7_picture : MethodName := ⟨RX7, "picture", "()I"⟩
abbrev cX7_drop : ByteArray := prog_1_method_3_code
def yX7_drop : MethodName := ⟨RX7, "drop", "()I"⟩
abbrev cX7_put : ByteArray := prog_1_method_4_code
def yX7_put : MethodName := ⟨RX7, "put", "(IIII)I"⟩
abbrev cX7_lose : ByteArray := prog_1_method_5_code
def yX7_lose : MethodName := ⟨RX7, "lose", "(II)I"⟩
abbrev cX7_weigh : ByteArray := prog_1_method_6_code
def yX7_weigh : MethodName := ⟨RX7, "weigh", "(II)I"⟩
abbrev cX7_bound : ByteArray := prog_1_method_7_code
def yX7_bound : MethodName := ⟨RX7, "bound", "(II)I"⟩
abbrev cX7_drift : ByteArray := prog_1_method_8_code
def yX7_drift : MethodName := ⟨RX7, "drift", "(I)I"⟩
abbrev cX7_undo : ByteArray := prog_1_method_9_code
def yX7_undo : MethodName := ⟨RX7, "undo", "()I"⟩
abbrev cX7_told : ByteArray := prog_1_method_10_code
def yX7_told : MethodName := ⟨RX7, "told", "(I)I"⟩
abbrev cX7_ofPicture : ByteArray := prog_1_method_11_code
def yX7_ofPicture : MethodName := ⟨RX7, "ofPicture", "(II)I"⟩
abbrev cX7_grain : ByteArray := prog_1_method_12_code
def yX7_grain : MethodName := ⟨RX7, "grain", "(III)I"⟩
abbrev cX7_halo : ByteArray := prog_1_method_13_code
def yX7_halo : MethodName := ⟨RX7, "halo", "(III)I"⟩
abbrev cX7_from : ByteArray := prog_1_method_14_code
def yX7_from : MethodName := ⟨RX7, "from", "(II)I"⟩
abbrev cX7_branch : ByteArray := prog_1_method_15_code
def yX7_branch : MethodName := ⟨RX7, "branch", "(III)I"⟩
abbrev cX7_common : ByteArray := prog_1_method_16_code
def yX7_common : MethodName := ⟨RX7, "common", "(III)I"⟩
abbrev cX7_within : ByteArray := prog_1_method_17_code
def yX7_within : MethodName := ⟨RX7, "within", "(IIIII)I"⟩
abbrev cX7_nearest : ByteArray := prog_1_method_18_code
def yX7_nearest : MethodName := ⟨RX7, "nearest", "(III)I"⟩
abbrev cX7_below : ByteArray := prog_1_method_19_code
def yX7_below : MethodName := ⟨RX7, "below", "(III)I"⟩
abbrev cX7_steps : ByteArray := prog_1_method_20_code
def yX7_steps : MethodName := ⟨RX7, "steps", "(III)I"⟩
abbrev cX7_clumps : ByteArray := prog_1_method_21_code
def yX7_clumps : MethodName := ⟨RX7, "clumps", "(II)I"⟩
abbrev cX7_join : ByteArray := prog_1_method_22_code
def yX7_join : MethodName := ⟨RX7, "join", "(III)I"⟩
abbrev cX7_keep : ByteArray := prog_1_method_23_code
def yX7_keep : MethodName := ⟨RX7, "keep", "(I)I"⟩
abbrev cX7_goBack : ByteArray := prog_1_method_24_code
def yX7_goBack : MethodName := ⟨RX7, "goBack", "(I)I"⟩
abbrev cX7_isPicture : ByteArray := prog_1_method_25_code
def yX7_isPicture : MethodName := ⟨RX7, "isPicture", "(I)Z"⟩
abbrev cX7_isGrainOfPicture : ByteArray := prog_1_method_26_code
def yX7_isGrainOfPicture : MethodName := ⟨RX7, "isGrainOfPicture", "(II)Z"⟩
abbrev cX7_isHalo : ByteArray := prog_1_method_27_code
def yX7_isHalo : MethodName := ⟨RX7, "isHalo", "(II)Z"⟩
abbrev cX7_isGrain : ByteArray := prog_1_method_28_code
def yX7_isGrain : MethodName := ⟨RX7, "isGrain", "(I)Z"⟩
abbrev cX7_isImage : ByteArray := prog_1_method_29_code
def yX7_isImage : MethodName := ⟨RX7, "isImage", "(I)Z"⟩
abbrev cX7_isOnField : ByteArray := prog_1_method_30_code
def yX7_isOnField : MethodName := ⟨RX7, "isOnField", "(II)Z"⟩
abbrev cX7_isBetween : ByteArray := prog_1_method_31_code
def yX7_isBetween : MethodName := ⟨RX7, "isBetween", "(III)Z"⟩
abbrev cX7_has : ByteArray := prog_1_method_32_code
def yX7_has : MethodName := ⟨RX7, "has", "(II)Z"⟩
abbrev cX7_remember : ByteArray := prog_1_method_33_code
def yX7_remember : MethodName := ⟨RX7, "remember", "()V"⟩
abbrev cX7_clumpedBy : ByteArray := prog_1_method_34_code
def yX7_clumpedBy : MethodName := ⟨RX7, "clumpedBy", "(II)LHaloTrees$Clumping;"⟩
abbrev cX7_treeOf : ByteArray := prog_1_method_35_code
def yX7_treeOf : MethodName := ⟨RX7, "treeOf", "(I)LHaloTrees$SplittingTree;"⟩
abbrev cX7_strayed : ByteArray := prog_1_method_36_code
def yX7_strayed : MethodName := ⟨RX7, "strayed", "(II)I"⟩
def RX8 : String := "HaloTreesModel"
def TX8 : u_T := fun k => match k with
  | 0 => ("HaloTreesModel", "w", "[I", true)
  | 1 => ("HaloTreesModel", "isKept", "[Z", true)
  | 2 => ("HaloTreesModel", "undos", "I", false)
  | 3 => ("HaloTreesModel", "lot", "J", false)
  | 4 => ("HaloTreesModel", "halos", "[I", true)
  | 5 => ("HaloTreesModel", "haloMany", "[I", true)
  | 6 => ("HaloTreesModel", "top", "I", false)
  | 7 => ("HaloTreesModel", "left", "[I", true)
  | 8 => ("HaloTreesModel", "right", "[I", true)
  | 9 => ("HaloTreesModel", "depth", "[I", true)
  | 10 => ("HaloTreesModel", "line", "[I", true)
  | 11 => ("HaloTreesModel", "waits", "I", false)
  | 12 => ("HaloTreesModel", "waitFrom", "[I", true)
  | 13 => ("HaloTreesModel", "waitTo", "[I", true)
  | 14 => ("HaloTreesModel", "waitDepth", "[I", true)
  | _ => ("HaloTreesModel", "waitFor", "[I", true)
def tyX8 : Nat → FieldType := fun k => match k with
  | 0 => .array .int
  | 1 => .array .boolean
  | 2 => .int
  | 3 => .long
  | 4 => .array .int
  | 5 => .array .int
  | 6 => .int
  | 7 => .array .int
  | 8 => .array .int
  | 9 => .array .int
  | 10 => .array .int
  | 11 => .int
  | 12 => .array .int
  | 13 => .array .int
  | 14 => .array .int
  | _ => .array .int
theorem nmX8 : ∀ a, a < 16 → ∀ b, b < 16 → a ≠ b → (TX8 a).2.1 ≠ (TX8 b).2.1 := by decide +kernel
theorem tyX8_ok : ∀ k, k < 16 → parseFieldDescriptor (TX8 k).2.2.1 = some (tyX8 k) := by decide +kernel
abbrev cX8_init : ByteArray := prog_10_method_1_code
def yX8_init : MethodName := ⟨RX8, "<init>", "()V"⟩
abbrev cX8_in : ByteArray := prog_10_method_3_code
def yX8_in : MethodName := ⟨RX8, "in", "(JJJ)Z"⟩
abbrev cX8_has : ByteArray := prog_10_method_4_code
def yX8_has : MethodName := ⟨RX8, "has", "(II)Z"⟩
abbrev cX8_ones : ByteArray := prog_10_method_5_code
def yX8_ones : MethodName := ⟨RX8, "ones", "(I)I"⟩
abbrev cX8_isPicture : ByteArray := prog_10_method_6_code
def yX8_isPicture : MethodName := ⟨RX8, "isPicture", "(I)Z"⟩
abbrev cX8_isGrain : ByteArray := prog_10_method_7_code
def yX8_isGrain : MethodName := ⟨RX8, "isGrain", "(I)Z"⟩
abbrev cX8_isPlace : ByteArray := prog_10_method_8_code
def yX8_isPlace : MethodName := ⟨RX8, "isPlace", "(I)Z"⟩
abbrev cX8_copy : ByteArray := prog_10_method_9_code
def yX8_copy : MethodName := ⟨RX8, "copy", "(II)V"⟩
abbrev cX8_minds : ByteArray := prog_10_method_10_code
def yX8_minds : MethodName := ⟨RX8, "minds", "()V"⟩
abbrev cX8_of : ByteArray := prog_10_method_11_code
def yX8_of : MethodName := ⟨RX8, "of", "(I)I"⟩
abbrev cX8_setOf : ByteArray := prog_10_method_12_code
def yX8_setOf : MethodName := ⟨RX8, "setOf", "(I)I"⟩
abbrev cX8_x : ByteArray := prog_10_method_13_code
def yX8_x : MethodName := ⟨RX8, "x", "(II)I"⟩
abbrev cX8_y : ByteArray := prog_10_method_14_code
def yX8_y : MethodName := ⟨RX8, "y", "(II)I"⟩
abbrev cX8_lays : ByteArray := prog_10_method_15_code
def yX8_lays : MethodName := ⟨RX8, "lays", "(IIII)V"⟩
abbrev cX8_begins : ByteArray := prog_10_method_16_code
def yX8_begins : MethodName := ⟨RX8, "begins", "()I"⟩
abbrev cX8_picture : ByteArray := prog_10_method_17_code
def yX8_picture : MethodName := ⟨RX8, "picture", "()I"⟩
abbrev cX8_drop : ByteArray := prog_10_method_18_code
def yX8_drop : MethodName := ⟨RX8, "drop", "()I"⟩
abbrev cX8_put : ByteArray := prog_10_method_19_code
def yX8_put : MethodName := ⟨RX8, "put", "(IIII)I"⟩
abbrev cX8_lose : ByteArray := prog_10_method_20_code
def yX8_lose : MethodName := ⟨RX8, "lose", "(II)I"⟩
abbrev cX8_weigh : ByteArray := prog_10_method_21_code
def yX8_weigh : MethodName := ⟨RX8, "weigh", "(II)I"⟩
abbrev cX8_bound : ByteArray := prog_10_method_22_code
def yX8_bound : MethodName := ⟨RX8, "bound", "(II)I"⟩
abbrev cX8_draw : ByteArray := prog_10_method_23_code
def yX8_draw : MethodName := ⟨RX8, "draw", "(I)I"⟩
abbrev cX8_bounded : ByteArray := prog_10_method_24_code
def yX8_bounded : MethodName := ⟨RX8, "bounded", "(I)I"⟩
abbrev cX8_drift : ByteArray := prog_10_method_25_code
def yX8_drift : MethodName := ⟨RX8, "drift", "(I)I"⟩
abbrev cX8_undo : ByteArray := prog_10_method_26_code
def yX8_undo : MethodName := ⟨RX8, "undo", "()I"⟩
abbrev cX8_way : ByteArray := prog_10_method_27_code
def yX8_way : MethodName := ⟨RX8, "way", "(III)I"⟩
abbrev cX8_isLinked : ByteArray := prog_10_method_28_code
def yX8_isLinked : MethodName := ⟨RX8, "isLinked", "(IIII)Z"⟩
abbrev cX8_weight : ByteArray := prog_10_method_29_code
def yX8_weight : MethodName := ⟨RX8, "weight", "(I)I"⟩
abbrev cX8_clumpOf : ByteArray := prog_10_method_30_code
def yX8_clumpOf : MethodName := ⟨RX8, "clumpOf", "(IIII)I"⟩
abbrev cX8_clumpsOf : ByteArray := prog_10_method_31_code
def yX8_clumpsOf : MethodName := ⟨RX8, "clumpsOf", "(III)I"⟩
abbrev cX8_lowest : ByteArray := prog_10_method_32_code
def yX8_lowest : MethodName := ⟨RX8, "lowest", "(I)I"⟩
abbrev cX8_isAhead : ByteArray := prog_10_method_33_code
def yX8_isAhead : MethodName := ⟨RX8, "isAhead", "(II)Z"⟩
abbrev cX8_layHalos : ByteArray := prog_10_method_34_code
def yX8_layHalos : MethodName := ⟨RX8, "layHalos", "(I)V"⟩
abbrev cX8_layAll : ByteArray := prog_10_method_35_code
def yX8_layAll : MethodName := ⟨RX8, "layAll", "()V"⟩
abbrev cX8_isHalo : ByteArray := prog_10_method_36_code
def yX8_isHalo : MethodName := ⟨RX8, "isHalo", "(II)Z"⟩
abbrev cX8_haloSet : ByteArray := prog_10_method_37_code
def yX8_haloSet : MethodName := ⟨RX8, "haloSet", "(II)I"⟩
abbrev cX8_goesOn : ByteArray := prog_10_method_38_code
def yX8_goesOn : MethodName := ⟨RX8, "goesOn", "(II)I"⟩
abbrev cX8_comesFrom : ByteArray := prog_10_method_39_code
def yX8_comesFrom : MethodName := ⟨RX8, "comesFrom", "(II)I"⟩
abbrev cX8_mainOf : ByteArray := prog_10_method_40_code
def yX8_mainOf : MethodName := ⟨RX8, "mainOf", "(II)I"⟩
abbrev cX8_branchLong : ByteArray := prog_10_method_41_code
def yX8_branchLong : MethodName := ⟨RX8, "branchLong", "(II)I"⟩
abbrev cX8_strayed : ByteArray := prog_10_method_42_code
def yX8_strayed : MethodName := ⟨RX8, "strayed", "(II)I"⟩
abbrev cX8_countHalos : ByteArray := prog_10_method_43_code
def yX8_countHalos : MethodName := ⟨RX8, "countHalos", "(I)I"⟩
abbrev cX8_told : ByteArray := prog_10_method_44_code
def yX8_told : MethodName := ⟨RX8, "told", "(I)I"⟩
abbrev cX8_linksOf : ByteArray := prog_10_method_45_code
def yX8_linksOf : MethodName := ⟨RX8, "linksOf", "(II)I"⟩
abbrev cX8_links : ByteArray := prog_10_method_46_code
def yX8_links : MethodName := ⟨RX8, "links", "(I)I"⟩
abbrev cX8_halosOf : ByteArray := prog_10_method_47_code
def yX8_halosOf : MethodName := ⟨RX8, "halosOf", "(I)I"⟩
abbrev cX8_ofPicture : ByteArray := prog_10_method_48_code
def yX8_ofPicture : MethodName := ⟨RX8, "ofPicture", "(II)I"⟩
abbrev cX8_haloIn : ByteArray := prog_10_method_49_code
def yX8_haloIn : MethodName := ⟨RX8, "haloIn", "(II)I"⟩
abbrev cX8_holds : ByteArray := prog_10_method_50_code
def yX8_holds : MethodName := ⟨RX8, "holds", "(II)I"⟩
abbrev cX8_grain : ByteArray := prog_10_method_51_code
def yX8_grain : MethodName := ⟨RX8, "grain", "(III)I"⟩
abbrev cX8_grew : ByteArray := prog_10_method_52_code
def yX8_grew : MethodName := ⟨RX8, "grew", "(II)I"⟩
abbrev cX8_halo : ByteArray := prog_10_method_53_code
def yX8_halo : MethodName := ⟨RX8, "halo", "(III)I"⟩
abbrev cX8_from : ByteArray := prog_10_method_54_code
def yX8_from : MethodName := ⟨RX8, "from", "(II)I"⟩
abbrev cX8_branch : ByteArray := prog_10_method_55_code
def yX8_branch : MethodName := ⟨RX8, "branch", "(III)I"⟩
abbrev cX8_common : ByteArray := prog_10_method_56_code
def yX8_common : MethodName := ⟨RX8, "common", "(III)I"⟩
abbrev cX8_key : ByteArray := prog_10_method_57_code
def yX8_key : MethodName := ⟨RX8, "key", "(III)I"⟩
abbrev cX8_sorts : ByteArray := prog_10_method_58_code
def yX8_sorts : MethodName := ⟨RX8, "sorts", "(IIII)V"⟩
abbrev cX8_adds : ByteArray := prog_10_method_59_code
def yX8_adds : MethodName := ⟨RX8, "adds", "(IIII)V"⟩
abbrev cX8_layTree : ByteArray := prog_10_method_60_code
def yX8_layTree : MethodName := ⟨RX8, "layTree", "(I)V"⟩
abbrev cX8_longest : ByteArray := prog_10_method_61_code
def yX8_longest : MethodName := ⟨RX8, "longest", "(I)I"⟩
abbrev cX8_topOf : ByteArray := prog_10_method_62_code
def yX8_topOf : MethodName := ⟨RX8, "topOf", "(I)I"⟩
abbrev cX8_depthOf : ByteArray := prog_10_method_63_code
def yX8_depthOf : MethodName := ⟨RX8, "depthOf", "(II)I"⟩
abbrev cX8_farFrom : ByteArray := prog_10_method_64_code
def yX8_farFrom : MethodName := ⟨RX8, "farFrom", "(IIII)I"⟩
abbrev cX8_looked : ByteArray := prog_10_method_65_code
def yX8_looked : MethodName := ⟨RX8, "looked", "(IIII)I"⟩
abbrev cX8_within : ByteArray := prog_10_method_66_code
def yX8_within : MethodName := ⟨RX8, "within", "(IIIII)I"⟩
abbrev cX8_nearest : ByteArray := prog_10_method_67_code
def yX8_nearest : MethodName := ⟨RX8, "nearest", "(III)I"⟩
abbrev cX8_below : ByteArray := prog_10_method_68_code
def yX8_below : MethodName := ⟨RX8, "below", "(III)I"⟩
abbrev cX8_steps : ByteArray := prog_10_method_69_code
def yX8_steps : MethodName := ⟨RX8, "steps", "(III)I"⟩
abbrev cX8_clumps : ByteArray := prog_10_method_70_code
def yX8_clumps : MethodName := ⟨RX8, "clumps", "(II)I"⟩
abbrev cX8_join : ByteArray := prog_10_method_71_code
def yX8_join : MethodName := ⟨RX8, "join", "(III)I"⟩
abbrev cX8_keep : ByteArray := prog_10_method_72_code
def yX8_keep : MethodName := ⟨RX8, "keep", "(I)I"⟩
abbrev cX8_goBack : ByteArray := prog_10_method_73_code
def yX8_goBack : MethodName := ⟨RX8, "goBack", "(I)I"⟩
def RJ6 : String := "java/lang/Integer"
def TJ6 : u_T := fun k => match k with
  | _ => ("", "", "", false)
def tyJ6 : Nat → FieldType := fun k => match k with
  | _ => .int
theorem nmJ6 : ∀ a, a < 0 → ∀ b, b < 0 → a ≠ b → (TJ6 a).2.1 ≠ (TJ6 b).2.1 := by decide +kernel
theorem tyJ6_ok : ∀ k, k < 0 → parseFieldDescriptor (TJ6 k).2.2.1 = some (tyJ6 k) := by decide +kernel
abbrev cJ6_bitCount_0f7a4 : ByteArray := prog_11_method_49_code
def yJ6_bitCount_0f7a4 : MethodName := ⟨RJ6, "bitCount", "(I)I"⟩
def RJ9 : String := "java/lang/Math"
def TJ9 : u_T := fun k => match k with
  | _ => ("", "", "", false)
def tyJ9 : Nat → FieldType := fun k => match k with
  | _ => .int
theorem nmJ9 : ∀ a, a < 0 → ∀ b, b < 0 → a ≠ b → (TJ9 a).2.1 ≠ (TJ9 b).2.1 := by decide +kernel
theorem tyJ9_ok : ∀ k, k < 0 → parseFieldDescriptor (TJ9 k).2.2.1 = some (tyJ9 k) := by decide +kernel
abbrev cJ9_max_7cf53 : ByteArray := prog_12_method_65_code
def yJ9_max_7cf53 : MethodName := ⟨RJ9, "max", "(II)I"⟩
abbrev cJ9_min_7cf53 : ByteArray := prog_12_method_69_code
def yJ9_min_7cf53 : MethodName := ⟨RJ9, "min", "(II)I"⟩
def RJ10 : String := "java/lang/System"
def TJ10 : u_T := fun k => match k with
  | _ => ("", "", "", false)
def tyJ10 : Nat → FieldType := fun k => match k with
  | _ => .int
theorem nmJ10 : ∀ a, a < 0 → ∀ b, b < 0 → a ≠ b → (TJ10 a).2.1 ≠ (TJ10 b).2.1 := by decide +kernel
theorem tyJ10_ok : ∀ k, k < 0 → parseFieldDescriptor (TJ10 k).2.2.1 = some (tyJ10 k) := by decide +kernel
def RJ7 : String := "java/util/Arrays"
def TJ7 : u_T := fun k => match k with
  | _ => ("", "", "", false)
def tyJ7 : Nat → FieldType := fun k => match k with
  | _ => .int
theorem nmJ7 : ∀ a, a < 0 → ∀ b, b < 0 → a ≠ b → (TJ7 a).2.1 ≠ (TJ7 b).2.1 := by decide +kernel
theorem tyJ7_ok : ∀ k, k < 0 → parseFieldDescriptor (TJ7 k).2.2.1 = some (tyJ7 k) := by decide +kernel
abbrev cJ7_fill_53178 : ByteArray := prog_14_method_103_code
def yJ7_fill_53178 : MethodName := ⟨RJ7, "fill", "([II)V"⟩
def RL : String := "HaloTreesLaw"
abbrev cL_law : ByteArray := code
def yL_law : MethodName := ⟨RL, "law", "([I)Z"⟩
end
section
/-! THE SMALL MACHINE: a big-step reader of the same bytecode over a plain heap: what each cell holds is a function of its number.
    Cells are numbered 1, 2 .. as they are made; 0 is the law's script. -/
/-- cells made, slots made, the kind of each (0..8 an object of that class, 9 int[], 10 boolean[], 11.. rows of Clumping, Field, Halos), its length, what it refers to -/
abbrev jm_S : Type := Nat × Nat × (Nat → Nat) × (Nat → Nat) × (Nat → Nat → Option Nat)
/-- the shape, the ints (fields and elements), the longs -/
abbrev jm_T : Type := jm_S × (Nat → Nat → Int32) × (Nat → Nat → Int64)
abbrev jm_V : Type := List (Option Value)
abbrev jm_R : Type := Option Value × jm_T
/-- an instruction as it is read here: itself, its length, three numbers (jump, place, class, field, callee ..), an int, a long, a switch, the locals that are dead here -/
abbrev jm_I : Type := Instr × Nat × Nat × Nat × Nat × Int32 × Int64 × List (Int32 × Nat) × List Nat
/-- a method: its locals, what it gives back (0 nothing, 1 int, 2 boolean, 3 a reference), its code -/
abbrev jm_M : Type := Nat × Nat × List (Nat × jm_I)

def jm_fts : List (List Nat) := [[0, 0, 1, 1], [0, 0, 0, 1, 1], [3, 0, 1, 1], [0, 1, 1, 1, 1, 1, 1], [2], [1, 0, 0], [0, 0, 1, 1, 1, 1, 1, 1], [1, 1, 1, 1, 1, 1, 1, 1], [1, 1, 0, 2, 1, 1, 0, 1, 1, 1, 1, 0, 1, 1, 1, 1]]
def jm_ft (c k : Nat) : Nat := (jm_fts.getD c []).getD k 9
def jm_nf (c : Nat) : Nat := (jm_fts.getD c []).length
def jm_cn (c : Nat) : String := match c with
  | 0 => RX0 | 1 => RX1 | 2 => RX2 | 3 => RX3 | 4 => RX4 | 5 => RX5 | 6 => RX6 | 7 => RX7 | _ => RX8
def jm_cT (c : Nat) : u_T := match c with
  | 0 => TX0 | 1 => TX1 | 2 => TX2 | 3 => TX3 | 4 => TX4 | 5 => TX5 | 6 => TX6 | 7 => TX7 | _ => TX8
def jm_ty (c : Nat) : Nat → FieldType := match c with
  | 0 => tyX0 | 1 => tyX1 | 2 => tyX2 | 3 => tyX3 | 4 => tyX4 | 5 => tyX5 | 6 => tyX6 | 7 => tyX7 | _ => tyX8
def jm_cl : List vw_C := [(RX0, TX0, 4), (RX1, TX1, 5), (RX2, TX2, 4), (RX3, TX3, 7), (RX4, TX4, 1), (RX5, TX5, 3), (RX6, TX6, 8), (RX7, TX7, 8), (RX8, TX8, 16)]
/-- the class of the elements of a row of references -/
def jm_ec (k : Nat) : Nat := match k with
  | 11 => 0 | 12 => 1 | _ => 3

def jm_at : List (Nat × jm_I) → Nat → Option jm_I
  | [], _ => none
  | (k, i) :: r, pc => bif Nat.beq k pc then some i else jm_at r pc
def jm_lk (ls : jm_V) (i : Nat) : Option Value := match ls[i]? with
  | some (some v) => some v
  | _ => none
def jm_set : jm_V → Nat → Option Value → jm_V
  | [], _, _ => []
  | _ :: r, 0, v => v :: r
  | x :: r, i + 1, v => x :: jm_set r i v
/-- dead locals go -/
def jm_kl : List Nat → jm_V → jm_V
  | [], ls => ls
  | i :: r, ls => jm_kl r (jm_set ls i none)
/-- storing a value of one slot: a long that stood just ahead is broken -/
def jm_st1 (ls : jm_V) (i : Nat) (v : Value) : jm_V := match i with
  | 0 => jm_set ls 0 (some v)
  | j + 1 => match jm_lk ls j with
    | some (.long _) => jm_set (jm_set ls j none) (j + 1) (some v)
    | some (.double _) => jm_set (jm_set ls j none) (j + 1) (some v)
    | _ => jm_set ls (j + 1) (some v)
def jm_up (M : Nat → Nat → Int32) (a k : Nat) (v : Int32) : Nat → Nat → Int32 := va_up M a (upd (M a) k v)
def jm_upL (M : Nat → Nat → Int64) (a k : Nat) (v : Int64) : Nat → Nat → Int64 := va_up M a (vp_updL (M a) k v)
def jm_upR (M : Nat → Nat → Option Nat) (a k : Nat) (v : Option Nat) : Nat → Nat → Option Nat := va_up M a (va_up (M a) k v)
/-- cell a is there and is of this kind -/
def jm_is (S : jm_S) (a k : Nat) : Bool := Nat.blt 0 a && Nat.ble a S.1 && Nat.beq (S.2.2.1 a) k
/-- cell a is a row of references -/
def jm_ir (S : jm_S) (a : Nat) : Bool := Nat.blt 0 a && Nat.ble a S.1 && Nat.ble 11 (S.2.2.1 a) && Nat.ble (S.2.2.1 a) 13
def jm_inb (i : Int32) (n : Nat) : Bool := !(decide (i < 0)) && Nat.blt i.toNatClampNeg n
def jm_if (b : Bool) (x : Option jm_R) : Option jm_R := bif b then x else none
def jm_z1 (x : Int32) : Bool := decide (x = 0) || decide (x = 1)
def jm_c0 (c : Jvm.ClassFile.Cond) (x : Int32) : Bool := match c with
  | .eq => decide (x = 0) | .ne => !decide (x = 0) | .lt => decide (x < 0) | .ge => decide (0 ≤ x) | .gt => decide (0 < x) | .le => decide (x ≤ 0)
def jm_c2 (c : Jvm.ClassFile.Cond) (x y : Int32) : Bool := match c with
  | .eq => decide (x = y) | .ne => !decide (x = y) | .lt => decide (x < y) | .ge => decide (y ≤ x) | .gt => decide (y < x) | .le => decide (x ≤ y)
def jm_sw (k : Nat → Option jm_R) (x : Int32) (d : Nat) : List (Int32 × Nat) → Option jm_R
  | [] => k d
  | (c, q) :: r => bif decide (x = c) then k q else jm_sw k x d r
def jm_sum (st : List Value) : Nat := (st.map fun v => v.category).sum
/-- a new cell of a kind, of so many slots, of this length -/
def jm_nw (t : jm_T) (kind len slots : Nat) : jm_T := ((t.1.1 + 1, t.1.2.1 + slots, va_up t.1.2.2.1 (t.1.1 + 1) kind, va_up t.1.2.2.2.1 (t.1.1 + 1) len, va_up t.1.2.2.2.2 (t.1.1 + 1) (fun _ => none)), va_up t.2.1 (t.1.1 + 1) (fun _ => 0), va_up t.2.2 (t.1.1 + 1) (fun _ => 0))
def jm_en (n : Nat) (as : List Value) : jm_V := (as.flatMap fun v => match v.category with | 2 => [some v, none] | _ => [some v]) ++ List.replicate (n - (lg_sl as).length) none

/-- one instruction: k goes on in this method, C calls another -/
def jm_step (op : Instr) (u v w : Nat) (c : Int32) (cl : Int64) (ts : List (Int32 × Nat)) (d ret pc : Nat) (ls : jm_V) (st : List Value) (t : jm_T) (k : Nat → jm_V → List Value → jm_T → Option jm_R) (C : Nat → List Value → jm_T → Option jm_R) : Option jm_R := match op with
  | .iconst _ => k (pc + 1) ls (.int c :: st) t
  | .bipush _ => k (pc + 2) ls (.int c :: st) t
  | .sipush _ => k (pc + 3) ls (.int c :: st) t
  | .ldc _ => k (pc + 2) ls (.int c :: st) t
  | .ldc_w _ => k (pc + 3) ls (.int c :: st) t
  | .ldc2_w _ => k (pc + 3) ls (.long cl :: st) t
  | .lconst _ => k (pc + 1) ls (.long cl :: st) t
  | .iload _ => match jm_lk ls u with
    | some (.int x) => k (pc + 2) ls (.int x :: st) t
    | _ => none
  | .iload_n _ => match jm_lk ls u with
    | some (.int x) => k (pc + 1) ls (.int x :: st) t
    | _ => none
  | .lload _ => match jm_lk ls u with
    | some (.long x) => k (pc + 2) ls (.long x :: st) t
    | _ => none
  | .lload_n _ => match jm_lk ls u with
    | some (.long x) => k (pc + 1) ls (.long x :: st) t
    | _ => none
  | .aload _ => match jm_lk ls u with
    | some (.ref x) => k (pc + 2) ls (.ref x :: st) t
    | _ => none
  | .aload_n _ => match jm_lk ls u with
    | some (.ref x) => k (pc + 1) ls (.ref x :: st) t
    | _ => none
  | .istore _ => match st with
    | .int x :: st => k (pc + 2) (jm_st1 ls u (.int x)) st t
    | _ => none
  | .istore_n _ => match st with
    | .int x :: st => k (pc + 1) (jm_st1 ls u (.int x)) st t
    | _ => none
  | .astore _ => match st with
    | .ref x :: st => k (pc + 2) (jm_st1 ls u (.ref x)) st t
    | _ => none
  | .astore_n _ => match st with
    | .ref x :: st => k (pc + 1) (jm_st1 ls u (.ref x)) st t
    | _ => none
  | .iinc _ _ => match jm_lk ls u with
    | some (.int x) => k (pc + 3) (jm_st1 ls u (.int (x + c))) st t
    | _ => none
  | .iadd => match st with
    | .int y :: .int x :: st => k (pc + 1) ls (.int (x + y) :: st) t
    | _ => none
  | .isub => match st with
    | .int y :: .int x :: st => k (pc + 1) ls (.int (x - y) :: st) t
    | _ => none
  | .imul => match st with
    | .int y :: .int x :: st => k (pc + 1) ls (.int (x * y) :: st) t
    | _ => none
  | .iand => match st with
    | .int y :: .int x :: st => k (pc + 1) ls (.int (x &&& y) :: st) t
    | _ => none
  | .ior => match st with
    | .int y :: .int x :: st => k (pc + 1) ls (.int (x ||| y) :: st) t
    | _ => none
  | .ixor => match st with
    | .int y :: .int x :: st => k (pc + 1) ls (.int (x ^^^ y) :: st) t
    | _ => none
  | .ishl => match st with
    | .int y :: .int x :: st => k (pc + 1) ls (.int (x <<< (y &&& 31)) :: st) t
    | _ => none
  | .ishr => match st with
    | .int y :: .int x :: st => k (pc + 1) ls (.int (x >>> (y &&& 31)) :: st) t
    | _ => none
  | .iushr => match st with
    | .int y :: .int x :: st => k (pc + 1) ls (.int (x.toUInt32 >>> (y.toUInt32 &&& Int32.toUInt32 31)).toInt32 :: st) t
    | _ => none
  | .idiv => match st with
    | .int y :: .int x :: st => jm_if (!decide (y = 0)) (k (pc + 1) ls (.int (x / y) :: st) t)
    | _ => none
  | .irem => match st with
    | .int y :: .int x :: st => jm_if (!decide (y = 0)) (k (pc + 1) ls (.int (x - x / y * y) :: st) t)
    | _ => none
  | .lmul => match st with
    | .long y :: .long x :: st => k (pc + 1) ls (.long (x * y) :: st) t
    | _ => none
  | .lrem => match st with
    | .long y :: .long x :: st => jm_if (!decide (y = 0)) (k (pc + 1) ls (.long (x - x / y * y) :: st) t)
    | _ => none
  | .lcmp => match st with
    | .long y :: .long x :: st => k (pc + 1) ls (.int (lg_cmp x y) :: st) t
    | _ => none
  | .l2i => match st with
    | .long x :: st => k (pc + 1) ls (.int x.toInt32 :: st) t
    | _ => none
  | .i2l => match st with
    | .int x :: st => k (pc + 1) ls (.long x.toInt64 :: st) t
    | _ => none
  | .dup => match st with
    | x :: st => jm_if (Nat.beq x.category 1) (k (pc + 1) ls (x :: x :: st) t)
    | _ => none
  | .dup2 => match st with
    | x :: y :: st => jm_if (Nat.beq x.category 1 && Nat.beq y.category 1) (k (pc + 1) ls (x :: y :: x :: y :: st) t)
    | _ => none
  | .goto _ => k u ls st t
  | .ifCond q _ => match st with
    | .int x :: st => bif jm_c0 q x then k u ls st t else k (pc + 3) ls st t
    | _ => none
  | .if_icmp q _ => match st with
    | .int y :: .int x :: st => bif jm_c2 q x y then k u ls st t else k (pc + 3) ls st t
    | _ => none
  | .tableswitch _ _ _ _ => match st with
    | .int x :: st => jm_sw (fun q => k q ls st t) x u ts
    | _ => none
  | .lookupswitch _ _ => match st with
    | .int x :: st => jm_sw (fun q => k q ls st t) x u ts
    | _ => none
  | .getfield _ => match st with
    | .ref a :: st => jm_if (jm_is t.1 a u) (match jm_ft u v with
      | 1 => match t.1.2.2.2.2 a v with
        | some b => k (pc + 3) ls (.ref b :: st) t
        | none => none
      | 2 => k (pc + 3) ls (.long (t.2.2 a v) :: st) t
      | _ => k (pc + 3) ls (.int (t.2.1 a v) :: st) t)
    | _ => none
  | .putfield _ => match jm_ft u v with
    | 0 => match st with
      | .int x :: .ref a :: st => jm_if (jm_is t.1 a u) (k (pc + 3) ls st (t.1, jm_up t.2.1 a v x, t.2.2))
      | _ => none
    | 3 => match st with
      | .int x :: .ref a :: st => jm_if (jm_is t.1 a u && jm_z1 x) (k (pc + 3) ls st (t.1, jm_up t.2.1 a v x, t.2.2))
      | _ => none
    | 2 => match st with
      | .long x :: .ref a :: st => jm_if (jm_is t.1 a u) (k (pc + 3) ls st (t.1, t.2.1, jm_upL t.2.2 a v x))
      | _ => none
    | 1 => match st with
      | .ref x :: .ref a :: st => jm_if (jm_is t.1 a u) (k (pc + 3) ls st ((t.1.1, t.1.2.1, t.1.2.2.1, t.1.2.2.2.1, jm_upR t.1.2.2.2.2 a v (some x)), t.2.1, t.2.2))
      | _ => none
    | _ => none
  | .arraylength => match st with
    | .ref a :: st => jm_if ((Nat.beq w 1 && Nat.beq a 0) || (Nat.beq w 0 && jm_is t.1 a 9)) (k (pc + 1) ls (.int (Int32.ofNat (t.1.2.2.2.1 a)) :: st) t)
    | _ => none
  | .iaload => match st with
    | .int i :: .ref a :: st => jm_if (((Nat.beq w 1 && Nat.beq a 0) || (Nat.beq w 0 && jm_is t.1 a 9)) && jm_inb i (t.1.2.2.2.1 a)) (k (pc + 1) ls (.int (t.2.1 a i.toNatClampNeg) :: st) t)
    | _ => none
  | .baload => match st with
    | .int i :: .ref a :: st => jm_if (jm_is t.1 a 10 && jm_inb i (t.1.2.2.2.1 a)) (k (pc + 1) ls (.int (t.2.1 a i.toNatClampNeg) :: st) t)
    | _ => none
  | .iastore => match st with
    | .int x :: .int i :: .ref a :: st => jm_if (jm_is t.1 a 9 && jm_inb i (t.1.2.2.2.1 a)) (k (pc + 1) ls st (t.1, jm_up t.2.1 a i.toNatClampNeg x, t.2.2))
    | _ => none
  | .bastore => match st with
    | .int x :: .int i :: .ref a :: st => jm_if (jm_is t.1 a 10 && jm_inb i (t.1.2.2.2.1 a) && jm_z1 x) (k (pc + 1) ls st (t.1, jm_up t.2.1 a i.toNatClampNeg x, t.2.2))
    | _ => none
  | .aaload => match st with
    | .int i :: .ref a :: st => jm_if (jm_ir t.1 a && jm_inb i (t.1.2.2.2.1 a)) (match t.1.2.2.2.2 a i.toNatClampNeg with
      | some b => k (pc + 1) ls (.ref b :: st) t
      | none => none)
    | _ => none
  | .aastore => match st with
    | .ref b :: .int i :: .ref a :: st => jm_if (jm_ir t.1 a && jm_inb i (t.1.2.2.2.1 a) && jm_is t.1 b (jm_ec (t.1.2.2.1 a))) (k (pc + 1) ls st ((t.1.1, t.1.2.1, t.1.2.2.1, t.1.2.2.2.1, jm_upR t.1.2.2.2.2 a i.toNatClampNeg (some b)), t.2.1, t.2.2))
    | _ => none
  | .new _ => k (pc + 3) ls (.ref (t.1.1 + 1) :: st) (jm_nw t u 0 (jm_nf u))
  | .newarray _ => match st with
    | .int x :: st => jm_if (jm_inb x 10000) (k (pc + 2) ls (.ref (t.1.1 + 1) :: st) (jm_nw t u x.toNatClampNeg x.toNatClampNeg))
    | _ => none
  | .anewarray _ => match st with
    | .int x :: st => jm_if (jm_inb x 10000) (k (pc + 3) ls (.ref (t.1.1 + 1) :: st) (jm_nw t u x.toNatClampNeg x.toNatClampNeg))
    | _ => none
  | .invokevirtual _ => match (st.take v).reverse with
    | .ref a :: as => jm_if (Nat.ble (jm_sum (st.drop v)) 8 && Nat.beq as.length (v - 1) && jm_is t.1 a w) (match C u (.ref a :: as) t with
      | some r => k (pc + 3) ls (r.1.toList ++ st.drop v) r.2
      | none => none)
    | _ => none
  | .invokestatic _ => match w with
    | 7 => match st with
      | .int n :: .int dp :: .ref a :: .int sp :: .ref b :: st => jm_if (Nat.blt 0 d && Nat.ble (jm_sum st) 8 && jm_is t.1 a 9 && jm_is t.1 b 9 && !decide (n < 0) && !decide (dp < 0) && !decide (sp < 0) && Nat.ble (sp.toNatClampNeg + n.toNatClampNeg) (t.1.2.2.2.1 b) && Nat.ble (dp.toNatClampNeg + n.toNatClampNeg) (t.1.2.2.2.1 a))
        (k (pc + 3) ls st (t.1, va_up t.2.1 a (va_cpy (t.2.1 b) (t.2.1 a) sp.toNatClampNeg dp.toNatClampNeg n.toNatClampNeg), t.2.2))
      | _ => none
    | _ => jm_if (Nat.ble (jm_sum (st.drop v)) 8 && Nat.beq (st.take v).reverse.length v) (match C u (st.take v).reverse t with
      | some r => k (pc + 3) ls (r.1.toList ++ st.drop v) r.2
      | none => none)
  | .invokespecial _ => match w with
    | 7 => match st with
      | .ref _ :: st => jm_if (Nat.blt 0 d && Nat.ble (jm_sum st) 8) (k (pc + 3) ls st t)
      | _ => none
    | _ => match (st.take v).reverse with
      | .ref a :: as => jm_if (Nat.ble (jm_sum (st.drop v)) 8 && Nat.beq as.length (v - 1)) (match C u (.ref a :: as) t with
        | some r => k (pc + 3) ls (r.1.toList ++ st.drop v) r.2
        | none => none)
      | _ => none
  | .ireturn => match st with
    | [.int x] => match ret with
      | 1 => some (some (.int x), t)
      | 2 => jm_if (jm_z1 x) (some (some (.int x), t))
      | _ => none
    | _ => none
  | .areturn => match st with
    | [.ref a] => match ret with
      | 3 => some (some (.ref a), t)
      | _ => none
    | _ => none
  | .return_ => match st with
    | [] => match ret with
      | 0 => some (none, t)
      | _ => none
    | _ => none
  | _ => none

/-- a method's body from pc on, at most n instructions deep; d calls may stand open below it -/
def jm_run (G : Nat → jm_M) : Nat → Nat → jm_M → Nat → jm_V → List Value → jm_T → Option jm_R
  | 0, _, _, _, _, _, _ => none
  | n + 1, d, Y, pc, ls, st, t => match jm_at Y.2.2 pc with
    | none => none
    | some (op, _, u, v, w, c, cl, ts, kl) => jm_step op u v w c cl ts d Y.2.1 pc (jm_kl kl ls) st t (fun pc ls st t => jm_run G n d Y pc ls st t)
        (fun y as t => match d with
          | 0 => none
          | d + 1 => jm_if (Nat.ble (lg_sl as).length (G y).1) (jm_run G n d (G y) 0 (jm_en (G y).1 as) [] t))
end
section
/-! the words that pass from caller to callee, and the facts of the classes -/
def jm_tb : List Jvm.Cond := lw_tbl.filter goodWord
theorem jm_tb_in {w : Jvm.Cond} (h : w ∈ lw_tbl) (g : goodWord w = true) : w ∈ jm_tb := List.mem_filter.mpr ⟨h, g⟩
theorem jm_tb_of {w : Jvm.Cond} (h : w ∈ jm_tb) : w ∈ lw_tbl ∧ goodWord w = true := List.mem_filter.mp h
set_option maxRecDepth 20000 in
theorem jm_wu : ∀ c, c < 9 → ∀ w ∈ u_ws (jm_cn c) (jm_cT c) (jm_nf c), w ∈ jm_tb := by decide +kernel
theorem jm_cl_at : ∀ c, c < 9 → jm_cl[c]? = some (jm_cn c, jm_cT c, jm_nf c)
  | 0, _ => rfl | 1, _ => rfl | 2, _ => rfl | 3, _ => rfl | 4, _ => rfl | 5, _ => rfl | 6, _ => rfl | 7, _ => rfl | 8, _ => rfl
  | _ + 9, h => absurd h (by omega)
theorem jm_ty_ok : ∀ c, c < 9 → ∀ k, k < jm_nf c → parseFieldDescriptor (jm_cT c k).2.2.1 = some (jm_ty c k) := by decide +kernel
theorem jm_nm_ok : ∀ c, c < 9 → ∀ a, a < jm_nf c → ∀ b, b < jm_nf c → a ≠ b → (jm_cT c a).2.1 ≠ (jm_cT c b).2.1 := by decide +kernel
theorem jm_own_ok : ∀ c, c < 9 → ∀ k, k < jm_nf c → (jm_cT c k).1 = jm_cn c := by decide +kernel
theorem jm_fin_ok : ∀ c, c < 9 → ∀ k, k < jm_nf c → (jm_cT c k).2.2.2 = decide (jm_ft c k = 1) := by decide +kernel
theorem jm_ft_lt : ∀ c, c < 9 → ∀ k, k < jm_nf c → jm_ft c k < 4 := by decide +kernel
theorem jm_ty0 : ∀ c, c < 9 → ∀ k, k < jm_nf c → jm_ft c k = 0 → jm_ty c k = .int := by decide +kernel
theorem jm_ty2 : ∀ c, c < 9 → ∀ k, k < jm_nf c → jm_ft c k = 2 → jm_ty c k = .long := by decide +kernel
theorem jm_ty3 : ∀ c, c < 9 → ∀ k, k < jm_nf c → jm_ft c k = 3 → jm_ty c k = .boolean := by decide +kernel
def jm_isq (t : FieldType) : Bool := match t with
  | .object _ => true
  | .array _ => true
  | _ => false
theorem jm_ty1 : ∀ c, c < 9 → ∀ k, k < jm_nf c → jm_ft c k = 1 → jm_isq (jm_ty c k) = true := by decide +kernel
set_option maxRecDepth 20000 in
theorem jm_w_inst : ∀ c, c < 9 → Jvm.Cond.instantiable (jm_cn c) (jm_nf c) ∈ jm_tb := by decide +kernel
set_option maxRecDepth 20000 in
theorem jm_w_init : ∀ c, c < 9 → Jvm.Cond.initialized (jm_cn c) ∈ jm_tb := by decide +kernel
set_option maxRecDepth 20000 in
theorem jm_w_ai : Jvm.Cond.arrayClass FieldType.int ∈ jm_tb := by decide +kernel
set_option maxRecDepth 20000 in
theorem jm_w_az : Jvm.Cond.arrayClass FieldType.boolean ∈ jm_tb := by decide +kernel
set_option maxRecDepth 20000 in
theorem jm_w_o1 : Jvm.Cond.instanceMethod objectInit ∈ jm_tb := by decide +kernel
set_option maxRecDepth 20000 in
theorem jm_w_o2 : Jvm.Cond.code objectInit ⟨#[0xb1]⟩ 1 none ∈ jm_tb := by decide +kernel
set_option maxRecDepth 20000 in
theorem jm_w_c1 : Jvm.Cond.native arraycopyName ∈ jm_tb := by decide +kernel
set_option maxRecDepth 20000 in
theorem jm_w_c2 : Jvm.Cond.static arraycopyName ∈ jm_tb := by decide +kernel
set_option maxRecDepth 20000 in
theorem jm_w_c3 : Jvm.Cond.initialized "java/lang/System" ∈ jm_tb := by decide +kernel
/-- links to private members of nest mates: these don't pass as words, they are carried -/
def jm_nst : List (String × Nat × MethodName × String) := [(RX2, 31, yX0_init, RX7), (RX2, 32, yX3_init, RX7), (RX7, 40, yX0_init, RX7), (RX7, 47, yX6_init, RX7), (RX7, 54, yX4_init, RX7), (RX0, 52, yX7_has, RX7), (RX3, 39, yX7_has, RX7), (RX1, 59, yX7_has, RX7)]
set_option maxRecDepth 20000 in
theorem jm_nst_in : ∀ q ∈ jm_nst, Jvm.Cond.methodLinkNest q.1 q.2.1 q.2.2.1 q.2.2.2 ∈ lw_tbl := by decide +kernel
set_option maxRecDepth 20000 in
theorem jm_ao_in : ∀ c, c ∈ [RX0, RX1, RX3] → Jvm.Cond.arrayOver (.object c) ∈ lw_tbl := by decide +kernel
def jm_N (U : State) : Prop := (∀ q ∈ jm_nst, va_Nw (.methodLinkNest q.1 q.2.1 q.2.2.1 q.2.2.2) U) ∧ ∀ c, c ∈ [RX0, RX1, RX3] → va_AO c U
theorem jm_N.warm {s U : State} (hW : s.WarmedH U.vm) (h : jm_N s) : jm_N U := ⟨fun q hq => (h.1 q hq).warmM hW, fun c hc => (h.2 c hc).moved hW.alike⟩
theorem jm_N.of {s : State} {args : Array Value} (h : ∀ w ∈ lw_tbl, w.before args s = true) : jm_N s := ⟨fun q hq => va_Nw.of rfl (h _ (jm_nst_in q hq)), fun c hc => va_AO.of (A := args) (h _ (jm_ao_in c hc))⟩
end
section
/-! the plain heap over the machine's heap -/
/-- the script's cell, the size of the heap at the law's entry, the slots of the classes, the array classes by their kinds, the script's length and ints -/
abbrev jm_Ev : Type := Nat × Nat × va_G × (Nat → ClassId) × Nat × (Nat → Int32)
def jm_ad (E : jm_Ev) : Nat → Nat
  | 0 => E.1
  | a + 1 => E.2.1 + a
def jm_mv (E : jm_Ev) : Value → Value
  | .ref a => .ref (jm_ad E a)
  | v => v
def jm_fv (E : jm_Ev) (t : jm_T) (c a k : Nat) : Value := match jm_ft c k with
  | 1 => va_rf ((t.1.2.2.2.2 a k).map (jm_ad E))
  | 2 => .long (t.2.2 a k)
  | _ => .int (t.2.1 a k)
def jm_fs (E : jm_Ev) (t : jm_T) (c a : Nat) : List Value := (List.range (jm_nf c)).map (jm_fv E t c a)
def jm_E (E : jm_Ev) (t : jm_T) (a : Nat) : va_E :=
  if t.1.2.2.1 a < 9 then .inr (t.1.2.2.1 a, jm_fs E t (t.1.2.2.1 a) a)
  else if t.1.2.2.1 a < 11 then .inl (E.2.2.2.1 (t.1.2.2.1 a), t.1.2.2.2.1 a, .inl (t.2.1 a))
  else .inl (E.2.2.2.1 (t.1.2.2.1 a), t.1.2.2.2.1 a, .inr (.inr (.inr (.inr (fun j => (t.1.2.2.2.2 a j).map (jm_ad E))))))
def jm_ws (E : jm_Ev) (t : jm_T) : va_W := (List.range t.1.1).map fun i => (E.2.1 + i, jm_E E t (i + 1))
def jm_A (E : jm_Ev) : Nat → Prop := fun q => E.2.1 ≤ q
def jm_tys (E : jm_Ev) : List (ClassId × FieldType) := [(E.2.2.2.1 9, .int), (E.2.2.2.1 10, .boolean), (E.2.2.2.1 11, .object RX0), (E.2.2.2.1 12, .object RX1), (E.2.2.2.1 13, .object RX3)]
def jm_P (E : jm_Ev) (t : jm_T) (H : Heap) : Prop := va_P E.2.2.1 jm_cl (jm_ws E t) H ∧ t.2.1 0 = E.2.2.2.2.2 ∧ t.1.2.2.2.1 0 = E.2.2.2.2.1

theorem jm_ws_at (E : jm_Ev) (t : jm_T) {j : Nat} (h : j < t.1.1) : (jm_ws E t)[j]? = some (E.2.1 + j, jm_E E t (j + 1)) := by
  simp [jm_ws, h]
theorem jm_D (E : jm_Ev) (t : jm_T) : va_D (jm_A E) (jm_ws E t) := by
  refine ⟨fun i j p q hp hq h => ?_, fun k q hk => ?_⟩
  · simp only [jm_ws, List.getElem?_map, Option.map_eq_some_iff] at hp hq
    obtain ⟨a, ha, rfl⟩ := hp
    obtain ⟨b, hb, rfl⟩ := hq
    have ha' := (List.getElem?_eq_some_iff.mp ha).2
    have hb' := (List.getElem?_eq_some_iff.mp hb).2
    simp only [List.getElem_range] at ha' hb'
    dsimp only at h
    omega
  · simp only [jm_ws, List.getElem?_map, Option.map_eq_some_iff] at hk
    obtain ⟨a, ha, rfl⟩ := hk
    exact Nat.le_add_right _ _
theorem jm_ws_set (E : jm_Ev) (t t' : jm_T) {j : Nat} {x : va_E} (hn : t'.1.1 = t.1.1) (h1 : jm_E E t' (j + 1) = x) (h2 : ∀ b, b ≠ j + 1 → jm_E E t' b = jm_E E t b) (hj : j < t.1.1) : jm_ws E t' = (jm_ws E t).set j (E.2.1 + j, x) := by
  apply List.ext_getElem?
  intro i
  by_cases hi : i = j
  · subst hi
    rw [jm_ws_at E t' (by omega), List.getElem?_set_self (by simp [jm_ws]; exact hj), h1]
  · rw [List.getElem?_set_ne (fun h => hi h.symm)]
    by_cases hb : i < t.1.1
    · rw [jm_ws_at E t' (by omega), jm_ws_at E t hb, h2 (i + 1) (by omega)]
    · rw [List.getElem?_eq_none (by simp [jm_ws]; omega), List.getElem?_eq_none (by simp [jm_ws]; omega)]
theorem jm_ws_push (E : jm_Ev) (t t' : jm_T) {x : va_E} (hn : t'.1.1 = t.1.1 + 1) (h1 : jm_E E t' (t.1.1 + 1) = x) (h2 : ∀ b, b ≠ t.1.1 + 1 → jm_E E t' b = jm_E E t b) : jm_ws E t' = jm_ws E t ++ [(E.2.1 + t.1.1, x)] := by
  apply List.ext_getElem?
  intro i
  by_cases hb : i < t.1.1
  · rw [jm_ws_at E t' (by omega), List.getElem?_append_left (by simp [jm_ws]; exact hb), jm_ws_at E t hb, h2 (i + 1) (by omega)]
  · by_cases hi : i = t.1.1
    · subst hi
      rw [jm_ws_at E t' (by omega), List.getElem?_append_right (by simp [jm_ws]), h1]
      simp [jm_ws]
    · rw [List.getElem?_eq_none (by simp [jm_ws]; omega), List.getElem?_eq_none (by simp [jm_ws]; omega)]
theorem jm_E_obj (E : jm_Ev) (t : jm_T) {a c : Nat} (h : t.1.2.2.1 a = c) (hc : c < 9) : jm_E E t a = .inr (c, jm_fs E t c a) := by
  subst h
  simp [jm_E, hc]
theorem jm_E_int (E : jm_Ev) (t : jm_T) {a c : Nat} (h : t.1.2.2.1 a = c) (h1 : 9 ≤ c) (h2 : c < 11) : jm_E E t a = .inl (E.2.2.2.1 c, t.1.2.2.2.1 a, .inl (t.2.1 a)) := by
  subst h
  simp [jm_E, h2, Nat.not_lt.mpr h1]
theorem jm_E_ref (E : jm_Ev) (t : jm_T) {a c : Nat} (h : t.1.2.2.1 a = c) (h1 : 11 ≤ c) : jm_E E t a = .inl (E.2.2.2.1 c, t.1.2.2.2.1 a, .inr (.inr (.inr (.inr (fun j => (t.1.2.2.2.2 a j).map (jm_ad E)))))) := by
  subst h
  simp [jm_E, Nat.not_lt.mpr h1, Nat.not_lt.mpr (show 9 ≤ t.1.2.2.1 a by omega)]
theorem jm_fs_at (E : jm_Ev) (t : jm_T) {c a k : Nat} (h : k < jm_nf c) : (jm_fs E t c a)[k]? = some (jm_fv E t c a k) := by
  simp [jm_fs, h]
theorem jm_fs_len (E : jm_Ev) (t : jm_T) (c a : Nat) : (jm_fs E t c a).length = jm_nf c := by simp [jm_fs]
theorem jm_fs_set (E : jm_Ev) (t t' : jm_T) {c a k : Nat} {x : Value} (h1 : jm_fv E t' c a k = x) (h2 : ∀ j, j ≠ k → jm_fv E t' c a j = jm_fv E t c a j) (hk : k < jm_nf c) : jm_fs E t' c a = (jm_fs E t c a).set k x := by
  apply List.ext_getElem?
  intro i
  by_cases hi : i = k
  · subst hi
    rw [jm_fs_at E t' hk, List.getElem?_set_self (by rw [jm_fs_len]; exact hk), h1]
  · rw [List.getElem?_set_ne (fun h => hi h.symm)]
    by_cases hb : i < jm_nf c
    · rw [jm_fs_at E t' hb, jm_fs_at E t hb, h2 i hi]
    · rw [List.getElem?_eq_none (by rw [jm_fs_len]; omega), List.getElem?_eq_none (by rw [jm_fs_len]; omega)]
theorem jm_is_of {S : jm_S} {a k : Nat} (h : jm_is S a k = true) : ∃ j, a = j + 1 ∧ j < S.1 ∧ S.2.2.1 a = k := by
  simp only [jm_is, Bool.and_eq_true, Nat.blt_eq, Nat.ble_eq] at h
  exact ⟨a - 1, by omega, by omega, Nat.eq_of_beq_eq_true h.2⟩
theorem jm_ir_of {S : jm_S} {a : Nat} (h : jm_ir S a = true) : ∃ j, a = j + 1 ∧ j < S.1 ∧ 11 ≤ S.2.2.1 a ∧ S.2.2.1 a ≤ 13 := by
  simp only [jm_ir, Bool.and_eq_true, Nat.blt_eq, Nat.ble_eq] at h
  exact ⟨a - 1, by omega, by omega, h.1.2, h.2⟩
theorem jm_inb_of {i : Int32} {n : Nat} (h : jm_inb i n = true) : vp_in i n := by
  simp only [jm_inb, Bool.and_eq_true, Bool.not_eq_true', decide_eq_false_iff_not, Nat.blt_eq] at h
  intro hq
  rcases hq with q | q
  · exact h.1 q
  · omega
theorem jm_z1_of {x : Int32} (h : jm_z1 x = true) : x = 0 ∨ x = 1 := by
  simpa [jm_z1] using h
theorem jm_if_some {b : Bool} {x : Option jm_R} {r : jm_R} (h : jm_if b x = some r) : b = true ∧ x = some r := by
  cases b
  · cases h
  · exact ⟨rfl, h⟩
theorem jm_mv_cat (E : jm_Ev) (v : Value) : (jm_mv E v).category = v.category := by cases v <;> rfl
theorem jm_sum_map (E : jm_Ev) (st : List Value) : ((st.map (jm_mv E)).map fun v => v.category).sum = jm_sum st := by
  simp [jm_sum, Function.comp_def, jm_mv_cat]
/-! locals -/
def jm_L (E : jm_Ev) (ls : jm_V) (nL : Nat) (lsA : Array Slot) : Prop := lsA.size = nL ∧ lv_wf lsA ∧ ∀ (i : Nat) (v : Value), jm_lk ls i = some v → lsA[i]? = some (.val (jm_mv E v))
def jm_al (E : jm_Ev) (ls : jm_V) : List (Nat × Value) := (List.range ls.length).filterMap fun i => (jm_lk ls i).map fun v => (i, jm_mv E v)
theorem jm_lk_lt {ls : jm_V} {i : Nat} {v : Value} (h : jm_lk ls i = some v) : i < ls.length := by
  unfold jm_lk at h
  split at h
  · rename_i w hw
    exact (List.getElem?_eq_some_iff.mp hw).1
  · cases h
theorem jm_al_mem (E : jm_Ev) {ls : jm_V} {i : Nat} {v : Value} (h : jm_lk ls i = some v) : (i, jm_mv E v) ∈ jm_al E ls :=
  List.mem_filterMap.mpr ⟨i, List.mem_range.mpr (jm_lk_lt h), by rw [h]; rfl⟩
theorem jm_L.has {E : jm_Ev} {ls : jm_V} {nL : Nat} {lsA : Array Slot} (h : jm_L E ls nL lsA) : lv_has lsA nL (jm_al E ls) := by
  refine ⟨h.1, h.2.1, fun q hq => ?_⟩
  obtain ⟨i, -, hi⟩ := List.mem_filterMap.mp hq
  obtain ⟨v, hv, rfl⟩ := Option.map_eq_some_iff.mp hi
  exact h.2.2 i v hv
theorem jm_lk_set {x : Option Value} {w : Value} : ∀ {ls : jm_V} {i j : Nat}, jm_lk (jm_set ls i x) j = some w → (j = i ∧ x = some w) ∨ (j ≠ i ∧ jm_lk ls j = some w)
  | [], i, j, h => by simp [jm_set, jm_lk] at h
  | y :: r, 0, 0, h => by
    left
    refine ⟨rfl, ?_⟩
    cases x with
    | none => simp [jm_set, jm_lk] at h
    | some v => simpa [jm_set, jm_lk] using h
  | y :: r, 0, j + 1, h => Or.inr ⟨by omega, by simpa [jm_set, jm_lk] using h⟩
  | y :: r, i + 1, 0, h => Or.inr ⟨by omega, by simpa [jm_set, jm_lk] using h⟩
  | y :: r, i + 1, j + 1, h => by
    have h' : jm_lk (jm_set r i x) j = some w := by simpa [jm_set, jm_lk] using h
    rcases jm_lk_set h' with ⟨a, b⟩ | ⟨a, b⟩
    · exact Or.inl ⟨by omega, b⟩
    · exact Or.inr ⟨by omega, by simpa [jm_lk] using b⟩
theorem jm_lk_kl : ∀ {kl : List Nat} {ls : jm_V} {j : Nat} {w : Value}, jm_lk (jm_kl kl ls) j = some w → jm_lk ls j = some w
  | [], _, _, _, h => h
  | i :: r, ls, j, w, h => by
    rcases jm_lk_set (jm_lk_kl (kl := r) h) with ⟨_, b⟩ | ⟨_, b⟩
    · cases b
    · exact b
theorem jm_L.kl {E : jm_Ev} {ls : jm_V} {nL : Nat} {lsA : Array Slot} {kl : List Nat} (h : jm_L E ls nL lsA) : jm_L E (jm_kl kl ls) nL lsA := ⟨h.1, h.2.1, fun i v hv => h.2.2 i v (jm_lk_kl hv)⟩
theorem jm_lk_st1 {ls : jm_V} {i j : Nat} {v w : Value} (h : jm_lk (jm_st1 ls i v) j = some w) : (j = i ∧ w = v) ∨ (j ≠ i ∧ jm_lk ls j = some w ∧ ¬ (j + 1 = i ∧ w.category = 2)) := by
  cases i with
  | zero =>
    rcases jm_lk_set (show jm_lk (jm_set ls 0 (some v)) j = some w from h) with ⟨a, b⟩ | ⟨a, b⟩
    · cases b; exact Or.inl ⟨a, rfl⟩
    · exact Or.inr ⟨a, b, fun q => by omega⟩
  | succ i =>
    by_cases hL : ∃ q, jm_lk ls i = some q ∧ q.category = 2
    · obtain ⟨q, hq, hc⟩ := hL
      have e : jm_st1 ls (i + 1) v = jm_set (jm_set ls i none) (i + 1) (some v) := by
        unfold jm_st1
        simp only [hq]
        cases q <;> first | rfl | (simp [Value.category] at hc)
      rw [e] at h
      rcases jm_lk_set h with ⟨a, b⟩ | ⟨a, b⟩
      · cases b; exact Or.inl ⟨a, rfl⟩
      · rcases jm_lk_set b with ⟨_, b⟩ | ⟨a2, b⟩
        · cases b
        · exact Or.inr ⟨a, b, fun z => a2 (by omega)⟩
    · have e : jm_st1 ls (i + 1) v = jm_set ls (i + 1) (some v) := by
        unfold jm_st1
        dsimp only
        split
        · rename_i z hz; exact absurd ⟨_, hz, rfl⟩ hL
        · rename_i z hz; exact absurd ⟨_, hz, rfl⟩ hL
        · rfl
      rw [e] at h
      rcases jm_lk_set h with ⟨a, b⟩ | ⟨a, b⟩
      · cases b; exact Or.inl ⟨a, rfl⟩
      · refine Or.inr ⟨a, b, fun z => hL ⟨w, ?_, z.2⟩⟩
        rw [show i = j by omega]
        exact b
theorem jm_L.st1 {E : jm_Ev} {ls : jm_V} {nL i : Nat} {v : Value} {lsA' : Array Slot} (h : lv_has lsA' nL ((i, jm_mv E v) :: (jm_al E ls).filter (fun q => !(q.1 == i) && !(q.1 + 1 == i && q.2.category == 2)))) : jm_L E (jm_st1 ls i v) nL lsA' := by
  refine ⟨h.1, h.2.1, fun j w hw => ?_⟩
  rcases jm_lk_st1 hw with ⟨rfl, rfl⟩ | ⟨a, b, c⟩
  · exact h.2.2 _ List.mem_cons_self
  · refine h.2.2 (j, jm_mv E w) (List.mem_cons_of_mem _ (List.mem_filter.mpr ⟨jm_al_mem E b, ?_⟩))
    simp only [Bool.and_eq_true, Bool.not_eq_true', beq_eq_false_iff_ne, ne_eq, Bool.and_eq_false_iff, jm_mv_cat]
    refine ⟨a, ?_⟩
    by_cases h1 : j + 1 = i
    · exact Or.inr (fun h2 => c ⟨h1, h2⟩)
    · exact Or.inl h1
theorem jm_lk_app {xs ys : jm_V} {j : Nat} {w : Value} (h : jm_lk (xs ++ ys) j = some w) : (j < xs.length ∧ jm_lk xs j = some w) ∨ (xs.length ≤ j ∧ jm_lk ys (j - xs.length) = some w) := by
  rcases Nat.lt_or_ge j xs.length with q | q
  · exact Or.inl ⟨q, by simpa [jm_lk, List.getElem?_append_left q] using h⟩
  · exact Or.inr ⟨q, by simpa [jm_lk, List.getElem?_append_right q] using h⟩
theorem jm_lk_rep {n j : Nat} {w : Value} (h : jm_lk (List.replicate n none) j = some w) : False := by
  unfold jm_lk at h
  split at h
  · rename_i v hv
    have := List.mem_of_getElem? hv
    simp at this
  · cases h
def jm_e1 (as : List Value) : jm_V := as.flatMap fun v => match v.category with | 2 => [some v, none] | _ => [some v]
theorem jm_e1_lk : ∀ (as : List Value) (i j : Nat) (w : Value), jm_lk (jm_e1 as) j = some w → (i + j, w) ∈ lv_args i as
  | [], i, j, w, h => by simp [jm_e1, jm_lk] at h
  | v :: as, i, j, w, h => by
    rcases lv_cat v with hc | hc
    · have e : jm_e1 (v :: as) = [some v] ++ jm_e1 as := by simp [jm_e1, hc]
      rw [e] at h
      rcases jm_lk_app h with ⟨a, b⟩ | ⟨a, b⟩
      · have : j = 0 := by simpa using a
        subst this
        have : v = w := by simpa [jm_lk] using b
        subst this
        exact List.mem_cons_self
      · simp only [List.length_singleton] at a b
        have := jm_e1_lk as (i + 1) (j - 1) w b
        rw [show i + 1 + (j - 1) = i + j by omega] at this
        refine List.mem_cons_of_mem _ ?_
        rw [if_neg (by omega)]
        exact this
    · have e : jm_e1 (v :: as) = [some v, none] ++ jm_e1 as := by simp [jm_e1, hc]
      rw [e] at h
      rcases jm_lk_app h with ⟨a, b⟩ | ⟨a, b⟩
      · have a' : j < 2 := by simpa using a
        rcases (show j = 0 ∨ j = 1 by omega) with rfl | rfl
        · have : v = w := by simpa [jm_lk] using b
          subst this
          exact List.mem_cons_self
        · simp [jm_lk] at b
      · simp only [List.length_cons, List.length_nil] at a b
        have := jm_e1_lk as (i + 2) (j - 2) w b
        rw [show i + 2 + (j - 2) = i + j by omega] at this
        refine List.mem_cons_of_mem _ ?_
        rw [if_pos hc]
        exact this
theorem jm_args_map (E : jm_Ev) : ∀ (as : List Value) (i : Nat), lv_args i (as.map (jm_mv E)) = (lv_args i as).map fun q => (q.1, jm_mv E q.2)
  | [], _ => rfl
  | v :: as, i => by
    simp only [List.map_cons, lv_args, jm_mv_cat, jm_args_map E as]
theorem jm_sl_len (E : jm_Ev) (as : List Value) : (lg_sl (as.map (jm_mv E))).length = (lg_sl as).length := by
  induction as with
  | nil => rfl
  | cons v as ih =>
    simp only [lg_sl, List.map_cons, List.flatMap_cons, List.length_append, jm_mv_cat] at ih ⊢
    rw [ih]
    congr 1
    split <;> rfl
theorem jm_L_entry (E : jm_Ev) (as : List Value) {n : Nat} (h : (lg_sl as).length ≤ n) : jm_L E (jm_en n as) n ((lg_sl (as.map (jm_mv E)) ++ List.replicate (n - (lg_sl (as.map (jm_mv E))).length) Slot.unset).toArray) := by
  have hl := lv_entry (as.map (jm_mv E)) (n := n) (by rw [jm_sl_len]; exact h)
  refine ⟨hl.1, hl.2.1, fun i v hv => ?_⟩
  rcases jm_lk_app (show jm_lk (jm_e1 as ++ List.replicate (n - (lg_sl as).length) none) i = some v from hv) with ⟨_, b⟩ | ⟨_, b⟩
  · have h1 := jm_e1_lk as 0 i v b
    rw [Nat.zero_add] at h1
    refine hl.2.2 (i, jm_mv E v) ?_
    rw [jm_args_map]
    exact List.mem_map.mpr ⟨(i, v), h1, rfl⟩
  · exact (jm_lk_rep b).elim
end
section
/-! WHAT THE SMALL MACHINE READS, THE MACHINE DOES -/
def jm_rk (k : Nat) (rt : Option FieldType) : Bool := match k with
  | 0 => match rt with | none => true | _ => false
  | 1 => match rt with | some .int => true | _ => false
  | 2 => match rt with | some .boolean => true | _ => false
  | 3 => match rt with | some (.object _) => true | _ => false
  | _ => false
def jm_mk (G : Nat → jm_M) (nm : Nat → MethodName) (cd : Nat → ByteArray) (rt : Nat → Option FieldType) (u n : Nat) : Prop :=
  Jvm.Cond.code (nm u) (cd u) (G u).1 (rt u) ∈ jm_tb ∧ Jvm.Cond.initialized (nm u).cls ∈ jm_tb ∧ ((nm u).cls ≠ "java/lang/invoke/MethodHandle" ∧ (nm u).cls ≠ "java/lang/invoke/VarHandle") ∧ plainName (nm u).cls = true ∧ (parseMethodDescriptor (nm u).desc).map (fun d => d.parameters.length) = some n ∧ jm_rk (G u).2.1 (rt u) = true ∧ (G u).1 ≤ 40
def jm_tsok (pc : Nat) : Int → List Int → List (Int32 × Nat) → Bool
  | _, [], [] => true
  | lo, o :: os, (c, q) :: ts => decide (c.toInt = lo) && decide ((pc : Int) + o = (q : Int)) && jm_tsok pc (lo + 1) os ts
  | _, _, _ => false
def jm_lsok (pc : Nat) : List (Int × Int) → List (Int32 × Nat) → Bool
  | [], [] => true
  | (a, o) :: os, (c, q) :: ts => decide (c.toInt = a) && decide ((pc : Int) + o = (q : Int)) && jm_lsok pc os ts
  | _, _ => false
/-- what must hold of an instruction of method y at pc; lw is the law's number -/
def jm_iok (G : Nat → jm_M) (nm : Nat → MethodName) (cd : Nat → ByteArray) (rt : Nat → Option FieldType) (lw y pc : Nat) (op : Instr) (len u v w : Nat) (c : Int32) (cl : Int64) (ts : List (Int32 × Nat)) : Prop := match op with
  | .iconst n => len = 1 ∧ Int32.ofInt n = c
  | .bipush n => len = 2 ∧ (Int8.ofInt n).toInt32 = c
  | .sipush n => len = 3 ∧ (Int16.ofInt n).toInt32 = c
  | .ldc i => len = 2 ∧ Jvm.Cond.constant (nm y).cls i c ∈ jm_tb
  | .ldc_w i => len = 3 ∧ Jvm.Cond.constant (nm y).cls i c ∈ jm_tb
  | .ldc2_w i => len = 3 ∧ Jvm.Cond.constantLong (nm y).cls i cl ∈ jm_tb
  | .lconst n => len = 1 ∧ Int64.ofNat (n : Nat) = cl
  | .iload i => len = 2 ∧ i = u
  | .lload i => len = 2 ∧ i = u
  | .aload i => len = 2 ∧ i = u
  | .iload_n i => len = 1 ∧ (i : Nat) = u
  | .lload_n i => len = 1 ∧ (i : Nat) = u
  | .aload_n i => len = 1 ∧ (i : Nat) = u
  | .istore i => len = 2 ∧ i = u ∧ u < (G y).1
  | .astore i => len = 2 ∧ i = u ∧ u < (G y).1
  | .istore_n i => len = 1 ∧ (i : Nat) = u ∧ u < (G y).1
  | .astore_n i => len = 1 ∧ (i : Nat) = u ∧ u < (G y).1
  | .iinc i n => len = 3 ∧ i = u ∧ Int32.ofInt n = c ∧ u < (G y).1
  | .goto o => len = 3 ∧ (pc : Int) + o = (u : Int)
  | .ifCond _ o => len = 3 ∧ (pc : Int) + o = (u : Int)
  | .if_icmp _ o => len = 3 ∧ (pc : Int) + o = (u : Int)
  | .tableswitch df lo hi offs => (pc : Int) + df = (u : Int) ∧ jm_tsok pc lo offs.toList ts = true ∧ hi + 1 = lo + offs.toList.length
  | .lookupswitch df ps => (pc : Int) + df = (u : Int) ∧ jm_lsok pc ps.toList ts = true ∧ (ps.toList.zip (ps.toList.drop 1)).all (fun (a, next) => a.1 < next.1) = true
  | .getfield i => len = 3 ∧ u < 9 ∧ v < jm_nf u ∧ Jvm.Cond.fieldLink (nm y).cls i (jm_cn u) (jm_cT u v).2.1 (jm_cT u v).2.2.1 ∈ jm_tb
  | .putfield i => len = 3 ∧ u < 9 ∧ v < jm_nf u ∧ Jvm.Cond.fieldLink (nm y).cls i (jm_cn u) (jm_cT u v).2.1 (jm_cT u v).2.2.1 ∈ jm_tb ∧ (jm_ft u v = 1 → (nm y).name = "<init>" ∧ (nm y).cls = jm_cn u)
  | .arraylength => len = 1 ∧ (w = 1 → y = lw)
  | .iaload => len = 1 ∧ (w = 1 → y = lw)
  | .newarray a => len = 2 ∧ ((a = .int ∧ u = 9) ∨ (a = .boolean ∧ u = 10))
  | .anewarray i => len = 3 ∧ (11 ≤ u ∧ u ≤ 13) ∧ Jvm.Cond.classLink (nm y).cls i (jm_cn (jm_ec u)) ∈ jm_tb
  | .new i => len = 3 ∧ u < 9 ∧ Jvm.Cond.classLink (nm y).cls i (jm_cn u) ∈ jm_tb
  | .invokevirtual i => len = 3 ∧ 0 < v ∧ w < 9 ∧ u ≠ lw ∧ (nm u).cls = jm_cn w ∧ Jvm.Cond.methodLink (nm y).cls i (nm u) ∈ jm_tb ∧ Jvm.Cond.instanceMethod (nm u) ∈ jm_tb ∧ Jvm.Cond.selects (jm_cn w) (nm u) (nm u) ∈ jm_tb ∧ jm_mk G nm cd rt u (v - 1)
  | .invokestatic i => len = 3 ∧ (w = 7 → Jvm.Cond.methodLink (nm y).cls i arraycopyName ∈ jm_tb) ∧ (w ≠ 7 → u ≠ lw ∧ Jvm.Cond.static (nm u) ∈ jm_tb ∧ (Jvm.Cond.methodLink (nm y).cls i (nm u) ∈ jm_tb ∨ ((nm y).cls, i, nm u, RX7) ∈ jm_nst) ∧ jm_mk G nm cd rt u v)
  | .invokespecial i => len = 3 ∧ (w = 7 → Jvm.Cond.methodLink (nm y).cls i objectInit ∈ jm_tb) ∧ (w ≠ 7 → 0 < v ∧ u ≠ lw ∧ (nm u).name = "<init>" ∧ Jvm.Cond.instanceMethod (nm u) ∈ jm_tb ∧ (Jvm.Cond.methodLink (nm y).cls i (nm u) ∈ jm_tb ∨ ((nm y).cls, i, nm u, RX7) ∈ jm_nst) ∧ (rt u = none) ∧ jm_mk G nm cd rt u (v - 1))
  | _ => len = 1
/-- what an activation of method y rests on -/
def jm_Cx (E : jm_Ev) (G : Nat → jm_M) (nm : Nat → MethodName) (cd : Nat → ByteArray) (lw y n0 : Nat) (p : Program) (s : State) (m : MethodId) (args : Array Value) (meth : Method) (c : Code) : Prop :=
  p.tables.exec = Jvm.exec ∧ c.code = cd y ∧ c.maxLocals = (G y).1 ∧ s.vm.findClass (nm y).cls = some m.cls ∧ (∀ w ∈ jm_tb, w.before args s = true) ∧ va_K E.2.2.1 jm_cl (jm_tys E) s ∧ jm_N s ∧ s.heap.size = E.2.1 + n0 ∧ meth.name = (nm y).name ∧ (y = lw → va_X E.1 E.2.2.2.2.1 E.2.2.2.2.2 s s.heap ∧ E.1 < s.heap.size ∧ E.1 < E.2.1)
def jm_Wk (E : jm_Ev) (p : Program) (l : Launch) (e : Env) (R : Room) (s : State) (m : MethodId) (args : Array Value) (below : List Frame) (meth : Method) (c : Code) (Q : State → Prop) (nL n0 s0 pc : Nat) (ls : jm_V) (st : List Value) (t : jm_T) : Prop :=
  ∀ (H : Heap) (locs : List Loc) (lsA : Array Slot) (cells slots : Nat), jm_P E t H → va_S (jm_A E) s.heap H locs → jm_L E ls nL lsA → cells + n0 = t.1.1 → slots + s0 = t.1.2.1 → W p l e R s m args below meth c H locs cells slots Q (F0 m pc lsA (st.map (jm_mv E)))
/-- a return: its instruction, what it gives -/
def jm_rt (k : Nat) (op : Instr) (v : Option Value) : Prop :=
  (op = .ireturn ∧ ∃ x : Int32, v = some (.int x) ∧ (k = 1 ∨ (k = 2 ∧ (x = 0 ∨ x = 1)))) ∨ (op = .areturn ∧ k = 3 ∧ ∃ a : Nat, v = some (.ref a)) ∨ (op = .return_ ∧ k = 0 ∧ v = none)
section JS
variable {p : Program} {l : Launch} {e : Env} {R : Room} {s : State} {m : MethodId} {args : Array Value} {below : List Frame} {meth : Method} {c : Code} {H : Heap} {locs : List Loc} {cells slots : Nat} {Q : State → Prop}
theorem jm_sz {E : jm_Ev} {t : jm_T} {n0 : Nat} {g : JFrame} (hz : s.heap.size = E.2.1 + n0) (hP : jm_P E t H) (hS : va_S (jm_A E) s.heap H locs) (hc : cells + n0 = t.1.1) (k : H.size = E.2.1 + t.1.1 → W p l e R s m args below meth c H locs cells slots Q g) : W p l e R s m args below meth c H locs cells slots Q g := by
  intro T hT X
  have h1 := X.heapSize
  rw [hT] at h1
  have h2 : E.2.1 + t.1.1 ≤ H.size := by
    cases hn : t.1.1 with
    | zero =>
      have := hS.1
      omega
    | succ j =>
      have h3 := (hP.1 j _ (jm_ws_at E t (by omega))).lt
      dsimp only at h3
      omega
  exact k (by omega) T hT X
/-- a new cell's address -/
theorem jm_q {E : jm_Ev} {t : jm_T} {q : Nat} {x : va_E} {H1 : Heap} (hP : va_P E.2.2.1 jm_cl (jm_ws E t ++ [(q, x)]) H1) (hD : va_D (jm_A E) (jm_ws E t ++ [(q, x)])) (hz : H1.size ≤ E.2.1 + t.1.1 + 1) : q = E.2.1 + t.1.1 := by
  have hl : (jm_ws E t).length = t.1.1 := by simp [jm_ws]
  have hq : (jm_ws E t ++ [(q, x)])[t.1.1]? = some (q, x) := by
    rw [List.getElem?_append_right (by omega), hl, Nat.sub_self]; rfl
  have h1 := (hP _ _ hq).lt
  have h2 : E.2.1 ≤ q := hD.2 _ _ hq
  dsimp only at h1
  rcases Nat.lt_or_ge q (E.2.1 + t.1.1) with h | h
  · have hj : q - E.2.1 < t.1.1 := by omega
    have h3 : (jm_ws E t ++ [(q, x)])[q - E.2.1]? = some (E.2.1 + (q - E.2.1), jm_E E t (q - E.2.1 + 1)) := by
      rw [List.getElem?_append_left (by omega), jm_ws_at E t hj]
    have := hD.1 _ _ _ _ h3 hq (by dsimp only; omega)
    omega
  · omega
/-- the heap's size behind a new cell -/
theorem jm_sz1 {E : jm_Ev} {n0 k : Nat} {g : JFrame} (hz : s.heap.size = E.2.1 + n0) (hc : cells + n0 = k) (kk : H.size ≤ E.2.1 + k → W p l e R s m args below meth c H locs cells slots Q g) : W p l e R s m args below meth c H locs cells slots Q g := by
  intro T hT X
  have h1 := X.heapSize
  rw [hT] at h1
  exact kk (by omega) T hT X
theorem jm_E_off {E : jm_Ev} {t t' : jm_T} {b : Nat} (h1 : t'.1.2.2.1 b = t.1.2.2.1 b) (h2 : t'.1.2.2.2.1 b = t.1.2.2.2.1 b) (h3 : t'.1.2.2.2.2 b = t.1.2.2.2.2 b) (h4 : t'.2.1 b = t.2.1 b) (h5 : t'.2.2 b = t.2.2 b) : jm_E E t' b = jm_E E t b := by
  have hf : ∀ c, jm_fs E t' c b = jm_fs E t c b := fun c => by
    unfold jm_fs
    congr 1
    funext k
    simp only [jm_fv, h3, h4, h5]
  simp only [jm_E, h1, h2, h3, h4, hf]
theorem va_up_ne' {α : Type} {f : Nat → α} {k j : Nat} {v : α} (h : j ≠ k) : va_up f k v j = f j := by simp [va_up, h]
theorem va_up_eq' {α : Type} {f : Nat → α} {k : Nat} {v : α} : va_up f k v k = v := by simp [va_up]
end JS
end
section
/-! pieces of the one-step law -/
theorem jm_bt {b : Bool} {A B : Option jm_R} {r : jm_R} (hb : b = true) (h : (bif b then A else B) = some r) : A = some r := by subst hb; exact h
theorem jm_bf {b : Bool} {A B : Option jm_R} {r : jm_R} (hb : b = false) (h : (bif b then A else B) = some r) : B = some r := by subst hb; exact h
def jm_wm (G : Nat → jm_M) (nm : Nat → MethodName) (cd : Nat → ByteArray) (rt : Nat → Option FieldType) (u : Nat) : List Jvm.Cond := Jvm.Cond.code (nm u) (cd u) (G u).1 (rt u) :: jm_tb
def jm_pre (E : jm_Ev) (t : jm_T) (U : State) : Prop := U.heap.size = E.2.1 + t.1.1 ∧ jm_P E t U.heap ∧ va_K E.2.2.1 jm_cl (jm_tys E) U ∧ jm_N U
def jm_Q (E : jm_Ev) (r : jm_R) : Array Value → State → Outcome → State → Prop := fun _ st oc t => oc = .returned (r.1.map (jm_mv E)) ∧ jm_P E r.2 t.heap ∧ va_F (jm_A E) st t
def jm_rm (d mc ms : Nat) : Room := { frames := d, cells := mc, slots := ms, locals := 64 * d }
/-- the contract of a callee -/
def jm_Ct (l : Launch) (E : jm_Ev) (G : Nat → jm_M) (nm : Nat → MethodName) (cd : Nat → ByteArray) (rt : Nat → Option FieldType) (u d : Nat) (as : List Value) (t : jm_T) (r : jm_R) : Prop :=
  Met l (nm u) (jm_wm G nm cd rt u) (jm_rm d (r.2.1.1 - t.1.1) (r.2.1.2.1 - t.1.2.1)) (va_Pc (as.map (jm_mv E)) (jm_pre E t)) (jm_Q E r) (r.2.1.1 - t.1.1) (r.2.1.2.1 - t.1.2.1) (jm_A E)
theorem jm_N.vm {s U : State} (h : s.vm = U.vm) (hN : jm_N s) : jm_N U := ⟨fun q hq => (hN.1 q hq).same rfl h, fun c hc => (hN.2 c hc).moved (by rw [h]; exact Vm.Alike.refl U.vm)⟩
theorem jm_blind (E : jm_Ev) (t : jm_T) (av : List Value) : FrameBlind (va_Pc av (jm_pre E t)) := by
  intro a U g mk q
  obtain ⟨q0, q1, qP, qK, qN⟩ := q
  exact ⟨q0, q1, qP, va_K.moved (u := U) (U := U.calling g mk a) (Vm.Alike.refl U.vm) qK, jm_N.vm (s := U) (U := U.calling g mk a) rfl qN⟩
theorem jm_good (G : Nat → jm_M) (nm : Nat → MethodName) (cd : Nat → ByteArray) (rt : Nat → Option FieldType) (u : Nat) (h : Jvm.Cond.code (nm u) (cd u) (G u).1 (rt u) ∈ jm_tb) : GoodIn jm_tb (jm_wm G nm cd rt u) := by
  intro w hw
  have hm : w ∈ jm_tb := by
    rcases List.mem_cons.mp hw with rfl | hw
    · exact h
    · exact hw
  exact ⟨hm, good_of_word (jm_tb_of hm).2⟩
theorem jm_swt {k : Nat → Option jm_R} {x : Int32} {d pc : Nat} {r : jm_R} : ∀ {offs : List Int} {lo : Int} {ts : List (Int32 × Nat)}, jm_tsok pc lo offs ts = true → jm_sw k x d ts = some r → ((x.toInt < lo ∨ lo + offs.length ≤ x.toInt) ∧ k d = some r) ∨ ∃ (j : Nat) (o : Int) (q : Nat), x.toInt = lo + j ∧ offs[j]? = some o ∧ (pc : Int) + o = (q : Int) ∧ k q = some r
  | [], lo, [], _, h => Or.inl ⟨by simp; omega, h⟩
  | [], _, _ :: _, hk, _ => by simp [jm_tsok] at hk
  | _ :: _, _, [], hk, _ => by simp [jm_tsok] at hk
  | o :: os, lo, (c, q) :: ts, hk, h => by
    simp only [jm_tsok, Bool.and_eq_true, decide_eq_true_eq] at hk
    obtain ⟨⟨h1, h2⟩, h3⟩ := hk
    by_cases hx : x = c
    · subst hx
      exact Or.inr ⟨0, o, q, by omega, rfl, h2, jm_bt (decide_eq_true rfl) h⟩
    · have hne : x.toInt ≠ lo := fun e => hx (Int32.toInt_inj.mp (by rw [e, h1]))
      rcases jm_swt h3 (jm_bf (decide_eq_false hx) h) with ⟨a, b⟩ | ⟨j, o', q', a, b, c', e⟩
      · refine Or.inl ⟨?_, b⟩
        simp only [List.length_cons]
        omega
      · exact Or.inr ⟨j + 1, o', q', by omega, by simpa using b, c', e⟩
theorem jm_swl {k : Nat → Option jm_R} {x : Int32} {d pc : Nat} {df : Int} {r : jm_R} (hd : (pc : Int) + df = (d : Int)) : ∀ {ps : List (Int × Int)} {ts : List (Int32 × Nat)}, jm_lsok pc ps ts = true → jm_sw k x d ts = some r → ∃ q : Nat, (pc : Int) + Op.lookupswitch.offset ps df x.toInt = (q : Int) ∧ k q = some r
  | [], [], _, h => ⟨d, hd, h⟩
  | [], _ :: _, hk, _ => by simp [jm_lsok] at hk
  | _ :: _, [], hk, _ => by simp [jm_lsok] at hk
  | (a, o) :: os, (c, q) :: ts, hk, h => by
    simp only [jm_lsok, Bool.and_eq_true, decide_eq_true_eq] at hk
    obtain ⟨⟨h1, h2⟩, h3⟩ := hk
    by_cases hx : x = c
    · subst hx
      exact ⟨q, by rw [Op.lookupswitch.offset_cons, if_pos h1.symm]; exact h2, jm_bt (decide_eq_true rfl) h⟩
    · obtain ⟨q', e1, e2⟩ := jm_swl hd h3 (jm_bf (decide_eq_false hx) h)
      exact ⟨q', by rw [Op.lookupswitch.offset_cons, if_neg (fun e => hx (Int32.toInt_inj.mp (by rw [← e, h1])))]; exact e1, e2⟩
theorem jm_P_arr {E : jm_Ev} {t : jm_T} {H H1 : Heap} {j kd : Nat} {f : Nat → Int32} (hP : jm_P E t H) (hj : j < t.1.1) (hk : t.1.2.2.1 (j + 1) = kd) (h9 : 9 ≤ kd) (h11 : kd < 11)
    (hP1 : va_P E.2.2.1 jm_cl ((jm_ws E t).set j (E.2.1 + j, .inl (E.2.2.2.1 kd, t.1.2.2.2.1 (j + 1), .inl f))) H1) : jm_P E (t.1, va_up t.2.1 (j + 1) f, t.2.2) H1 := by
  refine ⟨?_, ?_, hP.2.2⟩
  · rw [jm_ws_set E t (t.1, va_up t.2.1 (j + 1) f, t.2.2) (j := j) (x := .inl (E.2.2.2.1 kd, t.1.2.2.2.1 (j + 1), .inl f)) rfl ?_ (fun b hb => jm_E_off rfl rfl rfl (va_up_ne' hb) rfl) hj]
    · exact hP1
    · rw [jm_E_int E (t.1, va_up t.2.1 (j + 1) f, t.2.2) hk h9 h11]
      dsimp only
      rw [va_up_eq']
  · show va_up t.2.1 (j + 1) f 0 = _
    rw [va_up_ne' (by omega)]
    exact hP.2.1
theorem jm_P_obj {E : jm_Ev} {t t' : jm_T} {H H1 : Heap} {j u k : Nat} {x : Value} (hP : jm_P E t H) (hj : j < t.1.1) (hk : t.1.2.2.1 (j + 1) = u) (hu : u < 9) (hkn : k < jm_nf u) (e1 : t'.1.1 = t.1.1) (e2 : t'.1.2.2.1 = t.1.2.2.1) (e3 : t'.1.2.2.2.1 = t.1.2.2.2.1)
    (o3 : ∀ b, b ≠ j + 1 → t'.1.2.2.2.2 b = t.1.2.2.2.2 b) (o4 : ∀ b, b ≠ j + 1 → t'.2.1 b = t.2.1 b) (o5 : ∀ b, b ≠ j + 1 → t'.2.2 b = t.2.2 b)
    (f1 : jm_fv E t' u (j + 1) k = x) (f2 : ∀ i, i ≠ k → jm_fv E t' u (j + 1) i = jm_fv E t u (j + 1) i)
    (hP1 : va_P E.2.2.1 jm_cl ((jm_ws E t).set j (E.2.1 + j, .inr (u, (jm_fs E t u (j + 1)).set k x))) H1) : jm_P E t' H1 := by
  refine ⟨?_, ?_, ?_⟩
  · rw [jm_ws_set E t t' (j := j) (x := .inr (u, (jm_fs E t u (j + 1)).set k x)) e1 ?_ (fun b hb => jm_E_off (by rw [e2]) (by rw [e3]) (o3 b hb) (o4 b hb) (o5 b hb)) hj]
    · exact hP1
    · rw [jm_E_obj E t' (show t'.1.2.2.1 (j + 1) = u by rw [e2]; exact hk) hu, jm_fs_set E t t' f1 f2 hkn]
  · rw [o4 0 (by omega)]
    exact hP.2.1
  · rw [e3]
    exact hP.2.2
theorem jm_P_ref {E : jm_Ev} {t : jm_T} {H H1 : Heap} {j kd i b : Nat} (hP : jm_P E t H) (hj : j < t.1.1) (hk : t.1.2.2.1 (j + 1) = kd) (h11 : 11 ≤ kd)
    (hP1 : va_P E.2.2.1 jm_cl ((jm_ws E t).set j (E.2.1 + j, .inl (E.2.2.2.1 kd, t.1.2.2.2.1 (j + 1), .inr (.inr (.inr (.inr (va_up (fun q => (t.1.2.2.2.2 (j + 1) q).map (jm_ad E)) i (some (jm_ad E b)))))))))  H1) : jm_P E ((t.1.1, t.1.2.1, t.1.2.2.1, t.1.2.2.2.1, jm_upR t.1.2.2.2.2 (j + 1) i (some b)), t.2.1, t.2.2) H1 := by
  refine ⟨?_, hP.2.1, hP.2.2⟩
  rw [jm_ws_set E t ((t.1.1, t.1.2.1, t.1.2.2.1, t.1.2.2.2.1, jm_upR t.1.2.2.2.2 (j + 1) i (some b)), t.2.1, t.2.2) (j := j) rfl rfl (fun b hb => jm_E_off rfl rfl (by show va_up _ _ _ b = _; rw [va_up_ne' hb]) rfl rfl) hj]
  rw [jm_E_ref E ((t.1.1, t.1.2.1, t.1.2.2.1, t.1.2.2.2.1, jm_upR t.1.2.2.2.2 (j + 1) i (some b)), t.2.1, t.2.2) (c := kd) hk h11]
  have e : (fun q => (jm_upR t.1.2.2.2.2 (j + 1) i (some b) (j + 1) q).map (jm_ad E)) = va_up (fun q => (t.1.2.2.2.2 (j + 1) q).map (jm_ad E)) i (some (jm_ad E b)) := by
    funext q
    unfold jm_upR
    rw [va_up_eq']
    by_cases hq : q = i
    · subst hq; rw [va_up_eq', va_up_eq']; rfl
    · rw [va_up_ne' hq, va_up_ne' hq]
  dsimp only
  rw [e]
  exact hP1
theorem jm_P_new {E : jm_Ev} {t : jm_T} {H H1 : Heap} {kd len slots : Nat} {x : va_E} (hP : jm_P E t H) (hx : jm_E E (jm_nw t kd len slots) (t.1.1 + 1) = x) (hP1 : va_P E.2.2.1 jm_cl (jm_ws E t ++ [(E.2.1 + t.1.1, x)]) H1) : jm_P E (jm_nw t kd len slots) H1 := by
  refine ⟨?_, ?_, ?_⟩
  · rw [jm_ws_push E t (jm_nw t kd len slots) rfl hx (fun b hb => jm_E_off (va_up_ne' hb) (va_up_ne' hb) (va_up_ne' hb) (va_up_ne' hb) (va_up_ne' hb))]
    exact hP1
  · show va_up t.2.1 (t.1.1 + 1) (fun _ => 0) 0 = _
    rw [va_up_ne' (by omega)]
    exact hP.2.1
  · show va_up t.1.2.2.2.1 (t.1.1 + 1) len 0 = _
    rw [va_up_ne' (by omega)]
    exact hP.2.2
theorem jm_tys_i {E : jm_Ev} {s : State} {D : va_G} {cl : List vw_C} {tys : List (ClassId × FieldType)} {a b : ClassId} {ty : FieldType} {i j : Nat} (hK : va_K D cl tys s) (hi : tys[i]? = some (a, ty)) (hj : tys[j]? = some (b, ty)) : a = b := by
  have h1 := (hK.2 i _ hi).2
  have h2 := (hK.2 j _ hj).2
  cases ty with
  | object C =>
    obtain ⟨_, _, _, _, _, f1⟩ := h1
    obtain ⟨_, _, _, _, _, f2⟩ := h2
    exact Option.some.inj (f1.symm.trans f2)
  | _ => exact Option.some.inj ((show s.vm.findClass _ = some a from h1).symm.trans (show s.vm.findClass _ = some b from h2))
theorem jm_nq {ty : FieldType} (h : jm_isq ty = true) (a : Nat) : narrow ty (.ref a) = .ref a ∧ fits ty (.ref a) = true := by
  cases ty <;> first | (simp [jm_isq] at h; done) | exact ⟨rfl, rfl⟩
theorem jm_tys_q (E : jm_Ev) {k : Nat} (h1 : 11 ≤ k) (h2 : k ≤ 13) : (jm_tys E)[k - 9]? = some (E.2.2.2.1 k, .object (jm_cn (jm_ec k))) := by
  rcases (show k = 11 ∨ k = 12 ∨ k = 13 by omega) with rfl | rfl | rfl <;> rfl
theorem jm_ec_lt (k : Nat) : jm_ec k < 9 := by
  unfold jm_ec
  split <;> omega
theorem jm_ec_in (k : Nat) : jm_cn (jm_ec k) ∈ [RX0, RX1, RX3] := by
  unfold jm_ec
  split <;> simp [jm_cn]
theorem jm_st_eq {st as : List Value} {v : Nat} {x : Value} (h : (st.take v).reverse = x :: as) : st = as.reverse ++ x :: st.drop v := by
  have h2 : st.take v = as.reverse ++ [x] := by
    have := congrArg List.reverse h
    simpa using this
  conv => lhs; rw [← List.take_append_drop v st, h2]
  simp
theorem jm_tl {f : Value → Value} (o : Option Value) (l : List Value) : (o.toList ++ l).map f = (o.map f).toList ++ l.map f := by
  cases o <;> simp
theorem jm_fs_new (E : jm_Ev) (t : jm_T) {u : Nat} (hu : u < 9) : ∀ j, j < jm_nf u → defaultValue (jm_ty u j) = vp_V (jm_fs E (jm_nw t u 0 (jm_nf u)) u (t.1.1 + 1)) j := by
  intro j hj
  have e : vp_V (jm_fs E (jm_nw t u 0 (jm_nf u)) u (t.1.1 + 1)) j = jm_fv E (jm_nw t u 0 (jm_nf u)) u (t.1.1 + 1) j := by
    unfold vp_V
    rw [List.getD_eq_getElem?_getD, jm_fs_at E _ hj]
    rfl
  rw [e]
  have hlt := jm_ft_lt u hu j hj
  rcases (show jm_ft u j = 0 ∨ jm_ft u j = 1 ∨ jm_ft u j = 2 ∨ jm_ft u j = 3 by omega) with h | h | h | h
  · rw [jm_ty0 u hu j hj h]
    simp [jm_fv, h, jm_nw, va_up, defaultValue]
  · have hq := jm_ty1 u hu j hj h
    cases hty : jm_ty u j <;> rw [hty] at hq <;> first | (simp [jm_isq] at hq; done) | simp [jm_fv, h, jm_nw, va_up, defaultValue, va_rf]
  · rw [jm_ty2 u hu j hj h]
    simp [jm_fv, h, jm_nw, va_up, defaultValue]
  · rw [jm_ty3 u hu j hj h]
    simp [jm_fv, h, jm_nw, va_up, defaultValue]
section JC
variable {p : Program} {l : Launch} {e : Env} {R : Room} {s : State} {m : MethodId} {args : Array Value} {below : List Frame} {meth : Method} {c : Code} {H : Heap} {locs : List Loc} {cells slots : Nat} {Q : State → Prop}
theorem jm_call {E : jm_Ev} {r : jm_R} {pc mc ms : Nat} {lsA : Array Slot} {st0 rest : List Value} {a : Array Value} (hr : va_Run p l e R s m args below meth c H locs cells slots mc ms (F0 m pc lsA st0) rest (jm_Q E r a) (jm_A E)) (hS : va_S (jm_A E) s.heap H locs)
    (kk : ∀ (H1 : Heap) (locs1 : List Loc), jm_P E r.2 H1 → va_S (jm_A E) s.heap H1 locs1 → W p l e R s m args below meth c H1 locs1 (cells + mc) (slots + ms) Q (F0 m (pc + 3) lsA ((r.1.map (jm_mv E)).toList ++ rest))) : W p l e R s m args below meth c H locs cells slots Q (F0 m pc lsA st0) := by
  intro T hT X
  obtain ⟨v, st₀, t, T', L, h0, X', hL, e1, e2, ⟨hv, hp, hz, hq⟩, st⟩ := hr T hT X
  have hv' : v = r.1.map (jm_mv E) := Outcome.returned.inj hv
  subst hv'
  rw [h0] at hz hq
  obtain ⟨t2, a1, b1⟩ := kk T'.heap (locs ++ L) (by rw [e1]; exact hp) ⟨Nat.le_trans hS.1 (by rw [e1]; exact hz), fun q h1 h2 => by rw [e1, hq q (Nat.lt_of_lt_of_le h1 hS.1) h2]; exact hS.2.1 q h1 h2, fun q hq => by
      rcases List.mem_append.mp hq with h | h
      · exact hS.2.2 q h
      · exact hL q h⟩ T' rfl X'
  exact ⟨t2, st t2 a1, b1⟩
end JC
end
section
/-! one instruction -/
section JO
variable {p : Program} {l : Launch} {e : Env} {R : Room} {s : State} {m : MethodId} {args : Array Value} {below : List Frame} {meth : Method} {c : Code} {Q : State → Prop}
set_option maxHeartbeats 4000000 in
set_option maxRecDepth 20000 in
theorem jm_one {E : jm_Ev} {G : Nat → jm_M} {nm : Nat → MethodName} {cd : Nat → ByteArray} {rt : Nat → Option FieldType} {lw y n0 s0 d pc len u v w : Nat} {op : Instr} {cc : Int32} {cl : Int64} {ts : List (Int32 × Nat)} {ls : jm_V} {st : List Value} {t : jm_T} {r : jm_R}
    (X : jm_Cx E G nm cd lw y n0 p s m args meth c) (hd : decode (cd y) pc = .ok (op, len)) (hi : jm_iok G nm cd rt lw y pc op len u v w cc cl ts)
    (hR : d ≤ R.frames ∧ 64 * d ≤ R.locals ∧ r.2.1.1 ≤ R.cells + n0 ∧ r.2.1.2.1 ≤ R.slots + s0)
    {k : Nat → jm_V → List Value → jm_T → Option jm_R} {C : Nat → List Value → jm_T → Option jm_R}
    (hk : ∀ pc' ls' st' t', k pc' ls' st' t' = some r → jm_Wk E p l e R s m args below meth c Q (G y).1 n0 s0 pc' ls' st' t' ∧ t'.1.1 ≤ r.2.1.1 ∧ t'.1.2.1 ≤ r.2.1.2.1)
    (hC : ∀ u' n as t' r', jm_mk G nm cd rt u' n → u' ≠ lw → C u' as t' = some r' → ∃ d', d = d' + 1 ∧ t'.1.1 ≤ r'.2.1.1 ∧ t'.1.2.1 ≤ r'.2.1.2.1 ∧ jm_Ct l E G nm cd rt u' d' as t' r')
    (hret : ∀ (pc : Nat) (op : Instr) (v : Option Value) (tt : jm_T), (v, tt) = r → decode (cd y) pc = .ok (op, 1) → jm_rt (G y).2.1 op v → ∀ (lsA : Array Slot) (H : Heap) (locs : List Loc) (cells slots : Nat), jm_P E tt H → va_S (jm_A E) s.heap H locs → cells + n0 = tt.1.1 → slots + s0 = tt.1.2.1 → W p l e R s m args below meth c H locs cells slots Q (F0 m pc lsA ((v.map (jm_mv E)).toList)))
    (h : jm_step op u v w cc cl ts d (G y).2.1 pc ls st t k C = some r) : jm_Wk E p l e R s m args below meth c Q (G y).1 n0 s0 pc ls st t := by
  obtain ⟨hx, hb, hml, hown, hts, hK, hN, hz, hname, hX⟩ := X
  intro H locs lsA cells slots hP hS hl hc hs
  cases op with
  | iconst n =>
    obtain ⟨rfl, hv⟩ := hi
    exact lv_iconst hx hb hd hv ((hk _ _ _ _ h).1 H locs lsA cells slots hP hS hl hc hs)
  | bipush n =>
    obtain ⟨rfl, hv⟩ := hi
    exact lv_bipush hx hb hd hv ((hk _ _ _ _ h).1 H locs lsA cells slots hP hS hl hc hs)
  | sipush n =>
    obtain ⟨rfl, hv⟩ := hi
    exact lv_sipush hx hb hd hv ((hk _ _ _ _ h).1 H locs lsA cells slots hP hS hl hc hs)
  | ldc i =>
    obtain ⟨rfl, hv⟩ := hi
    exact lv_ldc hx hb hown (hts _ hv) hd ((hk _ _ _ _ h).1 H locs lsA cells slots hP hS hl hc hs)
  | ldc_w i =>
    obtain ⟨rfl, hv⟩ := hi
    exact lv_ldcw hx hb hown (hts _ hv) hd ((hk _ _ _ _ h).1 H locs lsA cells slots hP hS hl hc hs)
  | ldc2_w i =>
    obtain ⟨rfl, hv⟩ := hi
    exact lv_ldc2 hx hb hown (hts _ hv) hd ((hk _ _ _ _ h).1 H locs lsA cells slots hP hS hl hc hs)
  | lconst n =>
    obtain ⟨rfl, hv⟩ := hi
    exact lv_lconst hx hb hd hv ((hk _ _ _ _ h).1 H locs lsA cells slots hP hS hl hc hs)
  | iload i =>
    obtain ⟨rfl, rfl⟩ := hi
    dsimp only [jm_step] at h
    split at h
    · rename_i x ex
      exact lv_iload hx hb hd (hl.2.2 _ _ ex) ((hk _ _ _ _ h).1 H locs lsA cells slots hP hS hl hc hs)
    · cases h
  | lload i =>
    obtain ⟨rfl, rfl⟩ := hi
    dsimp only [jm_step] at h
    split at h
    · rename_i x ex
      exact lv_lload hx hb hd (hl.2.2 _ _ ex) ((hk _ _ _ _ h).1 H locs lsA cells slots hP hS hl hc hs)
    · cases h
  | aload i =>
    obtain ⟨rfl, rfl⟩ := hi
    dsimp only [jm_step] at h
    split at h
    · rename_i x ex
      exact lv_aload hx hb hd (hl.2.2 _ _ ex) ((hk _ _ _ _ h).1 H locs lsA cells slots hP hS hl hc hs)
    · cases h
  | iload_n i =>
    obtain ⟨rfl, rfl⟩ := hi
    dsimp only [jm_step] at h
    split at h
    · rename_i x ex
      exact lv_iload_n hx hb hd rfl (hl.2.2 _ _ ex) ((hk _ _ _ _ h).1 H locs lsA cells slots hP hS hl hc hs)
    · cases h
  | lload_n i =>
    obtain ⟨rfl, rfl⟩ := hi
    dsimp only [jm_step] at h
    split at h
    · rename_i x ex
      exact lv_lload_n hx hb hd rfl (hl.2.2 _ _ ex) ((hk _ _ _ _ h).1 H locs lsA cells slots hP hS hl hc hs)
    · cases h
  | aload_n i =>
    obtain ⟨rfl, rfl⟩ := hi
    dsimp only [jm_step] at h
    split at h
    · rename_i x ex
      exact lv_aload_n hx hb hd rfl (hl.2.2 _ _ ex) ((hk _ _ _ _ h).1 H locs lsA cells slots hP hS hl hc hs)
    · cases h
  | istore i =>
    obtain ⟨rfl, rfl, hu⟩ := hi
    dsimp only [jm_step] at h
    split at h
    · rename_i x st1
      exact lv_istore hx hb hd hl.has hu rfl (fun ls' hl' => (hk _ _ _ _ h).1 H locs ls' cells slots hP hS (jm_L.st1 (v := .int x) hl') hc hs)
    · cases h
  | istore_n i =>
    obtain ⟨rfl, rfl, hu⟩ := hi
    dsimp only [jm_step] at h
    split at h
    · rename_i x st1
      exact lv_istore_n hx hb hd rfl hl.has hu rfl (fun ls' hl' => (hk _ _ _ _ h).1 H locs ls' cells slots hP hS (jm_L.st1 (v := .int x) hl') hc hs)
    · cases h
  | astore i =>
    obtain ⟨rfl, rfl, hu⟩ := hi
    dsimp only [jm_step] at h
    split at h
    · rename_i x st1
      exact lv_astore hx hb hd hl.has hu rfl (fun ls' hl' => (hk _ _ _ _ h).1 H locs ls' cells slots hP hS (jm_L.st1 (v := .ref x) hl') hc hs)
    · cases h
  | astore_n i =>
    obtain ⟨rfl, rfl, hu⟩ := hi
    dsimp only [jm_step] at h
    split at h
    · rename_i x st1
      exact lv_astore_n hx hb hd rfl hl.has hu rfl (fun ls' hl' => (hk _ _ _ _ h).1 H locs ls' cells slots hP hS (jm_L.st1 (v := .ref x) hl') hc hs)
    · cases h
  | iinc i n =>
    obtain ⟨rfl, rfl, hv, hu⟩ := hi
    dsimp only [jm_step] at h
    split at h
    · rename_i x ex
      obtain ⟨q, hq⟩ := List.getElem?_of_mem (jm_al_mem E ex)
      exact lv_iinc hx hb hd hl.has (k := q) hq (by rw [hv]) hu rfl (fun ls' hl' => (hk _ _ _ _ h).1 H locs ls' cells slots hP hS (jm_L.st1 (v := .int (x + cc)) hl') hc hs)
    · cases h
  | iadd =>
    have hi : len = 1 := hi
    subst hi
    dsimp only [jm_step] at h
    split at h
    · rename_i b a st1
      exact lv_iadd (x := a) (y := b) (rest := st1.map (jm_mv E)) hx hb hd ((hk _ _ _ _ h).1 H locs lsA cells slots hP hS hl hc hs)
    · cases h
  | isub =>
    have hi : len = 1 := hi
    subst hi
    dsimp only [jm_step] at h
    split at h
    · rename_i b a st1
      exact lv_isub (x := a) (y := b) (rest := st1.map (jm_mv E)) hx hb hd ((hk _ _ _ _ h).1 H locs lsA cells slots hP hS hl hc hs)
    · cases h
  | imul =>
    have hi : len = 1 := hi
    subst hi
    dsimp only [jm_step] at h
    split at h
    · rename_i b a st1
      exact lv_imul (x := a) (y := b) (rest := st1.map (jm_mv E)) hx hb hd ((hk _ _ _ _ h).1 H locs lsA cells slots hP hS hl hc hs)
    · cases h
  | iand =>
    have hi : len = 1 := hi
    subst hi
    dsimp only [jm_step] at h
    split at h
    · rename_i b a st1
      exact lv_iand (x := a) (y := b) (rest := st1.map (jm_mv E)) hx hb hd ((hk _ _ _ _ h).1 H locs lsA cells slots hP hS hl hc hs)
    · cases h
  | ior =>
    have hi : len = 1 := hi
    subst hi
    dsimp only [jm_step] at h
    split at h
    · rename_i b a st1
      exact lv_ior (x := a) (y := b) (rest := st1.map (jm_mv E)) hx hb hd ((hk _ _ _ _ h).1 H locs lsA cells slots hP hS hl hc hs)
    · cases h
  | ixor =>
    have hi : len = 1 := hi
    subst hi
    dsimp only [jm_step] at h
    split at h
    · rename_i b a st1
      exact lv_ixor (x := a) (y := b) (rest := st1.map (jm_mv E)) hx hb hd ((hk _ _ _ _ h).1 H locs lsA cells slots hP hS hl hc hs)
    · cases h
  | ishl =>
    have hi : len = 1 := hi
    subst hi
    dsimp only [jm_step] at h
    split at h
    · rename_i b a st1
      exact lv_ishl (x := a) (y := b) (rest := st1.map (jm_mv E)) hx hb hd ((hk _ _ _ _ h).1 H locs lsA cells slots hP hS hl hc hs)
    · cases h
  | ishr =>
    have hi : len = 1 := hi
    subst hi
    dsimp only [jm_step] at h
    split at h
    · rename_i b a st1
      exact lv_ishr (x := a) (y := b) (rest := st1.map (jm_mv E)) hx hb hd ((hk _ _ _ _ h).1 H locs lsA cells slots hP hS hl hc hs)
    · cases h
  | iushr =>
    have hi : len = 1 := hi
    subst hi
    dsimp only [jm_step] at h
    split at h
    · rename_i b a st1
      exact lv_iushr (x := a) (y := b) (rest := st1.map (jm_mv E)) hx hb hd rfl ((hk _ _ _ _ h).1 H locs lsA cells slots hP hS hl hc hs)
    · cases h
  | idiv =>
    have hi : len = 1 := hi
    subst hi
    dsimp only [jm_step] at h
    split at h
    · rename_i b a st1
      obtain ⟨h0, h⟩ := jm_if_some h
      exact lv_idiv (x := a) (y := b) (rest := st1.map (jm_mv E)) hx hb hd (by simpa using h0) ((hk _ _ _ _ h).1 H locs lsA cells slots hP hS hl hc hs)
    · cases h
  | irem =>
    have hi : len = 1 := hi
    subst hi
    dsimp only [jm_step] at h
    split at h
    · rename_i b a st1
      obtain ⟨h0, h⟩ := jm_if_some h
      exact lv_irem (x := a) (y := b) (rest := st1.map (jm_mv E)) hx hb hd (by simpa using h0) ((hk _ _ _ _ h).1 H locs lsA cells slots hP hS hl hc hs)
    · cases h
  | lmul =>
    have hi : len = 1 := hi
    subst hi
    dsimp only [jm_step] at h
    split at h
    · rename_i b a st1
      exact lv_lmul (x := a) (y := b) (rest := st1.map (jm_mv E)) hx hb hd ((hk _ _ _ _ h).1 H locs lsA cells slots hP hS hl hc hs)
    · cases h
  | lrem =>
    have hi : len = 1 := hi
    subst hi
    dsimp only [jm_step] at h
    split at h
    · rename_i b a st1
      obtain ⟨h0, h⟩ := jm_if_some h
      exact lv_lrem (x := a) (y := b) (rest := st1.map (jm_mv E)) hx hb hd (by simpa using h0) ((hk _ _ _ _ h).1 H locs lsA cells slots hP hS hl hc hs)
    · cases h
  | lcmp =>
    have hi : len = 1 := hi
    subst hi
    dsimp only [jm_step] at h
    split at h
    · rename_i b a st1
      exact W.lcmp (x := a) (y := b) (rest := st1.map (jm_mv E)) hx hb hd ((hk _ _ _ _ h).1 H locs lsA cells slots hP hS hl hc hs)
    · cases h
  | l2i =>
    have hi : len = 1 := hi
    subst hi
    dsimp only [jm_step] at h
    split at h
    · rename_i a st1
      exact lv_l2i (x := a) (rest := st1.map (jm_mv E)) hx hb hd rfl ((hk _ _ _ _ h).1 H locs lsA cells slots hP hS hl hc hs)
    · cases h
  | i2l =>
    have hi : len = 1 := hi
    subst hi
    dsimp only [jm_step] at h
    split at h
    · rename_i a st1
      exact lv_i2l (x := a) (rest := st1.map (jm_mv E)) hx hb hd rfl ((hk _ _ _ _ h).1 H locs lsA cells slots hP hS hl hc hs)
    · cases h
  | dup =>
    have hi : len = 1 := hi
    subst hi
    dsimp only [jm_step] at h
    split at h
    · rename_i a st1
      obtain ⟨h0, h⟩ := jm_if_some h
      exact lv_dup (va := jm_mv E a) (rest := st1.map (jm_mv E)) hx hb hd (by rw [jm_mv_cat]; exact Nat.eq_of_beq_eq_true h0) ((hk _ _ _ _ h).1 H locs lsA cells slots hP hS hl hc hs)
    · cases h
  | dup2 =>
    have hi : len = 1 := hi
    subst hi
    dsimp only [jm_step] at h
    split at h
    · rename_i a b st1
      obtain ⟨h0, h⟩ := jm_if_some h
      rw [Bool.and_eq_true] at h0
      exact lv_dup2_11 (va := jm_mv E a) (vb := jm_mv E b) (rest := st1.map (jm_mv E)) hx hb hd (by rw [jm_mv_cat]; exact Nat.eq_of_beq_eq_true h0.1) (by rw [jm_mv_cat]; exact Nat.eq_of_beq_eq_true h0.2) ((hk _ _ _ _ h).1 H locs lsA cells slots hP hS hl hc hs)
    · cases h
  | goto o =>
    obtain ⟨rfl, ho⟩ := hi
    exact lv_goto hx hb hd ho ((hk _ _ _ _ h).1 H locs lsA cells slots hP hS hl hc hs)
  | ifCond q o =>
    obtain ⟨rfl, ho⟩ := hi
    dsimp only [jm_step] at h
    split at h
    · rename_i a st1
      cases q with
      | eq => exact lv_if_eq (x := a) (rest := st1.map (jm_mv E)) hx hb hd ho (fun z => (hk _ _ _ _ (jm_bt (by simp [jm_c0, z]) h)).1 H locs lsA cells slots hP hS hl hc hs) (fun z => (hk _ _ _ _ (jm_bf (by simp [jm_c0, z]) h)).1 H locs lsA cells slots hP hS hl hc hs)
      | ne => exact lv_if_ne (x := a) (rest := st1.map (jm_mv E)) hx hb hd ho (fun z => (hk _ _ _ _ (jm_bt (by simp [jm_c0, z]) h)).1 H locs lsA cells slots hP hS hl hc hs) (fun z => (hk _ _ _ _ (jm_bf (by simp [jm_c0, z]) h)).1 H locs lsA cells slots hP hS hl hc hs)
      | lt => exact lv_if_lt (x := a) (rest := st1.map (jm_mv E)) hx hb hd ho (fun z => (hk _ _ _ _ (jm_bt (decide_eq_true z) h)).1 H locs lsA cells slots hP hS hl hc hs) (fun z => (hk _ _ _ _ (jm_bf (decide_eq_false z) h)).1 H locs lsA cells slots hP hS hl hc hs)
      | ge => exact lv_if_ge (x := a) (rest := st1.map (jm_mv E)) hx hb hd ho (fun z => (hk _ _ _ _ (jm_bt (decide_eq_true z) h)).1 H locs lsA cells slots hP hS hl hc hs) (fun z => (hk _ _ _ _ (jm_bf (decide_eq_false z) h)).1 H locs lsA cells slots hP hS hl hc hs)
      | gt => exact lv_if_gt (x := a) (rest := st1.map (jm_mv E)) hx hb hd ho (fun z => (hk _ _ _ _ (jm_bt (decide_eq_true z) h)).1 H locs lsA cells slots hP hS hl hc hs) (fun z => (hk _ _ _ _ (jm_bf (decide_eq_false z) h)).1 H locs lsA cells slots hP hS hl hc hs)
      | le => exact lv_if_le (x := a) (rest := st1.map (jm_mv E)) hx hb hd ho (fun z => (hk _ _ _ _ (jm_bt (decide_eq_true z) h)).1 H locs lsA cells slots hP hS hl hc hs) (fun z => (hk _ _ _ _ (jm_bf (decide_eq_false z) h)).1 H locs lsA cells slots hP hS hl hc hs)
    · cases h
  | if_icmp q o =>
    obtain ⟨rfl, ho⟩ := hi
    dsimp only [jm_step] at h
    split at h
    · rename_i b a st1
      cases q with
      | eq => exact lv_icmp_eq (x := a) (y := b) (rest := st1.map (jm_mv E)) hx hb hd ho (fun z => (hk _ _ _ _ (jm_bt (by simp [jm_c2, z]) h)).1 H locs lsA cells slots hP hS hl hc hs) (fun z => (hk _ _ _ _ (jm_bf (by simp [jm_c2, z]) h)).1 H locs lsA cells slots hP hS hl hc hs)
      | ne => exact lv_icmp_ne (x := a) (y := b) (rest := st1.map (jm_mv E)) hx hb hd ho (fun z => (hk _ _ _ _ (jm_bt (by simp [jm_c2, z]) h)).1 H locs lsA cells slots hP hS hl hc hs) (fun z => (hk _ _ _ _ (jm_bf (by simp [jm_c2, z]) h)).1 H locs lsA cells slots hP hS hl hc hs)
      | lt => exact lv_icmp_lt (x := a) (y := b) (rest := st1.map (jm_mv E)) hx hb hd ho (fun z => (hk _ _ _ _ (jm_bt (decide_eq_true z) h)).1 H locs lsA cells slots hP hS hl hc hs) (fun z => (hk _ _ _ _ (jm_bf (decide_eq_false z) h)).1 H locs lsA cells slots hP hS hl hc hs)
      | ge => exact lv_icmp_ge (x := a) (y := b) (rest := st1.map (jm_mv E)) hx hb hd ho (fun z => (hk _ _ _ _ (jm_bt (decide_eq_true z) h)).1 H locs lsA cells slots hP hS hl hc hs) (fun z => (hk _ _ _ _ (jm_bf (decide_eq_false z) h)).1 H locs lsA cells slots hP hS hl hc hs)
      | gt => exact lv_icmp_gt (x := a) (y := b) (rest := st1.map (jm_mv E)) hx hb hd ho (fun z => (hk _ _ _ _ (jm_bt (decide_eq_true z) h)).1 H locs lsA cells slots hP hS hl hc hs) (fun z => (hk _ _ _ _ (jm_bf (decide_eq_false z) h)).1 H locs lsA cells slots hP hS hl hc hs)
      | le => exact lv_icmp_le (x := a) (y := b) (rest := st1.map (jm_mv E)) hx hb hd ho (fun z => (hk _ _ _ _ (jm_bt (decide_eq_true z) h)).1 H locs lsA cells slots hP hS hl hc hs) (fun z => (hk _ _ _ _ (jm_bf (decide_eq_false z) h)).1 H locs lsA cells slots hP hS hl hc hs)
    · cases h
  | tableswitch df lo hi2 offs =>
    obtain ⟨h1, h2, h3⟩ := hi
    dsimp only [jm_step] at h
    split at h
    · rename_i a st1
      rcases jm_swt h2 h with ⟨ha, h⟩ | ⟨j, o, q, e1, e2, e3, h⟩
      · exact lv_tableOut (x := a) (rest := st1.map (jm_mv E)) hx hb hd (by omega) h1 ((hk _ _ _ _ h).1 H locs lsA cells slots hP hS hl hc hs)
      · have hj : j < offs.toList.length := (List.getElem?_eq_some_iff.mp e2).1
        exact lv_tableIn (x := a) (rest := st1.map (jm_mv E)) hx hb hd (by omega) (by omega) (by rw [show (a.toInt - lo).toNat = j by omega, ← Array.getElem?_toList]; exact e2) e3 ((hk _ _ _ _ h).1 H locs lsA cells slots hP hS hl hc hs)
    · cases h
  | lookupswitch df ps =>
    obtain ⟨h1, h2, h3⟩ := hi
    dsimp only [jm_step] at h
    split at h
    · rename_i a st1
      obtain ⟨q, e1, h⟩ := jm_swl h1 h2 h
      exact lv_lookup (x := a) (rest := st1.map (jm_mv E)) hx hb hd h3 rfl e1 ((hk _ _ _ _ h).1 H locs lsA cells slots hP hS hl hc hs)
    · cases h
  | getfield i =>
    obtain ⟨rfl, hu, hv, hlink⟩ := hi
    dsimp only [jm_step] at h
    split at h
    · rename_i a st1
      obtain ⟨h0, h⟩ := jm_if_some h
      obtain ⟨j, rfl, hj, hkd⟩ := jm_is_of h0
      obtain ⟨val, hval, h⟩ : ∃ val, jm_fv E t u (j + 1) v = jm_mv E val ∧ k (pc + 3) ls (val :: st1) t = some r := by
        unfold jm_fv
        split at h
        · rename_i hf
          rw [hf]
          split at h
          · rename_i b hb
            exact ⟨.ref b, by show va_rf ((t.1.2.2.2.2 (j + 1) v).map (jm_ad E)) = _; rw [hb]; rfl, h⟩
          · cases h
        · rename_i hf
          rw [hf]
          exact ⟨_, rfl, h⟩
        · rename_i n1 n2
          refine ⟨.int (t.2.1 (j + 1) v), ?_, h⟩
          split
          · rename_i hf; exact absurd hf n1
          · rename_i hf; exact absurd hf n2
          · rfl
      have hgo : W p l e R s m args below meth c H locs cells slots Q (F0 m (pc + 3) lsA (jm_fv E t u (j + 1) v :: st1.map (jm_mv E))) := by
        rw [hval]
        exact (hk _ _ _ _ h).1 H locs lsA cells slots hP hS hl hc hs
      exact va_get (D := E.2.2.1) (cl := jm_cl) (tys := jm_tys E) (ws := jm_ws E t) (a := E.2.1 + j) (rest := st1.map (jm_mv E)) (ci := u) (C := jm_cn u) (T := jm_cT u) (N := jm_nf u) (ref := jm_cn u) hx hb hts (jm_wu u hu) hown hK hP.1 j (fs := jm_fs E t u (j + 1)) (by rw [jm_ws_at E t hj, jm_E_obj E t hkd hu]) (jm_cl_at u hu) v hv (hts _ hlink) (fun z hzz => by rw [jm_own_ok u hu v hv] at hzz; exact hzz) (jm_fs_at E t hv) hd hgo
    · cases h
  | ireturn =>
    have hi : len = 1 := hi
    subst hi
    dsimp only [jm_step] at h
    split at h
    · rename_i a
      split at h
      · rename_i hr
        cases h
        exact hret pc .ireturn (some (.int a)) t rfl hd (Or.inl ⟨rfl, a, rfl, Or.inl hr⟩) lsA H locs cells slots hP hS hc hs
      · rename_i hr
        obtain ⟨h0, h⟩ := jm_if_some h
        cases h
        exact hret pc .ireturn (some (.int a)) t rfl hd (Or.inl ⟨rfl, a, rfl, Or.inr ⟨hr, jm_z1_of h0⟩⟩) lsA H locs cells slots hP hS hc hs
      · cases h
    · cases h
  | areturn =>
    have hi : len = 1 := hi
    subst hi
    dsimp only [jm_step] at h
    split at h
    · rename_i a
      split at h
      · rename_i hr
        cases h
        exact hret pc .areturn (some (.ref a)) t rfl hd (Or.inr (Or.inl ⟨rfl, hr, a, rfl⟩)) lsA H locs cells slots hP hS hc hs
      · cases h
    · cases h
  | return_ =>
    have hi : len = 1 := hi
    subst hi
    dsimp only [jm_step] at h
    split at h
    · split at h
      · rename_i hr
        cases h
        exact hret pc .return_ none t rfl hd (Or.inr (Or.inr ⟨rfl, hr, rfl⟩)) lsA H locs cells slots hP hS hc hs
      · cases h
    · cases h
  | putfield i =>
    obtain ⟨rfl, hu, hv, hlink, hfi⟩ := hi
    dsimp only [jm_step] at h
    split at h
    · rename_i hf
      split at h
      · rename_i x a st1
        obtain ⟨h0, h⟩ := jm_if_some h
        obtain ⟨j, rfl, hj, hkd⟩ := jm_is_of h0
        refine va_put (D := E.2.2.1) (cl := jm_cl) (tys := jm_tys E) (ws := jm_ws E t) (A := jm_A E) (H0 := s.heap) (a := E.2.1 + j) (rest := st1.map (jm_mv E)) (ci := u) (v := .int x) (C := jm_cn u) (T := jm_cT u) (N := jm_nf u) (ref := jm_cn u) hx hb hts (jm_wu u hu) (jm_ty u) (jm_ty_ok u hu) (jm_nm_ok u hu) hown hK hP.1 (jm_D E t) hS j (fs := jm_fs E t u (j + 1)) (by rw [jm_ws_at E t hj, jm_E_obj E t hkd hu]) (jm_cl_at u hu) v hv (hts _ hlink) (fun z hzz => by rw [jm_own_ok u hu v hv] at hzz; exact hzz) (by rw [jm_fin_ok u hu v hv, hf]; rfl) (jm_ty_ok u hu v hv) (by rw [jm_ty0 u hu v hv hf]; rfl) (by rw [jm_ty0 u hu v hv hf]; rfl) (by rw [jm_fs_len]; exact hv) hd (fun H1 locs1 hP1 _ hS1 => (hk _ _ _ _ h).1 H1 locs1 lsA cells slots (jm_P_obj hP hj hkd hu hv rfl rfl rfl (fun _ _ => rfl) (fun b hb => va_up_ne' hb) (fun _ _ => rfl) ?_ ?_ hP1) hS1 hl hc hs)
        · simp [jm_fv, hf, jm_up, va_up, upd]
        · intro i hiv
          have ee : jm_up t.2.1 (j + 1) v x (j + 1) i = t.2.1 (j + 1) i := by simp [jm_up, va_up, upd, hiv]
          simp only [jm_fv, ee]
      · cases h
    · rename_i hf
      split at h
      · rename_i x a st1
        obtain ⟨h0, h⟩ := jm_if_some h
        rw [Bool.and_eq_true] at h0
        obtain ⟨j, rfl, hj, hkd⟩ := jm_is_of h0.1
        have hz1 := jm_z1_of h0.2
        refine va_put (D := E.2.2.1) (cl := jm_cl) (tys := jm_tys E) (ws := jm_ws E t) (A := jm_A E) (H0 := s.heap) (a := E.2.1 + j) (rest := st1.map (jm_mv E)) (ci := u) (v := .int x) (C := jm_cn u) (T := jm_cT u) (N := jm_nf u) (ref := jm_cn u) hx hb hts (jm_wu u hu) (jm_ty u) (jm_ty_ok u hu) (jm_nm_ok u hu) hown hK hP.1 (jm_D E t) hS j (fs := jm_fs E t u (j + 1)) (by rw [jm_ws_at E t hj, jm_E_obj E t hkd hu]) (jm_cl_at u hu) v hv (hts _ hlink) (fun z hzz => by rw [jm_own_ok u hu v hv] at hzz; exact hzz) (by rw [jm_fin_ok u hu v hv, hf]; rfl) (jm_ty_ok u hu v hv) (by rw [jm_ty3 u hu v hv hf]; rcases hz1 with rfl | rfl <;> rfl) (by rw [jm_ty3 u hu v hv hf]; rcases hz1 with rfl | rfl <;> rfl) (by rw [jm_fs_len]; exact hv) hd (fun H1 locs1 hP1 _ hS1 => (hk _ _ _ _ h).1 H1 locs1 lsA cells slots (jm_P_obj hP hj hkd hu hv rfl rfl rfl (fun _ _ => rfl) (fun b hb => va_up_ne' hb) (fun _ _ => rfl) ?_ ?_ hP1) hS1 hl hc hs)
        · simp [jm_fv, hf, jm_up, va_up, upd]
        · intro i hiv
          have ee : jm_up t.2.1 (j + 1) v x (j + 1) i = t.2.1 (j + 1) i := by simp [jm_up, va_up, upd, hiv]
          simp only [jm_fv, ee]
      · cases h
    · rename_i hf
      split at h
      · rename_i x a st1
        obtain ⟨h0, h⟩ := jm_if_some h
        obtain ⟨j, rfl, hj, hkd⟩ := jm_is_of h0
        refine va_put (D := E.2.2.1) (cl := jm_cl) (tys := jm_tys E) (ws := jm_ws E t) (A := jm_A E) (H0 := s.heap) (a := E.2.1 + j) (rest := st1.map (jm_mv E)) (ci := u) (v := .long x) (C := jm_cn u) (T := jm_cT u) (N := jm_nf u) (ref := jm_cn u) hx hb hts (jm_wu u hu) (jm_ty u) (jm_ty_ok u hu) (jm_nm_ok u hu) hown hK hP.1 (jm_D E t) hS j (fs := jm_fs E t u (j + 1)) (by rw [jm_ws_at E t hj, jm_E_obj E t hkd hu]) (jm_cl_at u hu) v hv (hts _ hlink) (fun z hzz => by rw [jm_own_ok u hu v hv] at hzz; exact hzz) (by rw [jm_fin_ok u hu v hv, hf]; rfl) (jm_ty_ok u hu v hv) (by rw [jm_ty2 u hu v hv hf]; rfl) (by rw [jm_ty2 u hu v hv hf]; rfl) (by rw [jm_fs_len]; exact hv) hd (fun H1 locs1 hP1 _ hS1 => (hk _ _ _ _ h).1 H1 locs1 lsA cells slots (jm_P_obj hP hj hkd hu hv rfl rfl rfl (fun _ _ => rfl) (fun _ _ => rfl) (fun b hb => va_up_ne' hb) ?_ ?_ hP1) hS1 hl hc hs)
        · simp [jm_fv, hf, jm_upL, va_up, vp_updL]
        · intro i hiv
          have ee : jm_upL t.2.2 (j + 1) v x (j + 1) i = t.2.2 (j + 1) i := by simp [jm_upL, va_up, vp_updL, hiv]
          simp only [jm_fv, ee]
      · cases h
    · rename_i hf
      split at h
      · rename_i x a st1
        obtain ⟨h0, h⟩ := jm_if_some h
        obtain ⟨j, rfl, hj, hkd⟩ := jm_is_of h0
        have hq := jm_nq (jm_ty1 u hu v hv hf) (jm_ad E x)
        refine va_putF (D := E.2.2.1) (cl := jm_cl) (tys := jm_tys E) (ws := jm_ws E t) (A := jm_A E) (H0 := s.heap) (a := E.2.1 + j) (rest := st1.map (jm_mv E)) (ci := u) (v := .ref (jm_ad E x)) (C := jm_cn u) (T := jm_cT u) (N := jm_nf u) (ref := jm_cn u) hx hb hts (jm_wu u hu) (jm_ty u) (jm_ty_ok u hu) (jm_nm_ok u hu) hown hK hP.1 (jm_D E t) hS j (fs := jm_fs E t u (j + 1)) (by rw [jm_ws_at E t hj, jm_E_obj E t hkd hu]) (jm_cl_at u hu) v hv (hts _ hlink) (fun z hzz => by rw [jm_own_ok u hu v hv] at hzz; exact hzz) (by rw [jm_fin_ok u hu v hv, hf]; rfl) (by rw [hname]; exact (hfi hf).1) (by rw [jm_own_ok u hu v hv]; exact (hfi hf).2.symm) (jm_ty_ok u hu v hv) hq.1 hq.2 (by rw [jm_fs_len]; exact hv) hd (fun H1 locs1 hP1 _ hS1 => (hk _ _ _ _ h).1 H1 locs1 lsA cells slots (jm_P_obj hP hj hkd hu hv rfl rfl rfl (fun b hb => va_up_ne' hb) (fun _ _ => rfl) (fun _ _ => rfl) ?_ ?_ hP1) hS1 hl hc hs)
        · simp [jm_fv, hf, jm_upR, va_up, va_rf]
        · intro i hiv
          have ee : jm_upR t.1.2.2.2.2 (j + 1) v (some x) (j + 1) i = t.1.2.2.2.2 (j + 1) i := by simp [jm_upR, va_up, hiv]
          simp only [jm_fv, ee]
      · cases h
    · cases h
  | arraylength =>
    obtain ⟨rfl, hlw⟩ := hi
    dsimp only [jm_step] at h
    split at h
    · rename_i a st1
      obtain ⟨h0, h⟩ := jm_if_some h
      simp only [Bool.or_eq_true, Bool.and_eq_true] at h0
      rcases h0 with ⟨h1, h2⟩ | ⟨h1, h2⟩
      · have h1 := Nat.eq_of_beq_eq_true h1
        have h2 := Nat.eq_of_beq_eq_true h2
        subst h2
        obtain ⟨hX1, hX2, hX3⟩ := hX (hlw h1)
        have hgo := (hk _ _ _ _ h).1 H locs lsA cells slots hP hS hl hc hs
        rw [hP.2.2] at hgo
        exact va_slen (b := E.1) (rest := st1.map (jm_mv E)) hx hb hX1 hX2 (Nat.not_le.mpr hX3) hS hd hgo
      · obtain ⟨j, rfl, hj, hkd⟩ := jm_is_of h2
        exact va_alen (x := (t.1.2.2.2.1 (j + 1), .inl (t.2.1 (j + 1)))) (D := E.2.2.1) (cl := jm_cl) (tys := jm_tys E) (ws := jm_ws E t) (a := E.2.1 + j) (rest := st1.map (jm_mv E)) hx hb hK hP.1 j 0 (by rw [jm_ws_at E t hj, jm_E_int E t hkd (by omega) (by omega)]) rfl rfl hd ((hk _ _ _ _ h).1 H locs lsA cells slots hP hS hl hc hs)
    · cases h
  | iaload =>
    obtain ⟨rfl, hlw⟩ := hi
    dsimp only [jm_step] at h
    split at h
    · rename_i i a st1
      obtain ⟨h0, h⟩ := jm_if_some h
      simp only [Bool.or_eq_true, Bool.and_eq_true] at h0
      obtain ⟨h0, hin⟩ := h0
      have hin := jm_inb_of hin
      rcases h0 with ⟨h1, h2⟩ | ⟨h1, h2⟩
      · have h1 := Nat.eq_of_beq_eq_true h1
        have h2 := Nat.eq_of_beq_eq_true h2
        subst h2
        obtain ⟨hX1, hX2, hX3⟩ := hX (hlw h1)
        have hgo := (hk _ _ _ _ h).1 H locs lsA cells slots hP hS hl hc hs
        rw [hP.2.1] at hgo
        rw [hP.2.2] at hin
        exact va_sld (b := E.1) (i := i) (rest := st1.map (jm_mv E)) hx hb hX1 hX2 (Nat.not_le.mpr hX3) hS hin hd hgo
      · obtain ⟨j, rfl, hj, hkd⟩ := jm_is_of h2
        exact va_iald (D := E.2.2.1) (cl := jm_cl) (tys := jm_tys E) (ws := jm_ws E t) (a := E.2.1 + j) (i := i) (rest := st1.map (jm_mv E)) hx hb hK hP.1 j 0 (by rw [jm_ws_at E t hj, jm_E_int E t hkd (by omega) (by omega)]) rfl hin hd ((hk _ _ _ _ h).1 H locs lsA cells slots hP hS hl hc hs)
    · cases h
  | baload =>
    have hi : len = 1 := hi
    subst hi
    dsimp only [jm_step] at h
    split at h
    · rename_i i a st1
      obtain ⟨h0, h⟩ := jm_if_some h
      rw [Bool.and_eq_true] at h0
      have hin := jm_inb_of h0.2
      obtain ⟨j, rfl, hj, hkd⟩ := jm_is_of h0.1
      exact va_zald (D := E.2.2.1) (cl := jm_cl) (tys := jm_tys E) (ws := jm_ws E t) (a := E.2.1 + j) (i := i) (rest := st1.map (jm_mv E)) hx hb hK hP.1 j 1 (by rw [jm_ws_at E t hj, jm_E_int E t hkd (by omega) (by omega)]) rfl hin hd ((hk _ _ _ _ h).1 H locs lsA cells slots hP hS hl hc hs)
    · cases h
  | iastore =>
    have hi : len = 1 := hi
    subst hi
    dsimp only [jm_step] at h
    split at h
    · rename_i x i a st1
      obtain ⟨h0, h⟩ := jm_if_some h
      rw [Bool.and_eq_true] at h0
      have hin := jm_inb_of h0.2
      obtain ⟨j, rfl, hj, hkd⟩ := jm_is_of h0.1
      exact va_iast (D := E.2.2.1) (cl := jm_cl) (tys := jm_tys E) (ws := jm_ws E t) (A := jm_A E) (H0 := s.heap) (a := E.2.1 + j) (i := i) (x := x) (rest := st1.map (jm_mv E)) hx hb hK hP.1 (jm_D E t) hS j 0 (by rw [jm_ws_at E t hj, jm_E_int E t hkd (by omega) (by omega)]) rfl hin hd (fun H1 locs1 hP1 _ hS1 => (hk _ _ _ _ h).1 H1 locs1 lsA cells slots (jm_P_arr hP hj hkd (by omega) (by omega) hP1) hS1 hl hc hs)
    · cases h
  | bastore =>
    have hi : len = 1 := hi
    subst hi
    dsimp only [jm_step] at h
    split at h
    · rename_i x i a st1
      obtain ⟨h0, h⟩ := jm_if_some h
      rw [Bool.and_eq_true, Bool.and_eq_true] at h0
      have hin := jm_inb_of h0.1.2
      have hxn : vp_nar .boolean x = x := by rcases jm_z1_of h0.2 with rfl | rfl <;> rfl
      obtain ⟨j, rfl, hj, hkd⟩ := jm_is_of h0.1.1
      exact va_zast (D := E.2.2.1) (cl := jm_cl) (tys := jm_tys E) (ws := jm_ws E t) (A := jm_A E) (H0 := s.heap) (a := E.2.1 + j) (i := i) (x := x) (rest := st1.map (jm_mv E)) hx hb hK hP.1 (jm_D E t) hS j 1 (by rw [jm_ws_at E t hj, jm_E_int E t hkd (by omega) (by omega)]) rfl hin hd (fun H1 locs1 hP1 _ hS1 => (hk _ _ _ _ h).1 H1 locs1 lsA cells slots (jm_P_arr hP hj hkd (by omega) (by omega) (by rw [hxn] at hP1; exact hP1)) hS1 hl hc hs)
    · cases h
  | aaload =>
    have hi : len = 1 := hi
    subst hi
    dsimp only [jm_step] at h
    split at h
    · rename_i i a st1
      obtain ⟨h0, h⟩ := jm_if_some h
      rw [Bool.and_eq_true] at h0
      have hin := jm_inb_of h0.2
      obtain ⟨j, rfl, hj, hk11, hk13⟩ := jm_ir_of h0.1
      split at h
      · rename_i b hb2
        have hgo : W p l e R s m args below meth c H locs cells slots Q (F0 m (pc + 1) lsA (va_rf ((t.1.2.2.2.2 (j + 1) i.toNatClampNeg).map (jm_ad E)) :: st1.map (jm_mv E))) := by
          rw [hb2]
          exact (hk _ _ _ _ h).1 H locs lsA cells slots hP hS hl hc hs
        have htt : (jm_tys E)[t.1.2.2.1 (j + 1) - 9]? = some (E.2.2.2.1 (t.1.2.2.1 (j + 1)), .object (jm_cn (jm_ec (t.1.2.2.1 (j + 1))))) := jm_tys_q E hk11 hk13
        exact va_aldq (D := E.2.2.1) (cl := jm_cl) (tys := jm_tys E) (ws := jm_ws E t) (a := E.2.1 + j) (i := i) (rest := st1.map (jm_mv E)) (f := fun q => (t.1.2.2.2.2 (j + 1) q).map (jm_ad E)) hx hb hK hP.1 j _ (by rw [jm_ws_at E t hj, jm_E_ref E t rfl hk11]) htt hin hd hgo
      · cases h
    · cases h
  | aastore =>
    have hi : len = 1 := hi
    subst hi
    dsimp only [jm_step] at h
    split at h
    · rename_i b i a st1
      obtain ⟨h0, h⟩ := jm_if_some h
      rw [Bool.and_eq_true, Bool.and_eq_true] at h0
      have hin := jm_inb_of h0.1.2
      obtain ⟨j, rfl, hj, hk11, hk13⟩ := jm_ir_of h0.1.1
      obtain ⟨jb, rfl, hjb, hkb⟩ := jm_is_of h0.2
      have hec : jm_ec (t.1.2.2.1 (j + 1)) < 9 := jm_ec_lt _
      have htt : (jm_tys E)[t.1.2.2.1 (j + 1) - 9]? = some (E.2.2.2.1 (t.1.2.2.1 (j + 1)), .object (jm_cn (jm_ec (t.1.2.2.1 (j + 1))))) := jm_tys_q E hk11 hk13
      exact va_astq (D := E.2.2.1) (cl := jm_cl) (tys := jm_tys E) (ws := jm_ws E t) (A := jm_A E) (H0 := s.heap) (a := E.2.1 + j) (v := E.2.1 + jb) (i := i) (rest := st1.map (jm_mv E)) (r := (jm_cn (jm_ec (t.1.2.2.1 (j + 1))), jm_cT (jm_ec (t.1.2.2.1 (j + 1))), jm_nf (jm_ec (t.1.2.2.1 (j + 1))))) (f := fun q => (t.1.2.2.2.2 (j + 1) q).map (jm_ad E)) hx hb hK hP.1 (jm_D E t) hS j _ jb (jm_ec (t.1.2.2.1 (j + 1))) (by rw [jm_ws_at E t hj, jm_E_ref E t rfl hk11]) htt (by rw [jm_ws_at E t hjb, jm_E_obj E t hkb hec]) (jm_cl_at _ hec) hin hd (fun H1 locs1 hP1 _ hS1 => (hk _ _ _ _ h).1 H1 locs1 lsA cells slots (jm_P_ref (b := jb + 1) hP hj rfl hk11 hP1) hS1 hl hc hs)
    · cases h
  | new i =>
    obtain ⟨rfl, hu, hlink⟩ := hi
    have hk' := hk _ _ _ _ (show k (pc + 3) ls (.ref (t.1.1 + 1) :: st) (jm_nw t u 0 (jm_nf u)) = some r from h)
    have m1 : t.1.1 + 1 ≤ r.2.1.1 := hk'.2.1
    have m2 : t.1.2.1 + jm_nf u ≤ r.2.1.2.1 := hk'.2.2
    refine va_new (D := E.2.2.1) (cl := jm_cl) (tys := jm_tys E) (ws := jm_ws E t) (A := jm_A E) (H0 := s.heap) (rest := st.map (jm_mv E)) (ci := u) (fs := jm_fs E (jm_nw t u 0 (jm_nf u)) u (t.1.1 + 1)) (C := jm_cn u) (T := jm_cT u) (N := jm_nf u) hx hb hts (jm_wu u hu) (jm_ty u) (jm_ty_ok u hu) hown (hts _ hlink) (hts _ (jm_w_inst u hu)) (hts _ (jm_w_init u hu)) hK hP.1 (jm_D E t) hS (fun q hq => by show E.2.1 ≤ q; omega) (jm_cl_at u hu) (jm_fs_new E t hu) (by omega) (by omega) hd (fun q H1 hP1 hD1 hS1 => ?_)
    refine jm_sz1 (E := E) (n0 := n0) (k := t.1.1 + 1) hz (by omega) (fun hz1 => ?_)
    have hq := jm_q hP1 hD1 (by omega)
    subst hq
    exact hk'.1 H1 locs lsA (cells + 1) (slots + jm_nf u) (jm_P_new hP (jm_E_obj E (jm_nw t u 0 (jm_nf u)) va_up_eq' hu) hP1) hS1 hl (by show cells + 1 + n0 = t.1.1 + 1; omega) (by show slots + jm_nf u + s0 = t.1.2.1 + jm_nf u; omega)
  | newarray a =>
    obtain ⟨rfl, hau⟩ := hi
    dsimp only [jm_step] at h
    split at h
    · rename_i x st1
      obtain ⟨h0, h⟩ := jm_if_some h
      have hin := jm_inb_of h0
      have hn0 : ¬ x < 0 := fun z => hin (Or.inl z)
      have hn1 : x.toNatClampNeg < 10000 := Nat.not_le.mp fun z => hin (Or.inr z)
      have hk' := hk _ _ _ _ h
      have m1 : t.1.1 + 1 ≤ r.2.1.1 := hk'.2.1
      have m2 : t.1.2.1 + x.toNatClampNeg ≤ r.2.1.2.1 := hk'.2.2
      rcases hau with ⟨rfl, rfl⟩ | ⟨rfl, rfl⟩
      · refine va_newa (D := E.2.2.1) (cl := jm_cl) (tys := jm_tys E) (ws := jm_ws E t) (A := jm_A E) (H0 := s.heap) (rest := st1.map (jm_mv E)) (atype := .int) (ty := .int) (n := x) (N' := x.toNatClampNeg) (a0 := (x.toNatClampNeg, .inl (fun _ => 0))) hx hb (hts _ jm_w_ai) rfl hK hP.1 (jm_D E t) hS (fun q hq => by show E.2.1 ≤ q; omega) (fun _ => rfl) hn0 rfl (by show _ * 4 ≤ _; omega) (by omega) (by omega) hd (fun q cA H1 hK1 hP1 hD1 hS1 => ?_)
        have hcA : cA = E.2.2.2.1 9 := jm_tys_i (E := E) (i := 5) (j := 0) hK1 rfl rfl
        subst hcA
        refine jm_sz1 (E := E) (n0 := n0) (k := t.1.1 + 1) hz (by omega) (fun hz1 => ?_)
        have hq := jm_q hP1 hD1 (by omega)
        subst hq
        exact hk'.1 H1 locs lsA (cells + 1) (slots + x.toNatClampNeg) (jm_P_new hP (by rw [jm_E_int E _ (c := 9) va_up_eq' (by omega) (by omega)]; simp [jm_nw, va_up]) hP1) hS1 hl (by show cells + 1 + n0 = t.1.1 + 1; omega) (by show slots + x.toNatClampNeg + s0 = t.1.2.1 + x.toNatClampNeg; omega)
      · refine va_newa (D := E.2.2.1) (cl := jm_cl) (tys := jm_tys E) (ws := jm_ws E t) (A := jm_A E) (H0 := s.heap) (rest := st1.map (jm_mv E)) (atype := .boolean) (ty := .boolean) (n := x) (N' := x.toNatClampNeg) (a0 := (x.toNatClampNeg, .inl (fun _ => 0))) hx hb (hts _ jm_w_az) rfl hK hP.1 (jm_D E t) hS (fun q hq => by show E.2.1 ≤ q; omega) (fun _ => rfl) hn0 rfl (by show _ * 1 ≤ _; omega) (by omega) (by omega) hd (fun q cA H1 hK1 hP1 hD1 hS1 => ?_)
        have hcA : cA = E.2.2.2.1 10 := jm_tys_i (E := E) (i := 5) (j := 1) hK1 rfl rfl
        subst hcA
        refine jm_sz1 (E := E) (n0 := n0) (k := t.1.1 + 1) hz (by omega) (fun hz1 => ?_)
        have hq := jm_q hP1 hD1 (by omega)
        subst hq
        exact hk'.1 H1 locs lsA (cells + 1) (slots + x.toNatClampNeg) (jm_P_new hP (by rw [jm_E_int E _ (c := 10) va_up_eq' (by omega) (by omega)]; simp [jm_nw, va_up]) hP1) hS1 hl (by show cells + 1 + n0 = t.1.1 + 1; omega) (by show slots + x.toNatClampNeg + s0 = t.1.2.1 + x.toNatClampNeg; omega)
    · cases h
  | anewarray i =>
    obtain ⟨rfl, ⟨hu1, hu2⟩, hlink⟩ := hi
    dsimp only [jm_step] at h
    split at h
    · rename_i x st1
      obtain ⟨h0, h⟩ := jm_if_some h
      have hin := jm_inb_of h0
      have hn0 : ¬ x < 0 := fun z => hin (Or.inl z)
      have hn1 : x.toNatClampNeg < 10000 := Nat.not_le.mp fun z => hin (Or.inr z)
      have hk' := hk _ _ _ _ h
      have m1 : t.1.1 + 1 ≤ r.2.1.1 := hk'.2.1
      have m2 : t.1.2.1 + x.toNatClampNeg ≤ r.2.1.2.1 := hk'.2.2
      refine va_newq (D := E.2.2.1) (cl := jm_cl) (tys := jm_tys E) (ws := jm_ws E t) (A := jm_A E) (H0 := s.heap) (rest := st1.map (jm_mv E)) (C := jm_cn (jm_ec u)) (n := x) (N' := x.toNatClampNeg) hx hb hown (hts _ hlink) (hN.2 _ (jm_ec_in u)) hK hP.1 (jm_D E t) hS (fun q hq => by show E.2.1 ≤ q; omega) hn0 rfl (by omega) (by omega) (by omega) hd (fun q cA H1 hK1 hP1 hD1 hS1 => ?_)
      have hcA : cA = E.2.2.2.1 u := jm_tys_i (E := E) (i := 5) (j := u - 9) hK1 rfl (by rw [List.getElem?_append_left (by simp [jm_tys]; omega)]; exact jm_tys_q E hu1 hu2)
      subst hcA
      refine jm_sz1 (E := E) (n0 := n0) (k := t.1.1 + 1) hz (by omega) (fun hz1 => ?_)
      have hq := jm_q hP1 hD1 (by omega)
      subst hq
      exact hk'.1 H1 locs lsA (cells + 1) (slots + x.toNatClampNeg) (jm_P_new hP (by rw [jm_E_ref E _ (c := u) va_up_eq' hu1]; simp [jm_nw, va_up]) hP1) hS1 hl (by show cells + 1 + n0 = t.1.1 + 1; omega) (by show slots + x.toNatClampNeg + s0 = t.1.2.1 + x.toNatClampNeg; omega)
    · cases h
  | invokevirtual i =>
    obtain ⟨rfl, hv0, hw, hne, hcls, hl1, hl2, hl3, hmk⟩ := hi
    dsimp only [jm_step] at h
    split at h
    · rename_i a as heq
      have hh := jm_if_some h
      clear h
      obtain ⟨h0, h⟩ := hh
      simp only [Bool.and_eq_true, Nat.ble_eq] at h0
      obtain ⟨⟨h8, hal⟩, his⟩ := h0
      have hal := Nat.eq_of_beq_eq_true hal
      split at h
      · rename_i r' hC'
        obtain ⟨j, rfl, hj, hkd⟩ := jm_is_of his
        obtain ⟨d', rfl, m1, m2, hM⟩ := hC _ _ _ _ _ hmk hne hC'
        obtain ⟨k1, k2, k3, k4, k5, k6, k7⟩ := hmk
        have hk' := hk _ _ _ _ h
        refine jm_sz hz hP hS hc (fun hsz => ?_)
        have est : st = as.reverse ++ .ref (j + 1) :: st.drop v := jm_st_eq heq
        have hstack : st.map (jm_mv E) = (as.map (jm_mv E)).reverse ++ .ref (E.2.1 + j) :: (st.drop v).map (jm_mv E) := by
          conv => lhs; rw [est]
          simp [jm_mv, jm_ad]
        refine jm_call (r := r') (mc := r'.2.1.1 - t.1.1) (ms := r'.2.1.2.1 - t.1.2.1) (rest := (st.drop v).map (jm_mv E)) (va_runV (C := jm_cn w) (own := (nm y).cls) (Ts := jm_tb) (n := v - 1) (bytes := cd u) (maxL := (G u).1) (ret := rt u) (b := E.2.1 + j) (As := as.map (jm_mv E)) ⟨hx, hb, hml, hown, hts⟩ hM ⟨callB_of (v - 1) hts (jm_good G nm cd rt u k1) rfl rfl rfl (hts _ k2) (hts _ hl1) ⟨k3.1, k3.2, k5⟩ ⟨by show d' + 1 ≤ _; omega, by show 8 + _ + 64 * d' ≤ _; omega⟩, hts _ hl2, hts _ hl3⟩ ⟨jm_blind E t _, va_recv (q := (jm_cn w, jm_cT w, jm_nf w)) hK hP.1 (jm_cl_at w hw) (q0 := j) (by rw [jm_ws_at E t hj, jm_E_obj E t hkd hw]), fun U hU hW => ⟨rfl, by rw [hU]; exact hsz, by rw [hU]; exact hP, va_K.moved hW.alike hK, hN.warm hW⟩⟩ rfl (by simp [hal]) hl.1 hstack (lv_room (by rw [jm_sum_map]; exact h8)) hd ⟨by omega, by omega⟩) hS (fun H1 locs1 hP1 hS1 => ?_)
        have hgo := hk'.1 H1 locs1 lsA (cells + (r'.2.1.1 - t.1.1)) (slots + (r'.2.1.2.1 - t.1.2.1)) hP1 hS1 hl (by omega) (by omega)
        rw [jm_tl] at hgo
        exact hgo
      · cases h
    · cases h
  | invokestatic i =>
    obtain ⟨rfl, hw7, hwn⟩ := hi
    dsimp only [jm_step] at h
    split at h
    · split at h
      · rename_i n dp a sp b st1
        obtain ⟨h0, h⟩ := jm_if_some h
        simp only [Bool.and_eq_true, Nat.ble_eq, Nat.blt_eq, Bool.not_eq_true', decide_eq_false_iff_not] at h0
        obtain ⟨⟨⟨⟨⟨⟨⟨⟨g1, g2⟩, g3⟩, g4⟩, g5⟩, g6⟩, g7⟩, g8⟩, g9⟩ := h0
        obtain ⟨j, rfl, hj, hkd⟩ := jm_is_of g3
        obtain ⟨jb, rfl, hjb, hkb⟩ := jm_is_of g4
        have hnat : nativeFrameWords "java/lang/System" "arraycopy" 5 + 11 ≤ 50 := by decide +kernel
        exact va_copyi (D := E.2.2.1) (cl := jm_cl) (tys := jm_tys E) (ws := jm_ws E t) (A := jm_A E) (H0 := s.heap) (a := E.2.1 + j) (a0 := E.2.1 + jb) (rest := st1.map (jm_mv E)) (sp := sp) (dp := dp) (n := n) (ty := .int) hx hb (by rw [hml]; exact hl.1.symm) hown (hts _ (hw7 rfl)) (hts _ jm_w_c1) (hts _ jm_w_c2) (hts _ jm_w_c3) hK hP.1 (jm_D E t) hS jb j 0 0 (by rw [jm_ws_at E t hjb, jm_E_int E t hkb (by omega) (by omega)]) (by rw [jm_ws_at E t hj, jm_E_int E t hkd (by omega) (by omega)]) rfl rfl rfl g7 g6 g5 g8 g9 (fun _ _ => rfl) (by omega) (by rw [jm_sum_map]; omega) hd (fun H1 locs1 hP1 _ hS1 => (hk _ _ _ _ h).1 H1 locs1 lsA cells slots (jm_P_arr hP hj hkd (by omega) (by omega) hP1) hS1 hl hc hs)
      · cases h
    · rename_i hw
      obtain ⟨hne, hst, hlk, hmk⟩ := hwn hw
      obtain ⟨h0, h⟩ := jm_if_some h
      simp only [Bool.and_eq_true, Nat.ble_eq] at h0
      obtain ⟨h8, hal⟩ := h0
      have hal := Nat.eq_of_beq_eq_true hal
      split at h
      · rename_i r' hC'
        obtain ⟨d', rfl, m1, m2, hM⟩ := hC _ _ _ _ _ hmk hne hC'
        obtain ⟨k1, k2, k3, k4, k5, k6, k7⟩ := hmk
        have hk' := hk _ _ _ _ h
        refine jm_sz hz hP hS hc (fun hsz => ?_)
        have hstack : st.map (jm_mv E) = ((st.take v).reverse.map (jm_mv E)).reverse ++ (st.drop v).map (jm_mv E) := by
          conv => lhs; rw [← List.take_append_drop v st]
          simp
        have hpre : PreS s H (va_Pc ((st.take v).reverse.map (jm_mv E)) (jm_pre E t)) ((st.take v).reverse.map (jm_mv E)) := ⟨jm_blind E t _, fun U hU hW => ⟨rfl, by rw [hU]; exact hsz, by rw [hU]; exact hP, va_K.moved hW.alike hK, hN.warm hW⟩⟩
        have hrm : (jm_rm d' (r'.2.1.1 - t.1.1) (r'.2.1.2.1 - t.1.2.1)).frames + 1 ≤ R.frames ∧ 8 + ((G u).1 + 11) + (jm_rm d' (r'.2.1.1 - t.1.1) (r'.2.1.2.1 - t.1.2.1)).locals ≤ R.locals := ⟨by show d' + 1 ≤ _; omega, by show 8 + _ + 64 * d' ≤ _; omega⟩
        have hrun : va_Run p l e R s m args below meth c H locs cells slots (r'.2.1.1 - t.1.1) (r'.2.1.2.1 - t.1.2.1) (F0 m pc lsA (st.map (jm_mv E))) ((st.drop v).map (jm_mv E)) (jm_Q E r' ((st.take v).reverse.map (jm_mv E)).toArray) (jm_A E) := by
          rcases hlk with hlk | hlk
          · exact va_runS (own := (nm y).cls) (Ts := jm_tb) (n := v) (bytes := cd u) (maxL := (G u).1) (ret := rt u) (As := (st.take v).reverse.map (jm_mv E)) ⟨hx, hb, hml, hown, hts⟩ hM ⟨callB_of v hts (jm_good G nm cd rt u k1) rfl rfl rfl (hts _ k2) (hts _ hlk) ⟨k3.1, k3.2, k5⟩ hrm, hts _ hst⟩ hpre rfl (by simpa using hal) hl.1 hstack (lv_room (by rw [jm_sum_map]; exact h8)) hd ⟨by omega, by omega⟩
          · exact va_runSN (own := (nm y).cls) (host := RX7) (Ts := jm_tb) (n := v) (bytes := cd u) (maxL := (G u).1) (ret := rt u) (As := (st.take v).reverse.map (jm_mv E)) ⟨hx, hb, hml, hown, hts⟩ hM ⟨va_cnB v hts (jm_good G nm cd rt u k1) rfl rfl rfl (hN.1 _ hlk) (hts _ k2) ⟨k3.1, k3.2, k5⟩ hrm, hts _ hst, trivial⟩ hpre rfl (by simpa using hal) hl.1 hstack (lv_room (by rw [jm_sum_map]; exact h8)) hd ⟨by omega, by omega⟩
        refine jm_call (r := r') hrun hS (fun H1 locs1 hP1 hS1 => ?_)
        have hgo := hk'.1 H1 locs1 lsA (cells + (r'.2.1.1 - t.1.1)) (slots + (r'.2.1.2.1 - t.1.2.1)) hP1 hS1 hl (by omega) (by omega)
        rw [jm_tl] at hgo
        exact hgo
      · cases h
  | invokespecial i =>
    obtain ⟨rfl, hw7, hwn⟩ := hi
    dsimp only [jm_step] at h
    split at h
    · split at h
      · rename_i a st1
        obtain ⟨h0, h⟩ := jm_if_some h
        simp only [Bool.and_eq_true, Nat.ble_eq, Nat.blt_eq] at h0
        have hroom := lv_room (m := m) (pc := pc) (ls := lsA) (rest := .ref (jm_ad E a) :: st1.map (jm_mv E)) (st := st1.map (jm_mv E)) (by rw [jm_sum_map]; exact h0.2)
        exact W.objInit (a := jm_ad E a) (rest := st1.map (jm_mv E)) (g := F0 m pc lsA (.ref (jm_ad E a) :: st1.map (jm_mv E))) hx hb hown (hts _ (hw7 rfl)) (hts _ jm_w_o1) (hts _ jm_w_o2) rfl (by rw [hml]; exact hl.1) rfl hd (by omega) (Nat.le_trans (Nat.add_le_add_right hroom 12) (by omega)) ((hk _ _ _ _ h).1 H locs lsA cells slots hP hS hl hc hs)
      · cases h
    · rename_i hw
      obtain ⟨hv0, hne, hin, hst, hlk, hrt, hmk⟩ := hwn hw
      split at h
      · rename_i a as heq
        obtain ⟨h0, h⟩ := jm_if_some h
        simp only [Bool.and_eq_true, Nat.ble_eq] at h0
        obtain ⟨h8, hal⟩ := h0
        have hal := Nat.eq_of_beq_eq_true hal
        split at h
        · rename_i r' hC'
          obtain ⟨d', rfl, m1, m2, hM⟩ := hC _ _ _ _ _ hmk hne hC'
          obtain ⟨k1, k2, k3, k4, k5, k6, k7⟩ := hmk
          have hk' := hk _ _ _ _ h
          refine jm_sz hz hP hS hc (fun hsz => ?_)
          have est : st = as.reverse ++ .ref a :: st.drop v := jm_st_eq heq
          have hstack : st.map (jm_mv E) = (as.map (jm_mv E)).reverse ++ .ref (jm_ad E a) :: (st.drop v).map (jm_mv E) := by
            conv => lhs; rw [est]
            simp [jm_mv]
          have hpre : PreS s H (va_Pc ((.ref a :: as : List Value).map (jm_mv E)) (jm_pre E t)) (.ref (jm_ad E a) :: as.map (jm_mv E)) := ⟨jm_blind E t _, fun U hU hW => ⟨rfl, by rw [hU]; exact hsz, by rw [hU]; exact hP, va_K.moved hW.alike hK, hN.warm hW⟩⟩
          have hrm : (jm_rm d' (r'.2.1.1 - t.1.1) (r'.2.1.2.1 - t.1.2.1)).frames + 1 ≤ R.frames ∧ 8 + ((G u).1 + 11) + (jm_rm d' (r'.2.1.1 - t.1.1) (r'.2.1.2.1 - t.1.2.1)).locals ≤ R.locals := ⟨by show d' + 1 ≤ _; omega, by show 8 + _ + 64 * d' ≤ _; omega⟩
          have hM : Met l (nm u) (Jvm.Cond.code (nm u) (cd u) (G u).1 none :: jm_tb) (jm_rm d' (r'.2.1.1 - t.1.1) (r'.2.1.2.1 - t.1.2.1)) (va_Pc ((.ref a :: as : List Value).map (jm_mv E)) (jm_pre E t)) (jm_Q E r') (r'.2.1.1 - t.1.1) (r'.2.1.2.1 - t.1.2.1) (jm_A E) := by
            rw [← hrt]; exact hM
          have hG : GoodIn jm_tb (Jvm.Cond.code (nm u) (cd u) (G u).1 none :: jm_tb) := by
            rw [← hrt]; exact jm_good G nm cd rt u k1
          have hrun : va_Run p l e R s m args below meth c H locs cells slots (r'.2.1.1 - t.1.1) (r'.2.1.2.1 - t.1.2.1) (F0 m pc lsA (st.map (jm_mv E))) ((st.drop v).map (jm_mv E)) (jm_Q E r' (Value.ref (jm_ad E a) :: as.map (jm_mv E)).toArray) (jm_A E) := by
            rcases hlk with hlk | hlk
            · exact va_runI (own := (nm y).cls) (Ts := jm_tb) (n := v - 1) (bytes := cd u) (maxL := (G u).1) (b := jm_ad E a) (As := as.map (jm_mv E)) ⟨hx, hb, hml, hown, hts⟩ hM ⟨callB_of (v - 1) hts hG rfl rfl rfl (hts _ k2) (hts _ hlk) ⟨k3.1, k3.2, k5⟩ hrm, hin, hts _ hst⟩ hpre rfl (by simp [hal]) hl.1 hstack (lv_room (by rw [jm_sum_map]; exact h8)) hd ⟨by omega, by omega⟩
            · exact va_runIN (own := (nm y).cls) (host := RX7) (Ts := jm_tb) (n := v - 1) (bytes := cd u) (maxL := (G u).1) (b := jm_ad E a) (As := as.map (jm_mv E)) ⟨hx, hb, hml, hown, hts⟩ hM ⟨va_cnB (v - 1) hts hG rfl rfl rfl (hN.1 _ hlk) (hts _ k2) ⟨k3.1, k3.2, k5⟩ hrm, hin, hts _ hst⟩ hpre rfl (by simp [hal]) hl.1 hstack (lv_room (by rw [jm_sum_map]; exact h8)) hd ⟨by omega, by omega⟩
          refine jm_call (r := r') hrun hS (fun H1 locs1 hP1 hS1 => ?_)
          have hgo := hk'.1 H1 locs1 lsA (cells + (r'.2.1.1 - t.1.1)) (slots + (r'.2.1.2.1 - t.1.2.1)) hP1 hS1 hl (by omega) (by omega)
          rw [jm_tl] at hgo
          exact hgo
        · cases h
      · cases h
  | _ => cases h
end JO
end
section
/-! the small machine never unmakes a cell -/
theorem jm_bor {b : Bool} {A B : Option jm_R} {r : jm_R} (h : (bif b then A else B) = some r) : A = some r ∨ B = some r := by
  cases b
  · exact Or.inr h
  · exact Or.inl h
theorem jm_swo {k : Nat → Option jm_R} {x : Int32} {d : Nat} {r : jm_R} : ∀ {ts : List (Int32 × Nat)}, jm_sw k x d ts = some r → ∃ q, k q = some r
  | [], h => ⟨d, h⟩
  | (c, q) :: ts, h => by
    rcases jm_bor (show (bif decide (x = c) then k q else jm_sw k x d ts) = some r from h) with h | h
    · exact ⟨q, h⟩
    · exact jm_swo h
set_option maxHeartbeats 4000000 in
theorem jm_smono {op : Instr} {u v w : Nat} {cc : Int32} {cl : Int64} {ts : List (Int32 × Nat)} {d ret pc : Nat} {ls : jm_V} {st : List Value} {t : jm_T} {r : jm_R} {k : Nat → jm_V → List Value → jm_T → Option jm_R} {C : Nat → List Value → jm_T → Option jm_R}
    (hk : ∀ pc' ls' st' t', k pc' ls' st' t' = some r → t'.1.1 ≤ r.2.1.1 ∧ t'.1.2.1 ≤ r.2.1.2.1)
    (hC : ∀ u' as t' r', C u' as t' = some r' → t'.1.1 ≤ r'.2.1.1 ∧ t'.1.2.1 ≤ r'.2.1.2.1)
    (h : jm_step op u v w cc cl ts d ret pc ls st t k C = some r) : t.1.1 ≤ r.2.1.1 ∧ t.1.2.1 ≤ r.2.1.2.1 := by
  cases op with
  | new i =>
    have h2 := hk _ _ _ _ (show k (pc + 3) ls (.ref (t.1.1 + 1) :: st) (jm_nw t u 0 (jm_nf u)) = some r from h)
    exact ⟨Nat.le_trans (Nat.le_add_right _ _) h2.1, Nat.le_trans (Nat.le_add_right _ _) h2.2⟩
  | newarray a =>
    dsimp only [jm_step] at h
    split at h
    · have h2 := hk _ _ _ _ (jm_if_some h).2
      exact ⟨Nat.le_trans (Nat.le_add_right _ _) h2.1, Nat.le_trans (Nat.le_add_right _ _) h2.2⟩
    · cases h
  | anewarray i =>
    dsimp only [jm_step] at h
    split at h
    · have h2 := hk _ _ _ _ (jm_if_some h).2
      exact ⟨Nat.le_trans (Nat.le_add_right _ _) h2.1, Nat.le_trans (Nat.le_add_right _ _) h2.2⟩
    · cases h
  | ifCond q o =>
    dsimp only [jm_step] at h
    split at h
    · rcases jm_bor h with h | h <;> exact hk _ _ _ _ h
    · cases h
  | if_icmp q o =>
    dsimp only [jm_step] at h
    split at h
    · rcases jm_bor h with h | h <;> exact hk _ _ _ _ h
    · cases h
  | tableswitch a b e f =>
    dsimp only [jm_step] at h
    split at h
    · obtain ⟨q, h⟩ := jm_swo h
      exact hk _ _ _ _ h
    · cases h
  | lookupswitch a b =>
    dsimp only [jm_step] at h
    split at h
    · obtain ⟨q, h⟩ := jm_swo h
      exact hk _ _ _ _ h
    · cases h
  | getfield i =>
    dsimp only [jm_step] at h
    split at h
    · have h := (jm_if_some h).2
      split at h
      · split at h
        · exact hk _ _ _ _ h
        · cases h
      · exact hk _ _ _ _ h
      · exact hk _ _ _ _ h
    · cases h
  | putfield i =>
    dsimp only [jm_step] at h
    split at h
    · split at h
      · have h2 := hk _ _ _ _ (jm_if_some h).2; exact h2
      · cases h
    · split at h
      · have h2 := hk _ _ _ _ (jm_if_some h).2; exact h2
      · cases h
    · split at h
      · have h2 := hk _ _ _ _ (jm_if_some h).2; exact h2
      · cases h
    · split at h
      · have h2 := hk _ _ _ _ (jm_if_some h).2; exact h2
      · cases h
    · cases h
  | aastore =>
    dsimp only [jm_step] at h
    split at h
    · have h2 := hk _ _ _ _ (jm_if_some h).2; exact h2
    · cases h
  | iastore =>
    dsimp only [jm_step] at h
    split at h
    · have h2 := hk _ _ _ _ (jm_if_some h).2; exact h2
    · cases h
  | bastore =>
    dsimp only [jm_step] at h
    split at h
    · have h2 := hk _ _ _ _ (jm_if_some h).2; exact h2
    · cases h
  | aaload =>
    dsimp only [jm_step] at h
    split at h
    · have h := (jm_if_some h).2
      split at h
      · exact hk _ _ _ _ h
      · cases h
    · cases h
  | invokevirtual i =>
    dsimp only [jm_step] at h
    split at h
    · have h := (jm_if_some h).2
      split at h
      · rename_i r' e
        have h1 := hC _ _ _ _ e
        have h2 := hk _ _ _ _ h
        exact ⟨Nat.le_trans h1.1 h2.1, Nat.le_trans h1.2 h2.2⟩
      · cases h
    · cases h
  | invokestatic i =>
    dsimp only [jm_step] at h
    split at h
    · split at h
      · have h2 := hk _ _ _ _ (jm_if_some h).2; exact h2
      · cases h
    · have h := (jm_if_some h).2
      split at h
      · rename_i r' e
        have h1 := hC _ _ _ _ e
        have h2 := hk _ _ _ _ h
        exact ⟨Nat.le_trans h1.1 h2.1, Nat.le_trans h1.2 h2.2⟩
      · cases h
  | invokespecial i =>
    dsimp only [jm_step] at h
    split at h
    · split at h
      · exact hk _ _ _ _ (jm_if_some h).2
      · cases h
    · split at h
      · have h := (jm_if_some h).2
        split at h
        · rename_i r' e
          have h1 := hC _ _ _ _ e
          have h2 := hk _ _ _ _ h
          exact ⟨Nat.le_trans h1.1 h2.1, Nat.le_trans h1.2 h2.2⟩
        · cases h
      · cases h
  | ireturn =>
    dsimp only [jm_step] at h
    split at h
    · split at h
      · cases h; exact ⟨Nat.le_refl _, Nat.le_refl _⟩
      · have h := (jm_if_some h).2
        cases h; exact ⟨Nat.le_refl _, Nat.le_refl _⟩
      · cases h
    · cases h
  | areturn =>
    dsimp only [jm_step] at h
    split at h
    · split at h
      · cases h; exact ⟨Nat.le_refl _, Nat.le_refl _⟩
      · cases h
    · cases h
  | return_ =>
    dsimp only [jm_step] at h
    split at h
    · split at h
      · cases h; exact ⟨Nat.le_refl _, Nat.le_refl _⟩
      · cases h
    · cases h
  | _ => first
    | (cases h; done)
    | exact hk _ _ _ _ h
    | (dsimp only [jm_step] at h
       split at h
       · first
         | exact hk _ _ _ _ h
         | exact hk _ _ _ _ (jm_if_some h).2
       · cases h)
theorem jm_mono {G : Nat → jm_M} : ∀ (n d : Nat) (Y : jm_M) (pc : Nat) (ls : jm_V) (st : List Value) (t : jm_T) (r : jm_R), jm_run G n d Y pc ls st t = some r → t.1.1 ≤ r.2.1.1 ∧ t.1.2.1 ≤ r.2.1.2.1
  | 0, _, _, _, _, _, _, _, h => by cases h
  | n + 1, d, Y, pc, ls, st, t, r, h => by
    unfold jm_run at h
    split at h
    · cases h
    · refine jm_smono (fun pc' ls' st' t' h' => jm_mono n d Y pc' ls' st' t' r h') (fun u as t' r' h' => ?_) h
      split at h'
      · cases h'
      · exact jm_mono n _ _ _ _ _ _ _ (jm_if_some h').2
/-! soundness of a whole run -/
def jm_Ok (G : Nat → jm_M) (nm : Nat → MethodName) (cd : Nat → ByteArray) (rt : Nat → Option FieldType) (lw : Nat) : Prop :=
  ∀ (y pc : Nat) (op : Instr) (len u v w : Nat) (c : Int32) (cl : Int64) (ts : List (Int32 × Nat)) (kl : List Nat), jm_at (G y).2.2 pc = some (op, len, u, v, w, c, cl, ts, kl) → decode (cd y) pc = .ok (op, len) ∧ jm_iok G nm cd rt lw y pc op len u v w c cl ts
def jm_Snd (l : Launch) (E : jm_Ev) (G : Nat → jm_M) (nm : Nat → MethodName) (cd : Nat → ByteArray) (lw n : Nat) : Prop :=
  ∀ (y d pc : Nat) (ls : jm_V) (st : List Value) (t : jm_T) (r : jm_R), jm_run G n d (G y) pc ls st t = some r →
    ∀ {p : Program} {e : Env} {R : Room} {s : State} {m : MethodId} {args : Array Value} {below : List Frame} {meth : Method} {c : Code} {Q : State → Prop} {n0 s0 : Nat},
      jm_Cx E G nm cd lw y n0 p s m args meth c → (d ≤ R.frames ∧ 64 * d ≤ R.locals ∧ r.2.1.1 ≤ R.cells + n0 ∧ r.2.1.2.1 ≤ R.slots + s0) →
      (∀ (pc : Nat) (op : Instr) (v : Option Value) (tt : jm_T), (v, tt) = r → decode (cd y) pc = .ok (op, 1) → jm_rt (G y).2.1 op v → ∀ (lsA : Array Slot) (H : Heap) (locs : List Loc) (cells slots : Nat), jm_P E tt H → va_S (jm_A E) s.heap H locs → cells + n0 = tt.1.1 → slots + s0 = tt.1.2.1 → W p l e R s m args below meth c H locs cells slots Q (F0 m pc lsA ((v.map (jm_mv E)).toList))) →
      jm_Wk E p l e R s m args below meth c Q (G y).1 n0 s0 pc ls st t
theorem jm_rk0 {rt : Option FieldType} (h : jm_rk 0 rt = true) : rt = none := by
  cases rt with
  | none => rfl
  | some ty => simp [jm_rk] at h
theorem jm_rk1 {rt : Option FieldType} (h : jm_rk 1 rt = true) : rt = some .int := by
  cases rt with
  | none => simp [jm_rk] at h
  | some ty => cases ty <;> first | rfl | (simp [jm_rk] at h; done)
theorem jm_rk2 {rt : Option FieldType} (h : jm_rk 2 rt = true) : rt = some .boolean := by
  cases rt with
  | none => simp [jm_rk] at h
  | some ty => cases ty <;> first | rfl | (simp [jm_rk] at h; done)
theorem jm_rk3 {rt : Option FieldType} (h : jm_rk 3 rt = true) : ∃ C, rt = some (.object C) := by
  cases rt with
  | none => simp [jm_rk] at h
  | some ty => cases ty <;> first | exact ⟨_, rfl⟩ | (simp [jm_rk] at h; done)
theorem jm_met {l : Launch} {E : jm_Ev} {G : Nat → jm_M} {nm : Nat → MethodName} {cd : Nat → ByteArray} {rt : Nat → Option FieldType} {lw n u k d : Nat} {as : List Value} {t : jm_T} {r : jm_R} (IH : jm_Snd l E G nm cd lw n) (hmk : jm_mk G nm cd rt u k) (hne : u ≠ lw)
    (h : jm_run G n d (G u) 0 (jm_en (G u).1 as) [] t = some r) (hlen : (lg_sl as).length ≤ (G u).1) : jm_Ct l E G nm cd rt u d as t r := by
  obtain ⟨k1, k2, k3, k4, k5, k6, k7⟩ := hmk
  have hm := jm_mono _ _ _ _ _ _ _ _ h
  refine Met.ofW (cc := cd u) (maxL := (G u).1) (ret := rt u) k4 rfl ?_
  intro p e s m args below meth c s₁ B hml hv
  obtain ⟨rfl, hsz, hP, hK, hN⟩ := hv
  have hts := atoms_spec (ws := jm_wm G nm cd rt u) B.pre
  have hlocks := B.notSynchronized
  have hr := B.returns
  rw [lg_entry_eq]
  refine IH u d 0 _ [] t r h (n0 := t.1.1) (s0 := t.1.2.1) ⟨B.exec, B.bytes, hml, findClass_of_methodNamed B.named, fun w hw => hts w (List.mem_cons_of_mem _ hw), hK, hN, hsz, (name_of_methodNamed B.named B.method).1, fun q => absurd q hne⟩ ⟨Nat.le_refl _, Nat.le_refl _, by show _ ≤ r.2.1.1 - t.1.1 + t.1.1; omega, by show _ ≤ r.2.1.2.1 - t.1.2.1 + t.1.2.1; omega⟩ ?_ s.heap [] _ 0 0 hP va_S.rf (jm_L_entry E as hlen) (Nat.zero_add _) (Nat.zero_add _)
  intro pc op v tt hvr hdc hrt lsA H locs cells slots hP' hS' hc' hs'
  subst hvr
  have hq : ∀ o : State, o.heap = H → s.WarmedH o.vm → jm_Q E (v, tt) (as.map (jm_mv E)).toArray s (.returned (v.map (jm_mv E))) o := fun o ho _ => ⟨rfl, by rw [ho]; exact hP', hS'.F ho⟩
  have e1 : tt.1.1 - t.1.1 = cells := by omega
  have e2 : tt.1.2.1 - t.1.2.1 = slots := by omega
  show W p l e _ s m _ below meth c H locs cells slots (MQ below (jm_Q E (v, tt)) (as.map (jm_mv E)).toArray s (tt.1.1 - t.1.1) (tt.1.2.1 - t.1.2.1) (jm_A E)) _
  rw [e1, e2]
  rcases hrt with ⟨rfl, x, rfl, hkk⟩ | ⟨rfl, hkk, a, rfl⟩ | ⟨rfl, hkk, rfl⟩
  · rcases hkk with hkk | ⟨hkk, hx⟩
    · have hri : rt u = some .int := jm_rk1 (by rw [hkk] at k6; exact k6)
      exact W.iret B.exec B.bytes (by rw [hr, hri]) hq hS'.2.2 hdc
    · have hri : rt u = some .boolean := jm_rk2 (by rw [hkk] at k6; exact k6)
      exact W.zret (ty := .boolean) B.exec B.bytes (by rw [hr, hri]) (by rcases hx with rfl | rfl <;> rfl) hq hS'.2.2 hdc
  · obtain ⟨C, hri⟩ : ∃ C, rt u = some (.object C) := jm_rk3 (by rw [hkk] at k6; exact k6)
    exact W.aret (rt := .object C) B.exec B.bytes (by rw [hr, hri]) (Or.inl ⟨C, rfl⟩) (Or.inr ⟨_, rfl⟩) hq hS'.2.2 hdc
  · have hri : rt u = none := jm_rk0 (by rw [hkk] at k6; exact k6)
    exact W.vret B.exec B.bytes (by rw [hr, hri]) hq hS'.2.2 hdc
theorem jm_snd {l : Launch} {E : jm_Ev} {G : Nat → jm_M} {nm : Nat → MethodName} {cd : Nat → ByteArray} {rt : Nat → Option FieldType} {lw : Nat} (hok : jm_Ok G nm cd rt lw) : ∀ n, jm_Snd l E G nm cd lw n
  | 0 => fun _ _ _ _ _ _ _ h => by cases h
  | n + 1 => by
    intro y d pc ls st t r h p e R s m args below meth c Q n0 s0 X hR hret
    have IH := jm_snd (l := l) (E := E) hok n
    unfold jm_run at h
    split at h
    · cases h
    · rename_i op len u v w cc cl ts kl hat
      obtain ⟨hd, hi⟩ := hok y pc op len u v w cc cl ts kl hat
      have hW := jm_one X hd hi hR (fun pc' ls' st' t' h' => ⟨IH y d pc' ls' st' t' r h' X hR hret, jm_mono _ _ _ _ _ _ _ _ h'⟩) (fun u' k as t' r' hmk hne h' => by
        split at h'
        · cases h'
        · rename_i d'
          obtain ⟨hle, h'⟩ := jm_if_some h'
          have hm := jm_mono _ _ _ _ _ _ _ _ h'
          exact ⟨d', rfl, hm.1, hm.2, jm_met IH hmk hne h' (Nat.le_of_ble_eq_true hle)⟩) hret h
      intro H locs lsA cells slots hP hS hl hc hs
      exact hW H locs lsA cells slots hP hS hl.kl hc hs
end
