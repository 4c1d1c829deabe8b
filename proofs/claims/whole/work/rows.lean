section
-- ===== PART A: goes FIRST, ahead of the names: the tables' words, and 'selects' of the private methods out of them =====
/-- a private method of a class that the tables say can be made, by its rows of tables_1 -/
def lw_okq (q : MethodName × Nat) : Prop := (q.1.cls ≠ "java/lang/invoke/MethodHandle" ∧ q.1.cls ≠ "java/lang/invoke/VarHandle") ∧ Cond.instantiable q.1.cls q.2 ∈ tables_1 ∧ Cond.privateMethod q.1 ∈ tables_1 ∧ Cond.instanceMethod q.1 ∈ tables_1
theorem lw_p0 : lw_okq (⟨"CableLooms$Ducts", "sortIn", "(I)V"⟩, 7) := ⟨⟨by decide +kernel, by decide +kernel⟩, List.mem_of_getElem? (i := 21) (by decide +kernel), List.mem_of_getElem? (i := 241) (by decide +kernel), List.mem_of_getElem? (i := 242) (by decide +kernel)⟩
theorem lw_p1 : lw_okq (⟨"CableLooms", "isWire", "(I)Z"⟩, 6) := ⟨⟨by decide +kernel, by decide +kernel⟩, List.mem_of_getElem? (i := 13) (by decide +kernel), List.mem_of_getElem? (i := 275) (by decide +kernel), List.mem_of_getElem? (i := 276) (by decide +kernel)⟩
theorem lw_p2 : lw_okq (⟨"CableLooms", "openDucts", "(I)I"⟩, 6) := ⟨⟨by decide +kernel, by decide +kernel⟩, List.mem_of_getElem? (i := 13) (by decide +kernel), List.mem_of_getElem? (i := 283) (by decide +kernel), List.mem_of_getElem? (i := 284) (by decide +kernel)⟩
theorem lw_p3 : lw_okq (⟨"CableLooms$Search", "spread", "(I)V"⟩, 6) := ⟨⟨by decide +kernel, by decide +kernel⟩, List.mem_of_getElem? (i := 105) (by decide +kernel), List.mem_of_getElem? (i := 302) (by decide +kernel), List.mem_of_getElem? (i := 303) (by decide +kernel)⟩
theorem lw_p4 : lw_okq (⟨"CableLooms$Search", "lower", "(III)Z"⟩, 6) := ⟨⟨by decide +kernel, by decide +kernel⟩, List.mem_of_getElem? (i := 105) (by decide +kernel), List.mem_of_getElem? (i := 309) (by decide +kernel), List.mem_of_getElem? (i := 310) (by decide +kernel)⟩
theorem lw_p5 : lw_okq (⟨"CableLooms$Search", "firstStep", "(I)I"⟩, 6) := ⟨⟨by decide +kernel, by decide +kernel⟩, List.mem_of_getElem? (i := 105) (by decide +kernel), List.mem_of_getElem? (i := 317) (by decide +kernel), List.mem_of_getElem? (i := 318) (by decide +kernel)⟩
theorem lw_p6 : lw_okq (⟨"CableLooms$Search", "priceFrom", "(II)I"⟩, 6) := ⟨⟨by decide +kernel, by decide +kernel⟩, List.mem_of_getElem? (i := 105) (by decide +kernel), List.mem_of_getElem? (i := 321) (by decide +kernel), List.mem_of_getElem? (i := 322) (by decide +kernel)⟩
theorem lw_p7 : lw_okq (⟨"CableLooms$Search", "turnSteps", "(I)V"⟩, 6) := ⟨⟨by decide +kernel, by decide +kernel⟩, List.mem_of_getElem? (i := 105) (by decide +kernel), List.mem_of_getElem? (i := 405) (by decide +kernel), List.mem_of_getElem? (i := 406) (by decide +kernel)⟩
theorem lw_p8 : lw_okq (⟨"CableLooms$Splices", "treeLength", "(I)I"⟩, 4) := ⟨⟨by decide +kernel, by decide +kernel⟩, List.mem_of_getElem? (i := 132) (by decide +kernel), List.mem_of_getElem? (i := 422) (by decide +kernel), List.mem_of_getElem? (i := 423) (by decide +kernel)⟩
theorem lw_p9 : lw_okq (⟨"CableLooms$Splices", "joins", "(II)Z"⟩, 4) := ⟨⟨by decide +kernel, by decide +kernel⟩, List.mem_of_getElem? (i := 132) (by decide +kernel), List.mem_of_getElem? (i := 427) (by decide +kernel), List.mem_of_getElem? (i := 428) (by decide +kernel)⟩
theorem lw_p10 : lw_okq (⟨"CableLooms$Splices", "headOf", "(I)I"⟩, 4) := ⟨⟨by decide +kernel, by decide +kernel⟩, List.mem_of_getElem? (i := 132) (by decide +kernel), List.mem_of_getElem? (i := 431) (by decide +kernel), List.mem_of_getElem? (i := 432) (by decide +kernel)⟩
theorem lw_p11 : lw_okq (⟨"CableLooms$Splices", "note", "(II)V"⟩, 4) := ⟨⟨by decide +kernel, by decide +kernel⟩, List.mem_of_getElem? (i := 132) (by decide +kernel), List.mem_of_getElem? (i := 435) (by decide +kernel), List.mem_of_getElem? (i := 436) (by decide +kernel)⟩
theorem lw_p12 : lw_okq (⟨"CableLooms$Orders", "refresh", "()V"⟩, 11) := ⟨⟨by decide +kernel, by decide +kernel⟩, List.mem_of_getElem? (i := 153) (by decide +kernel), List.mem_of_getElem? (i := 498) (by decide +kernel), List.mem_of_getElem? (i := 499) (by decide +kernel)⟩
theorem lw_p13 : lw_okq (⟨"CableLooms$Orders", "gatherSums", "()V"⟩, 11) := ⟨⟨by decide +kernel, by decide +kernel⟩, List.mem_of_getElem? (i := 153) (by decide +kernel), List.mem_of_getElem? (i := 502) (by decide +kernel), List.mem_of_getElem? (i := 503) (by decide +kernel)⟩
theorem lw_p14 : lw_okq (⟨"CableLooms$Orders", "leastPlan", "(I)J"⟩, 11) := ⟨⟨by decide +kernel, by decide +kernel⟩, List.mem_of_getElem? (i := 153) (by decide +kernel), List.mem_of_getElem? (i := 510) (by decide +kernel), List.mem_of_getElem? (i := 511) (by decide +kernel)⟩
theorem lw_p15 : lw_okq (⟨"CableLoomsModel", "isWire", "(I)Z"⟩, 31) := ⟨⟨by decide +kernel, by decide +kernel⟩, List.mem_of_getElem? (i := 594) (by decide +kernel), List.mem_of_getElem? (i := 717) (by decide +kernel), List.mem_of_getElem? (i := 718) (by decide +kernel)⟩
def lw_privs_1 : List (MethodName × Nat) := [(⟨"CableLooms$Ducts", "sortIn", "(I)V"⟩, 7), (⟨"CableLooms", "isWire", "(I)Z"⟩, 6), (⟨"CableLooms", "openDucts", "(I)I"⟩, 6), (⟨"CableLooms$Search", "spread", "(I)V"⟩, 6), (⟨"CableLooms$Search", "lower", "(III)Z"⟩, 6), (⟨"CableLooms$Search", "firstStep", "(I)I"⟩, 6), (⟨"CableLooms$Search", "priceFrom", "(II)I"⟩, 6), (⟨"CableLooms$Search", "turnSteps", "(I)V"⟩, 6), (⟨"CableLooms$Splices", "treeLength", "(I)I"⟩, 4), (⟨"CableLooms$Splices", "joins", "(II)Z"⟩, 4), (⟨"CableLooms$Splices", "headOf", "(I)I"⟩, 4), (⟨"CableLooms$Splices", "note", "(II)V"⟩, 4), (⟨"CableLooms$Orders", "refresh", "()V"⟩, 11), (⟨"CableLooms$Orders", "gatherSums", "()V"⟩, 11), (⟨"CableLooms$Orders", "leastPlan", "(I)J"⟩, 11), (⟨"CableLoomsModel", "isWire", "(I)Z"⟩, 31)]
theorem lw_r1 : ∀ q ∈ lw_privs_1, lw_okq q := List.forall_mem_cons.mpr ⟨lw_p0, List.forall_mem_cons.mpr ⟨lw_p1, List.forall_mem_cons.mpr ⟨lw_p2, List.forall_mem_cons.mpr ⟨lw_p3, List.forall_mem_cons.mpr ⟨lw_p4, List.forall_mem_cons.mpr ⟨lw_p5, List.forall_mem_cons.mpr ⟨lw_p6, List.forall_mem_cons.mpr ⟨lw_p7, List.forall_mem_cons.mpr ⟨lw_p8, List.forall_mem_cons.mpr ⟨lw_p9, List.forall_mem_cons.mpr ⟨lw_p10, List.forall_mem_cons.mpr ⟨lw_p11, List.forall_mem_cons.mpr ⟨lw_p12, List.forall_mem_cons.mpr ⟨lw_p13, List.forall_mem_cons.mpr ⟨lw_p14, List.forall_mem_cons.mpr ⟨lw_p15, fun _ h => absurd h List.not_mem_nil⟩⟩⟩⟩⟩⟩⟩⟩⟩⟩⟩⟩⟩⟩⟩⟩
theorem lw_p16 : lw_okq (⟨"CableLoomsModel", "mayGo", "(II)Z"⟩, 31) := ⟨⟨by decide +kernel, by decide +kernel⟩, List.mem_of_getElem? (i := 594) (by decide +kernel), List.mem_of_getElem? (i := 721) (by decide +kernel), List.mem_of_getElem? (i := 722) (by decide +kernel)⟩
theorem lw_p17 : lw_okq (⟨"CableLoomsModel", "full", "(I)I"⟩, 31) := ⟨⟨by decide +kernel, by decide +kernel⟩, List.mem_of_getElem? (i := 594) (by decide +kernel), List.mem_of_getElem? (i := 725) (by decide +kernel), List.mem_of_getElem? (i := 726) (by decide +kernel)⟩
theorem lw_p18 : lw_okq (⟨"CableLoomsModel", "goesBy", "(II)Z"⟩, 31) := ⟨⟨by decide +kernel, by decide +kernel⟩, List.mem_of_getElem? (i := 594) (by decide +kernel), List.mem_of_getElem? (i := 729) (by decide +kernel), List.mem_of_getElem? (i := 730) (by decide +kernel)⟩
theorem lw_p19 : lw_okq (⟨"CableLoomsModel", "measure", "(I)V"⟩, 31) := ⟨⟨by decide +kernel, by decide +kernel⟩, List.mem_of_getElem? (i := 594) (by decide +kernel), List.mem_of_getElem? (i := 733) (by decide +kernel), List.mem_of_getElem? (i := 734) (by decide +kernel)⟩
theorem lw_p20 : lw_okq (⟨"CableLoomsModel", "better", "(III)V"⟩, 31) := ⟨⟨by decide +kernel, by decide +kernel⟩, List.mem_of_getElem? (i := 594) (by decide +kernel), List.mem_of_getElem? (i := 738) (by decide +kernel), List.mem_of_getElem? (i := 739) (by decide +kernel)⟩
theorem lw_p21 : lw_okq (⟨"CableLoomsModel", "next", "(I)I"⟩, 31) := ⟨⟨by decide +kernel, by decide +kernel⟩, List.mem_of_getElem? (i := 594) (by decide +kernel), List.mem_of_getElem? (i := 742) (by decide +kernel), List.mem_of_getElem? (i := 743) (by decide +kernel)⟩
theorem lw_p22 : lw_okq (⟨"CableLoomsModel", "across", "(II)I"⟩, 31) := ⟨⟨by decide +kernel, by decide +kernel⟩, List.mem_of_getElem? (i := 594) (by decide +kernel), List.mem_of_getElem? (i := 746) (by decide +kernel), List.mem_of_getElem? (i := 747) (by decide +kernel)⟩
theorem lw_p23 : lw_okq (⟨"CableLoomsModel", "lengthOf", "(I)I"⟩, 31) := ⟨⟨by decide +kernel, by decide +kernel⟩, List.mem_of_getElem? (i := 594) (by decide +kernel), List.mem_of_getElem? (i := 750) (by decide +kernel), List.mem_of_getElem? (i := 751) (by decide +kernel)⟩
theorem lw_p24 : lw_okq (⟨"CableLoomsModel", "isDuct", "(I)Z"⟩, 31) := ⟨⟨by decide +kernel, by decide +kernel⟩, List.mem_of_getElem? (i := 594) (by decide +kernel), List.mem_of_getElem? (i := 770) (by decide +kernel), List.mem_of_getElem? (i := 771) (by decide +kernel)⟩
theorem lw_p25 : lw_okq (⟨"CableLoomsModel", "isClash", "(I)Z"⟩, 31) := ⟨⟨by decide +kernel, by decide +kernel⟩, List.mem_of_getElem? (i := 594) (by decide +kernel), List.mem_of_getElem? (i := 782) (by decide +kernel), List.mem_of_getElem? (i := 783) (by decide +kernel)⟩
theorem lw_p26 : lw_okq (⟨"CableLoomsModel", "openAll", "()V"⟩, 31) := ⟨⟨by decide +kernel, by decide +kernel⟩, List.mem_of_getElem? (i := 594) (by decide +kernel), List.mem_of_getElem? (i := 790) (by decide +kernel), List.mem_of_getElem? (i := 791) (by decide +kernel)⟩
theorem lw_p27 : lw_okq (⟨"CableLoomsModel", "addWay", "(II)Z"⟩, 31) := ⟨⟨by decide +kernel, by decide +kernel⟩, List.mem_of_getElem? (i := 594) (by decide +kernel), List.mem_of_getElem? (i := 798) (by decide +kernel), List.mem_of_getElem? (i := 799) (by decide +kernel)⟩
theorem lw_p28 : lw_okq (⟨"CableLoomsModel", "tryStep", "(IIII)V"⟩, 31) := ⟨⟨by decide +kernel, by decide +kernel⟩, List.mem_of_getElem? (i := 594) (by decide +kernel), List.mem_of_getElem? (i := 802) (by decide +kernel), List.mem_of_getElem? (i := 803) (by decide +kernel)⟩
theorem lw_p29 : lw_okq (⟨"CableLoomsModel", "layTrees", "()V"⟩, 31) := ⟨⟨by decide +kernel, by decide +kernel⟩, List.mem_of_getElem? (i := 594) (by decide +kernel), List.mem_of_getElem? (i := 816) (by decide +kernel), List.mem_of_getElem? (i := 817) (by decide +kernel)⟩
theorem lw_p30 : lw_okq (⟨"CableLoomsModel", "treeOf", "(I)I"⟩, 31) := ⟨⟨by decide +kernel, by decide +kernel⟩, List.mem_of_getElem? (i := 594) (by decide +kernel), List.mem_of_getElem? (i := 820) (by decide +kernel), List.mem_of_getElem? (i := 821) (by decide +kernel)⟩
theorem lw_p31 : lw_okq (⟨"CableLoomsModel", "leastNet", "(II)I"⟩, 31) := ⟨⟨by decide +kernel, by decide +kernel⟩, List.mem_of_getElem? (i := 594) (by decide +kernel), List.mem_of_getElem? (i := 824) (by decide +kernel), List.mem_of_getElem? (i := 825) (by decide +kernel)⟩
def lw_privs_2 : List (MethodName × Nat) := [(⟨"CableLoomsModel", "mayGo", "(II)Z"⟩, 31), (⟨"CableLoomsModel", "full", "(I)I"⟩, 31), (⟨"CableLoomsModel", "goesBy", "(II)Z"⟩, 31), (⟨"CableLoomsModel", "measure", "(I)V"⟩, 31), (⟨"CableLoomsModel", "better", "(III)V"⟩, 31), (⟨"CableLoomsModel", "next", "(I)I"⟩, 31), (⟨"CableLoomsModel", "across", "(II)I"⟩, 31), (⟨"CableLoomsModel", "lengthOf", "(I)I"⟩, 31), (⟨"CableLoomsModel", "isDuct", "(I)Z"⟩, 31), (⟨"CableLoomsModel", "isClash", "(I)Z"⟩, 31), (⟨"CableLoomsModel", "openAll", "()V"⟩, 31), (⟨"CableLoomsModel", "addWay", "(II)Z"⟩, 31), (⟨"CableLoomsModel", "tryStep", "(IIII)V"⟩, 31), (⟨"CableLoomsModel", "layTrees", "()V"⟩, 31), (⟨"CableLoomsModel", "treeOf", "(I)I"⟩, 31), (⟨"CableLoomsModel", "leastNet", "(II)I"⟩, 31)]
theorem lw_r2 : ∀ q ∈ lw_privs_2, lw_okq q := List.forall_mem_cons.mpr ⟨lw_p16, List.forall_mem_cons.mpr ⟨lw_p17, List.forall_mem_cons.mpr ⟨lw_p18, List.forall_mem_cons.mpr ⟨lw_p19, List.forall_mem_cons.mpr ⟨lw_p20, List.forall_mem_cons.mpr ⟨lw_p21, List.forall_mem_cons.mpr ⟨lw_p22, List.forall_mem_cons.mpr ⟨lw_p23, List.forall_mem_cons.mpr ⟨lw_p24, List.forall_mem_cons.mpr ⟨lw_p25, List.forall_mem_cons.mpr ⟨lw_p26, List.forall_mem_cons.mpr ⟨lw_p27, List.forall_mem_cons.mpr ⟨lw_p28, List.forall_mem_cons.mpr ⟨lw_p29, List.forall_mem_cons.mpr ⟨lw_p30, List.forall_mem_cons.mpr ⟨lw_p31, fun _ h => absurd h List.not_mem_nil⟩⟩⟩⟩⟩⟩⟩⟩⟩⟩⟩⟩⟩⟩⟩⟩
theorem lw_p32 : lw_okq (⟨"CableLoomsModel", "weightOf", "(I)I"⟩, 31) := ⟨⟨by decide +kernel, by decide +kernel⟩, List.mem_of_getElem? (i := 594) (by decide +kernel), List.mem_of_getElem? (i := 849) (by decide +kernel), List.mem_of_getElem? (i := 850) (by decide +kernel)⟩
theorem lw_p33 : lw_okq (⟨"CableLoomsModel", "needs", "(II)Z"⟩, 31) := ⟨⟨by decide +kernel, by decide +kernel⟩, List.mem_of_getElem? (i := 594) (by decide +kernel), List.mem_of_getElem? (i := 853) (by decide +kernel), List.mem_of_getElem? (i := 854) (by decide +kernel)⟩
theorem lw_p34 : lw_okq (⟨"CableLoomsModel", "layPlan", "()V"⟩, 31) := ⟨⟨by decide +kernel, by decide +kernel⟩, List.mem_of_getElem? (i := 594) (by decide +kernel), List.mem_of_getElem? (i := 861) (by decide +kernel), List.mem_of_getElem? (i := 862) (by decide +kernel)⟩
theorem lw_p35 : lw_okq (⟨"CableLoomsModel", "mostAhead", "(I)I"⟩, 31) := ⟨⟨by decide +kernel, by decide +kernel⟩, List.mem_of_getElem? (i := 594) (by decide +kernel), List.mem_of_getElem? (i := 866) (by decide +kernel), List.mem_of_getElem? (i := 867) (by decide +kernel)⟩
theorem lw_p36 : lw_okq (⟨"CableLoomsModel", "nextRow", "()Z"⟩, 31) := ⟨⟨by decide +kernel, by decide +kernel⟩, List.mem_of_getElem? (i := 594) (by decide +kernel), List.mem_of_getElem? (i := 870) (by decide +kernel), List.mem_of_getElem? (i := 871) (by decide +kernel)⟩
theorem lw_p37 : lw_okq (⟨"CableLoomsModel", "areAlike", "(II)Z"⟩, 31) := ⟨⟨by decide +kernel, by decide +kernel⟩, List.mem_of_getElem? (i := 594) (by decide +kernel), List.mem_of_getElem? (i := 882) (by decide +kernel), List.mem_of_getElem? (i := 883) (by decide +kernel)⟩
theorem lw_p38 : lw_okq (⟨"CableLoomsModel", "testMany", "()I"⟩, 31) := ⟨⟨by decide +kernel, by decide +kernel⟩, List.mem_of_getElem? (i := 594) (by decide +kernel), List.mem_of_getElem? (i := 897) (by decide +kernel), List.mem_of_getElem? (i := 898) (by decide +kernel)⟩
theorem lw_p39 : lw_okq (⟨"CableLoomsModel", "hasPins", "(I)Z"⟩, 31) := ⟨⟨by decide +kernel, by decide +kernel⟩, List.mem_of_getElem? (i := 594) (by decide +kernel), List.mem_of_getElem? (i := 909) (by decide +kernel), List.mem_of_getElem? (i := 910) (by decide +kernel)⟩
theorem lw_p40 : lw_okq (⟨"CableLoomsModel", "nets", "()I"⟩, 31) := ⟨⟨by decide +kernel, by decide +kernel⟩, List.mem_of_getElem? (i := 594) (by decide +kernel), List.mem_of_getElem? (i := 913) (by decide +kernel), List.mem_of_getElem? (i := 914) (by decide +kernel)⟩
def lw_privs_3 : List (MethodName × Nat) := [(⟨"CableLoomsModel", "weightOf", "(I)I"⟩, 31), (⟨"CableLoomsModel", "needs", "(II)Z"⟩, 31), (⟨"CableLoomsModel", "layPlan", "()V"⟩, 31), (⟨"CableLoomsModel", "mostAhead", "(I)I"⟩, 31), (⟨"CableLoomsModel", "nextRow", "()Z"⟩, 31), (⟨"CableLoomsModel", "areAlike", "(II)Z"⟩, 31), (⟨"CableLoomsModel", "testMany", "()I"⟩, 31), (⟨"CableLoomsModel", "hasPins", "(I)Z"⟩, 31), (⟨"CableLoomsModel", "nets", "()I"⟩, 31)]
theorem lw_r3 : ∀ q ∈ lw_privs_3, lw_okq q := List.forall_mem_cons.mpr ⟨lw_p32, List.forall_mem_cons.mpr ⟨lw_p33, List.forall_mem_cons.mpr ⟨lw_p34, List.forall_mem_cons.mpr ⟨lw_p35, List.forall_mem_cons.mpr ⟨lw_p36, List.forall_mem_cons.mpr ⟨lw_p37, List.forall_mem_cons.mpr ⟨lw_p38, List.forall_mem_cons.mpr ⟨lw_p39, List.forall_mem_cons.mpr ⟨lw_p40, fun _ h => absurd h List.not_mem_nil⟩⟩⟩⟩⟩⟩⟩⟩⟩
def lw_privs : List (MethodName × Nat) := lw_privs_1 ++ (lw_privs_2 ++ (lw_privs_3))
def lw_tbl : List Cond := k2_sels lw_privs ++ tables_1
theorem lw_privs_ok : ∀ q ∈ lw_privs, lw_okq q := by
  show ∀ q ∈ lw_privs_1 ++ (lw_privs_2 ++ (lw_privs_3)), lw_okq q
  exact List.forall_mem_append.mpr ⟨lw_r1, List.forall_mem_append.mpr ⟨lw_r2, lw_r3⟩⟩
-- ===== end of PART A =====
def RX0 : String := "CableLooms$Ducts"
def TX0 : u_T := fun k => match k with
  | 0 => ("CableLooms$Ducts", "made", "I", false)
  | 1 => ("CableLooms$Ducts", "one", "[I", true)
  | 2 => ("CableLooms$Ducts", "other", "[I", true)
  | 3 => ("CableLooms$Ducts", "ends", "[I", true)
  | 4 => ("CableLooms$Ducts", "lengths", "[I", true)
  | 5 => ("CableLooms$Ducts", "rooms", "[I", true)
  | _ => ("CableLooms$Ducts", "shortestFirst", "[I", true)
def tyX0 : Nat → FieldType := fun k => match k with
  | 0 => .int
  | 1 => .array .int
  | 2 => .array .int
  | 3 => .array .int
  | 4 => .array .int
  | 5 => .array .int
  | _ => .array .int
theorem nmX0 : ∀ a, a < 7 → ∀ b, b < 7 → a ≠ b → (TX0 a).2.1 ≠ (TX0 b).2.1 := by decide +kernel
theorem tyX0_ok : ∀ k, k < 7 → parseFieldDescriptor (TX0 k).2.2.1 = some (tyX0 k) := by decide +kernel
abbrev cX0_init : ByteArray := prog_2_method_1_code
def yX0_init : MethodName := ⟨RX0, "<init>", "()V"⟩
abbrev cX0_add : ByteArray := prog_2_method_2_code
def yX0_add : MethodName := ⟨RX0, "add", "(IIII)I"⟩
abbrev cX0_sortIn : ByteArray := prog_2_method_3_code
def yX0_sortIn : MethodName := ⟨RX0, "sortIn", "(I)V"⟩
abbrev cX0_allBits : ByteArray := prog_2_method_4_code
def yX0_allBits : MethodName := ⟨RX0, "allBits", "()I"⟩
abbrev cX0_across : ByteArray := prog_2_method_5_code
def yX0_across : MethodName := ⟨RX0, "across", "(II)I"⟩
def RX1 : String := "CableLooms$Orders"
def TX1 : u_T := fun k => match k with
  | 0 => ("CableLooms$Orders", "made", "I", false)
  | 1 => ("CableLooms$Orders", "setupCost", "I", false)
  | 2 => ("CableLooms$Orders", "stale", "Z", false)
  | 3 => ("CableLooms$Orders", "wires", "LCableLooms$Wires;", true)
  | 4 => ("CableLooms$Orders", "options", "[I", true)
  | 5 => ("CableLooms$Orders", "pieces", "[I", true)
  | 6 => ("CableLooms$Orders", "wireSets", "[I", true)
  | 7 => ("CableLooms$Orders", "pieceSums", "[I", true)
  | 8 => ("CableLooms$Orders", "loomCosts", "[I", true)
  | 9 => ("CableLooms$Orders", "oneLoomUp", "[I", true)
  | _ => ("CableLooms$Orders", "plans", "[J", true)
def tyX1 : Nat → FieldType := fun k => match k with
  | 0 => .int
  | 1 => .int
  | 2 => .boolean
  | 3 => .object "CableLooms$Wires"
  | 4 => .array .int
  | 5 => .array .int
  | 6 => .array .int
  | 7 => .array .int
  | 8 => .array .int
  | 9 => .array .int
  | _ => .array .long
theorem nmX1 : ∀ a, a < 11 → ∀ b, b < 11 → a ≠ b → (TX1 a).2.1 ≠ (TX1 b).2.1 := by decide +kernel
theorem tyX1_ok : ∀ k, k < 11 → parseFieldDescriptor (TX1 k).2.2.1 = some (tyX1 k) := by decide +kernel
abbrev cX1_init : ByteArray := prog_3_method_1_code
def yX1_init : MethodName := ⟨RX1, "<init>", "(LCableLooms$Wires;)V"⟩
abbrev cX1_add : ByteArray := prog_3_method_2_code
def yX1_add : MethodName := ⟨RX1, "add", "(II)I"⟩
abbrev cX1_allBits : ByteArray := prog_3_method_3_code
def yX1_allBits : MethodName := ⟨RX1, "allBits", "()I"⟩
abbrev cX1_wiresFor : ByteArray := prog_3_method_4_code
def yX1_wiresFor : MethodName := ⟨RX1, "wiresFor", "(I)I"⟩
abbrev cX1_hasTwin : ByteArray := prog_3_method_5_code
def yX1_hasTwin : MethodName := ⟨RX1, "hasTwin", "(I)Z"⟩
abbrev cX1_bestCost : ByteArray := prog_3_method_6_code
def yX1_bestCost : MethodName := ⟨RX1, "bestCost", "()J"⟩
abbrev cX1_loomOf : ByteArray := prog_3_method_7_code
def yX1_loomOf : MethodName := ⟨RX1, "loomOf", "(I)I"⟩
abbrev cX1_loomShift : ByteArray := prog_3_method_8_code
def yX1_loomShift : MethodName := ⟨RX1, "loomShift", "(I)I"⟩
abbrev cX1_refresh : ByteArray := prog_3_method_9_code
def yX1_refresh : MethodName := ⟨RX1, "refresh", "()V"⟩
abbrev cX1_gatherSums : ByteArray := prog_3_method_10_code
def yX1_gatherSums : MethodName := ⟨RX1, "gatherSums", "()V"⟩
abbrev cX1_leastPlan : ByteArray := prog_3_method_11_code
def yX1_leastPlan : MethodName := ⟨RX1, "leastPlan", "(I)J"⟩
def RX2 : String := "CableLooms$Pins"
def TX2 : u_T := fun k => match k with
  | _ => ("CableLooms$Pins", "netOf", "[I", true)
def tyX2 : Nat → FieldType := fun k => match k with
  | _ => .array .int
theorem nmX2 : ∀ a, a < 1 → ∀ b, b < 1 → a ≠ b → (TX2 a).2.1 ≠ (TX2 b).2.1 := by decide +kernel
theorem tyX2_ok : ∀ k, k < 1 → parseFieldDescriptor (TX2 k).2.2.1 = some (tyX2 k) := by decide +kernel
abbrev cX2_init : ByteArray := prog_4_method_1_code
def yX2_init : MethodName := ⟨RX2, "<init>", "()V"⟩
abbrev cX2_usedNets : ByteArray := prog_4_method_2_code
def yX2_usedNets : MethodName := ⟨RX2, "usedNets", "()I"⟩
abbrev cX2_isUsed : ByteArray := prog_4_method_3_code
def yX2_isUsed : MethodName := ⟨RX2, "isUsed", "(I)Z"⟩
abbrev cX2_testsNeeded : ByteArray := prog_4_method_4_code
def yX2_testsNeeded : MethodName := ⟨RX2, "testsNeeded", "()I"⟩
abbrev cX2_pairsUnlikeJustIn : ByteArray := prog_4_method_5_code
def yX2_pairsUnlikeJustIn : MethodName := ⟨RX2, "pairsUnlikeJustIn", "(I)I"⟩
def RX3 : String := "CableLooms$Search"
def TX3 : u_T := fun k => match k with
  | 0 => ("CableLooms$Search", "ducts", "LCableLooms$Ducts;", true)
  | 1 => ("CableLooms$Search", "priceForth", "[I", true)
  | 2 => ("CableLooms$Search", "priceBack", "[I", true)
  | 3 => ("CableLooms$Search", "toGoal", "[I", true)
  | 4 => ("CableLooms$Search", "steps", "[I", true)
  | _ => ("CableLooms$Search", "stepCount", "I", false)
def tyX3 : Nat → FieldType := fun k => match k with
  | 0 => .object "CableLooms$Ducts"
  | 1 => .array .int
  | 2 => .array .int
  | 3 => .array .int
  | 4 => .array .int
  | _ => .int
theorem nmX3 : ∀ a, a < 6 → ∀ b, b < 6 → a ≠ b → (TX3 a).2.1 ≠ (TX3 b).2.1 := by decide +kernel
theorem tyX3_ok : ∀ k, k < 6 → parseFieldDescriptor (TX3 k).2.2.1 = some (tyX3 k) := by decide +kernel
abbrev cX3_init : ByteArray := prog_5_method_1_code
def yX3_init : MethodName := ⟨RX3, "<init>", "(LCableLooms$Ducts;)V"⟩
abbrev cX3_open : ByteArray := prog_5_method_2_code
def yX3_open : MethodName := ⟨RX3, "open", "(I)V"⟩
abbrev cX3_leastLength : ByteArray := prog_5_method_3_code
def yX3_leastLength : MethodName := ⟨RX3, "leastLength", "(II)I"⟩
abbrev cX3_leastLengthOfTwo : ByteArray := prog_5_method_4_code
def yX3_leastLengthOfTwo : MethodName := ⟨RX3, "leastLengthOfTwo", "(II)I"⟩
abbrev cX3_walk : ByteArray := prog_5_method_5_code
def yX3_walk : MethodName := ⟨RX3, "walk", "(II)V"⟩
abbrev cX3_firstStep : ByteArray := prog_5_method_6_code
def yX3_firstStep : MethodName := ⟨RX3, "firstStep", "(I)I"⟩
abbrev cX3_priceFrom : ByteArray := prog_5_method_7_code
def yX3_priceFrom : MethodName := ⟨RX3, "priceFrom", "(II)I"⟩
abbrev cX3_turnSteps : ByteArray := prog_5_method_8_code
def yX3_turnSteps : MethodName := ⟨RX3, "turnSteps", "(I)V"⟩
abbrev cX3_spread : ByteArray := prog_5_method_9_code
def yX3_spread : MethodName := ⟨RX3, "spread", "(I)V"⟩
abbrev cX3_lower : ByteArray := prog_5_method_10_code
def yX3_lower : MethodName := ⟨RX3, "lower", "(III)Z"⟩
def RX4 : String := "CableLooms$Splices"
def TX4 : u_T := fun k => match k with
  | 0 => ("CableLooms$Splices", "ducts", "LCableLooms$Ducts;", true)
  | 1 => ("CableLooms$Splices", "joinedTo", "[I", true)
  | 2 => ("CableLooms$Splices", "leastWithout", "[I", true)
  | _ => ("CableLooms$Splices", "least", "I", false)
def tyX4 : Nat → FieldType := fun k => match k with
  | 0 => .object "CableLooms$Ducts"
  | 1 => .array .int
  | 2 => .array .int
  | _ => .int
theorem nmX4 : ∀ a, a < 4 → ∀ b, b < 4 → a ≠ b → (TX4 a).2.1 ≠ (TX4 b).2.1 := by decide +kernel
theorem tyX4_ok : ∀ k, k < 4 → parseFieldDescriptor (TX4 k).2.2.1 = some (tyX4 k) := by decide +kernel
abbrev cX4_init : ByteArray := prog_6_method_1_code
def yX4_init : MethodName := ⟨RX4, "<init>", "(LCableLooms$Ducts;)V"⟩
abbrev cX4_compare : ByteArray := prog_6_method_2_code
def yX4_compare : MethodName := ⟨RX4, "compare", "(I)V"⟩
abbrev cX4_firstNeeded : ByteArray := prog_6_method_3_code
def yX4_firstNeeded : MethodName := ⟨RX4, "firstNeeded", "(I)I"⟩
abbrev cX4_note : ByteArray := prog_6_method_4_code
def yX4_note : MethodName := ⟨RX4, "note", "(II)V"⟩
abbrev cX4_treeLength : ByteArray := prog_6_method_5_code
def yX4_treeLength : MethodName := ⟨RX4, "treeLength", "(I)I"⟩
abbrev cX4_joins : ByteArray := prog_6_method_6_code
def yX4_joins : MethodName := ⟨RX4, "joins", "(II)Z"⟩
abbrev cX4_headOf : ByteArray := prog_6_method_7_code
def yX4_headOf : MethodName := ⟨RX4, "headOf", "(I)I"⟩
def RX5 : String := "CableLooms$Wires"
def TX5 : u_T := fun k => match k with
  | 0 => ("CableLooms$Wires", "made", "I", false)
  | 1 => ("CableLooms$Wires", "from", "[I", true)
  | 2 => ("CableLooms$Wires", "to", "[I", true)
  | 3 => ("CableLooms$Wires", "thickness", "[I", true)
  | 4 => ("CableLooms$Wires", "kind", "[I", true)
  | 5 => ("CableLooms$Wires", "options", "[I", true)
  | 6 => ("CableLooms$Wires", "through", "[I", true)
  | 7 => ("CableLooms$Wires", "wayLength", "[I", true)
  | 8 => ("CableLooms$Wires", "waySteps", "[I", true)
  | _ => ("CableLooms$Wires", "apartFrom", "[I", true)
def tyX5 : Nat → FieldType := fun k => match k with
  | 0 => .int
  | 1 => .array .int
  | 2 => .array .int
  | 3 => .array .int
  | 4 => .array .int
  | 5 => .array .int
  | 6 => .array .int
  | 7 => .array .int
  | 8 => .array .int
  | _ => .array .int
theorem nmX5 : ∀ a, a < 10 → ∀ b, b < 10 → a ≠ b → (TX5 a).2.1 ≠ (TX5 b).2.1 := by decide +kernel
theorem tyX5_ok : ∀ k, k < 10 → parseFieldDescriptor (TX5 k).2.2.1 = some (tyX5 k) := by decide +kernel
abbrev cX5_init : ByteArray := prog_7_method_1_code
def yX5_init : MethodName := ⟨RX5, "<init>", "()V"⟩
abbrev cX5_add : ByteArray := prog_7_method_2_code
def yX5_add : MethodName := ⟨RX5, "add", "(IIII)I"⟩
abbrev cX5_areApart : ByteArray := prog_7_method_3_code
def yX5_areApart : MethodName := ⟨RX5, "areApart", "(II)Z"⟩
abbrev cX5_setApart : ByteArray := prog_7_method_4_code
def yX5_setApart : MethodName := ⟨RX5, "setApart", "(IIZ)V"⟩
abbrev cX5_isLaid : ByteArray := prog_7_method_5_code
def yX5_isLaid : MethodName := ⟨RX5, "isLaid", "(I)Z"⟩
abbrev cX5_putThrough : ByteArray := prog_7_method_6_code
def yX5_putThrough : MethodName := ⟨RX5, "putThrough", "(I[III)V"⟩
abbrev cX5_takeOut : ByteArray := prog_7_method_7_code
def yX5_takeOut : MethodName := ⟨RX5, "takeOut", "(I)V"⟩
abbrev cX5_step : ByteArray := prog_7_method_8_code
def yX5_step : MethodName := ⟨RX5, "step", "(II)I"⟩
abbrev cX5_mayGoThrough : ByteArray := prog_7_method_9_code
def yX5_mayGoThrough : MethodName := ⟨RX5, "mayGoThrough", "(III)Z"⟩
abbrev cX5_laidThrough : ByteArray := prog_7_method_10_code
def yX5_laidThrough : MethodName := ⟨RX5, "laidThrough", "(I)I"⟩
abbrev cX5_thicknessThrough : ByteArray := prog_7_method_11_code
def yX5_thicknessThrough : MethodName := ⟨RX5, "thicknessThrough", "(I)I"⟩
abbrev cX5_isClashing : ByteArray := prog_7_method_12_code
def yX5_isClashing : MethodName := ⟨RX5, "isClashing", "(I)Z"⟩
abbrev cX5_laid : ByteArray := prog_7_method_13_code
def yX5_laid : MethodName := ⟨RX5, "laid", "()I"⟩
abbrev cX5_laidLength : ByteArray := prog_7_method_14_code
def yX5_laidLength : MethodName := ⟨RX5, "laidLength", "()I"⟩
abbrev cX5_neededWith : ByteArray := prog_7_method_15_code
def yX5_neededWith : MethodName := ⟨RX5, "neededWith", "(I)I"⟩
abbrev cX5_weightOf : ByteArray := prog_7_method_16_code
def yX5_weightOf : MethodName := ⟨RX5, "weightOf", "(I)I"⟩
def RX6 : String := "CableLooms"
def TX6 : u_T := fun k => match k with
  | 0 => ("CableLooms", "allDucts", "LCableLooms$Ducts;", true)
  | 1 => ("CableLooms", "allWires", "LCableLooms$Wires;", true)
  | 2 => ("CableLooms", "search", "LCableLooms$Search;", true)
  | 3 => ("CableLooms", "splices", "LCableLooms$Splices;", true)
  | 4 => ("CableLooms", "allOrders", "LCableLooms$Orders;", true)
  | _ => ("CableLooms", "allPins", "LCableLooms$Pins;", true)
def tyX6 : Nat → FieldType := fun k => match k with
  | 0 => .object "CableLooms$Ducts"
  | 1 => .object "CableLooms$Wires"
  | 2 => .object "CableLooms$Search"
  | 3 => .object "CableLooms$Splices"
  | 4 => .object "CableLooms$Orders"
  | _ => .object "CableLooms$Pins"
theorem nmX6 : ∀ a, a < 6 → ∀ b, b < 6 → a ≠ b → (TX6 a).2.1 ≠ (TX6 b).2.1 := by decide +kernel
theorem tyX6_ok : ∀ k, k < 6 → parseFieldDescriptor (TX6 k).2.2.1 = some (tyX6 k) := by decide +kernel
abbrev cX6_init : ByteArray := prog_1_method_1_code
def yX6_init : MethodName := ⟨RX6, "<init>", "()V"⟩
abbrev cX6_duct : ByteArray := prog_1_method_2_code
def yX6_duct : MethodName := ⟨RX6, "duct", "(IIII)I"⟩
abbrev cX6_wire : ByteArray := prog_1_method_3_code
def yX6_wire : MethodName := ⟨RX6, "wire", "(IIII)I"⟩
abbrev cX6_apart : ByteArray := prog_1_method_4_code
def yX6_apart : MethodName := ⟨RX6, "apart", "(IIZ)I"⟩
abbrev cX6_lay : ByteArray := prog_1_method_5_code
def yX6_lay : MethodName := ⟨RX6, "lay", "(I)I"⟩
abbrev cX6_lift : ByteArray := prog_1_method_6_code
def yX6_lift : MethodName := ⟨RX6, "lift", "(I)I"⟩
abbrev cX6_way : ByteArray := prog_1_method_7_code
def yX6_way : MethodName := ⟨RX6, "way", "(II)I"⟩
abbrev cX6_length : ByteArray := prog_1_method_8_code
def yX6_length : MethodName := ⟨RX6, "length", "(I)I"⟩
abbrev cX6_left : ByteArray := prog_1_method_9_code
def yX6_left : MethodName := ⟨RX6, "left", "(IZ)I"⟩
abbrev cX6_loss : ByteArray := prog_1_method_10_code
def yX6_loss : MethodName := ⟨RX6, "loss", "(II)I"⟩
abbrev cX6_clashes : ByteArray := prog_1_method_11_code
def yX6_clashes : MethodName := ⟨RX6, "clashes", "()I"⟩
abbrev cX6_far : ByteArray := prog_1_method_12_code
def yX6_far : MethodName := ⟨RX6, "far", "(II)I"⟩
abbrev cX6_two : ByteArray := prog_1_method_13_code
def yX6_two : MethodName := ⟨RX6, "two", "(II)I"⟩
abbrev cX6_net : ByteArray := prog_1_method_14_code
def yX6_net : MethodName := ⟨RX6, "net", "(I)I"⟩
abbrev cX6_splice : ByteArray := prog_1_method_15_code
def yX6_splice : MethodName := ⟨RX6, "splice", "(I)I"⟩
abbrev cX6_option : ByteArray := prog_1_method_16_code
def yX6_option : MethodName := ⟨RX6, "option", "(II)I"⟩
abbrev cX6_order : ByteArray := prog_1_method_17_code
def yX6_order : MethodName := ⟨RX6, "order", "(II)I"⟩
abbrev cX6_setup : ByteArray := prog_1_method_18_code
def yX6_setup : MethodName := ⟨RX6, "setup", "(I)I"⟩
abbrev cX6_weight : ByteArray := prog_1_method_19_code
def yX6_weight : MethodName := ⟨RX6, "weight", "(I)I"⟩
abbrev cX6_best : ByteArray := prog_1_method_20_code
def yX6_best : MethodName := ⟨RX6, "best", "()J"⟩
abbrev cX6_loom : ByteArray := prog_1_method_21_code
def yX6_loom : MethodName := ⟨RX6, "loom", "(I)I"⟩
abbrev cX6_alike : ByteArray := prog_1_method_22_code
def yX6_alike : MethodName := ⟨RX6, "alike", "()I"⟩
abbrev cX6_pin : ByteArray := prog_1_method_23_code
def yX6_pin : MethodName := ⟨RX6, "pin", "(II)I"⟩
abbrev cX6_tests : ByteArray := prog_1_method_24_code
def yX6_tests : MethodName := ⟨RX6, "tests", "()I"⟩
abbrev cX6_side : ByteArray := prog_1_method_25_code
def yX6_side : MethodName := ⟨RX6, "side", "(II)I"⟩
abbrev cX6_shows : ByteArray := prog_1_method_26_code
def yX6_shows : MethodName := ⟨RX6, "shows", "(II)I"⟩
abbrev cX6_pairs : ByteArray := prog_1_method_27_code
def yX6_pairs : MethodName := ⟨RX6, "pairs", "(I)I"⟩
abbrev cX6_count : ByteArray := prog_1_method_28_code
def yX6_count : MethodName := ⟨RX6, "count", "(I)I"⟩
abbrev cX6_isWithin : ByteArray := prog_1_method_29_code
def yX6_isWithin : MethodName := ⟨RX6, "isWithin", "(III)Z"⟩
abbrev cX6_isPlace : ByteArray := prog_1_method_30_code
def yX6_isPlace : MethodName := ⟨RX6, "isPlace", "(I)Z"⟩
abbrev cX6_isKind : ByteArray := prog_1_method_31_code
def yX6_isKind : MethodName := ⟨RX6, "isKind", "(I)Z"⟩
abbrev cX6_isPin : ByteArray := prog_1_method_32_code
def yX6_isPin : MethodName := ⟨RX6, "isPin", "(I)Z"⟩
abbrev cX6_isNet : ByteArray := prog_1_method_33_code
def yX6_isNet : MethodName := ⟨RX6, "isNet", "(I)Z"⟩
abbrev cX6_isNetOfPlaces : ByteArray := prog_1_method_34_code
def yX6_isNetOfPlaces : MethodName := ⟨RX6, "isNetOfPlaces", "(I)Z"⟩
abbrev cX6_has : ByteArray := prog_1_method_35_code
def yX6_has : MethodName := ⟨RX6, "has", "(II)Z"⟩
abbrev cX6_dividedUp : ByteArray := prog_1_method_36_code
def yX6_dividedUp : MethodName := ⟨RX6, "dividedUp", "(II)I"⟩
abbrev cX6_isWire : ByteArray := prog_1_method_37_code
def yX6_isWire : MethodName := ⟨RX6, "isWire", "(I)Z"⟩
abbrev cX6_openDucts : ByteArray := prog_1_method_38_code
def yX6_openDucts : MethodName := ⟨RX6, "openDucts", "(I)I"⟩
def RX7 : String := "CableLoomsModel"
def TX7 : u_T := fun k => match k with
  | 0 => ("CableLoomsModel", "ducts", "I", false)
  | 1 => ("CableLoomsModel", "one", "[I", true)
  | 2 => ("CableLoomsModel", "other", "[I", true)
  | 3 => ("CableLoomsModel", "length", "[I", true)
  | 4 => ("CableLoomsModel", "room", "[I", true)
  | 5 => ("CableLoomsModel", "wires", "I", false)
  | 6 => ("CableLoomsModel", "from", "[I", true)
  | 7 => ("CableLoomsModel", "to", "[I", true)
  | 8 => ("CableLoomsModel", "thick", "[I", true)
  | 9 => ("CableLoomsModel", "kind", "[I", true)
  | 10 => ("CableLoomsModel", "options", "[I", true)
  | 11 => ("CableLoomsModel", "steps", "[I", true)
  | 12 => ("CableLoomsModel", "way", "[I", true)
  | 13 => ("CableLoomsModel", "isApart", "[Z", true)
  | 14 => ("CableLoomsModel", "isOpen", "[Z", true)
  | 15 => ("CableLoomsModel", "far", "[I", true)
  | 16 => ("CableLoomsModel", "by", "[I", true)
  | 17 => ("CableLoomsModel", "gone", "[I", true)
  | 18 => ("CableLoomsModel", "cameBy", "[I", true)
  | 19 => ("CableLoomsModel", "tree", "[I", true)
  | 20 => ("CableLoomsModel", "order", "[I", true)
  | 21 => ("CableLoomsModel", "part", "[I", true)
  | 22 => ("CableLoomsModel", "orders", "I", false)
  | 23 => ("CableLoomsModel", "wanted", "[I", true)
  | 24 => ("CableLoomsModel", "pieces", "[I", true)
  | 25 => ("CableLoomsModel", "setup", "I", false)
  | 26 => ("CableLoomsModel", "loom", "[I", true)
  | 27 => ("CableLoomsModel", "bestLoom", "[I", true)
  | 28 => ("CableLoomsModel", "cost", "[J", true)
  | 29 => ("CableLoomsModel", "bestCost", "J", false)
  | _ => ("CableLoomsModel", "netOf", "[I", true)
def tyX7 : Nat → FieldType := fun k => match k with
  | 0 => .int
  | 1 => .array .int
  | 2 => .array .int
  | 3 => .array .int
  | 4 => .array .int
  | 5 => .int
  | 6 => .array .int
  | 7 => .array .int
  | 8 => .array .int
  | 9 => .array .int
  | 10 => .array .int
  | 11 => .array .int
  | 12 => .array .int
  | 13 => .array .boolean
  | 14 => .array .boolean
  | 15 => .array .int
  | 16 => .array .int
  | 17 => .array .int
  | 18 => .array .int
  | 19 => .array .int
  | 20 => .array .int
  | 21 => .array .int
  | 22 => .int
  | 23 => .array .int
  | 24 => .array .int
  | 25 => .int
  | 26 => .array .int
  | 27 => .array .int
  | 28 => .array .long
  | 29 => .long
  | _ => .array .int
theorem nmX7 : ∀ a, a < 31 → ∀ b, b < 31 → a ≠ b → (TX7 a).2.1 ≠ (TX7 b).2.1 := by decide +kernel
theorem tyX7_ok : ∀ k, k < 31 → parseFieldDescriptor (TX7 k).2.2.1 = some (tyX7 k) := by decide +kernel
abbrev cX7_init : ByteArray := prog_9_method_1_code
def yX7_init : MethodName := ⟨RX7, "<init>", "()V"⟩
abbrev cX7_in : ByteArray := prog_9_method_3_code
def yX7_in : MethodName := ⟨RX7, "in", "(III)Z"⟩
abbrev cX7_isPlace : ByteArray := prog_9_method_4_code
def yX7_isPlace : MethodName := ⟨RX7, "isPlace", "(I)Z"⟩
abbrev cX7_ones : ByteArray := prog_9_method_5_code
def yX7_ones : MethodName := ⟨RX7, "ones", "(I)I"⟩
abbrev cX7_isDuct : ByteArray := prog_9_method_6_code
def yX7_isDuct : MethodName := ⟨RX7, "isDuct", "(I)Z"⟩
abbrev cX7_isWire : ByteArray := prog_9_method_7_code
def yX7_isWire : MethodName := ⟨RX7, "isWire", "(I)Z"⟩
abbrev cX7_duct : ByteArray := prog_9_method_8_code
def yX7_duct : MethodName := ⟨RX7, "duct", "(IIII)I"⟩
abbrev cX7_wire : ByteArray := prog_9_method_9_code
def yX7_wire : MethodName := ⟨RX7, "wire", "(IIII)I"⟩
abbrev cX7_apart : ByteArray := prog_9_method_10_code
def yX7_apart : MethodName := ⟨RX7, "apart", "(IIZ)I"⟩
abbrev cX7_goesBy : ByteArray := prog_9_method_11_code
def yX7_goesBy : MethodName := ⟨RX7, "goesBy", "(II)Z"⟩
abbrev cX7_full : ByteArray := prog_9_method_12_code
def yX7_full : MethodName := ⟨RX7, "full", "(I)I"⟩
abbrev cX7_mayGo : ByteArray := prog_9_method_13_code
def yX7_mayGo : MethodName := ⟨RX7, "mayGo", "(II)Z"⟩
abbrev cX7_across : ByteArray := prog_9_method_14_code
def yX7_across : MethodName := ⟨RX7, "across", "(II)I"⟩
abbrev cX7_measure : ByteArray := prog_9_method_15_code
def yX7_measure : MethodName := ⟨RX7, "measure", "(I)V"⟩
abbrev cX7_better : ByteArray := prog_9_method_16_code
def yX7_better : MethodName := ⟨RX7, "better", "(III)V"⟩
abbrev cX7_next : ByteArray := prog_9_method_17_code
def yX7_next : MethodName := ⟨RX7, "next", "(I)I"⟩
abbrev cX7_lengthOf : ByteArray := prog_9_method_18_code
def yX7_lengthOf : MethodName := ⟨RX7, "lengthOf", "(I)I"⟩
abbrev cX7_lay : ByteArray := prog_9_method_19_code
def yX7_lay : MethodName := ⟨RX7, "lay", "(I)I"⟩
abbrev cX7_lift : ByteArray := prog_9_method_20_code
def yX7_lift : MethodName := ⟨RX7, "lift", "(I)I"⟩
abbrev cX7_way : ByteArray := prog_9_method_21_code
def yX7_way : MethodName := ⟨RX7, "way", "(II)I"⟩
abbrev cX7_length : ByteArray := prog_9_method_22_code
def yX7_length : MethodName := ⟨RX7, "length", "(I)I"⟩
abbrev cX7_left : ByteArray := prog_9_method_23_code
def yX7_left : MethodName := ⟨RX7, "left", "(IZ)I"⟩
abbrev cX7_loss : ByteArray := prog_9_method_24_code
def yX7_loss : MethodName := ⟨RX7, "loss", "(II)I"⟩
abbrev cX7_isClash : ByteArray := prog_9_method_25_code
def yX7_isClash : MethodName := ⟨RX7, "isClash", "(I)Z"⟩
abbrev cX7_clashes : ByteArray := prog_9_method_26_code
def yX7_clashes : MethodName := ⟨RX7, "clashes", "()I"⟩
abbrev cX7_openAll : ByteArray := prog_9_method_27_code
def yX7_openAll : MethodName := ⟨RX7, "openAll", "()V"⟩
abbrev cX7_far : ByteArray := prog_9_method_28_code
def yX7_far : MethodName := ⟨RX7, "far", "(II)I"⟩
abbrev cX7_tryStep : ByteArray := prog_9_method_29_code
def yX7_tryStep : MethodName := ⟨RX7, "tryStep", "(IIII)V"⟩
abbrev cX7_addWay : ByteArray := prog_9_method_30_code
def yX7_addWay : MethodName := ⟨RX7, "addWay", "(II)Z"⟩
abbrev cX7_two : ByteArray := prog_9_method_31_code
def yX7_two : MethodName := ⟨RX7, "two", "(II)I"⟩
abbrev cX7_treeOf : ByteArray := prog_9_method_32_code
def yX7_treeOf : MethodName := ⟨RX7, "treeOf", "(I)I"⟩
abbrev cX7_layTrees : ByteArray := prog_9_method_33_code
def yX7_layTrees : MethodName := ⟨RX7, "layTrees", "()V"⟩
abbrev cX7_leastNet : ByteArray := prog_9_method_34_code
def yX7_leastNet : MethodName := ⟨RX7, "leastNet", "(II)I"⟩
abbrev cX7_isNet : ByteArray := prog_9_method_35_code
def yX7_isNet : MethodName := ⟨RX7, "isNet", "(I)Z"⟩
abbrev cX7_net : ByteArray := prog_9_method_36_code
def yX7_net : MethodName := ⟨RX7, "net", "(I)I"⟩
abbrev cX7_splice : ByteArray := prog_9_method_37_code
def yX7_splice : MethodName := ⟨RX7, "splice", "(I)I"⟩
abbrev cX7_option : ByteArray := prog_9_method_38_code
def yX7_option : MethodName := ⟨RX7, "option", "(II)I"⟩
abbrev cX7_order : ByteArray := prog_9_method_39_code
def yX7_order : MethodName := ⟨RX7, "order", "(II)I"⟩
abbrev cX7_setup : ByteArray := prog_9_method_40_code
def yX7_setup : MethodName := ⟨RX7, "setup", "(I)I"⟩
abbrev cX7_needs : ByteArray := prog_9_method_41_code
def yX7_needs : MethodName := ⟨RX7, "needs", "(II)Z"⟩
abbrev cX7_weightOf : ByteArray := prog_9_method_42_code
def yX7_weightOf : MethodName := ⟨RX7, "weightOf", "(I)I"⟩
abbrev cX7_weight : ByteArray := prog_9_method_43_code
def yX7_weight : MethodName := ⟨RX7, "weight", "(I)I"⟩
abbrev cX7_nextRow : ByteArray := prog_9_method_44_code
def yX7_nextRow : MethodName := ⟨RX7, "nextRow", "()Z"⟩
abbrev cX7_mostAhead : ByteArray := prog_9_method_45_code
def yX7_mostAhead : MethodName := ⟨RX7, "mostAhead", "(I)I"⟩
abbrev cX7_layPlan : ByteArray := prog_9_method_46_code
def yX7_layPlan : MethodName := ⟨RX7, "layPlan", "()V"⟩
abbrev cX7_best : ByteArray := prog_9_method_47_code
def yX7_best : MethodName := ⟨RX7, "best", "()J"⟩
abbrev cX7_loom : ByteArray := prog_9_method_48_code
def yX7_loom : MethodName := ⟨RX7, "loom", "(I)I"⟩
abbrev cX7_areAlike : ByteArray := prog_9_method_49_code
def yX7_areAlike : MethodName := ⟨RX7, "areAlike", "(II)Z"⟩
abbrev cX7_alike : ByteArray := prog_9_method_50_code
def yX7_alike : MethodName := ⟨RX7, "alike", "()I"⟩
abbrev cX7_isPin : ByteArray := prog_9_method_51_code
def yX7_isPin : MethodName := ⟨RX7, "isPin", "(I)Z"⟩
abbrev cX7_pin : ByteArray := prog_9_method_52_code
def yX7_pin : MethodName := ⟨RX7, "pin", "(II)I"⟩
abbrev cX7_nets : ByteArray := prog_9_method_53_code
def yX7_nets : MethodName := ⟨RX7, "nets", "()I"⟩
abbrev cX7_testMany : ByteArray := prog_9_method_54_code
def yX7_testMany : MethodName := ⟨RX7, "testMany", "()I"⟩
abbrev cX7_tests : ByteArray := prog_9_method_55_code
def yX7_tests : MethodName := ⟨RX7, "tests", "()I"⟩
abbrev cX7_side : ByteArray := prog_9_method_56_code
def yX7_side : MethodName := ⟨RX7, "side", "(II)I"⟩
abbrev cX7_hasPins : ByteArray := prog_9_method_57_code
def yX7_hasPins : MethodName := ⟨RX7, "hasPins", "(I)Z"⟩
abbrev cX7_shows : ByteArray := prog_9_method_58_code
def yX7_shows : MethodName := ⟨RX7, "shows", "(II)I"⟩
abbrev cX7_pairs : ByteArray := prog_9_method_59_code
def yX7_pairs : MethodName := ⟨RX7, "pairs", "(I)I"⟩
abbrev cX7_count : ByteArray := prog_9_method_60_code
def yX7_count : MethodName := ⟨RX7, "count", "(I)I"⟩
def RJ6 : String := "java/lang/Integer"
abbrev cJ6_bitCount_0f7a4 : ByteArray := prog_10_method_49_code
def yJ6_bitCount_0f7a4 : MethodName := ⟨RJ6, "bitCount", "(I)I"⟩
def RJ9 : String := "java/lang/Math"
abbrev cJ9_min_7cf53 : ByteArray := prog_11_method_69_code
def yJ9_min_7cf53 : MethodName := ⟨RJ9, "min", "(II)I"⟩
abbrev cJ9_min_f86c9 : ByteArray := prog_11_method_70_code
def yJ9_min_f86c9 : MethodName := ⟨RJ9, "min", "(JJ)J"⟩
def RJ7 : String := "java/util/Arrays"
abbrev cJ7_fill_53178 : ByteArray := prog_12_method_103_code
def yJ7_fill_53178 : MethodName := ⟨RJ7, "fill", "([II)V"⟩
def RL : String := "CableLoomsLaw"
abbrev cL_law : ByteArray := code
def yL_law : MethodName := ⟨RL, "law", "([I)Z"⟩
abbrev vwCl : List vw_C := [(RX0, TX0, 7), (RX1, TX1, 11), (RX2, TX2, 1), (RX3, TX3, 6), (RX4, TX4, 4), (RX5, TX5, 10), (RX6, TX6, 6), (RX7, TX7, 31)]
end
section
/-! ===== the abstract machine: cells by number, ints and longs in two tables ===== -/
abbrev aMem : Type := (Nat → Nat → Int32) × (Nat → Nat → Int64)
abbrev aPost : Type := Option Value → aMem → Prop
abbrev aLV : Type := List (Nat × Value)
/-- a cell: an array (0 int, 1 boolean, 2 long; its length), or an object (its class; its fields: a fixed reference to a cell, or 0 int, 1 long, 2 boolean) -/
abbrev aDsc : Type := (Nat × Nat) ⊕ (Nat × List (Nat ⊕ Nat))
/-- a method: name, code, locals, answer, room, place of its code word in lw_tbl -/
abbrev aMS : Type := MethodName × ByteArray × Nat × Option FieldType × Jvm.Room × Nat
/-- a call: kind (0 virtual, 1 static, 2 static of a nest mate), receiver's class, arguments, method -/
abbrev aCall : Type := Nat × Nat × Nat × aMS
abbrev aTab : Type := List (Nat × Nat × Nat) × List (Nat × aCall) × List (Nat × Int32) × List (Nat × Int64)
abbrev aPg : Type := List (Nat × Instr × Nat)
def a_lay : List aDsc := [
  .inr (6, [.inl 1, .inl 2, .inl 3, .inl 4, .inl 5, .inl 6]),  -- 0 X6
  .inr (0, [.inr 0, .inl 7, .inl 8, .inl 9, .inl 10, .inl 11, .inl 12]),  -- 1 X0
  .inr (5, [.inr 0, .inl 13, .inl 14, .inl 15, .inl 16, .inl 17, .inl 18, .inl 19, .inl 20, .inl 21]),  -- 2 X5
  .inr (3, [.inl 1, .inl 22, .inl 23, .inl 24, .inl 25, .inr 0]),  -- 3 X3
  .inr (4, [.inl 1, .inl 26, .inl 27, .inr 0]),  -- 4 X4
  .inr (1, [.inr 0, .inr 0, .inr 2, .inl 2, .inl 28, .inl 29, .inl 30, .inl 31, .inl 32, .inl 33, .inl 34]),  -- 5 X1
  .inr (2, [.inl 35]),  -- 6 X2
  .inl (0, 16),  -- 7 X0.one
  .inl (0, 16),  -- 8 X0.other
  .inl (0, 16),  -- 9 X0.ends
  .inl (0, 16),  -- 10 X0.lengths
  .inl (0, 16),  -- 11 X0.rooms
  .inl (0, 16),  -- 12 X0.shortestFirst
  .inl (0, 20),  -- 13 X5.from
  .inl (0, 20),  -- 14 X5.to
  .inl (0, 20),  -- 15 X5.thickness
  .inl (0, 20),  -- 16 X5.kind
  .inl (0, 20),  -- 17 X5.options
  .inl (0, 20),  -- 18 X5.through
  .inl (0, 20),  -- 19 X5.wayLength
  .inl (0, 180),  -- 20 X5.waySteps
  .inl (0, 4),  -- 21 X5.apartFrom
  .inl (0, 16),  -- 22 X3.priceForth
  .inl (0, 16),  -- 23 X3.priceBack
  .inl (0, 10),  -- 24 X3.toGoal
  .inl (0, 9),  -- 25 X3.steps
  .inl (0, 10),  -- 26 X4.joinedTo
  .inl (0, 10),  -- 27 X4.leastWithout
  .inl (0, 8),  -- 28 X1.options
  .inl (0, 8),  -- 29 X1.pieces
  .inl (0, 256),  -- 30 X1.wireSets
  .inl (0, 256),  -- 31 X1.pieceSums
  .inl (0, 256),  -- 32 X1.loomCosts
  .inl (0, 256),  -- 33 X1.oneLoomUp
  .inl (2, 256),  -- 34 X1.plans
  .inl (0, 16),  -- 35 X2.netOf
  .inr (7, [.inr 0, .inl 37, .inl 38, .inl 39, .inl 40, .inr 0, .inl 41, .inl 42, .inl 43, .inl 44, .inl 45, .inl 46, .inl 47, .inl 48, .inl 49, .inl 50, .inl 51, .inl 52, .inl 53, .inl 54, .inl 55, .inl 56, .inr 0, .inl 57, .inl 58, .inr 0, .inl 59, .inl 60, .inl 61, .inr 1, .inl 62]),  -- 36 X7
  .inl (0, 16),  -- 37 X7.one
  .inl (0, 16),  -- 38 X7.other
  .inl (0, 16),  -- 39 X7.length
  .inl (0, 16),  -- 40 X7.room
  .inl (0, 20),  -- 41 X7.from
  .inl (0, 20),  -- 42 X7.to
  .inl (0, 20),  -- 43 X7.thick
  .inl (0, 20),  -- 44 X7.kind
  .inl (0, 20),  -- 45 X7.options
  .inl (0, 20),  -- 46 X7.steps
  .inl (0, 200),  -- 47 X7.way
  .inl (1, 16),  -- 48 X7.isApart
  .inl (1, 16),  -- 49 X7.isOpen
  .inl (0, 10),  -- 50 X7.far
  .inl (0, 10),  -- 51 X7.by
  .inl (0, 16),  -- 52 X7.gone
  .inl (0, 10),  -- 53 X7.cameBy
  .inl (0, 1024),  -- 54 X7.tree
  .inl (0, 16),  -- 55 X7.order
  .inl (0, 10),  -- 56 X7.part
  .inl (0, 8),  -- 57 X7.wanted
  .inl (0, 8),  -- 58 X7.pieces
  .inl (0, 8),  -- 59 X7.loom
  .inl (0, 8),  -- 60 X7.bestLoom
  .inl (2, 256),  -- 61 X7.cost
  .inl (0, 16)]  -- 62 X7.netOf
def a_nest : List (String × Nat × MethodName × String) := [(RX1, 49, yX6_has, RX6), (RX2, 19, yX6_has, RX6), (RX3, 37, yX6_has, RX6), (RX4, 41, yX6_has, RX6), (RX5, 43, yX6_has, RX6), (RX6, 11, yX0_init, RX6), (RX6, 18, yX5_init, RX6), (RX6, 50, yX2_init, RX6)]
def sX0_sortIn : aMS := (yX0_sortIn, cX0_sortIn, 3, none, { frames := 0, cells := 0, slots := 0, locals := 0 }, 284)
def sX0_add : aMS := (yX0_add, cX0_add, 6, some .int, { frames := 1, cells := 0, slots := 0, locals := 22 }, 280)
def sX0_allBits : aMS := (yX0_allBits, cX0_allBits, 1, some .int, { frames := 0, cells := 0, slots := 0, locals := 0 }, 433)
def sX0_across : aMS := (yX0_across, cX0_across, 3, some .int, { frames := 0, cells := 0, slots := 0, locals := 0 }, 368)
def sX1_add : aMS := (yX1_add, cX1_add, 4, some .int, { frames := 0, cells := 0, slots := 0, locals := 0 }, 503)
def sX1_allBits : aMS := (yX1_allBits, cX1_allBits, 1, some .int, { frames := 0, cells := 0, slots := 0, locals := 0 }, 516)
def sX6_has : aMS := (yX6_has, cX6_has, 2, some .boolean, { frames := 0, cells := 0, slots := 0, locals := 0 }, 306)
def sX5_neededWith : aMS := (yX5_neededWith, cX5_neededWith, 4, some .int, { frames := 0, cells := 0, slots := 0, locals := 0 }, 525)
def sX1_wiresFor : aMS := (yX1_wiresFor, cX1_wiresFor, 4, some .int, { frames := 1, cells := 0, slots := 0, locals := 23 }, 520)
def sX1_hasTwin : aMS := (yX1_hasTwin, cX1_hasTwin, 4, some .boolean, { frames := 1, cells := 0, slots := 0, locals := 23 }, 576)
def sX1_loomShift : aMS := (yX1_loomShift, cX1_loomShift, 1, some .int, { frames := 0, cells := 0, slots := 0, locals := 0 }, 548)
def sX1_gatherSums : aMS := (yX1_gatherSums, cX1_gatherSums, 5, none, { frames := 1, cells := 0, slots := 0, locals := 23 }, 545)
def sX5_weightOf : aMS := (yX5_weightOf, cX5_weightOf, 4, some .int, { frames := 1, cells := 0, slots := 0, locals := 21 }, 529)
def sJ6_bitCount_0f7a4 : aMS := (yJ6_bitCount_0f7a4, cJ6_bitCount_0f7a4, 1, some .int, { frames := 0, cells := 0, slots := 0, locals := 0 }, 391)
def sJ9_min_f86c9 : aMS := (yJ9_min_f86c9, cJ9_min_f86c9, 4, some .long, { frames := 0, cells := 0, slots := 0, locals := 0 }, 559)
def sX1_leastPlan : aMS := (yX1_leastPlan, cX1_leastPlan, 14, some .long, { frames := 1, cells := 0, slots := 0, locals := 23 }, 553)
def sX1_refresh : aMS := (yX1_refresh, cX1_refresh, 4, none, { frames := 2, cells := 0, slots := 0, locals := 56 }, 541)
def sX1_bestCost : aMS := (yX1_bestCost, cX1_bestCost, 1, some .long, { frames := 3, cells := 0, slots := 0, locals := 79 }, 537)
def sX1_loomOf : aMS := (yX1_loomOf, cX1_loomOf, 2, some .int, { frames := 3, cells := 0, slots := 0, locals := 79 }, 568)
def sX2_usedNets : aMS := (yX2_usedNets, cX2_usedNets, 3, some .int, { frames := 0, cells := 0, slots := 0, locals := 0 }, 611)
def sX2_isUsed : aMS := (yX2_isUsed, cX2_isUsed, 2, some .boolean, { frames := 1, cells := 0, slots := 0, locals := 22 }, 607)
def sX2_testsNeeded : aMS := (yX2_testsNeeded, cX2_testsNeeded, 4, some .int, { frames := 1, cells := 0, slots := 0, locals := 21 }, 594)
def sX2_pairsUnlikeJustIn : aMS := (yX2_pairsUnlikeJustIn, cX2_pairsUnlikeJustIn, 6, some .int, { frames := 1, cells := 0, slots := 0, locals := 22 }, 619)
def sX3_open : aMS := (yX3_open, cX3_open, 4, none, { frames := 1, cells := 0, slots := 0, locals := 21 }, 335)
def sJ7_fill_53178 : aMS := (yJ7_fill_53178, cJ7_fill_53178, 4, none, { frames := 0, cells := 0, slots := 0, locals := 0 }, 348)
def sX3_lower : aMS := (yX3_lower, cX3_lower, 5, some .boolean, { frames := 0, cells := 0, slots := 0, locals := 0 }, 352)
def sX3_spread : aMS := (yX3_spread, cX3_spread, 7, none, { frames := 1, cells := 0, slots := 0, locals := 24 }, 345)
def sX3_leastLength : aMS := (yX3_leastLength, cX3_leastLength, 3, some .int, { frames := 2, cells := 0, slots := 0, locals := 50 }, 341)
def sX3_priceFrom : aMS := (yX3_priceFrom, cX3_priceFrom, 3, some .int, { frames := 0, cells := 0, slots := 0, locals := 0 }, 364)
def sX3_firstStep : aMS := (yX3_firstStep, cX3_firstStep, 4, some .int, { frames := 1, cells := 0, slots := 0, locals := 22 }, 360)
def sX3_walk : aMS := (yX3_walk, cX3_walk, 5, none, { frames := 2, cells := 0, slots := 0, locals := 45 }, 356)
def sX3_turnSteps : aMS := (yX3_turnSteps, cX3_turnSteps, 7, none, { frames := 1, cells := 0, slots := 0, locals := 22 }, 448)
def sX3_leastLengthOfTwo : aMS := (yX3_leastLengthOfTwo, cX3_leastLengthOfTwo, 4, some .int, { frames := 3, cells := 0, slots := 0, locals := 69 }, 441)
def sX4_headOf : aMS := (yX4_headOf, cX4_headOf, 4, some .int, { frames := 0, cells := 0, slots := 0, locals := 0 }, 474)
def sX4_joins : aMS := (yX4_joins, cX4_joins, 5, some .boolean, { frames := 1, cells := 0, slots := 0, locals := 23 }, 470)
def sX4_treeLength : aMS := (yX4_treeLength, cX4_treeLength, 6, some .int, { frames := 2, cells := 0, slots := 0, locals := 47 }, 465)
def sJ9_min_7cf53 : aMS := (yJ9_min_7cf53, cJ9_min_7cf53, 2, some .int, { frames := 0, cells := 0, slots := 0, locals := 0 }, 481)
def sX4_note : aMS := (yX4_note, cX4_note, 4, none, { frames := 1, cells := 0, slots := 0, locals := 21 }, 478)
def sX4_compare : aMS := (yX4_compare, cX4_compare, 3, none, { frames := 3, cells := 0, slots := 0, locals := 72 }, 460)
def sX4_firstNeeded : aMS := (yX4_firstNeeded, cX4_firstNeeded, 3, some .int, { frames := 1, cells := 0, slots := 0, locals := 21 }, 491)
def sX5_add : aMS := (yX5_add, cX5_add, 6, some .int, { frames := 0, cells := 0, slots := 0, locals := 0 }, 295)
def sX5_areApart : aMS := (yX5_areApart, cX5_areApart, 3, some .boolean, { frames := 1, cells := 0, slots := 0, locals := 21 }, 303)
def sX5_setApart : aMS := (yX5_setApart, cX5_setApart, 4, none, { frames := 0, cells := 0, slots := 0, locals := 0 }, 310)
def sX5_isLaid : aMS := (yX5_isLaid, cX5_isLaid, 2, some .boolean, { frames := 0, cells := 0, slots := 0, locals := 0 }, 322)
def sX5_putThrough : aMS := (yX5_putThrough, cX5_putThrough, 7, none, { frames := 0, cells := 0, slots := 0, locals := 0 }, 372)
def sX5_takeOut : aMS := (yX5_takeOut, cX5_takeOut, 2, none, { frames := 0, cells := 0, slots := 0, locals := 0 }, 380)
def sX5_step : aMS := (yX5_step, cX5_step, 3, some .int, { frames := 1, cells := 0, slots := 0, locals := 20 }, 388)
def sX5_mayGoThrough : aMS := (yX5_mayGoThrough, cX5_mayGoThrough, 6, some .boolean, { frames := 2, cells := 0, slots := 0, locals := 43 }, 330)
def sX5_laidThrough : aMS := (yX5_laidThrough, cX5_laidThrough, 4, some .int, { frames := 1, cells := 0, slots := 0, locals := 21 }, 406)
def sX5_thicknessThrough : aMS := (yX5_thicknessThrough, cX5_thicknessThrough, 4, some .int, { frames := 1, cells := 0, slots := 0, locals := 21 }, 410)
def sX5_isClashing : aMS := (yX5_isClashing, cX5_isClashing, 4, some .boolean, { frames := 2, cells := 0, slots := 0, locals := 43 }, 425)
def sX5_laid : aMS := (yX5_laid, cX5_laid, 3, some .int, { frames := 1, cells := 0, slots := 0, locals := 21 }, 627)
def sX5_laidLength : aMS := (yX5_laidLength, cX5_laidLength, 3, some .int, { frames := 0, cells := 0, slots := 0, locals := 0 }, 633)
def sX6_isWithin : aMS := (yX6_isWithin, cX6_isWithin, 3, some .boolean, { frames := 0, cells := 0, slots := 0, locals := 0 }, 276)
def sX6_isPlace : aMS := (yX6_isPlace, cX6_isPlace, 1, some .boolean, { frames := 1, cells := 0, slots := 0, locals := 22 }, 273)
def sX6_duct : aMS := (yX6_duct, cX6_duct, 5, some .int, { frames := 2, cells := 0, slots := 0, locals := 47 }, 270)
def sX6_isKind : aMS := (yX6_isKind, cX6_isKind, 1, some .boolean, { frames := 1, cells := 0, slots := 0, locals := 22 }, 291)
def sX6_wire : aMS := (yX6_wire, cX6_wire, 5, some .int, { frames := 2, cells := 0, slots := 0, locals := 42 }, 288)
def sX6_apart : aMS := (yX6_apart, cX6_apart, 5, some .int, { frames := 2, cells := 0, slots := 0, locals := 43 }, 299)
def sX6_isWire : aMS := (yX6_isWire, cX6_isWire, 2, some .boolean, { frames := 1, cells := 0, slots := 0, locals := 22 }, 318)
def sX6_openDucts : aMS := (yX6_openDucts, cX6_openDucts, 4, some .int, { frames := 3, cells := 0, slots := 0, locals := 68 }, 326)
def sX6_lay : aMS := (yX6_lay, cX6_lay, 3, some .int, { frames := 4, cells := 0, slots := 0, locals := 91 }, 314)
def sX6_lift : aMS := (yX6_lift, cX6_lift, 3, some .int, { frames := 2, cells := 0, slots := 0, locals := 43 }, 376)
def sX6_way : aMS := (yX6_way, cX6_way, 3, some .int, { frames := 2, cells := 0, slots := 0, locals := 43 }, 384)
def sX6_length : aMS := (yX6_length, cX6_length, 2, some .int, { frames := 2, cells := 0, slots := 0, locals := 43 }, 398)
def sX6_left : aMS := (yX6_left, cX6_left, 3, some .int, { frames := 2, cells := 0, slots := 0, locals := 44 }, 402)
def sX6_dividedUp : aMS := (yX6_dividedUp, cX6_dividedUp, 2, some .int, { frames := 0, cells := 0, slots := 0, locals := 0 }, 417)
def sX6_loss : aMS := (yX6_loss, cX6_loss, 3, some .int, { frames := 2, cells := 0, slots := 0, locals := 43 }, 414)
def sX6_clashes : aMS := (yX6_clashes, cX6_clashes, 3, some .int, { frames := 3, cells := 0, slots := 0, locals := 66 }, 421)
def sX6_far : aMS := (yX6_far, cX6_far, 3, some .int, { frames := 3, cells := 0, slots := 0, locals := 72 }, 429)
def sX6_two : aMS := (yX6_two, cX6_two, 3, some .int, { frames := 4, cells := 0, slots := 0, locals := 92 }, 437)
def sX6_isNetOfPlaces : aMS := (yX6_isNetOfPlaces, cX6_isNetOfPlaces, 1, some .boolean, { frames := 1, cells := 0, slots := 0, locals := 22 }, 455)
def sX6_net : aMS := (yX6_net, cX6_net, 2, some .int, { frames := 4, cells := 0, slots := 0, locals := 94 }, 452)
def sX6_splice : aMS := (yX6_splice, cX6_splice, 2, some .int, { frames := 4, cells := 0, slots := 0, locals := 94 }, 487)
def sX6_option : aMS := (yX6_option, cX6_option, 4, some .int, { frames := 2, cells := 0, slots := 0, locals := 43 }, 495)
def sX6_order : aMS := (yX6_order, cX6_order, 3, some .int, { frames := 1, cells := 0, slots := 0, locals := 23 }, 499)
def sX6_setup : aMS := (yX6_setup, cX6_setup, 3, some .int, { frames := 1, cells := 0, slots := 0, locals := 22 }, 507)
def sX6_weight : aMS := (yX6_weight, cX6_weight, 2, some .int, { frames := 2, cells := 0, slots := 0, locals := 46 }, 512)
def sX6_best : aMS := (yX6_best, cX6_best, 1, some .long, { frames := 4, cells := 0, slots := 0, locals := 99 }, 533)
def sX6_loom : aMS := (yX6_loom, cX6_loom, 2, some .int, { frames := 4, cells := 0, slots := 0, locals := 100 }, 564)
def sX6_alike : aMS := (yX6_alike, cX6_alike, 3, some .int, { frames := 2, cells := 0, slots := 0, locals := 46 }, 572)
def sX6_isPin : aMS := (yX6_isPin, cX6_isPin, 1, some .boolean, { frames := 1, cells := 0, slots := 0, locals := 22 }, 583)
def sX6_isNet : aMS := (yX6_isNet, cX6_isNet, 1, some .boolean, { frames := 1, cells := 0, slots := 0, locals := 22 }, 586)
def sX6_pin : aMS := (yX6_pin, cX6_pin, 4, some .int, { frames := 2, cells := 0, slots := 0, locals := 42 }, 580)
def sX6_tests : aMS := (yX6_tests, cX6_tests, 1, some .int, { frames := 2, cells := 0, slots := 0, locals := 44 }, 590)
def sX6_side : aMS := (yX6_side, cX6_side, 3, some .int, { frames := 2, cells := 0, slots := 0, locals := 44 }, 599)
def sX6_shows : aMS := (yX6_shows, cX6_shows, 3, some .int, { frames := 2, cells := 0, slots := 0, locals := 43 }, 603)
def sX6_pairs : aMS := (yX6_pairs, cX6_pairs, 2, some .int, { frames := 2, cells := 0, slots := 0, locals := 47 }, 615)
def sX6_count : aMS := (yX6_count, cX6_count, 2, some .int, { frames := 2, cells := 0, slots := 0, locals := 43 }, 623)
def sX7_in : aMS := (yX7_in, cX7_in, 3, some .boolean, { frames := 0, cells := 0, slots := 0, locals := 0 }, 744)
def sX7_isPlace : aMS := (yX7_isPlace, cX7_isPlace, 1, some .boolean, { frames := 1, cells := 0, slots := 0, locals := 22 }, 741)
def sX7_ones : aMS := (yX7_ones, cX7_ones, 3, some .int, { frames := 0, cells := 0, slots := 0, locals := 0 }, 855)
def sX7_isDuct : aMS := (yX7_isDuct, cX7_isDuct, 2, some .boolean, { frames := 1, cells := 0, slots := 0, locals := 22 }, 813)
def sX7_isWire : aMS := (yX7_isWire, cX7_isWire, 2, some .boolean, { frames := 1, cells := 0, slots := 0, locals := 22 }, 760)
def sX7_duct : aMS := (yX7_duct, cX7_duct, 5, some .int, { frames := 2, cells := 0, slots := 0, locals := 42 }, 738)
def sX7_wire : aMS := (yX7_wire, cX7_wire, 5, some .int, { frames := 2, cells := 0, slots := 0, locals := 42 }, 748)
def sX7_apart : aMS := (yX7_apart, cX7_apart, 5, some .int, { frames := 1, cells := 0, slots := 0, locals := 22 }, 752)
def sX7_goesBy : aMS := (yX7_goesBy, cX7_goesBy, 5, some .boolean, { frames := 0, cells := 0, slots := 0, locals := 0 }, 772)
def sX7_full : aMS := (yX7_full, cX7_full, 4, some .int, { frames := 1, cells := 0, slots := 0, locals := 24 }, 768)
def sX7_mayGo : aMS := (yX7_mayGo, cX7_mayGo, 5, some .boolean, { frames := 2, cells := 0, slots := 0, locals := 47 }, 764)
def sX7_across : aMS := (yX7_across, cX7_across, 3, some .int, { frames := 0, cells := 0, slots := 0, locals := 0 }, 789)
def sX7_better : aMS := (yX7_better, cX7_better, 5, none, { frames := 0, cells := 0, slots := 0, locals := 0 }, 781)
def sX7_measure : aMS := (yX7_measure, cX7_measure, 4, none, { frames := 1, cells := 0, slots := 0, locals := 24 }, 776)
def sX7_next : aMS := (yX7_next, cX7_next, 3, some .int, { frames := 1, cells := 0, slots := 0, locals := 22 }, 785)
def sX7_lengthOf : aMS := (yX7_lengthOf, cX7_lengthOf, 4, some .int, { frames := 0, cells := 0, slots := 0, locals := 0 }, 793)
def sX7_lay : aMS := (yX7_lay, cX7_lay, 5, some .int, { frames := 3, cells := 0, slots := 0, locals := 71 }, 756)
def sX7_lift : aMS := (yX7_lift, cX7_lift, 3, some .int, { frames := 2, cells := 0, slots := 0, locals := 43 }, 797)
def sX7_way : aMS := (yX7_way, cX7_way, 3, some .int, { frames := 2, cells := 0, slots := 0, locals := 43 }, 801)
def sX7_length : aMS := (yX7_length, cX7_length, 2, some .int, { frames := 2, cells := 0, slots := 0, locals := 43 }, 805)
def sX7_left : aMS := (yX7_left, cX7_left, 5, some .int, { frames := 2, cells := 0, slots := 0, locals := 47 }, 809)
def sX7_loss : aMS := (yX7_loss, cX7_loss, 3, some .int, { frames := 2, cells := 0, slots := 0, locals := 43 }, 817)
def sX7_isClash : aMS := (yX7_isClash, cX7_isClash, 5, some .boolean, { frames := 1, cells := 0, slots := 0, locals := 24 }, 825)
def sX7_clashes : aMS := (yX7_clashes, cX7_clashes, 3, some .int, { frames := 2, cells := 0, slots := 0, locals := 48 }, 821)
def sX7_openAll : aMS := (yX7_openAll, cX7_openAll, 2, none, { frames := 0, cells := 0, slots := 0, locals := 0 }, 833)
def sX7_far : aMS := (yX7_far, cX7_far, 3, some .int, { frames := 2, cells := 0, slots := 0, locals := 47 }, 829)
def sX7_tryStep : aMS := (yX7_tryStep, cX7_tryStep, 5, none, { frames := 0, cells := 0, slots := 0, locals := 0 }, 845)
def sX7_addWay : aMS := (yX7_addWay, cX7_addWay, 6, some .boolean, { frames := 1, cells := 0, slots := 0, locals := 24 }, 841)
def sX7_two : aMS := (yX7_two, cX7_two, 5, some .int, { frames := 2, cells := 0, slots := 0, locals := 49 }, 837)
def sX7_treeOf : aMS := (yX7_treeOf, cX7_treeOf, 9, some .int, { frames := 1, cells := 0, slots := 0, locals := 22 }, 863)
def sX7_layTrees : aMS := (yX7_layTrees, cX7_layTrees, 3, none, { frames := 2, cells := 0, slots := 0, locals := 50 }, 859)
def sX7_leastNet : aMS := (yX7_leastNet, cX7_leastNet, 6, some .int, { frames := 0, cells := 0, slots := 0, locals := 0 }, 867)
def sX7_isNet : aMS := (yX7_isNet, cX7_isNet, 1, some .boolean, { frames := 1, cells := 0, slots := 0, locals := 22 }, 852)
def sX7_net : aMS := (yX7_net, cX7_net, 3, some .int, { frames := 3, cells := 0, slots := 0, locals := 72 }, 849)
def sX7_splice : aMS := (yX7_splice, cX7_splice, 4, some .int, { frames := 3, cells := 0, slots := 0, locals := 72 }, 871)
def sX7_option : aMS := (yX7_option, cX7_option, 4, some .int, { frames := 2, cells := 0, slots := 0, locals := 43 }, 875)
def sX7_order : aMS := (yX7_order, cX7_order, 3, some .int, { frames := 1, cells := 0, slots := 0, locals := 22 }, 879)
def sX7_setup : aMS := (yX7_setup, cX7_setup, 3, some .int, { frames := 1, cells := 0, slots := 0, locals := 22 }, 883)
def sX7_needs : aMS := (yX7_needs, cX7_needs, 3, some .boolean, { frames := 0, cells := 0, slots := 0, locals := 0 }, 896)
def sX7_weightOf : aMS := (yX7_weightOf, cX7_weightOf, 6, some .int, { frames := 1, cells := 0, slots := 0, locals := 22 }, 892)
def sX7_weight : aMS := (yX7_weight, cX7_weight, 2, some .int, { frames := 2, cells := 0, slots := 0, locals := 47 }, 888)
def sX7_mostAhead : aMS := (yX7_mostAhead, cX7_mostAhead, 4, some .int, { frames := 0, cells := 0, slots := 0, locals := 0 }, 909)
def sX7_nextRow : aMS := (yX7_nextRow, cX7_nextRow, 3, some .boolean, { frames := 1, cells := 0, slots := 0, locals := 23 }, 913)
def sX7_layPlan : aMS := (yX7_layPlan, cX7_layPlan, 9, none, { frames := 2, cells := 0, slots := 0, locals := 47 }, 904)
def sX7_best : aMS := (yX7_best, cX7_best, 1, some .long, { frames := 3, cells := 0, slots := 0, locals := 75 }, 900)
def sX7_loom : aMS := (yX7_loom, cX7_loom, 2, some .int, { frames := 3, cells := 0, slots := 0, locals := 75 }, 917)
def sX7_areAlike : aMS := (yX7_areAlike, cX7_areAlike, 5, some .boolean, { frames := 1, cells := 0, slots := 0, locals := 22 }, 925)
def sX7_alike : aMS := (yX7_alike, cX7_alike, 5, some .int, { frames := 2, cells := 0, slots := 0, locals := 46 }, 921)
def sX7_isPin : aMS := (yX7_isPin, cX7_isPin, 1, some .boolean, { frames := 1, cells := 0, slots := 0, locals := 22 }, 932)
def sX7_pin : aMS := (yX7_pin, cX7_pin, 4, some .int, { frames := 2, cells := 0, slots := 0, locals := 42 }, 929)
def sX7_nets : aMS := (yX7_nets, cX7_nets, 3, some .int, { frames := 0, cells := 0, slots := 0, locals := 0 }, 956)
def sX7_testMany : aMS := (yX7_testMany, cX7_testMany, 3, some .int, { frames := 0, cells := 0, slots := 0, locals := 0 }, 940)
def sX7_tests : aMS := (yX7_tests, cX7_tests, 1, some .int, { frames := 1, cells := 0, slots := 0, locals := 22 }, 936)
def sX7_side : aMS := (yX7_side, cX7_side, 3, some .int, { frames := 2, cells := 0, slots := 0, locals := 42 }, 944)
def sX7_hasPins : aMS := (yX7_hasPins, cX7_hasPins, 2, some .boolean, { frames := 1, cells := 0, slots := 0, locals := 22 }, 952)
def sX7_shows : aMS := (yX7_shows, cX7_shows, 3, some .int, { frames := 2, cells := 0, slots := 0, locals := 43 }, 948)
def sX7_pairs : aMS := (yX7_pairs, cX7_pairs, 5, some .int, { frames := 2, cells := 0, slots := 0, locals := 43 }, 960)
def sX7_count : aMS := (yX7_count, cX7_count, 5, some .int, { frames := 1, cells := 0, slots := 0, locals := 23 }, 964)
def tJ6 : aTab := ([],
  [],
  [(265, 1431655765), (266, 858993459), (267, 252645135)], [])
def tJ7 : aTab := ([],
  [],
  [], [])
def tJ9 : aTab := ([],
  [],
  [], [])
def tX0 : aTab := ([(9, 0, 0), (15, 0, 1), (19, 0, 2), (22, 0, 3), (25, 0, 4), (28, 0, 5), (31, 0, 6)],
  [(34, 0, 0, 1, sX0_sortIn)],
  [], [])
def tX1 : aTab := ([(11, 1, 0), (15, 1, 1), (18, 1, 2), (22, 1, 4), (26, 1, 5), (29, 1, 6), (32, 1, 7), (35, 1, 8), (38, 1, 9), (41, 1, 10), (45, 1, 3)],
  [(49, 2, 0, 2, sX6_has), (53, 0, 5, 1, sX5_neededWith), (59, 0, 1, 0, sX1_refresh), (62, 0, 1, 0, sX1_allBits), (66, 1, 0, 1, sX1_loomShift), (69, 0, 1, 0, sX1_gatherSums), (72, 0, 5, 1, sX5_weightOf), (75, 0, 1, 1, sX1_leastPlan), (79, 1, 0, 1, sJ6_bitCount_0f7a4), (90, 4, 0, 2, sJ9_min_f86c9)],
  [], [(86, 9223372036854775807), (88, 16777216)])
def tX2 : aTab := ([(9, 2, 0)],
  [(15, 0, 2, 0, sX2_usedNets), (19, 2, 0, 2, sX6_has)],
  [], [])
def tX3 : aTab := ([(9, 3, 1), (15, 3, 2), (18, 3, 3), (21, 3, 4), (24, 3, 5), (28, 3, 0), (32, 0, 0), (41, 0, 4), (74, 0, 1), (77, 0, 2)],
  [(37, 2, 0, 2, sX6_has), (45, 0, 3, 1, sX3_spread), (49, 0, 0, 0, sX0_allBits), (53, 0, 3, 1, sX3_open), (56, 0, 3, 2, sX3_walk), (60, 0, 3, 1, sX3_turnSteps), (63, 0, 3, 1, sX3_firstStep), (67, 0, 0, 2, sX0_across), (71, 0, 3, 2, sX3_priceFrom), (80, 1, 0, 2, sJ7_fill_53178), (86, 0, 3, 3, sX3_lower)],
  [(44, 1000000)], [])
def tX4 : aTab := ([(9, 4, 1), (15, 4, 2), (19, 4, 3), (23, 4, 0), (56, 0, 0), (61, 0, 6), (67, 0, 4), (70, 0, 3), (73, 0, 1), (79, 0, 2)],
  [(27, 1, 0, 2, sJ7_fill_53178), (33, 0, 4, 1, sX4_treeLength), (37, 0, 4, 2, sX4_note), (41, 2, 0, 2, sX6_has), (45, 3, 0, 2, sJ9_min_7cf53), (51, 1, 0, 1, sJ6_bitCount_0f7a4), (64, 0, 4, 2, sX4_joins), (76, 0, 4, 1, sX4_headOf)],
  [(18, 1000000)], [])
def tX5 : aTab := ([(9, 5, 0), (15, 5, 1), (19, 5, 2), (22, 5, 3), (25, 5, 4), (28, 5, 5), (31, 5, 6), (34, 5, 7), (37, 5, 8), (40, 5, 9)],
  [(43, 2, 0, 2, sX6_has), (47, 1, 0, 1, sJ6_bitCount_0f7a4), (53, 0, 5, 2, sX5_areApart), (56, 0, 5, 1, sX5_isLaid)],
  [], [])
def tX6 : aTab := ([(12, 6, 0), (19, 6, 1), (28, 6, 2), (35, 6, 3), (44, 6, 4), (51, 6, 5), (63, 0, 0), (74, 5, 0), (75, 1, 2), (102, 5, 1), (106, 5, 2), (117, 3, 4), (120, 3, 5), (127, 5, 7), (139, 0, 5), (145, 5, 3), (167, 4, 3), (174, 5, 5), (177, 1, 0), (181, 1, 1), (207, 2, 0)],
  [(55, 1, 0, 1, sX6_isPlace), (59, 1, 0, 3, sX6_isWithin), (67, 0, 0, 4, sX0_add), (71, 1, 0, 1, sX6_isKind), (79, 0, 5, 4, sX5_add), (80, 0, 5, 2, sX5_areApart), (84, 0, 5, 3, sX5_setApart), (88, 0, 6, 1, sX6_isWire), (91, 0, 5, 1, sX5_isLaid), (94, 0, 6, 1, sX6_openDucts), (98, 0, 3, 1, sX3_open), (109, 0, 3, 2, sX3_leastLength), (113, 0, 3, 2, sX3_walk), (123, 0, 5, 4, sX5_putThrough), (130, 0, 5, 1, sX5_takeOut), (133, 0, 5, 2, sX5_step), (136, 0, 5, 1, sX5_laidThrough), (142, 0, 5, 1, sX5_thicknessThrough), (148, 1, 0, 2, sX6_dividedUp), (151, 0, 5, 1, sX5_isClashing), (154, 0, 0, 0, sX0_allBits), (158, 0, 3, 2, sX3_leastLengthOfTwo), (161, 1, 0, 1, sX6_isNetOfPlaces), (164, 0, 4, 1, sX4_compare), (171, 0, 4, 1, sX4_firstNeeded), (178, 0, 1, 2, sX1_add), (184, 0, 1, 0, sX1_allBits), (185, 0, 1, 1, sX1_wiresFor), (188, 0, 5, 1, sX5_weightOf), (191, 0, 1, 0, sX1_bestCost), (195, 0, 1, 1, sX1_loomOf), (198, 0, 1, 1, sX1_hasTwin), (201, 1, 0, 1, sX6_isPin), (204, 1, 0, 1, sX6_isNet), (210, 0, 2, 0, sX2_testsNeeded), (213, 0, 2, 1, sX2_isUsed), (216, 0, 2, 1, sX2_pairsUnlikeJustIn), (219, 0, 5, 0, sX5_laid), (222, 0, 2, 0, sX2_usedNets), (225, 1, 0, 1, sJ6_bitCount_0f7a4), (230, 0, 5, 0, sX5_laidLength), (233, 0, 5, 3, sX5_mayGoThrough)],
  [(170, 1000000), (180, 100000)], [])
def tX7 : aTab := ([(7, 7, 1), (13, 7, 2), (16, 7, 3), (19, 7, 4), (22, 7, 6), (25, 7, 7), (28, 7, 8), (31, 7, 9), (34, 7, 10), (37, 7, 11), (40, 7, 12), (43, 7, 13), (47, 7, 14), (50, 7, 15), (53, 7, 16), (56, 7, 17), (59, 7, 18), (62, 7, 19), (65, 7, 20), (68, 7, 21), (71, 7, 23), (74, 7, 24), (77, 7, 25), (81, 7, 26), (84, 7, 27), (87, 7, 28), (91, 7, 30), (98, 7, 0), (101, 7, 5), (172, 7, 22), (187, 7, 29)],
  [(94, 1, 0, 3, sX7_in), (104, 1, 0, 1, sX7_isPlace), (108, 0, 7, 2, sX7_goesBy), (112, 0, 7, 1, sX7_full), (117, 0, 7, 3, sX7_better), (121, 0, 7, 2, sX7_across), (125, 0, 7, 1, sX7_isWire), (128, 0, 7, 2, sX7_mayGo), (131, 0, 7, 1, sX7_measure), (135, 0, 7, 1, sX7_next), (138, 0, 7, 1, sX7_lengthOf), (141, 0, 7, 1, sX7_isDuct), (144, 0, 7, 1, sX7_isClash), (147, 0, 7, 0, sX7_openAll), (150, 0, 7, 4, sX7_tryStep), (154, 0, 7, 2, sX7_addWay), (157, 1, 0, 1, sX7_ones), (160, 0, 7, 1, sX7_treeOf), (163, 1, 0, 1, sX7_isNet), (166, 0, 7, 0, sX7_layTrees), (169, 0, 7, 2, sX7_leastNet), (176, 0, 7, 2, sX7_needs), (179, 0, 7, 1, sX7_weightOf), (182, 0, 7, 1, sX7_mostAhead), (191, 0, 7, 0, sX7_nextRow), (195, 0, 7, 0, sX7_layPlan), (198, 0, 7, 2, sX7_areAlike), (201, 1, 0, 1, sX7_isPin), (204, 0, 7, 0, sX7_testMany), (208, 0, 7, 0, sX7_nets), (211, 0, 7, 1, sX7_hasPins)],
  [(116, 1000000), (175, 100000)], [(185, -1)])
def tL : aTab := ([],
  [(13, 0, 6, 4, sX6_duct), (17, 0, 7, 4, sX7_duct), (18, 0, 6, 4, sX6_wire), (21, 0, 7, 4, sX7_wire), (22, 0, 6, 3, sX6_apart), (26, 0, 7, 3, sX7_apart), (27, 0, 6, 1, sX6_lay), (31, 0, 7, 1, sX7_lay), (32, 0, 6, 1, sX6_lift), (35, 0, 7, 1, sX7_lift), (36, 0, 6, 2, sX6_way), (40, 0, 7, 2, sX7_way), (41, 0, 6, 1, sX6_length), (44, 0, 7, 1, sX7_length), (45, 0, 6, 2, sX6_left), (49, 0, 7, 2, sX7_left), (50, 0, 6, 2, sX6_loss), (53, 0, 7, 2, sX7_loss), (54, 0, 6, 0, sX6_clashes), (58, 0, 7, 0, sX7_clashes), (59, 0, 6, 2, sX6_far), (62, 0, 7, 2, sX7_far), (63, 0, 6, 2, sX6_two), (66, 0, 7, 2, sX7_two), (67, 0, 6, 1, sX6_net), (70, 0, 7, 1, sX7_net), (71, 0, 6, 1, sX6_splice), (74, 0, 7, 1, sX7_splice), (75, 0, 6, 2, sX6_option), (78, 0, 7, 2, sX7_option), (79, 0, 6, 2, sX6_order), (82, 0, 7, 2, sX7_order), (83, 0, 6, 1, sX6_setup), (86, 0, 7, 1, sX7_setup), (87, 0, 6, 1, sX6_weight), (90, 0, 7, 1, sX7_weight), (91, 0, 6, 0, sX6_best), (95, 0, 7, 0, sX7_best), (96, 0, 6, 1, sX6_loom), (99, 0, 7, 1, sX7_loom), (100, 0, 6, 0, sX6_alike), (103, 0, 7, 0, sX7_alike), (104, 0, 6, 2, sX6_pin), (107, 0, 7, 2, sX7_pin), (108, 0, 6, 0, sX6_tests), (111, 0, 7, 0, sX7_tests), (112, 0, 6, 2, sX6_side), (115, 0, 7, 2, sX7_side), (116, 0, 6, 2, sX6_shows), (119, 0, 7, 2, sX7_shows), (120, 0, 6, 1, sX6_pairs), (123, 0, 7, 1, sX7_pairs), (124, 0, 6, 1, sX6_count), (127, 0, 7, 1, sX7_count)],
  [], [])
/-! ===== what a program decides of these tables: each word by its place ===== -/
def a_w (i : Nat) (w : Jvm.Cond) : Bool := decide (lw_tbl[i]? = some w)
theorem a_w_in {i : Nat} {w : Jvm.Cond} (h : a_w i w = true) : w ∈ lw_tbl := List.mem_of_getElem? (of_decide_eq_true h)
def a_all2 {α β : Type} (f : α → β → Bool) : List α → List β → Bool
  | [], _ => true
  | a :: l, b :: m => f a b && a_all2 f l m
  | _ :: _, [] => false
theorem a_all2_in {α β : Type} {f : α → β → Bool} : ∀ {l : List α} {m : List β}, a_all2 f l m = true → ∀ a ∈ l, ∃ b, f a b = true
  | [], _, _, a, ha => absurd ha List.not_mem_nil
  | x :: l, [], h, a, ha => by simp [a_all2] at h
  | x :: l, y :: m, h, a, ha => by
    simp only [a_all2, Bool.and_eq_true] at h
    rcases List.mem_cons.mp ha with e | ha
    · exact ⟨y, by rw [e]; exact h.1⟩
    · exact a_all2_in h.2 a ha
def a_okF (own : String) (q : Nat × Nat × Nat) (p : Nat) : Bool := match vwCl[q.2.1]? with
  | some (C, T, N) => Nat.blt q.2.2 N && decide ((T q.2.2).1 = C) && a_w p (Jvm.Cond.fieldLink own q.1 C (T q.2.2).2.1 (T q.2.2).2.2.1)
  | none => false
def a_okS (S : aMS) (n p : Nat) : Bool := a_w S.2.2.2.2.2 (Jvm.Cond.code S.1 S.2.1 S.2.2.1 S.2.2.2.1) && decide (S.1.cls ≠ "java/lang/invoke/MethodHandle") && decide (S.1.cls ≠ "java/lang/invoke/VarHandle") && decide ((parseMethodDescriptor S.1.desc).map (fun d => d.parameters.length) = some n) && Nat.beq S.2.2.2.2.1.cells 0 && Nat.beq S.2.2.2.2.1.slots 0 && a_w p (Jvm.Cond.initialized S.1.cls)
def a_okC (own : String) (q : Nat × aCall) (p : Nat × Nat × Nat × Nat) : Bool := match q with
  | (i, 0, ci, n, S) => a_okS S n p.1 && decide ((vwCl[ci]?).map (fun z => z.1) = some S.1.cls) && a_w p.2.1 (Jvm.Cond.methodLink own i S.1) && a_w p.2.2.1 (Jvm.Cond.instanceMethod S.1) && a_w p.2.2.2 (Jvm.Cond.selects S.1.cls S.1 S.1)
  | (i, 1, _, n, S) => a_okS S n p.1 && a_w p.2.1 (Jvm.Cond.methodLink own i S.1) && a_w p.2.2.1 (Jvm.Cond.static S.1)
  | (i, 3, _, _, S) => a_w S.2.2.2.2.2 (Jvm.Cond.code Lib.Math.min.name Lib.Math.min.code 2 (some .int)) && a_w p.1 (Jvm.Cond.initialized "java/lang/Math") && a_w p.2.1 (Jvm.Cond.methodLink own i Lib.Math.min.name) && a_w p.2.2.1 (Jvm.Cond.static Lib.Math.min.name)
  | (i, 4, _, _, S) => a_w S.2.2.2.2.2 (Jvm.Cond.code Lib.MathLoose.min_long.x Lib.MathLoose.min_long.code 4 (some .long)) && a_w p.1 (Jvm.Cond.initialized "java/lang/Math") && a_w p.2.1 (Jvm.Cond.methodLink own i Lib.MathLoose.min_long.x) && a_w p.2.2.1 (Jvm.Cond.static Lib.MathLoose.min_long.x)
  | (i, _, _, n, S) => a_okS S n p.1 && a_w p.2.2.1 (Jvm.Cond.static S.1) && decide (a_nest[p.2.1]? = some (own, i, S.1, "CableLooms"))
def a_okT (own : String) (t : aTab) (pF : List Nat) (pC : List (Nat × Nat × Nat × Nat)) (pK pL : List Nat) : Bool := a_all2 (a_okF own) t.1 pF && a_all2 (a_okC own) t.2.1 pC && a_all2 (fun q p => a_w p (Jvm.Cond.constant own q.1 q.2)) t.2.2.1 pK && a_all2 (fun q p => a_w p (Jvm.Cond.constantLong own q.1 q.2)) t.2.2.2 pL
set_option maxRecDepth 100000 in
theorem tJ6_ok : a_okT RJ6 tJ6 [] [] [392, 393, 394] [] = true := by decide +kernel
set_option maxRecDepth 100000 in
theorem tJ7_ok : a_okT RJ7 tJ7 [] [] [] [] = true := by decide +kernel
set_option maxRecDepth 100000 in
theorem tJ9_ok : a_okT RJ9 tJ9 [] [] [] [] = true := by decide +kernel
set_option maxRecDepth 100000 in
theorem tX0_ok : a_okT RX0 tX0 [67, 71, 74, 77, 79, 82, 84] [(43, 281, 283, 0)] [] [] = true := by decide +kernel
set_option maxRecDepth 100000 in
theorem tX1_ok : a_okT RX1 tX1 [199, 201, 203, 206, 207, 208, 209, 210, 211, 212, 205] [(42, 0, 305, 0), (44, 522, 523, 524), (47, 538, 540, 12), (47, 560, 514, 515), (47, 546, 547, 0), (47, 542, 544, 13), (44, 549, 527, 528), (47, 550, 552, 14), (51, 554, 390, 0), (52, 557, 558, 0)] [] [555, 556] = true := by decide +kernel
set_option maxRecDepth 100000 in
theorem tX2_ok : a_okT RX2 tX2 [243] [(48, 608, 609, 610), (42, 1, 305, 0)] [] [] = true := by decide +kernel
set_option maxRecDepth 100000 in
theorem tX3_ok : a_okT RX3 tX3 [152, 153, 154, 155, 157, 151, 68, 80, 73, 76] [(42, 2, 305, 0), (45, 342, 344, 3), (43, 442, 431, 432), (45, 443, 333, 334), (45, 444, 354, 355), (45, 445, 447, 7), (45, 357, 359, 5), (43, 365, 366, 367), (45, 361, 363, 6), (50, 346, 347, 0), (45, 349, 351, 4)] [337] [] = true := by decide +kernel
set_option maxRecDepth 100000 in
theorem tX4_ok : a_okT RX4 tX4 [180, 181, 182, 179, 70, 85, 81, 78, 72, 75] [(50, 461, 347, 0), (46, 462, 464, 8), (46, 475, 477, 11), (42, 3, 305, 0), (52, 479, 480, 0), (51, 466, 390, 0), (46, 467, 469, 9), (46, 471, 473, 10)] [178] [] = true := by decide +kernel
end
section
set_option maxRecDepth 100000 in
theorem tX5_ok : a_okT RX5 tX5 [108, 110, 112, 114, 116, 117, 119, 120, 122, 123] [(42, 4, 305, 0), (51, 389, 390, 0), (44, 331, 301, 302), (44, 628, 320, 321)] [] [] = true := by decide +kernel
set_option maxRecDepth 100000 in
theorem tX6_ok : a_okT RX6 tX6 [248, 249, 250, 251, 252, 253, 69, 109, 204, 111, 113, 156, 158, 121, 83, 115, 183, 118, 200, 202, 244] [(42, 271, 272, 0), (42, 274, 275, 0), (43, 277, 278, 279), (42, 289, 290, 0), (44, 292, 293, 294), (44, 300, 301, 302), (44, 307, 308, 309), (42, 315, 317, 1), (44, 319, 320, 321), (42, 323, 325, 2), (45, 332, 333, 334), (45, 338, 339, 340), (45, 353, 354, 355), (44, 369, 370, 371), (44, 377, 378, 379), (44, 385, 386, 387), (44, 403, 404, 405), (44, 407, 408, 409), (42, 415, 416, 0), (44, 422, 423, 424), (43, 430, 431, 432), (45, 438, 439, 440), (42, 453, 454, 0), (46, 457, 458, 459), (46, 488, 489, 490), (47, 500, 501, 502), (47, 513, 514, 515), (47, 517, 518, 519), (44, 526, 527, 528), (47, 534, 535, 536), (47, 565, 566, 567), (47, 573, 574, 575), (42, 581, 582, 0), (42, 584, 585, 0), (48, 591, 592, 593), (48, 604, 605, 606), (48, 616, 617, 618), (44, 624, 625, 626), (48, 629, 609, 610), (51, 456, 390, 0), (44, 630, 631, 632), (44, 327, 328, 329)] [483, 508] [] = true := by decide +kernel
end
section
theorem a_all2_cut {α β : Type} {f : α → β → Bool} : ∀ (k : Nat) {l : List α} {m : List β}, a_all2 f (l.take k) (m.take k) = true → a_all2 f (l.drop k) (m.drop k) = true → a_all2 f l m = true
  | 0, l, m, _, h => h
  | k + 1, [], m, _, _ => by cases m <;> rfl
  | k + 1, a :: l, [], h, _ => h
  | k + 1, a :: l, b :: m, h1, h2 => by
    have h1 : (f a b && a_all2 f (l.take k) (m.take k)) = true := h1
    rw [Bool.and_eq_true] at h1
    show (f a b && a_all2 f l m) = true
    rw [Bool.and_eq_true]
    exact ⟨h1.1, a_all2_cut k h1.2 h2⟩
theorem a_okT_i {own : String} {t : aTab} {pF : List Nat} {pC : List (Nat × Nat × Nat × Nat)} {pK pL : List Nat} (h1 : a_all2 (a_okF own) t.1 pF = true) (h2 : a_all2 (a_okC own) t.2.1 pC = true) (h3 : a_all2 (fun q p => a_w p (Jvm.Cond.constant own q.1 q.2)) t.2.2.1 pK = true) (h4 : a_all2 (fun q p => a_w p (Jvm.Cond.constantLong own q.1 q.2)) t.2.2.2 pL = true) : a_okT own t pF pC pK pL = true := by
  unfold a_okT; rw [h1, h2, h3, h4]; rfl
def tX7_pF : List Nat := [641, 642, 643, 644, 646, 647, 648, 649, 650, 651, 652, 653, 654, 655, 656, 657, 658, 659, 660, 661, 663, 664, 665, 666, 667, 668, 670, 640, 645, 662, 669]
def tX7_pC : List (Nat × Nat × Nat × Nat) := [(49, 742, 743, 0), (49, 739, 740, 0), (49, 769, 771, 18), (49, 765, 767, 17), (49, 778, 780, 20), (49, 786, 788, 22), (49, 757, 759, 15), (49, 761, 763, 16), (49, 773, 775, 19), (49, 782, 784, 21), (49, 790, 792, 23), (49, 810, 812, 24), (49, 822, 824, 25), (49, 830, 832, 26), (49, 842, 844, 28), (49, 838, 840, 27), (49, 853, 854, 0), (49, 860, 862, 30), (49, 850, 851, 0), (49, 856, 858, 29), (49, 864, 866, 31), (49, 893, 895, 33), (49, 889, 891, 32), (49, 906, 908, 35), (49, 910, 912, 36), (49, 901, 903, 34), (49, 922, 924, 37), (49, 930, 931, 0), (49, 937, 939, 38), (49, 953, 955, 40), (49, 949, 951, 39)]
set_option maxRecDepth 100000 in
theorem tX7_F_0 : a_all2 (a_okF RX7) ((tX7.1.drop 0).take 8) ((tX7_pF.drop 0).take 8) = true := by decide +kernel
set_option maxRecDepth 100000 in
theorem tX7_F_1 : a_all2 (a_okF RX7) ((tX7.1.drop 8).take 8) ((tX7_pF.drop 8).take 8) = true := by decide +kernel
set_option maxRecDepth 100000 in
theorem tX7_F_2 : a_all2 (a_okF RX7) ((tX7.1.drop 16).take 8) ((tX7_pF.drop 16).take 8) = true := by decide +kernel
set_option maxRecDepth 100000 in
theorem tX7_F_3 : a_all2 (a_okF RX7) ((tX7.1.drop 24).take 8) ((tX7_pF.drop 24).take 8) = true := by decide +kernel
set_option maxRecDepth 100000 in
theorem tX7_F_d3 : a_all2 (a_okF RX7) (tX7.1.drop 24) (tX7_pF.drop 24) = true := a_all2_cut 8 tX7_F_3 (by rw [List.drop_drop, List.drop_drop]; decide +kernel)
theorem tX7_F_d2 : a_all2 (a_okF RX7) (tX7.1.drop 16) (tX7_pF.drop 16) = true := a_all2_cut 8 tX7_F_2 (by rw [List.drop_drop, List.drop_drop]; exact tX7_F_d3)
theorem tX7_F_d1 : a_all2 (a_okF RX7) (tX7.1.drop 8) (tX7_pF.drop 8) = true := a_all2_cut 8 tX7_F_1 (by rw [List.drop_drop, List.drop_drop]; exact tX7_F_d2)
theorem tX7_F_d0 : a_all2 (a_okF RX7) (tX7.1.drop 0) (tX7_pF.drop 0) = true := a_all2_cut 8 tX7_F_0 (by rw [List.drop_drop, List.drop_drop]; exact tX7_F_d1)
set_option maxRecDepth 100000 in
theorem tX7_C_0 : a_all2 (a_okC RX7) ((tX7.2.1.drop 0).take 6) ((tX7_pC.drop 0).take 6) = true := by decide +kernel
set_option maxRecDepth 100000 in
theorem tX7_C_1 : a_all2 (a_okC RX7) ((tX7.2.1.drop 6).take 6) ((tX7_pC.drop 6).take 6) = true := by decide +kernel
set_option maxRecDepth 100000 in
theorem tX7_C_2 : a_all2 (a_okC RX7) ((tX7.2.1.drop 12).take 6) ((tX7_pC.drop 12).take 6) = true := by decide +kernel
set_option maxRecDepth 100000 in
theorem tX7_C_3 : a_all2 (a_okC RX7) ((tX7.2.1.drop 18).take 6) ((tX7_pC.drop 18).take 6) = true := by decide +kernel
set_option maxRecDepth 100000 in
theorem tX7_C_4 : a_all2 (a_okC RX7) ((tX7.2.1.drop 24).take 6) ((tX7_pC.drop 24).take 6) = true := by decide +kernel
set_option maxRecDepth 100000 in
theorem tX7_C_5 : a_all2 (a_okC RX7) ((tX7.2.1.drop 30).take 6) ((tX7_pC.drop 30).take 6) = true := by decide +kernel
set_option maxRecDepth 100000 in
theorem tX7_C_d5 : a_all2 (a_okC RX7) (tX7.2.1.drop 30) (tX7_pC.drop 30) = true := a_all2_cut 6 tX7_C_5 (by rw [List.drop_drop, List.drop_drop]; decide +kernel)
theorem tX7_C_d4 : a_all2 (a_okC RX7) (tX7.2.1.drop 24) (tX7_pC.drop 24) = true := a_all2_cut 6 tX7_C_4 (by rw [List.drop_drop, List.drop_drop]; exact tX7_C_d5)
theorem tX7_C_d3 : a_all2 (a_okC RX7) (tX7.2.1.drop 18) (tX7_pC.drop 18) = true := a_all2_cut 6 tX7_C_3 (by rw [List.drop_drop, List.drop_drop]; exact tX7_C_d4)
theorem tX7_C_d2 : a_all2 (a_okC RX7) (tX7.2.1.drop 12) (tX7_pC.drop 12) = true := a_all2_cut 6 tX7_C_2 (by rw [List.drop_drop, List.drop_drop]; exact tX7_C_d3)
theorem tX7_C_d1 : a_all2 (a_okC RX7) (tX7.2.1.drop 6) (tX7_pC.drop 6) = true := a_all2_cut 6 tX7_C_1 (by rw [List.drop_drop, List.drop_drop]; exact tX7_C_d2)
theorem tX7_C_d0 : a_all2 (a_okC RX7) (tX7.2.1.drop 0) (tX7_pC.drop 0) = true := a_all2_cut 6 tX7_C_0 (by rw [List.drop_drop, List.drop_drop]; exact tX7_C_d1)
set_option maxRecDepth 100000 in
theorem tX7_K : a_all2 (fun q p => a_w p (Jvm.Cond.constant RX7 q.1 q.2)) tX7.2.2.1 [777, 884] = true := by decide +kernel
set_option maxRecDepth 100000 in
theorem tX7_L : a_all2 (fun q p => a_w p (Jvm.Cond.constantLong RX7 q.1 q.2)) tX7.2.2.2 [905] = true := by decide +kernel
theorem tX7_ok : a_okT RX7 tX7 [641, 642, 643, 644, 646, 647, 648, 649, 650, 651, 652, 653, 654, 655, 656, 657, 658, 659, 660, 661, 663, 664, 665, 666, 667, 668, 670, 640, 645, 662, 669] [(49, 742, 743, 0), (49, 739, 740, 0), (49, 769, 771, 18), (49, 765, 767, 17), (49, 778, 780, 20), (49, 786, 788, 22), (49, 757, 759, 15), (49, 761, 763, 16), (49, 773, 775, 19), (49, 782, 784, 21), (49, 790, 792, 23), (49, 810, 812, 24), (49, 822, 824, 25), (49, 830, 832, 26), (49, 842, 844, 28), (49, 838, 840, 27), (49, 853, 854, 0), (49, 860, 862, 30), (49, 850, 851, 0), (49, 856, 858, 29), (49, 864, 866, 31), (49, 893, 895, 33), (49, 889, 891, 32), (49, 906, 908, 35), (49, 910, 912, 36), (49, 901, 903, 34), (49, 922, 924, 37), (49, 930, 931, 0), (49, 937, 939, 38), (49, 953, 955, 40), (49, 949, 951, 39)] [777, 884] [905] = true := a_okT_i (pF := tX7_pF) (pC := tX7_pC) tX7_F_d0 tX7_C_d0 tX7_K tX7_L
end
section
set_option maxRecDepth 100000 in
theorem tL_ok : a_okT RL tL [] [(42, 267, 268, 269), (49, 735, 736, 737), (42, 285, 286, 287), (49, 745, 746, 747), (42, 296, 297, 298), (49, 749, 750, 751), (42, 311, 312, 313), (49, 753, 754, 755), (42, 373, 374, 375), (49, 794, 795, 796), (42, 381, 382, 383), (49, 798, 799, 800), (42, 395, 396, 397), (49, 802, 803, 804), (42, 399, 400, 401), (49, 806, 807, 808), (42, 411, 412, 413), (49, 814, 815, 816), (42, 418, 419, 420), (49, 818, 819, 820), (42, 426, 427, 428), (49, 826, 827, 828), (42, 434, 435, 436), (49, 834, 835, 836), (42, 449, 450, 451), (49, 846, 847, 848), (42, 484, 485, 486), (49, 868, 869, 870), (42, 492, 493, 494), (49, 872, 873, 874), (42, 496, 497, 498), (49, 876, 877, 878), (42, 504, 505, 506), (49, 880, 881, 882), (42, 509, 510, 511), (49, 885, 886, 887), (42, 530, 531, 532), (49, 897, 898, 899), (42, 561, 562, 563), (49, 914, 915, 916), (42, 569, 570, 571), (49, 918, 919, 920), (42, 577, 578, 579), (49, 926, 927, 928), (42, 587, 588, 589), (49, 933, 934, 935), (42, 596, 597, 598), (49, 941, 942, 943), (42, 600, 601, 602), (49, 945, 946, 947), (42, 612, 613, 614), (49, 957, 958, 959), (42, 620, 621, 622), (49, 961, 962, 963)] [] [] = true := by decide +kernel
end
section
def pX0_sortIn : aPg := [(0, .iload_n 1, 1), (1, .istore_n 2, 1), (2, .iload_n 2, 1), (3, .ifCond .le 45, 3), (6, .aload_n 0, 1), (7, .getfield 25, 3), (10, .aload_n 0, 1), (11, .getfield 31, 3), (14, .iload_n 2, 1), (15, .iconst 1, 1), (16, .isub, 1), (17, .iaload, 1), (18, .iaload, 1), (19, .aload_n 0, 1), (20, .getfield 25, 3), (23, .iload_n 1, 1), (24, .iaload, 1), (25, .if_icmp .le 23, 3), (28, .aload_n 0, 1), (29, .getfield 31, 3), (32, .iload_n 2, 1), (33, .aload_n 0, 1), (34, .getfield 31, 3), (37, .iload_n 2, 1), (38, .iconst 1, 1), (39, .isub, 1), (40, .iaload, 1), (41, .iastore, 1), (42, .iinc 2 (-1), 3), (45, .goto (-43), 3), (48, .aload_n 0, 1), (49, .getfield 31, 3), (52, .iload_n 2, 1), (53, .iload_n 1, 1), (54, .iastore, 1), (55, .return_, 1)]
set_option maxRecDepth 100000 in
theorem pX0_sortIn_ok : (pX0_sortIn.all fun q => decide (decode cX0_sortIn q.1 = .ok (q.2.1, q.2.2))) = true := by decide +kernel
def pX0_add : aPg := [(0, .aload_n 0, 1), (1, .getfield 9, 3), (4, .istore 5, 2), (6, .aload_n 0, 1), (7, .getfield 15, 3), (10, .iload 5, 2), (12, .iload_n 1, 1), (13, .iastore, 1), (14, .aload_n 0, 1), (15, .getfield 19, 3), (18, .iload 5, 2), (20, .iload_n 2, 1), (21, .iastore, 1), (22, .aload_n 0, 1), (23, .getfield 22, 3), (26, .iload 5, 2), (28, .iconst 1, 1), (29, .iload_n 1, 1), (30, .ishl, 1), (31, .iconst 1, 1), (32, .iload_n 2, 1), (33, .ishl, 1), (34, .ior, 1), (35, .iastore, 1), (36, .aload_n 0, 1), (37, .getfield 25, 3), (40, .iload 5, 2), (42, .iload_n 3, 1), (43, .iastore, 1), (44, .aload_n 0, 1), (45, .getfield 28, 3), (48, .iload 5, 2), (50, .iload 4, 2), (52, .iastore, 1), (53, .aload_n 0, 1), (54, .iload 5, 2), (56, .invokevirtual 34, 3), (59, .aload_n 0, 1), (60, .iload 5, 2), (62, .iconst 1, 1), (63, .iadd, 1), (64, .putfield 9, 3), (67, .iload 5, 2), (69, .ireturn, 1)]
set_option maxRecDepth 100000 in
theorem pX0_add_ok : (pX0_add.all fun q => decide (decode cX0_add q.1 = .ok (q.2.1, q.2.2))) = true := by decide +kernel
def pX0_allBits : aPg := [(0, .iconst 1, 1), (1, .aload_n 0, 1), (2, .getfield 9, 3), (5, .ishl, 1), (6, .iconst 1, 1), (7, .isub, 1), (8, .ireturn, 1)]
set_option maxRecDepth 100000 in
theorem pX0_allBits_ok : (pX0_allBits.all fun q => decide (decode cX0_allBits q.1 = .ok (q.2.1, q.2.2))) = true := by decide +kernel
def pX0_across : aPg := [(0, .aload_n 0, 1), (1, .getfield 15, 3), (4, .iload_n 1, 1), (5, .iaload, 1), (6, .iload_n 2, 1), (7, .if_icmp .ne 12, 3), (10, .aload_n 0, 1), (11, .getfield 19, 3), (14, .iload_n 1, 1), (15, .iaload, 1), (16, .goto 9, 3), (19, .aload_n 0, 1), (20, .getfield 15, 3), (23, .iload_n 1, 1), (24, .iaload, 1), (25, .ireturn, 1)]
set_option maxRecDepth 100000 in
theorem pX0_across_ok : (pX0_across.all fun q => decide (decode cX0_across q.1 = .ok (q.2.1, q.2.2))) = true := by decide +kernel
def pX1_add : aPg := [(0, .aload_n 0, 1), (1, .getfield 11, 3), (4, .istore_n 3, 1), (5, .aload_n 0, 1), (6, .getfield 22, 3), (9, .iload_n 3, 1), (10, .iload_n 1, 1), (11, .iastore, 1), (12, .aload_n 0, 1), (13, .getfield 26, 3), (16, .iload_n 3, 1), (17, .iload_n 2, 1), (18, .iastore, 1), (19, .aload_n 0, 1), (20, .iload_n 3, 1), (21, .iconst 1, 1), (22, .iadd, 1), (23, .putfield 11, 3), (26, .aload_n 0, 1), (27, .iconst 1, 1), (28, .putfield 18, 3), (31, .iload_n 3, 1), (32, .ireturn, 1)]
set_option maxRecDepth 100000 in
theorem pX1_add_ok : (pX1_add.all fun q => decide (decode cX1_add q.1 = .ok (q.2.1, q.2.2))) = true := by decide +kernel
def pX1_allBits : aPg := [(0, .iconst 1, 1), (1, .aload_n 0, 1), (2, .getfield 11, 3), (5, .ishl, 1), (6, .iconst 1, 1), (7, .isub, 1), (8, .ireturn, 1)]
set_option maxRecDepth 100000 in
theorem pX1_allBits_ok : (pX1_allBits.all fun q => decide (decode cX1_allBits q.1 = .ok (q.2.1, q.2.2))) = true := by decide +kernel
def pX6_has : aPg := [(0, .iload_n 0, 1), (1, .iload_n 1, 1), (2, .ishr, 1), (3, .iconst 1, 1), (4, .iand, 1), (5, .iconst 1, 1), (6, .if_icmp .ne 7, 3), (9, .iconst 1, 1), (10, .goto 4, 3), (13, .iconst 0, 1), (14, .ireturn, 1)]
set_option maxRecDepth 100000 in
theorem pX6_has_ok : (pX6_has.all fun q => decide (decode cX6_has q.1 = .ok (q.2.1, q.2.2))) = true := by decide +kernel
def pX5_neededWith : aPg := [(0, .iconst 0, 1), (1, .istore_n 2, 1), (2, .iconst 0, 1), (3, .istore_n 3, 1), (4, .iload_n 3, 1), (5, .aload_n 0, 1), (6, .getfield 9, 3), (9, .if_icmp .ge 28, 3), (12, .aload_n 0, 1), (13, .getfield 28, 3), (16, .iload_n 3, 1), (17, .iaload, 1), (18, .iload_n 1, 1), (19, .iconst (-1), 1), (20, .ixor, 1), (21, .iand, 1), (22, .ifCond .ne 9, 3), (25, .iload_n 2, 1), (26, .iconst 1, 1), (27, .iload_n 3, 1), (28, .ishl, 1), (29, .ior, 1), (30, .istore_n 2, 1), (31, .iinc 3 1, 3), (34, .goto (-30), 3), (37, .iload_n 2, 1), (38, .ireturn, 1)]
set_option maxRecDepth 100000 in
theorem pX5_neededWith_ok : (pX5_neededWith.all fun q => decide (decode cX5_neededWith q.1 = .ok (q.2.1, q.2.2))) = true := by decide +kernel
def pX1_wiresFor : aPg := [(0, .iconst 0, 1), (1, .istore_n 2, 1), (2, .iconst 0, 1), (3, .istore_n 3, 1), (4, .iload_n 3, 1), (5, .aload_n 0, 1), (6, .getfield 11, 3), (9, .if_icmp .ge 33, 3), (12, .iload_n 1, 1), (13, .iload_n 3, 1), (14, .invokestatic 49, 3), (17, .ifCond .eq 19, 3), (20, .iload_n 2, 1), (21, .aload_n 0, 1), (22, .getfield 45, 3), (25, .aload_n 0, 1), (26, .getfield 22, 3), (29, .iload_n 3, 1), (30, .iaload, 1), (31, .invokevirtual 53, 3), (34, .ior, 1), (35, .istore_n 2, 1), (36, .iinc 3 1, 3), (39, .goto (-35), 3), (42, .iload_n 2, 1), (43, .ireturn, 1)]
set_option maxRecDepth 100000 in
theorem pX1_wiresFor_ok : (pX1_wiresFor.all fun q => decide (decode cX1_wiresFor q.1 = .ok (q.2.1, q.2.2))) = true := by decide +kernel
def pX1_hasTwin : aPg := [(0, .aload_n 0, 1), (1, .getfield 45, 3), (4, .aload_n 0, 1), (5, .getfield 22, 3), (8, .iload_n 1, 1), (9, .iaload, 1), (10, .invokevirtual 53, 3), (13, .istore_n 2, 1), (14, .iconst 0, 1), (15, .istore_n 3, 1), (16, .iload_n 3, 1), (17, .aload_n 0, 1), (18, .getfield 11, 3), (21, .if_icmp .ge 33, 3), (24, .iload_n 3, 1), (25, .iload_n 1, 1), (26, .if_icmp .eq 22, 3), (29, .aload_n 0, 1), (30, .getfield 45, 3), (33, .aload_n 0, 1), (34, .getfield 22, 3), (37, .iload_n 3, 1), (38, .iaload, 1), (39, .invokevirtual 53, 3), (42, .iload_n 2, 1), (43, .if_icmp .ne 5, 3), (46, .iconst 1, 1), (47, .ireturn, 1), (48, .iinc 3 1, 3), (51, .goto (-35), 3), (54, .iconst 0, 1), (55, .ireturn, 1)]
set_option maxRecDepth 100000 in
theorem pX1_hasTwin_ok : (pX1_hasTwin.all fun q => decide (decode cX1_hasTwin q.1 = .ok (q.2.1, q.2.2))) = true := by decide +kernel
def pX1_loomShift : aPg := [(0, .bipush 7, 2), (2, .iload_n 0, 1), (3, .isub, 1), (4, .iconst 3, 1), (5, .imul, 1), (6, .ireturn, 1)]
set_option maxRecDepth 100000 in
theorem pX1_loomShift_ok : (pX1_loomShift.all fun q => decide (decode cX1_loomShift q.1 = .ok (q.2.1, q.2.2))) = true := by decide +kernel
def pX1_gatherSums : aPg := [(0, .iconst 0, 1), (1, .istore_n 1, 1), (2, .iload_n 1, 1), (3, .aload_n 0, 1), (4, .getfield 11, 3), (7, .if_icmp .ge 106, 3), (10, .iconst 1, 1), (11, .iload_n 1, 1), (12, .ishl, 1), (13, .istore_n 2, 1), (14, .aload_n 0, 1), (15, .getfield 45, 3), (18, .aload_n 0, 1), (19, .getfield 22, 3), (22, .iload_n 1, 1), (23, .iaload, 1), (24, .invokevirtual 53, 3), (27, .istore_n 3, 1), (28, .iconst 0, 1), (29, .istore 4, 2), (31, .iload 4, 2), (33, .iload_n 2, 1), (34, .if_icmp .ge 73, 3), (37, .aload_n 0, 1), (38, .getfield 29, 3), (41, .iload 4, 2), (43, .iload_n 2, 1), (44, .ior, 1), (45, .aload_n 0, 1), (46, .getfield 29, 3), (49, .iload 4, 2), (51, .iaload, 1), (52, .iload_n 3, 1), (53, .ior, 1), (54, .iastore, 1), (55, .aload_n 0, 1), (56, .getfield 32, 3), (59, .iload 4, 2), (61, .iload_n 2, 1), (62, .ior, 1), (63, .aload_n 0, 1), (64, .getfield 32, 3), (67, .iload 4, 2), (69, .iaload, 1), (70, .aload_n 0, 1), (71, .getfield 26, 3), (74, .iload_n 1, 1), (75, .iaload, 1), (76, .iadd, 1), (77, .iastore, 1), (78, .aload_n 0, 1), (79, .getfield 38, 3), (82, .iload 4, 2), (84, .iload_n 2, 1), (85, .ior, 1), (86, .aload_n 0, 1), (87, .getfield 38, 3), (90, .iload 4, 2), (92, .iaload, 1), (93, .iconst 1, 1), (94, .iload_n 1, 1), (95, .invokestatic 66, 3), (98, .ishl, 1), (99, .iadd, 1), (100, .iastore, 1), (101, .iinc 4 1, 3), (104, .goto (-73), 3), (107, .iinc 1 1, 3), (110, .goto (-108), 3), (113, .return_, 1)]
set_option maxRecDepth 100000 in
theorem pX1_gatherSums_ok : (pX1_gatherSums.all fun q => decide (decode cX1_gatherSums q.1 = .ok (q.2.1, q.2.2))) = true := by decide +kernel
def pX5_weightOf : aPg := [(0, .iconst 0, 1), (1, .istore_n 2, 1), (2, .iconst 0, 1), (3, .istore_n 3, 1), (4, .iload_n 3, 1), (5, .aload_n 0, 1), (6, .getfield 9, 3), (9, .if_icmp .ge 26, 3), (12, .iload_n 1, 1), (13, .iload_n 3, 1), (14, .invokestatic 43, 3), (17, .ifCond .eq 12, 3), (20, .iload_n 2, 1), (21, .aload_n 0, 1), (22, .getfield 22, 3), (25, .iload_n 3, 1), (26, .iaload, 1), (27, .iadd, 1), (28, .istore_n 2, 1), (29, .iinc 3 1, 3), (32, .goto (-28), 3), (35, .iload_n 2, 1), (36, .ireturn, 1)]
set_option maxRecDepth 100000 in
theorem pX5_weightOf_ok : (pX5_weightOf.all fun q => decide (decode cX5_weightOf q.1 = .ok (q.2.1, q.2.2))) = true := by decide +kernel
def pJ6_bitCount_0f7a4 : aPg := [(0, .iload_n 0, 1), (1, .iload_n 0, 1), (2, .iconst 1, 1), (3, .iushr, 1), (4, .ldc_w 265, 3), (7, .iand, 1), (8, .isub, 1), (9, .istore_n 0, 1), (10, .iload_n 0, 1), (11, .ldc_w 266, 3), (14, .iand, 1), (15, .iload_n 0, 1), (16, .iconst 2, 1), (17, .iushr, 1), (18, .ldc_w 266, 3), (21, .iand, 1), (22, .iadd, 1), (23, .istore_n 0, 1), (24, .iload_n 0, 1), (25, .iload_n 0, 1), (26, .iconst 4, 1), (27, .iushr, 1), (28, .iadd, 1), (29, .ldc_w 267, 3), (32, .iand, 1), (33, .istore_n 0, 1), (34, .iload_n 0, 1), (35, .iload_n 0, 1), (36, .bipush 8, 2), (38, .iushr, 1), (39, .iadd, 1), (40, .istore_n 0, 1), (41, .iload_n 0, 1), (42, .iload_n 0, 1), (43, .bipush 16, 2), (45, .iushr, 1), (46, .iadd, 1), (47, .istore_n 0, 1), (48, .iload_n 0, 1), (49, .bipush 63, 2), (51, .iand, 1), (52, .ireturn, 1)]
set_option maxRecDepth 100000 in
theorem pJ6_bitCount_0f7a4_ok : (pJ6_bitCount_0f7a4.all fun q => decide (decode cJ6_bitCount_0f7a4 q.1 = .ok (q.2.1, q.2.2))) = true := by decide +kernel
def pJ9_min_f86c9 : aPg := [(0, .lload_n 0, 1), (1, .lload_n 2, 1), (2, .lcmp, 1), (3, .ifCond .gt 7, 3), (6, .lload_n 0, 1), (7, .goto 4, 3), (10, .lload_n 2, 1), (11, .lreturn, 1)]
set_option maxRecDepth 100000 in
theorem pJ9_min_f86c9_ok : (pJ9_min_f86c9.all fun q => decide (decode cJ9_min_f86c9 q.1 = .ok (q.2.1, q.2.2))) = true := by decide +kernel
def pX1_leastPlan : aPg := [(0, .iload_n 1, 1), (1, .iload_n 1, 1), (2, .ineg, 1), (3, .iand, 1), (4, .istore_n 2, 1), (5, .iload_n 1, 1), (6, .iload_n 2, 1), (7, .ixor, 1), (8, .istore_n 3, 1), (9, .iconst 1, 1), (10, .iload_n 3, 1), (11, .invokestatic 79, 3), (14, .ishl, 1), (15, .istore 4, 2), (17, .iload_n 3, 1), (18, .istore 5, 2), (20, .ldc2_w 86, 3), (23, .lstore 6, 2), (25, .iconst 0, 1), (26, .istore 8, 2), (28, .iload 8, 2), (30, .iload 4, 2), (32, .if_icmp .ge 72, 3), (35, .iload_n 3, 1), (36, .iload 5, 2), (38, .ixor, 1), (39, .istore 9, 2), (41, .aload_n 0, 1), (42, .getfield 35, 3), (45, .iload_n 2, 1), (46, .iload 5, 2), (48, .ior, 1), (49, .iaload, 1), (50, .i2l, 1), (51, .bipush 28, 2), (53, .lshl, 1), (54, .lstore 10, 2), (56, .lload 10, 2), (58, .ldc2_w 88, 3), (61, .ladd, 1), (62, .aload_n 0, 1), (63, .getfield 41, 3), (66, .iload 9, 2), (68, .laload, 1), (69, .ladd, 1), (70, .aload_n 0, 1), (71, .getfield 38, 3), (74, .iload 9, 2), (76, .iaload, 1), (77, .i2l, 1), (78, .ladd, 1), (79, .lstore 12, 2), (81, .lload 6, 2), (83, .lload 12, 2), (85, .invokestatic 90, 3), (88, .lstore 6, 2), (90, .iload 5, 2), (92, .iconst 1, 1), (93, .isub, 1), (94, .iload_n 3, 1), (95, .iand, 1), (96, .istore 5, 2), (98, .iinc 8 1, 3), (101, .goto (-73), 3), (104, .lload 6, 2), (106, .lreturn, 1)]
set_option maxRecDepth 100000 in
theorem pX1_leastPlan_ok : (pX1_leastPlan.all fun q => decide (decode cX1_leastPlan q.1 = .ok (q.2.1, q.2.2))) = true := by decide +kernel
def pX1_refresh : aPg := [(0, .aload_n 0, 1), (1, .getfield 18, 3), (4, .ifCond .ne 4, 3), (7, .return_, 1), (8, .aload_n 0, 1), (9, .invokevirtual 69, 3), (12, .iconst 1, 1), (13, .aload_n 0, 1), (14, .getfield 11, 3), (17, .ishl, 1), (18, .istore_n 1, 1), (19, .iconst 1, 1), (20, .istore_n 2, 1), (21, .iload_n 2, 1), (22, .iload_n 1, 1), (23, .if_icmp .ge 42, 3), (26, .aload_n 0, 1), (27, .getfield 45, 3), (30, .aload_n 0, 1), (31, .getfield 29, 3), (34, .iload_n 2, 1), (35, .iaload, 1), (36, .invokevirtual 72, 3), (39, .istore_n 3, 1), (40, .aload_n 0, 1), (41, .getfield 35, 3), (44, .iload_n 2, 1), (45, .aload_n 0, 1), (46, .getfield 15, 3), (49, .aload_n 0, 1), (50, .getfield 32, 3), (53, .iload_n 2, 1), (54, .iaload, 1), (55, .iload_n 3, 1), (56, .imul, 1), (57, .iadd, 1), (58, .iastore, 1), (59, .iinc 2 1, 3), (62, .goto (-41), 3), (65, .aload_n 0, 1), (66, .getfield 41, 3), (69, .iconst 0, 1), (70, .lconst 0, 1), (71, .lastore, 1), (72, .iconst 1, 1), (73, .istore_n 2, 1), (74, .iload_n 2, 1), (75, .iload_n 1, 1), (76, .if_icmp .ge 20, 3), (79, .aload_n 0, 1), (80, .getfield 41, 3), (83, .iload_n 2, 1), (84, .aload_n 0, 1), (85, .iload_n 2, 1), (86, .invokevirtual 75, 3), (89, .lastore, 1), (90, .iinc 2 1, 3), (93, .goto (-19), 3), (96, .aload_n 0, 1), (97, .iconst 0, 1), (98, .putfield 18, 3), (101, .return_, 1)]
set_option maxRecDepth 100000 in
theorem pX1_refresh_ok : (pX1_refresh.all fun q => decide (decode cX1_refresh q.1 = .ok (q.2.1, q.2.2))) = true := by decide +kernel
def pX1_bestCost : aPg := [(0, .aload_n 0, 1), (1, .invokevirtual 59, 3), (4, .aload_n 0, 1), (5, .getfield 41, 3), (8, .aload_n 0, 1), (9, .invokevirtual 62, 3), (12, .laload, 1), (13, .bipush 28, 2), (15, .lshr, 1), (16, .lreturn, 1)]
set_option maxRecDepth 100000 in
theorem pX1_bestCost_ok : (pX1_bestCost.all fun q => decide (decode cX1_bestCost q.1 = .ok (q.2.1, q.2.2))) = true := by decide +kernel
def pX1_loomOf : aPg := [(0, .aload_n 0, 1), (1, .invokevirtual 59, 3), (4, .aload_n 0, 1), (5, .getfield 41, 3), (8, .aload_n 0, 1), (9, .invokevirtual 62, 3), (12, .laload, 1), (13, .iload_n 1, 1), (14, .invokestatic 66, 3), (17, .lshr, 1), (18, .l2i, 1), (19, .bipush 7, 2), (21, .iand, 1), (22, .ireturn, 1)]
set_option maxRecDepth 100000 in
theorem pX1_loomOf_ok : (pX1_loomOf.all fun q => decide (decode cX1_loomOf q.1 = .ok (q.2.1, q.2.2))) = true := by decide +kernel
def pX2_usedNets : aPg := [(0, .iconst 0, 1), (1, .istore_n 1, 1), (2, .iconst 0, 1), (3, .istore_n 2, 1), (4, .iload_n 2, 1), (5, .bipush 16, 2), (7, .if_icmp .ge 20, 3), (10, .iload_n 1, 1), (11, .iconst 1, 1), (12, .aload_n 0, 1), (13, .getfield 9, 3), (16, .iload_n 2, 1), (17, .iaload, 1), (18, .ishl, 1), (19, .ior, 1), (20, .istore_n 1, 1), (21, .iinc 2 1, 3), (24, .goto (-20), 3), (27, .iload_n 1, 1), (28, .ireturn, 1)]
set_option maxRecDepth 100000 in
theorem pX2_usedNets_ok : (pX2_usedNets.all fun q => decide (decode cX2_usedNets q.1 = .ok (q.2.1, q.2.2))) = true := by decide +kernel
def pX2_isUsed : aPg := [(0, .aload_n 0, 1), (1, .invokevirtual 15, 3), (4, .iload_n 1, 1), (5, .invokestatic 19, 3), (8, .ireturn, 1)]
set_option maxRecDepth 100000 in
theorem pX2_isUsed_ok : (pX2_isUsed.all fun q => decide (decode cX2_isUsed q.1 = .ok (q.2.1, q.2.2))) = true := by decide +kernel
def pX2_testsNeeded : aPg := [(0, .iconst 0, 1), (1, .istore_n 1, 1), (2, .iconst 1, 1), (3, .istore_n 2, 1), (4, .iload_n 2, 1), (5, .bipush 16, 2), (7, .if_icmp .ge 25, 3), (10, .iload_n 1, 1), (11, .aload_n 0, 1), (12, .getfield 9, 3), (15, .iload_n 2, 1), (16, .iaload, 1), (17, .aload_n 0, 1), (18, .getfield 9, 3), (21, .iconst 0, 1), (22, .iaload, 1), (23, .ixor, 1), (24, .ior, 1), (25, .istore_n 1, 1), (26, .iinc 2 1, 3), (29, .goto (-25), 3), (32, .iconst 0, 1), (33, .istore_n 2, 1), (34, .iconst 0, 1), (35, .istore_n 3, 1), (36, .iload_n 3, 1), (37, .iconst 3, 1), (38, .if_icmp .ge 21, 3), (41, .iload_n 1, 1), (42, .iload_n 3, 1), (43, .invokestatic 19, 3), (46, .ifCond .eq 7, 3), (49, .iload_n 3, 1), (50, .iconst 1, 1), (51, .iadd, 1), (52, .istore_n 2, 1), (53, .iinc 3 1, 3), (56, .goto (-20), 3), (59, .iload_n 2, 1), (60, .ireturn, 1)]
set_option maxRecDepth 100000 in
theorem pX2_testsNeeded_ok : (pX2_testsNeeded.all fun q => decide (decode cX2_testsNeeded q.1 = .ok (q.2.1, q.2.2))) = true := by decide +kernel
def pX2_pairsUnlikeJustIn : aPg := [(0, .aload_n 0, 1), (1, .invokevirtual 15, 3), (4, .istore_n 2, 1), (5, .iconst 0, 1), (6, .istore_n 3, 1), (7, .iconst 0, 1), (8, .istore 4, 2), (10, .iload 4, 2), (12, .bipush 8, 2), (14, .if_icmp .ge 58, 3), (17, .iload 4, 2), (19, .iconst 1, 1), (20, .iadd, 1), (21, .istore 5, 2), (23, .iload 5, 2), (25, .bipush 8, 2), (27, .if_icmp .ge 39, 3), (30, .iload_n 2, 1), (31, .iload 4, 2), (33, .invokestatic 19, 3), (36, .ifCond .eq 24, 3), (39, .iload_n 2, 1), (40, .iload 5, 2), (42, .invokestatic 19, 3), (45, .ifCond .eq 15, 3), (48, .iload 4, 2), (50, .iload 5, 2), (52, .ixor, 1), (53, .iload_n 1, 1), (54, .if_icmp .ne 6, 3), (57, .iinc 3 1, 3), (60, .iinc 5 1, 3), (63, .goto (-40), 3), (66, .iinc 4 1, 3), (69, .goto (-59), 3), (72, .iload_n 3, 1), (73, .ireturn, 1)]
set_option maxRecDepth 100000 in
theorem pX2_pairsUnlikeJustIn_ok : (pX2_pairsUnlikeJustIn.all fun q => decide (decode cX2_pairsUnlikeJustIn q.1 = .ok (q.2.1, q.2.2))) = true := by decide +kernel
def pX3_open : aPg := [(0, .iconst 0, 1), (1, .istore_n 2, 1), (2, .iload_n 2, 1), (3, .aload_n 0, 1), (4, .getfield 28, 3), (7, .getfield 32, 3), (10, .if_icmp .ge 51, 3), (13, .iload_n 1, 1), (14, .iload_n 2, 1), (15, .invokestatic 37, 3), (18, .ifCond .eq 20, 3), (21, .aload_n 0, 1), (22, .getfield 28, 3), (25, .getfield 41, 3), (28, .iload_n 2, 1), (29, .iaload, 1), (30, .bipush 32, 2), (32, .imul, 1), (33, .iconst 1, 1), (34, .iadd, 1), (35, .goto 5, 3), (38, .ldc 44, 2), (40, .istore_n 3, 1), (41, .aload_n 0, 1), (42, .getfield 9, 3), (45, .iload_n 2, 1), (46, .iload_n 3, 1), (47, .iastore, 1), (48, .aload_n 0, 1), (49, .getfield 15, 3), (52, .iload_n 2, 1), (53, .iload_n 3, 1), (54, .iastore, 1), (55, .iinc 2 1, 3), (58, .goto (-56), 3), (61, .return_, 1)]
set_option maxRecDepth 100000 in
theorem pX3_open_ok : (pX3_open.all fun q => decide (decode cX3_open q.1 = .ok (q.2.1, q.2.2))) = true := by decide +kernel
def pJ7_fill_53178 : aPg := [(0, .iconst 0, 1), (1, .istore_n 2, 1), (2, .aload_n 0, 1), (3, .arraylength, 1), (4, .istore_n 3, 1), (5, .iload_n 2, 1), (6, .iload_n 3, 1), (7, .if_icmp .ge 13, 3), (10, .aload_n 0, 1), (11, .iload_n 2, 1), (12, .iload_n 1, 1), (13, .iastore, 1), (14, .iinc 2 1, 3), (17, .goto (-12), 3), (20, .return_, 1)]
set_option maxRecDepth 100000 in
theorem pJ7_fill_53178_ok : (pJ7_fill_53178.all fun q => decide (decode cJ7_fill_53178 q.1 = .ok (q.2.1, q.2.2))) = true := by decide +kernel
def pX3_lower : aPg := [(0, .iload_n 3, 1), (1, .ldc 44, 2), (3, .if_icmp .eq 14, 3), (6, .aload_n 0, 1), (7, .getfield 18, 3), (10, .iload_n 2, 1), (11, .iaload, 1), (12, .ldc 44, 2), (14, .if_icmp .ne 5, 3), (17, .iconst 0, 1), (18, .ireturn, 1), (19, .iload_n 3, 1), (20, .aload_n 0, 1), (21, .getfield 18, 3), (24, .iload_n 2, 1), (25, .iaload, 1), (26, .iadd, 1), (27, .istore 4, 2), (29, .iload 4, 2), (31, .aload_n 0, 1), (32, .getfield 18, 3), (35, .iload_n 1, 1), (36, .iaload, 1), (37, .if_icmp .lt 5, 3), (40, .iconst 0, 1), (41, .ireturn, 1), (42, .aload_n 0, 1), (43, .getfield 18, 3), (46, .iload_n 1, 1), (47, .iload 4, 2), (49, .iastore, 1), (50, .iconst 1, 1), (51, .ireturn, 1)]
set_option maxRecDepth 100000 in
theorem pX3_lower_ok : (pX3_lower.all fun q => decide (decode cX3_lower q.1 = .ok (q.2.1, q.2.2))) = true := by decide +kernel
def pX3_spread : aPg := [(0, .aload_n 0, 1), (1, .getfield 18, 3), (4, .ldc 44, 2), (6, .invokestatic 80, 3), (9, .aload_n 0, 1), (10, .getfield 18, 3), (13, .iload_n 1, 1), (14, .iconst 0, 1), (15, .iastore, 1), (16, .iconst 1, 1), (17, .istore_n 2, 1), (18, .iconst 0, 1), (19, .istore_n 3, 1), (20, .iload_n 3, 1), (21, .bipush 9, 2), (23, .if_icmp .ge 122, 3), (26, .iload_n 2, 1), (27, .ifCond .eq 118, 3), (30, .iconst 0, 1), (31, .istore_n 2, 1), (32, .iconst 0, 1), (33, .istore 4, 2), (35, .iload 4, 2), (37, .aload_n 0, 1), (38, .getfield 28, 3), (41, .getfield 32, 3), (44, .if_icmp .ge 95, 3), (47, .aload_n 0, 1), (48, .aload_n 0, 1), (49, .getfield 28, 3), (52, .getfield 74, 3), (55, .iload 4, 2), (57, .iaload, 1), (58, .aload_n 0, 1), (59, .getfield 28, 3), (62, .getfield 77, 3), (65, .iload 4, 2), (67, .iaload, 1), (68, .aload_n 0, 1), (69, .getfield 9, 3), (72, .iload 4, 2), (74, .iaload, 1), (75, .invokevirtual 86, 3), (78, .istore 5, 2), (80, .aload_n 0, 1), (81, .aload_n 0, 1), (82, .getfield 28, 3), (85, .getfield 77, 3), (88, .iload 4, 2), (90, .iaload, 1), (91, .aload_n 0, 1), (92, .getfield 28, 3), (95, .getfield 74, 3), (98, .iload 4, 2), (100, .iaload, 1), (101, .aload_n 0, 1), (102, .getfield 15, 3), (105, .iload 4, 2), (107, .iaload, 1), (108, .invokevirtual 86, 3), (111, .istore 6, 2), (113, .iload_n 2, 1), (114, .ifCond .ne 13, 3), (117, .iload 5, 2), (119, .ifCond .ne 8, 3), (122, .iload 6, 2), (124, .ifCond .eq 7, 3), (127, .iconst 1, 1), (128, .goto 4, 3), (131, .iconst 0, 1), (132, .istore_n 2, 1), (133, .iinc 4 1, 3), (136, .goto (-101), 3), (139, .iinc 3 1, 3), (142, .goto (-122), 3), (145, .return_, 1)]
set_option maxRecDepth 100000 in
theorem pX3_spread_ok : (pX3_spread.all fun q => decide (decode cX3_spread q.1 = .ok (q.2.1, q.2.2))) = true := by decide +kernel
def pX3_leastLength : aPg := [(0, .aload_n 0, 1), (1, .iload_n 2, 1), (2, .invokevirtual 45, 3), (5, .aload_n 0, 1), (6, .getfield 18, 3), (9, .iload_n 1, 1), (10, .iaload, 1), (11, .ldc 44, 2), (13, .if_icmp .ne 8, 3), (16, .bipush (-9), 2), (18, .goto 12, 3), (21, .aload_n 0, 1), (22, .getfield 18, 3), (25, .iload_n 1, 1), (26, .iaload, 1), (27, .bipush 32, 2), (29, .idiv, 1), (30, .ireturn, 1)]
set_option maxRecDepth 100000 in
theorem pX3_leastLength_ok : (pX3_leastLength.all fun q => decide (decode cX3_leastLength q.1 = .ok (q.2.1, q.2.2))) = true := by decide +kernel
def pX3_priceFrom : aPg := [(0, .aload_n 0, 1), (1, .getfield 28, 3), (4, .getfield 74, 3), (7, .iload_n 1, 1), (8, .iaload, 1), (9, .iload_n 2, 1), (10, .if_icmp .ne 10, 3), (13, .aload_n 0, 1), (14, .getfield 9, 3), (17, .iload_n 1, 1), (18, .iaload, 1), (19, .ireturn, 1), (20, .aload_n 0, 1), (21, .getfield 28, 3), (24, .getfield 77, 3), (27, .iload_n 1, 1), (28, .iaload, 1), (29, .iload_n 2, 1), (30, .if_icmp .ne 12, 3), (33, .aload_n 0, 1), (34, .getfield 15, 3), (37, .iload_n 1, 1), (38, .iaload, 1), (39, .goto 5, 3), (42, .ldc 44, 2), (44, .ireturn, 1)]
set_option maxRecDepth 100000 in
theorem pX3_priceFrom_ok : (pX3_priceFrom.all fun q => decide (decode cX3_priceFrom q.1 = .ok (q.2.1, q.2.2))) = true := by decide +kernel
def pX3_firstStep : aPg := [(0, .iconst 0, 1), (1, .istore_n 2, 1), (2, .iload_n 2, 1), (3, .aload_n 0, 1), (4, .getfield 28, 3), (7, .getfield 32, 3), (10, .if_icmp .ge 49, 3), (13, .aload_n 0, 1), (14, .iload_n 2, 1), (15, .iload_n 1, 1), (16, .invokevirtual 71, 3), (19, .istore_n 3, 1), (20, .iload_n 3, 1), (21, .ldc 44, 2), (23, .if_icmp .eq 30, 3), (26, .aload_n 0, 1), (27, .getfield 18, 3), (30, .iload_n 1, 1), (31, .iaload, 1), (32, .iload_n 3, 1), (33, .aload_n 0, 1), (34, .getfield 18, 3), (37, .aload_n 0, 1), (38, .getfield 28, 3), (41, .iload_n 2, 1), (42, .iload_n 1, 1), (43, .invokevirtual 67, 3), (46, .iaload, 1), (47, .iadd, 1), (48, .if_icmp .ne 5, 3), (51, .iload_n 2, 1), (52, .ireturn, 1), (53, .iinc 2 1, 3), (56, .goto (-54), 3), (59, .bipush (-9), 2), (61, .ireturn, 1)]
set_option maxRecDepth 100000 in
theorem pX3_firstStep_ok : (pX3_firstStep.all fun q => decide (decode cX3_firstStep q.1 = .ok (q.2.1, q.2.2))) = true := by decide +kernel
def pX3_walk : aPg := [(0, .aload_n 0, 1), (1, .iconst 0, 1), (2, .putfield 24, 3), (5, .iload_n 1, 1), (6, .istore_n 3, 1), (7, .iload_n 3, 1), (8, .iload_n 2, 1), (9, .if_icmp .eq 62, 3), (12, .aload_n 0, 1), (13, .getfield 24, 3), (16, .bipush 9, 2), (18, .if_icmp .ge 53, 3), (21, .aload_n 0, 1), (22, .iload_n 3, 1), (23, .invokevirtual 63, 3), (26, .istore 4, 2), (28, .iload 4, 2), (30, .bipush (-9), 2), (32, .if_icmp .ne 4, 3), (35, .return_, 1), (36, .aload_n 0, 1), (37, .getfield 21, 3), (40, .aload_n 0, 1), (41, .getfield 24, 3), (44, .iload 4, 2), (46, .iastore, 1), (47, .aload_n 0, 1), (48, .dup, 1), (49, .getfield 24, 3), (52, .iconst 1, 1), (53, .iadd, 1), (54, .putfield 24, 3), (57, .aload_n 0, 1), (58, .getfield 28, 3), (61, .iload 4, 2), (63, .iload_n 3, 1), (64, .invokevirtual 67, 3), (67, .istore_n 3, 1), (68, .goto (-61), 3), (71, .return_, 1)]
set_option maxRecDepth 100000 in
theorem pX3_walk_ok : (pX3_walk.all fun q => decide (decode cX3_walk q.1 = .ok (q.2.1, q.2.2))) = true := by decide +kernel
def pX3_turnSteps : aPg := [(0, .iload_n 1, 1), (1, .istore_n 2, 1), (2, .iconst 0, 1), (3, .istore_n 3, 1), (4, .iload_n 3, 1), (5, .aload_n 0, 1), (6, .getfield 24, 3), (9, .if_icmp .ge 112, 3), (12, .aload_n 0, 1), (13, .getfield 21, 3), (16, .iload_n 3, 1), (17, .iaload, 1), (18, .istore 4, 2), (20, .aload_n 0, 1), (21, .getfield 28, 3), (24, .getfield 74, 3), (27, .iload 4, 2), (29, .iaload, 1), (30, .iload_n 2, 1), (31, .if_icmp .ne 7, 3), (34, .iconst 1, 1), (35, .goto 4, 3), (38, .iconst 0, 1), (39, .istore 5, 2), (41, .iload 5, 2), (43, .ifCond .eq 13, 3), (46, .aload_n 0, 1), (47, .getfield 9, 3), (50, .iload 4, 2), (52, .iaload, 1), (53, .goto 10, 3), (56, .aload_n 0, 1), (57, .getfield 15, 3), (60, .iload 4, 2), (62, .iaload, 1), (63, .ineg, 1), (64, .istore 6, 2), (66, .aload_n 0, 1), (67, .getfield 9, 3), (70, .iload 4, 2), (72, .iload 5, 2), (74, .ifCond .eq 8, 3), (77, .ldc 44, 2), (79, .goto 5, 3), (82, .iload 6, 2), (84, .iastore, 1), (85, .aload_n 0, 1), (86, .getfield 15, 3), (89, .iload 4, 2), (91, .iload 5, 2), (93, .ifCond .eq 8, 3), (96, .iload 6, 2), (98, .goto 5, 3), (101, .ldc 44, 2), (103, .iastore, 1), (104, .aload_n 0, 1), (105, .getfield 28, 3), (108, .iload 4, 2), (110, .iload_n 2, 1), (111, .invokevirtual 67, 3), (114, .istore_n 2, 1), (115, .iinc 3 1, 3), (118, .goto (-114), 3), (121, .return_, 1)]
set_option maxRecDepth 100000 in
theorem pX3_turnSteps_ok : (pX3_turnSteps.all fun q => decide (decode cX3_turnSteps q.1 = .ok (q.2.1, q.2.2))) = true := by decide +kernel
def pX3_leastLengthOfTwo : aPg := [(0, .aload_n 0, 1), (1, .aload_n 0, 1), (2, .getfield 28, 3), (5, .invokevirtual 49, 3), (8, .invokevirtual 53, 3), (11, .aload_n 0, 1), (12, .iload_n 2, 1), (13, .invokevirtual 45, 3), (16, .aload_n 0, 1), (17, .getfield 18, 3), (20, .iload_n 1, 1), (21, .iaload, 1), (22, .ldc 44, 2), (24, .if_icmp .ne 6, 3), (27, .bipush (-9), 2), (29, .ireturn, 1), (30, .aload_n 0, 1), (31, .getfield 18, 3), (34, .iload_n 1, 1), (35, .iaload, 1), (36, .istore_n 3, 1), (37, .aload_n 0, 1), (38, .iload_n 1, 1), (39, .iload_n 2, 1), (40, .invokevirtual 56, 3), (43, .aload_n 0, 1), (44, .iload_n 1, 1), (45, .invokevirtual 60, 3), (48, .aload_n 0, 1), (49, .iload_n 2, 1), (50, .invokevirtual 45, 3), (53, .aload_n 0, 1), (54, .getfield 18, 3), (57, .iload_n 1, 1), (58, .iaload, 1), (59, .ldc 44, 2), (61, .if_icmp .ne 6, 3), (64, .bipush (-9), 2), (66, .ireturn, 1), (67, .iload_n 3, 1), (68, .aload_n 0, 1), (69, .getfield 18, 3), (72, .iload_n 1, 1), (73, .iaload, 1), (74, .iadd, 1), (75, .bipush 32, 2), (77, .idiv, 1), (78, .ireturn, 1)]
set_option maxRecDepth 100000 in
theorem pX3_leastLengthOfTwo_ok : (pX3_leastLengthOfTwo.all fun q => decide (decode cX3_leastLengthOfTwo q.1 = .ok (q.2.1, q.2.2))) = true := by decide +kernel
def pX4_headOf : aPg := [(0, .iload_n 1, 1), (1, .istore_n 2, 1), (2, .iconst 0, 1), (3, .istore_n 3, 1), (4, .iload_n 3, 1), (5, .bipush 10, 2), (7, .if_icmp .ge 26, 3), (10, .aload_n 0, 1), (11, .getfield 9, 3), (14, .iload_n 2, 1), (15, .iaload, 1), (16, .iload_n 2, 1), (17, .if_icmp .eq 16, 3), (20, .aload_n 0, 1), (21, .getfield 9, 3), (24, .iload_n 2, 1), (25, .iaload, 1), (26, .istore_n 2, 1), (27, .iinc 3 1, 3), (30, .goto (-26), 3), (33, .iload_n 2, 1), (34, .ireturn, 1)]
set_option maxRecDepth 100000 in
theorem pX4_headOf_ok : (pX4_headOf.all fun q => decide (decode cX4_headOf q.1 = .ok (q.2.1, q.2.2))) = true := by decide +kernel
def pX4_joins : aPg := [(0, .aload_n 0, 1), (1, .getfield 23, 3), (4, .getfield 70, 3), (7, .iload_n 1, 1), (8, .iaload, 1), (9, .iload_n 2, 1), (10, .iconst (-1), 1), (11, .ixor, 1), (12, .iand, 1), (13, .ifCond .eq 5, 3), (16, .iconst 0, 1), (17, .ireturn, 1), (18, .aload_n 0, 1), (19, .aload_n 0, 1), (20, .getfield 23, 3), (23, .getfield 73, 3), (26, .iload_n 1, 1), (27, .iaload, 1), (28, .invokevirtual 76, 3), (31, .istore_n 3, 1), (32, .aload_n 0, 1), (33, .aload_n 0, 1), (34, .getfield 23, 3), (37, .getfield 79, 3), (40, .iload_n 1, 1), (41, .iaload, 1), (42, .invokevirtual 76, 3), (45, .istore 4, 2), (47, .aload_n 0, 1), (48, .getfield 9, 3), (51, .iload_n 3, 1), (52, .iload 4, 2), (54, .iastore, 1), (55, .iload_n 3, 1), (56, .iload 4, 2), (58, .if_icmp .eq 7, 3), (61, .iconst 1, 1), (62, .goto 4, 3), (65, .iconst 0, 1), (66, .ireturn, 1)]
set_option maxRecDepth 100000 in
theorem pX4_joins_ok : (pX4_joins.all fun q => decide (decode cX4_joins q.1 = .ok (q.2.1, q.2.2))) = true := by decide +kernel
def pX4_treeLength : aPg := [(0, .iconst 0, 1), (1, .istore_n 2, 1), (2, .iload_n 2, 1), (3, .bipush 10, 2), (5, .if_icmp .ge 16, 3), (8, .aload_n 0, 1), (9, .getfield 9, 3), (12, .iload_n 2, 1), (13, .iload_n 2, 1), (14, .iastore, 1), (15, .iinc 2 1, 3), (18, .goto (-16), 3), (21, .iload_n 1, 1), (22, .invokestatic 51, 3), (25, .iconst 1, 1), (26, .isub, 1), (27, .istore_n 2, 1), (28, .iconst 0, 1), (29, .istore_n 3, 1), (30, .iconst 0, 1), (31, .istore 4, 2), (33, .iload 4, 2), (35, .aload_n 0, 1), (36, .getfield 23, 3), (39, .getfield 56, 3), (42, .if_icmp .ge 51, 3), (45, .iload_n 2, 1), (46, .ifCond .le 47, 3), (49, .aload_n 0, 1), (50, .getfield 23, 3), (53, .getfield 61, 3), (56, .iload 4, 2), (58, .iaload, 1), (59, .istore 5, 2), (61, .aload_n 0, 1), (62, .iload 5, 2), (64, .iload_n 1, 1), (65, .invokevirtual 64, 3), (68, .ifCond .eq 19, 3), (71, .iload_n 3, 1), (72, .aload_n 0, 1), (73, .getfield 23, 3), (76, .getfield 67, 3), (79, .iload 5, 2), (81, .iaload, 1), (82, .iadd, 1), (83, .istore_n 3, 1), (84, .iinc 2 (-1), 3), (87, .iinc 4 1, 3), (90, .goto (-57), 3), (93, .iload_n 2, 1), (94, .ifCond .ne 7, 3), (97, .iload_n 3, 1), (98, .goto 5, 3), (101, .ldc 18, 2), (103, .ireturn, 1)]
set_option maxRecDepth 100000 in
theorem pX4_treeLength_ok : (pX4_treeLength.all fun q => decide (decode cX4_treeLength q.1 = .ok (q.2.1, q.2.2))) = true := by decide +kernel
def pJ9_min_7cf53 : aPg := [(0, .iload_n 0, 1), (1, .iload_n 1, 1), (2, .if_icmp .gt 7, 3), (5, .iload_n 0, 1), (6, .goto 4, 3), (9, .iload_n 1, 1), (10, .ireturn, 1)]
set_option maxRecDepth 100000 in
theorem pJ9_min_7cf53_ok : (pJ9_min_7cf53.all fun q => decide (decode cJ9_min_7cf53 q.1 = .ok (q.2.1, q.2.2))) = true := by decide +kernel
def pX4_note : aPg := [(0, .iload_n 2, 1), (1, .ldc 18, 2), (3, .if_icmp .ne 4, 3), (6, .return_, 1), (7, .aload_n 0, 1), (8, .aload_n 0, 1), (9, .getfield 19, 3), (12, .iload_n 2, 1), (13, .invokestatic 45, 3), (16, .putfield 19, 3), (19, .iconst 0, 1), (20, .istore_n 3, 1), (21, .iload_n 3, 1), (22, .bipush 10, 2), (24, .if_icmp .ge 34, 3), (27, .iload_n 1, 1), (28, .iload_n 3, 1), (29, .invokestatic 41, 3), (32, .ifCond .ne 20, 3), (35, .iload_n 2, 1), (36, .aload_n 0, 1), (37, .getfield 15, 3), (40, .iload_n 3, 1), (41, .iaload, 1), (42, .if_icmp .ge 10, 3), (45, .aload_n 0, 1), (46, .getfield 15, 3), (49, .iload_n 3, 1), (50, .iload_n 2, 1), (51, .iastore, 1), (52, .iinc 3 1, 3), (55, .goto (-34), 3), (58, .return_, 1)]
set_option maxRecDepth 100000 in
theorem pX4_note_ok : (pX4_note.all fun q => decide (decode cX4_note q.1 = .ok (q.2.1, q.2.2))) = true := by decide +kernel
def pX4_compare : aPg := [(0, .aload_n 0, 1), (1, .ldc 18, 2), (3, .putfield 19, 3), (6, .aload_n 0, 1), (7, .getfield 15, 3), (10, .ldc 18, 2), (12, .invokestatic 27, 3), (15, .iconst 0, 1), (16, .istore_n 2, 1), (17, .iload_n 2, 1), (18, .sipush 1024, 3), (21, .if_icmp .ge 26, 3), (24, .iload_n 2, 1), (25, .iload_n 1, 1), (26, .iand, 1), (27, .iload_n 1, 1), (28, .if_icmp .ne 13, 3), (31, .aload_n 0, 1), (32, .iload_n 2, 1), (33, .aload_n 0, 1), (34, .iload_n 2, 1), (35, .invokevirtual 33, 3), (38, .invokevirtual 37, 3), (41, .iinc 2 1, 3), (44, .goto (-27), 3), (47, .return_, 1)]
set_option maxRecDepth 100000 in
theorem pX4_compare_ok : (pX4_compare.all fun q => decide (decode cX4_compare q.1 = .ok (q.2.1, q.2.2))) = true := by decide +kernel
def pX4_firstNeeded : aPg := [(0, .aload_n 0, 1), (1, .getfield 19, 3), (4, .ldc 18, 2), (6, .if_icmp .ne 6, 3), (9, .bipush (-9), 2), (11, .ireturn, 1), (12, .iconst 0, 1), (13, .istore_n 2, 1), (14, .iload_n 2, 1), (15, .bipush 10, 2), (17, .if_icmp .ge 32, 3), (20, .iload_n 1, 1), (21, .iload_n 2, 1), (22, .invokestatic 41, 3), (25, .ifCond .ne 18, 3), (28, .aload_n 0, 1), (29, .getfield 15, 3), (32, .iload_n 2, 1), (33, .iaload, 1), (34, .aload_n 0, 1), (35, .getfield 19, 3), (38, .if_icmp .le 5, 3), (41, .iload_n 2, 1), (42, .ireturn, 1), (43, .iinc 2 1, 3), (46, .goto (-32), 3), (49, .bipush (-9), 2), (51, .ireturn, 1)]
set_option maxRecDepth 100000 in
theorem pX4_firstNeeded_ok : (pX4_firstNeeded.all fun q => decide (decode cX4_firstNeeded q.1 = .ok (q.2.1, q.2.2))) = true := by decide +kernel
def pX5_add : aPg := [(0, .aload_n 0, 1), (1, .getfield 9, 3), (4, .istore 5, 2), (6, .aload_n 0, 1), (7, .getfield 15, 3), (10, .iload 5, 2), (12, .iload_n 1, 1), (13, .iastore, 1), (14, .aload_n 0, 1), (15, .getfield 19, 3), (18, .iload 5, 2), (20, .iload_n 2, 1), (21, .iastore, 1), (22, .aload_n 0, 1), (23, .getfield 22, 3), (26, .iload 5, 2), (28, .iload_n 3, 1), (29, .iastore, 1), (30, .aload_n 0, 1), (31, .getfield 25, 3), (34, .iload 5, 2), (36, .iload 4, 2), (38, .iastore, 1), (39, .aload_n 0, 1), (40, .iload 5, 2), (42, .iconst 1, 1), (43, .iadd, 1), (44, .putfield 9, 3), (47, .iload 5, 2), (49, .ireturn, 1)]
set_option maxRecDepth 100000 in
theorem pX5_add_ok : (pX5_add.all fun q => decide (decode cX5_add q.1 = .ok (q.2.1, q.2.2))) = true := by decide +kernel
def pX5_areApart : aPg := [(0, .aload_n 0, 1), (1, .getfield 40, 3), (4, .iload_n 1, 1), (5, .iaload, 1), (6, .iload_n 2, 1), (7, .invokestatic 43, 3), (10, .ireturn, 1)]
set_option maxRecDepth 100000 in
theorem pX5_areApart_ok : (pX5_areApart.all fun q => decide (decode cX5_areApart q.1 = .ok (q.2.1, q.2.2))) = true := by decide +kernel
def pX5_setApart : aPg := [(0, .aload_n 0, 1), (1, .getfield 40, 3), (4, .iload_n 1, 1), (5, .iload_n 3, 1), (6, .ifCond .eq 16, 3), (9, .aload_n 0, 1), (10, .getfield 40, 3), (13, .iload_n 1, 1), (14, .iaload, 1), (15, .iconst 1, 1), (16, .iload_n 2, 1), (17, .ishl, 1), (18, .ior, 1), (19, .goto 15, 3), (22, .aload_n 0, 1), (23, .getfield 40, 3), (26, .iload_n 1, 1), (27, .iaload, 1), (28, .iconst 1, 1), (29, .iload_n 2, 1), (30, .ishl, 1), (31, .iconst (-1), 1), (32, .ixor, 1), (33, .iand, 1), (34, .iastore, 1), (35, .aload_n 0, 1), (36, .getfield 40, 3), (39, .iload_n 2, 1), (40, .iload_n 3, 1), (41, .ifCond .eq 16, 3), (44, .aload_n 0, 1), (45, .getfield 40, 3), (48, .iload_n 2, 1), (49, .iaload, 1), (50, .iconst 1, 1), (51, .iload_n 1, 1), (52, .ishl, 1), (53, .ior, 1), (54, .goto 15, 3), (57, .aload_n 0, 1), (58, .getfield 40, 3), (61, .iload_n 2, 1), (62, .iaload, 1), (63, .iconst 1, 1), (64, .iload_n 1, 1), (65, .ishl, 1), (66, .iconst (-1), 1), (67, .ixor, 1), (68, .iand, 1), (69, .iastore, 1), (70, .return_, 1)]
set_option maxRecDepth 100000 in
theorem pX5_setApart_ok : (pX5_setApart.all fun q => decide (decode cX5_setApart q.1 = .ok (q.2.1, q.2.2))) = true := by decide +kernel
def pX5_isLaid : aPg := [(0, .aload_n 0, 1), (1, .getfield 31, 3), (4, .iload_n 1, 1), (5, .iaload, 1), (6, .ifCond .eq 7, 3), (9, .iconst 1, 1), (10, .goto 4, 3), (13, .iconst 0, 1), (14, .ireturn, 1)]
set_option maxRecDepth 100000 in
theorem pX5_isLaid_ok : (pX5_isLaid.all fun q => decide (decode cX5_isLaid q.1 = .ok (q.2.1, q.2.2))) = true := by decide +kernel
def pX5_putThrough : aPg := [(0, .iconst 0, 1), (1, .istore 5, 2), (3, .iconst 0, 1), (4, .istore 6, 2), (6, .iload 6, 2), (8, .iload_n 3, 1), (9, .if_icmp .ge 43, 3), (12, .iload 6, 2), (14, .bipush 9, 2), (16, .if_icmp .ge 36, 3), (19, .aload_n 0, 1), (20, .getfield 37, 3), (23, .iload_n 1, 1), (24, .bipush 9, 2), (26, .imul, 1), (27, .iload 6, 2), (29, .iadd, 1), (30, .aload_n 2, 1), (31, .iload 6, 2), (33, .iaload, 1), (34, .iastore, 1), (35, .iload 5, 2), (37, .iconst 1, 1), (38, .aload_n 2, 1), (39, .iload 6, 2), (41, .iaload, 1), (42, .ishl, 1), (43, .ior, 1), (44, .istore 5, 2), (46, .iinc 6 1, 3), (49, .goto (-43), 3), (52, .aload_n 0, 1), (53, .getfield 31, 3), (56, .iload_n 1, 1), (57, .iload 5, 2), (59, .iastore, 1), (60, .aload_n 0, 1), (61, .getfield 34, 3), (64, .iload_n 1, 1), (65, .iload 4, 2), (67, .iastore, 1), (68, .return_, 1)]
set_option maxRecDepth 100000 in
theorem pX5_putThrough_ok : (pX5_putThrough.all fun q => decide (decode cX5_putThrough q.1 = .ok (q.2.1, q.2.2))) = true := by decide +kernel
def pX5_takeOut : aPg := [(0, .aload_n 0, 1), (1, .getfield 31, 3), (4, .iload_n 1, 1), (5, .iconst 0, 1), (6, .iastore, 1), (7, .aload_n 0, 1), (8, .getfield 34, 3), (11, .iload_n 1, 1), (12, .iconst 0, 1), (13, .iastore, 1), (14, .return_, 1)]
set_option maxRecDepth 100000 in
theorem pX5_takeOut_ok : (pX5_takeOut.all fun q => decide (decode cX5_takeOut q.1 = .ok (q.2.1, q.2.2))) = true := by decide +kernel
def pX5_step : aPg := [(0, .iload_n 2, 1), (1, .ifCond .lt 16, 3), (4, .iload_n 2, 1), (5, .aload_n 0, 1), (6, .getfield 31, 3), (9, .iload_n 1, 1), (10, .iaload, 1), (11, .invokestatic 47, 3), (14, .if_icmp .lt 6, 3), (17, .bipush (-9), 2), (19, .ireturn, 1), (20, .aload_n 0, 1), (21, .getfield 37, 3), (24, .iload_n 1, 1), (25, .bipush 9, 2), (27, .imul, 1), (28, .iload_n 2, 1), (29, .iadd, 1), (30, .iaload, 1), (31, .ireturn, 1)]
set_option maxRecDepth 100000 in
theorem pX5_step_ok : (pX5_step.all fun q => decide (decode cX5_step q.1 = .ok (q.2.1, q.2.2))) = true := by decide +kernel
def pX5_mayGoThrough : aPg := [(0, .aload_n 0, 1), (1, .getfield 22, 3), (4, .iload_n 1, 1), (5, .iaload, 1), (6, .istore 4, 2), (8, .iconst 0, 1), (9, .istore 5, 2), (11, .iload 5, 2), (13, .aload_n 0, 1), (14, .getfield 9, 3), (17, .if_icmp .ge 57, 3), (20, .aload_n 0, 1), (21, .getfield 31, 3), (24, .iload 5, 2), (26, .iaload, 1), (27, .iload_n 2, 1), (28, .invokestatic 43, 3), (31, .ifCond .eq 37, 3), (34, .aload_n 0, 1), (35, .aload_n 0, 1), (36, .getfield 25, 3), (39, .iload_n 1, 1), (40, .iaload, 1), (41, .aload_n 0, 1), (42, .getfield 25, 3), (45, .iload 5, 2), (47, .iaload, 1), (48, .invokevirtual 53, 3), (51, .ifCond .eq 5, 3), (54, .iconst 0, 1), (55, .ireturn, 1), (56, .iload 4, 2), (58, .aload_n 0, 1), (59, .getfield 22, 3), (62, .iload 5, 2), (64, .iaload, 1), (65, .iadd, 1), (66, .istore 4, 2), (68, .iinc 5 1, 3), (71, .goto (-60), 3), (74, .iload 4, 2), (76, .iload_n 3, 1), (77, .if_icmp .gt 7, 3), (80, .iconst 1, 1), (81, .goto 4, 3), (84, .iconst 0, 1), (85, .ireturn, 1)]
set_option maxRecDepth 100000 in
theorem pX5_mayGoThrough_ok : (pX5_mayGoThrough.all fun q => decide (decode cX5_mayGoThrough q.1 = .ok (q.2.1, q.2.2))) = true := by decide +kernel
def pX5_laidThrough : aPg := [(0, .iconst 0, 1), (1, .istore_n 2, 1), (2, .iconst 0, 1), (3, .istore_n 3, 1), (4, .iload_n 3, 1), (5, .aload_n 0, 1), (6, .getfield 9, 3), (9, .if_icmp .ge 25, 3), (12, .aload_n 0, 1), (13, .getfield 31, 3), (16, .iload_n 3, 1), (17, .iaload, 1), (18, .iload_n 1, 1), (19, .invokestatic 43, 3), (22, .ifCond .eq 6, 3), (25, .iinc 2 1, 3), (28, .iinc 3 1, 3), (31, .goto (-27), 3), (34, .iload_n 2, 1), (35, .ireturn, 1)]
set_option maxRecDepth 100000 in
theorem pX5_laidThrough_ok : (pX5_laidThrough.all fun q => decide (decode cX5_laidThrough q.1 = .ok (q.2.1, q.2.2))) = true := by decide +kernel
def pX5_thicknessThrough : aPg := [(0, .iconst 0, 1), (1, .istore_n 2, 1), (2, .iconst 0, 1), (3, .istore_n 3, 1), (4, .iload_n 3, 1), (5, .aload_n 0, 1), (6, .getfield 9, 3), (9, .if_icmp .ge 31, 3), (12, .aload_n 0, 1), (13, .getfield 31, 3), (16, .iload_n 3, 1), (17, .iaload, 1), (18, .iload_n 1, 1), (19, .invokestatic 43, 3), (22, .ifCond .eq 12, 3), (25, .iload_n 2, 1), (26, .aload_n 0, 1), (27, .getfield 22, 3), (30, .iload_n 3, 1), (31, .iaload, 1), (32, .iadd, 1), (33, .istore_n 2, 1), (34, .iinc 3 1, 3), (37, .goto (-33), 3), (40, .iload_n 2, 1), (41, .ireturn, 1)]
set_option maxRecDepth 100000 in
theorem pX5_thicknessThrough_ok : (pX5_thicknessThrough.all fun q => decide (decode cX5_thicknessThrough q.1 = .ok (q.2.1, q.2.2))) = true := by decide +kernel
def pX5_isClashing : aPg := [(0, .iconst 0, 1), (1, .istore_n 2, 1), (2, .iload_n 2, 1), (3, .aload_n 0, 1), (4, .getfield 9, 3), (7, .if_icmp .ge 56, 3), (10, .aload_n 0, 1), (11, .getfield 31, 3), (14, .iload_n 1, 1), (15, .iaload, 1), (16, .aload_n 0, 1), (17, .getfield 31, 3), (20, .iload_n 2, 1), (21, .iaload, 1), (22, .iand, 1), (23, .ifCond .eq 7, 3), (26, .iconst 1, 1), (27, .goto 4, 3), (30, .iconst 0, 1), (31, .istore_n 3, 1), (32, .iload_n 3, 1), (33, .ifCond .eq 24, 3), (36, .aload_n 0, 1), (37, .aload_n 0, 1), (38, .getfield 25, 3), (41, .iload_n 1, 1), (42, .iaload, 1), (43, .aload_n 0, 1), (44, .getfield 25, 3), (47, .iload_n 2, 1), (48, .iaload, 1), (49, .invokevirtual 53, 3), (52, .ifCond .eq 5, 3), (55, .iconst 1, 1), (56, .ireturn, 1), (57, .iinc 2 1, 3), (60, .goto (-58), 3), (63, .iconst 0, 1), (64, .ireturn, 1)]
set_option maxRecDepth 100000 in
theorem pX5_isClashing_ok : (pX5_isClashing.all fun q => decide (decode cX5_isClashing q.1 = .ok (q.2.1, q.2.2))) = true := by decide +kernel
def pX5_laid : aPg := [(0, .iconst 0, 1), (1, .istore_n 1, 1), (2, .iconst 0, 1), (3, .istore_n 2, 1), (4, .iload_n 2, 1), (5, .aload_n 0, 1), (6, .getfield 9, 3), (9, .if_icmp .ge 20, 3), (12, .aload_n 0, 1), (13, .iload_n 2, 1), (14, .invokevirtual 56, 3), (17, .ifCond .eq 6, 3), (20, .iinc 1 1, 3), (23, .iinc 2 1, 3), (26, .goto (-22), 3), (29, .iload_n 1, 1), (30, .ireturn, 1)]
set_option maxRecDepth 100000 in
theorem pX5_laid_ok : (pX5_laid.all fun q => decide (decode cX5_laid q.1 = .ok (q.2.1, q.2.2))) = true := by decide +kernel
def pX5_laidLength : aPg := [(0, .iconst 0, 1), (1, .istore_n 1, 1), (2, .iconst 0, 1), (3, .istore_n 2, 1), (4, .iload_n 2, 1), (5, .aload_n 0, 1), (6, .getfield 9, 3), (9, .if_icmp .ge 18, 3), (12, .iload_n 1, 1), (13, .aload_n 0, 1), (14, .getfield 34, 3), (17, .iload_n 2, 1), (18, .iaload, 1), (19, .iadd, 1), (20, .istore_n 1, 1), (21, .iinc 2 1, 3), (24, .goto (-20), 3), (27, .iload_n 1, 1), (28, .ireturn, 1)]
set_option maxRecDepth 100000 in
theorem pX5_laidLength_ok : (pX5_laidLength.all fun q => decide (decode cX5_laidLength q.1 = .ok (q.2.1, q.2.2))) = true := by decide +kernel
def pX6_isWithin : aPg := [(0, .iload_n 0, 1), (1, .iload_n 1, 1), (2, .if_icmp .lt 12, 3), (5, .iload_n 0, 1), (6, .iload_n 2, 1), (7, .if_icmp .gt 7, 3), (10, .iconst 1, 1), (11, .goto 4, 3), (14, .iconst 0, 1), (15, .ireturn, 1)]
set_option maxRecDepth 100000 in
theorem pX6_isWithin_ok : (pX6_isWithin.all fun q => decide (decode cX6_isWithin q.1 = .ok (q.2.1, q.2.2))) = true := by decide +kernel
def pX6_isPlace : aPg := [(0, .iload_n 0, 1), (1, .iconst 0, 1), (2, .bipush 9, 2), (4, .invokestatic 59, 3), (7, .ireturn, 1)]
set_option maxRecDepth 100000 in
theorem pX6_isPlace_ok : (pX6_isPlace.all fun q => decide (decode cX6_isPlace q.1 = .ok (q.2.1, q.2.2))) = true := by decide +kernel
def pX6_duct : aPg := [(0, .iload_n 1, 1), (1, .invokestatic 55, 3), (4, .ifCond .eq 10, 3), (7, .iload_n 2, 1), (8, .invokestatic 55, 3), (11, .ifCond .ne 5, 3), (14, .iconst (-1), 1), (15, .ireturn, 1), (16, .iload_n 3, 1), (17, .iconst 1, 1), (18, .bipush 99, 2), (20, .invokestatic 59, 3), (23, .ifCond .eq 15, 3), (26, .iload 4, 2), (28, .iconst 1, 1), (29, .sipush 300, 3), (32, .invokestatic 59, 3), (35, .ifCond .ne 6, 3), (38, .bipush (-2), 2), (40, .ireturn, 1), (41, .iload_n 1, 1), (42, .iload_n 2, 1), (43, .if_icmp .ne 6, 3), (46, .bipush (-3), 2), (48, .ireturn, 1), (49, .aload_n 0, 1), (50, .getfield 12, 3), (53, .getfield 63, 3), (56, .bipush 16, 2), (58, .if_icmp .lt 6, 3), (61, .bipush (-4), 2), (63, .ireturn, 1), (64, .aload_n 0, 1), (65, .getfield 12, 3), (68, .iload_n 1, 1), (69, .iload_n 2, 1), (70, .iload_n 3, 1), (71, .iload 4, 2), (73, .invokevirtual 67, 3), (76, .ireturn, 1)]
set_option maxRecDepth 100000 in
theorem pX6_duct_ok : (pX6_duct.all fun q => decide (decode cX6_duct q.1 = .ok (q.2.1, q.2.2))) = true := by decide +kernel
def pX6_isKind : aPg := [(0, .iload_n 0, 1), (1, .iconst 0, 1), (2, .iconst 3, 1), (3, .invokestatic 59, 3), (6, .ireturn, 1)]
set_option maxRecDepth 100000 in
theorem pX6_isKind_ok : (pX6_isKind.all fun q => decide (decode cX6_isKind q.1 = .ok (q.2.1, q.2.2))) = true := by decide +kernel
def pX6_wire : aPg := [(0, .iload_n 1, 1), (1, .invokestatic 55, 3), (4, .ifCond .eq 10, 3), (7, .iload_n 2, 1), (8, .invokestatic 55, 3), (11, .ifCond .ne 5, 3), (14, .iconst (-1), 1), (15, .ireturn, 1), (16, .iload_n 3, 1), (17, .iconst 1, 1), (18, .bipush 50, 2), (20, .invokestatic 59, 3), (23, .ifCond .eq 11, 3), (26, .iload 4, 2), (28, .invokestatic 71, 3), (31, .ifCond .ne 6, 3), (34, .bipush (-2), 2), (36, .ireturn, 1), (37, .iload_n 1, 1), (38, .iload_n 2, 1), (39, .if_icmp .ne 6, 3), (42, .bipush (-3), 2), (44, .ireturn, 1), (45, .aload_n 0, 1), (46, .getfield 19, 3), (49, .getfield 74, 3), (52, .bipush 20, 2), (54, .if_icmp .lt 6, 3), (57, .bipush (-4), 2), (59, .ireturn, 1), (60, .aload_n 0, 1), (61, .getfield 44, 3), (64, .iconst 1, 1), (65, .putfield 75, 3), (68, .aload_n 0, 1), (69, .getfield 19, 3), (72, .iload_n 1, 1), (73, .iload_n 2, 1), (74, .iload_n 3, 1), (75, .iload 4, 2), (77, .invokevirtual 79, 3), (80, .ireturn, 1)]
set_option maxRecDepth 100000 in
theorem pX6_wire_ok : (pX6_wire.all fun q => decide (decode cX6_wire q.1 = .ok (q.2.1, q.2.2))) = true := by decide +kernel
def pX6_apart : aPg := [(0, .iload_n 1, 1), (1, .invokestatic 71, 3), (4, .ifCond .eq 10, 3), (7, .iload_n 2, 1), (8, .invokestatic 71, 3), (11, .ifCond .ne 6, 3), (14, .bipush (-2), 2), (16, .ireturn, 1), (17, .iload_n 1, 1), (18, .iload_n 2, 1), (19, .if_icmp .ne 6, 3), (22, .bipush (-3), 2), (24, .ireturn, 1), (25, .aload_n 0, 1), (26, .getfield 19, 3), (29, .iload_n 1, 1), (30, .iload_n 2, 1), (31, .invokevirtual 80, 3), (34, .ifCond .eq 7, 3), (37, .iconst 1, 1), (38, .goto 4, 3), (41, .iconst 0, 1), (42, .istore 4, 2), (44, .aload_n 0, 1), (45, .getfield 19, 3), (48, .iload_n 1, 1), (49, .iload_n 2, 1), (50, .iload_n 3, 1), (51, .invokevirtual 84, 3), (54, .iload 4, 2), (56, .ireturn, 1)]
set_option maxRecDepth 100000 in
theorem pX6_apart_ok : (pX6_apart.all fun q => decide (decode cX6_apart q.1 = .ok (q.2.1, q.2.2))) = true := by decide +kernel
def pX6_isWire : aPg := [(0, .iload_n 1, 1), (1, .iconst 0, 1), (2, .aload_n 0, 1), (3, .getfield 19, 3), (6, .getfield 74, 3), (9, .iconst 1, 1), (10, .isub, 1), (11, .invokestatic 59, 3), (14, .ireturn, 1)]
set_option maxRecDepth 100000 in
theorem pX6_isWire_ok : (pX6_isWire.all fun q => decide (decode cX6_isWire q.1 = .ok (q.2.1, q.2.2))) = true := by decide +kernel
def pX6_openDucts : aPg := [(0, .iconst 0, 1), (1, .istore_n 2, 1), (2, .iconst 0, 1), (3, .istore_n 3, 1), (4, .iload_n 3, 1), (5, .aload_n 0, 1), (6, .getfield 12, 3), (9, .getfield 63, 3), (12, .if_icmp .ge 36, 3), (15, .aload_n 0, 1), (16, .getfield 19, 3), (19, .iload_n 1, 1), (20, .iload_n 3, 1), (21, .aload_n 0, 1), (22, .getfield 12, 3), (25, .getfield 139, 3), (28, .iload_n 3, 1), (29, .iaload, 1), (30, .invokevirtual 233, 3), (33, .ifCond .eq 9, 3), (36, .iload_n 2, 1), (37, .iconst 1, 1), (38, .iload_n 3, 1), (39, .ishl, 1), (40, .ior, 1), (41, .istore_n 2, 1), (42, .iinc 3 1, 3), (45, .goto (-41), 3), (48, .iload_n 2, 1), (49, .ireturn, 1)]
set_option maxRecDepth 100000 in
theorem pX6_openDucts_ok : (pX6_openDucts.all fun q => decide (decode cX6_openDucts q.1 = .ok (q.2.1, q.2.2))) = true := by decide +kernel
def pX6_lay : aPg := [(0, .aload_n 0, 1), (1, .iload_n 1, 1), (2, .invokevirtual 88, 3), (5, .ifCond .ne 5, 3), (8, .iconst (-1), 1), (9, .ireturn, 1), (10, .aload_n 0, 1), (11, .getfield 19, 3), (14, .iload_n 1, 1), (15, .invokevirtual 91, 3), (18, .ifCond .eq 6, 3), (21, .bipush (-3), 2), (23, .ireturn, 1), (24, .aload_n 0, 1), (25, .getfield 28, 3), (28, .aload_n 0, 1), (29, .iload_n 1, 1), (30, .invokevirtual 94, 3), (33, .invokevirtual 98, 3), (36, .aload_n 0, 1), (37, .getfield 28, 3), (40, .aload_n 0, 1), (41, .getfield 19, 3), (44, .getfield 102, 3), (47, .iload_n 1, 1), (48, .iaload, 1), (49, .aload_n 0, 1), (50, .getfield 19, 3), (53, .getfield 106, 3), (56, .iload_n 1, 1), (57, .iaload, 1), (58, .invokevirtual 109, 3), (61, .istore_n 2, 1), (62, .iload_n 2, 1), (63, .bipush (-9), 2), (65, .if_icmp .ne 6, 3), (68, .bipush (-9), 2), (70, .ireturn, 1), (71, .aload_n 0, 1), (72, .getfield 28, 3), (75, .aload_n 0, 1), (76, .getfield 19, 3), (79, .getfield 102, 3), (82, .iload_n 1, 1), (83, .iaload, 1), (84, .aload_n 0, 1), (85, .getfield 19, 3), (88, .getfield 106, 3), (91, .iload_n 1, 1), (92, .iaload, 1), (93, .invokevirtual 113, 3), (96, .aload_n 0, 1), (97, .getfield 19, 3), (100, .iload_n 1, 1), (101, .aload_n 0, 1), (102, .getfield 28, 3), (105, .getfield 117, 3), (108, .aload_n 0, 1), (109, .getfield 28, 3), (112, .getfield 120, 3), (115, .iload_n 2, 1), (116, .invokevirtual 123, 3), (119, .iload_n 2, 1), (120, .ireturn, 1)]
set_option maxRecDepth 100000 in
theorem pX6_lay_ok : (pX6_lay.all fun q => decide (decode cX6_lay q.1 = .ok (q.2.1, q.2.2))) = true := by decide +kernel
def pX6_lift : aPg := [(0, .aload_n 0, 1), (1, .iload_n 1, 1), (2, .invokevirtual 88, 3), (5, .ifCond .ne 5, 3), (8, .iconst (-1), 1), (9, .ireturn, 1), (10, .aload_n 0, 1), (11, .getfield 19, 3), (14, .iload_n 1, 1), (15, .invokevirtual 91, 3), (18, .ifCond .ne 6, 3), (21, .bipush (-3), 2), (23, .ireturn, 1), (24, .aload_n 0, 1), (25, .getfield 19, 3), (28, .getfield 127, 3), (31, .iload_n 1, 1), (32, .iaload, 1), (33, .istore_n 2, 1), (34, .aload_n 0, 1), (35, .getfield 19, 3), (38, .iload_n 1, 1), (39, .invokevirtual 130, 3), (42, .iload_n 2, 1), (43, .ireturn, 1)]
set_option maxRecDepth 100000 in
theorem pX6_lift_ok : (pX6_lift.all fun q => decide (decode cX6_lift q.1 = .ok (q.2.1, q.2.2))) = true := by decide +kernel
def pX6_way : aPg := [(0, .aload_n 0, 1), (1, .iload_n 1, 1), (2, .invokevirtual 88, 3), (5, .ifCond .ne 5, 3), (8, .iconst (-1), 1), (9, .ireturn, 1), (10, .aload_n 0, 1), (11, .getfield 19, 3), (14, .iload_n 1, 1), (15, .iload_n 2, 1), (16, .invokevirtual 133, 3), (19, .ireturn, 1)]
set_option maxRecDepth 100000 in
theorem pX6_way_ok : (pX6_way.all fun q => decide (decode cX6_way q.1 = .ok (q.2.1, q.2.2))) = true := by decide +kernel
def pX6_length : aPg := [(0, .aload_n 0, 1), (1, .iload_n 1, 1), (2, .invokevirtual 88, 3), (5, .ifCond .ne 5, 3), (8, .iconst (-1), 1), (9, .ireturn, 1), (10, .aload_n 0, 1), (11, .getfield 19, 3), (14, .iload_n 1, 1), (15, .invokevirtual 91, 3), (18, .ifCond .eq 15, 3), (21, .aload_n 0, 1), (22, .getfield 19, 3), (25, .getfield 127, 3), (28, .iload_n 1, 1), (29, .iaload, 1), (30, .goto 5, 3), (33, .bipush (-9), 2), (35, .ireturn, 1)]
set_option maxRecDepth 100000 in
theorem pX6_length_ok : (pX6_length.all fun q => decide (decode cX6_length q.1 = .ok (q.2.1, q.2.2))) = true := by decide +kernel
def pX6_left : aPg := [(0, .iload_n 1, 1), (1, .iconst 0, 1), (2, .aload_n 0, 1), (3, .getfield 12, 3), (6, .getfield 63, 3), (9, .iconst 1, 1), (10, .isub, 1), (11, .invokestatic 59, 3), (14, .ifCond .ne 5, 3), (17, .iconst (-1), 1), (18, .ireturn, 1), (19, .iload_n 2, 1), (20, .ifCond .eq 12, 3), (23, .aload_n 0, 1), (24, .getfield 19, 3), (27, .iload_n 1, 1), (28, .invokevirtual 136, 3), (31, .ireturn, 1), (32, .aload_n 0, 1), (33, .getfield 12, 3), (36, .getfield 139, 3), (39, .iload_n 1, 1), (40, .iaload, 1), (41, .aload_n 0, 1), (42, .getfield 19, 3), (45, .iload_n 1, 1), (46, .invokevirtual 142, 3), (49, .isub, 1), (50, .ireturn, 1)]
set_option maxRecDepth 100000 in
theorem pX6_left_ok : (pX6_left.all fun q => decide (decode cX6_left q.1 = .ok (q.2.1, q.2.2))) = true := by decide +kernel
def pX6_dividedUp : aPg := [(0, .iload_n 1, 1), (1, .iconst 1, 1), (2, .if_icmp .ge 7, 3), (5, .iload_n 0, 1), (6, .goto 10, 3), (9, .iload_n 0, 1), (10, .iload_n 1, 1), (11, .iadd, 1), (12, .iconst 1, 1), (13, .isub, 1), (14, .iload_n 1, 1), (15, .idiv, 1), (16, .ireturn, 1)]
set_option maxRecDepth 100000 in
theorem pX6_dividedUp_ok : (pX6_dividedUp.all fun q => decide (decode cX6_dividedUp q.1 = .ok (q.2.1, q.2.2))) = true := by decide +kernel
def pX6_loss : aPg := [(0, .aload_n 0, 1), (1, .iload_n 1, 1), (2, .invokevirtual 88, 3), (5, .ifCond .ne 5, 3), (8, .iconst (-1), 1), (9, .ireturn, 1), (10, .iload_n 2, 1), (11, .iconst 1, 1), (12, .bipush 100, 2), (14, .invokestatic 59, 3), (17, .ifCond .ne 6, 3), (20, .bipush (-2), 2), (22, .ireturn, 1), (23, .aload_n 0, 1), (24, .getfield 19, 3), (27, .iload_n 1, 1), (28, .invokevirtual 91, 3), (31, .ifCond .ne 6, 3), (34, .bipush (-3), 2), (36, .ireturn, 1), (37, .bipush 20, 2), (39, .iload_n 2, 1), (40, .imul, 1), (41, .aload_n 0, 1), (42, .getfield 19, 3), (45, .getfield 127, 3), (48, .iload_n 1, 1), (49, .iaload, 1), (50, .imul, 1), (51, .aload_n 0, 1), (52, .getfield 19, 3), (55, .getfield 145, 3), (58, .iload_n 1, 1), (59, .iaload, 1), (60, .invokestatic 148, 3), (63, .ireturn, 1)]
set_option maxRecDepth 100000 in
theorem pX6_loss_ok : (pX6_loss.all fun q => decide (decode cX6_loss q.1 = .ok (q.2.1, q.2.2))) = true := by decide +kernel
def pX6_clashes : aPg := [(0, .iconst 0, 1), (1, .istore_n 1, 1), (2, .iconst 0, 1), (3, .istore_n 2, 1), (4, .iload_n 2, 1), (5, .aload_n 0, 1), (6, .getfield 19, 3), (9, .getfield 74, 3), (12, .if_icmp .ge 23, 3), (15, .aload_n 0, 1), (16, .getfield 19, 3), (19, .iload_n 2, 1), (20, .invokevirtual 151, 3), (23, .ifCond .eq 6, 3), (26, .iinc 1 1, 3), (29, .iinc 2 1, 3), (32, .goto (-28), 3), (35, .iload_n 1, 1), (36, .ireturn, 1)]
set_option maxRecDepth 100000 in
theorem pX6_clashes_ok : (pX6_clashes.all fun q => decide (decode cX6_clashes q.1 = .ok (q.2.1, q.2.2))) = true := by decide +kernel
def pX6_far : aPg := [(0, .iload_n 1, 1), (1, .invokestatic 55, 3), (4, .ifCond .eq 10, 3), (7, .iload_n 2, 1), (8, .invokestatic 55, 3), (11, .ifCond .ne 5, 3), (14, .iconst (-1), 1), (15, .ireturn, 1), (16, .iload_n 1, 1), (17, .iload_n 2, 1), (18, .if_icmp .ne 6, 3), (21, .bipush (-3), 2), (23, .ireturn, 1), (24, .aload_n 0, 1), (25, .getfield 28, 3), (28, .aload_n 0, 1), (29, .getfield 12, 3), (32, .invokevirtual 154, 3), (35, .invokevirtual 98, 3), (38, .aload_n 0, 1), (39, .getfield 28, 3), (42, .iload_n 1, 1), (43, .iload_n 2, 1), (44, .invokevirtual 109, 3), (47, .ireturn, 1)]
set_option maxRecDepth 100000 in
theorem pX6_far_ok : (pX6_far.all fun q => decide (decode cX6_far q.1 = .ok (q.2.1, q.2.2))) = true := by decide +kernel
def pX6_two : aPg := [(0, .iload_n 1, 1), (1, .invokestatic 55, 3), (4, .ifCond .eq 10, 3), (7, .iload_n 2, 1), (8, .invokestatic 55, 3), (11, .ifCond .ne 5, 3), (14, .iconst (-1), 1), (15, .ireturn, 1), (16, .iload_n 1, 1), (17, .iload_n 2, 1), (18, .if_icmp .ne 6, 3), (21, .bipush (-3), 2), (23, .ireturn, 1), (24, .aload_n 0, 1), (25, .getfield 28, 3), (28, .iload_n 1, 1), (29, .iload_n 2, 1), (30, .invokevirtual 158, 3), (33, .ireturn, 1)]
set_option maxRecDepth 100000 in
theorem pX6_two_ok : (pX6_two.all fun q => decide (decode cX6_two q.1 = .ok (q.2.1, q.2.2))) = true := by decide +kernel
def pX6_isNetOfPlaces : aPg := [(0, .iload_n 0, 1), (1, .iconst 0, 1), (2, .sipush 1023, 3), (5, .invokestatic 59, 3), (8, .ifCond .eq 15, 3), (11, .iload_n 0, 1), (12, .invokestatic 225, 3), (15, .iconst 2, 1), (16, .if_icmp .lt 7, 3), (19, .iconst 1, 1), (20, .goto 4, 3), (23, .iconst 0, 1), (24, .ireturn, 1)]
set_option maxRecDepth 100000 in
theorem pX6_isNetOfPlaces_ok : (pX6_isNetOfPlaces.all fun q => decide (decode cX6_isNetOfPlaces q.1 = .ok (q.2.1, q.2.2))) = true := by decide +kernel
def pX6_net : aPg := [(0, .iload_n 1, 1), (1, .invokestatic 161, 3), (4, .ifCond .ne 6, 3), (7, .bipush (-2), 2), (9, .ireturn, 1), (10, .aload_n 0, 1), (11, .getfield 35, 3), (14, .iload_n 1, 1), (15, .invokevirtual 164, 3), (18, .aload_n 0, 1), (19, .getfield 35, 3), (22, .getfield 167, 3), (25, .ldc 170, 2), (27, .if_icmp .ne 8, 3), (30, .bipush (-9), 2), (32, .goto 10, 3), (35, .aload_n 0, 1), (36, .getfield 35, 3), (39, .getfield 167, 3), (42, .ireturn, 1)]
set_option maxRecDepth 100000 in
theorem pX6_net_ok : (pX6_net.all fun q => decide (decode cX6_net q.1 = .ok (q.2.1, q.2.2))) = true := by decide +kernel
def pX6_splice : aPg := [(0, .iload_n 1, 1), (1, .invokestatic 161, 3), (4, .ifCond .ne 6, 3), (7, .bipush (-2), 2), (9, .ireturn, 1), (10, .aload_n 0, 1), (11, .getfield 35, 3), (14, .iload_n 1, 1), (15, .invokevirtual 164, 3), (18, .aload_n 0, 1), (19, .getfield 35, 3), (22, .iload_n 1, 1), (23, .invokevirtual 171, 3), (26, .ireturn, 1)]
set_option maxRecDepth 100000 in
theorem pX6_splice_ok : (pX6_splice.all fun q => decide (decode cX6_splice q.1 = .ok (q.2.1, q.2.2))) = true := by decide +kernel
def pX6_option : aPg := [(0, .aload_n 0, 1), (1, .iload_n 1, 1), (2, .invokevirtual 88, 3), (5, .ifCond .ne 5, 3), (8, .iconst (-1), 1), (9, .ireturn, 1), (10, .iload_n 2, 1), (11, .iconst 0, 1), (12, .sipush 255, 3), (15, .invokestatic 59, 3), (18, .ifCond .ne 6, 3), (21, .bipush (-2), 2), (23, .ireturn, 1), (24, .aload_n 0, 1), (25, .getfield 19, 3), (28, .getfield 174, 3), (31, .iload_n 1, 1), (32, .iaload, 1), (33, .istore_n 3, 1), (34, .aload_n 0, 1), (35, .getfield 19, 3), (38, .getfield 174, 3), (41, .iload_n 1, 1), (42, .iload_n 2, 1), (43, .iastore, 1), (44, .aload_n 0, 1), (45, .getfield 44, 3), (48, .iconst 1, 1), (49, .putfield 75, 3), (52, .iload_n 3, 1), (53, .ireturn, 1)]
set_option maxRecDepth 100000 in
theorem pX6_option_ok : (pX6_option.all fun q => decide (decode cX6_option q.1 = .ok (q.2.1, q.2.2))) = true := by decide +kernel
def pX6_order : aPg := [(0, .iload_n 1, 1), (1, .iconst 0, 1), (2, .sipush 255, 3), (5, .invokestatic 59, 3), (8, .ifCond .eq 14, 3), (11, .iload_n 2, 1), (12, .iconst 1, 1), (13, .sipush 1000, 3), (16, .invokestatic 59, 3), (19, .ifCond .ne 6, 3), (22, .bipush (-2), 2), (24, .ireturn, 1), (25, .aload_n 0, 1), (26, .getfield 44, 3), (29, .getfield 177, 3), (32, .bipush 8, 2), (34, .if_icmp .lt 6, 3), (37, .bipush (-4), 2), (39, .ireturn, 1), (40, .aload_n 0, 1), (41, .getfield 44, 3), (44, .iload_n 1, 1), (45, .iload_n 2, 1), (46, .invokevirtual 178, 3), (49, .ireturn, 1)]
set_option maxRecDepth 100000 in
theorem pX6_order_ok : (pX6_order.all fun q => decide (decode cX6_order q.1 = .ok (q.2.1, q.2.2))) = true := by decide +kernel
def pX6_setup : aPg := [(0, .iload_n 1, 1), (1, .iconst 0, 1), (2, .ldc 180, 2), (4, .invokestatic 59, 3), (7, .ifCond .ne 6, 3), (10, .bipush (-2), 2), (12, .ireturn, 1), (13, .aload_n 0, 1), (14, .getfield 44, 3), (17, .getfield 181, 3), (20, .istore_n 2, 1), (21, .aload_n 0, 1), (22, .getfield 44, 3), (25, .iload_n 1, 1), (26, .putfield 181, 3), (29, .aload_n 0, 1), (30, .getfield 44, 3), (33, .iconst 1, 1), (34, .putfield 75, 3), (37, .iload_n 2, 1), (38, .ireturn, 1)]
set_option maxRecDepth 100000 in
theorem pX6_setup_ok : (pX6_setup.all fun q => decide (decode cX6_setup q.1 = .ok (q.2.1, q.2.2))) = true := by decide +kernel
def pX6_weight : aPg := [(0, .iload_n 1, 1), (1, .aload_n 0, 1), (2, .getfield 44, 3), (5, .invokevirtual 184, 3), (8, .iconst (-1), 1), (9, .ixor, 1), (10, .iand, 1), (11, .ifCond .eq 5, 3), (14, .iconst (-1), 1), (15, .ireturn, 1), (16, .aload_n 0, 1), (17, .getfield 19, 3), (20, .aload_n 0, 1), (21, .getfield 44, 3), (24, .iload_n 1, 1), (25, .invokevirtual 185, 3), (28, .invokevirtual 188, 3), (31, .ireturn, 1)]
set_option maxRecDepth 100000 in
theorem pX6_weight_ok : (pX6_weight.all fun q => decide (decode cX6_weight q.1 = .ok (q.2.1, q.2.2))) = true := by decide +kernel
def pX6_best : aPg := [(0, .aload_n 0, 1), (1, .getfield 44, 3), (4, .invokevirtual 191, 3), (7, .lreturn, 1)]
set_option maxRecDepth 100000 in
theorem pX6_best_ok : (pX6_best.all fun q => decide (decode cX6_best q.1 = .ok (q.2.1, q.2.2))) = true := by decide +kernel
def pX6_loom : aPg := [(0, .iload_n 1, 1), (1, .iconst 0, 1), (2, .aload_n 0, 1), (3, .getfield 44, 3), (6, .getfield 177, 3), (9, .iconst 1, 1), (10, .isub, 1), (11, .invokestatic 59, 3), (14, .ifCond .ne 5, 3), (17, .iconst (-1), 1), (18, .ireturn, 1), (19, .aload_n 0, 1), (20, .getfield 44, 3), (23, .iload_n 1, 1), (24, .invokevirtual 195, 3), (27, .ireturn, 1)]
set_option maxRecDepth 100000 in
theorem pX6_loom_ok : (pX6_loom.all fun q => decide (decode cX6_loom q.1 = .ok (q.2.1, q.2.2))) = true := by decide +kernel
def pX6_alike : aPg := [(0, .iconst 0, 1), (1, .istore_n 1, 1), (2, .iconst 0, 1), (3, .istore_n 2, 1), (4, .iload_n 2, 1), (5, .aload_n 0, 1), (6, .getfield 44, 3), (9, .getfield 177, 3), (12, .if_icmp .ge 23, 3), (15, .aload_n 0, 1), (16, .getfield 44, 3), (19, .iload_n 2, 1), (20, .invokevirtual 198, 3), (23, .ifCond .eq 6, 3), (26, .iinc 1 1, 3), (29, .iinc 2 1, 3), (32, .goto (-28), 3), (35, .iload_n 1, 1), (36, .ireturn, 1)]
set_option maxRecDepth 100000 in
theorem pX6_alike_ok : (pX6_alike.all fun q => decide (decode cX6_alike q.1 = .ok (q.2.1, q.2.2))) = true := by decide +kernel
def pX6_isPin : aPg := [(0, .iload_n 0, 1), (1, .iconst 0, 1), (2, .bipush 15, 2), (4, .invokestatic 59, 3), (7, .ireturn, 1)]
set_option maxRecDepth 100000 in
theorem pX6_isPin_ok : (pX6_isPin.all fun q => decide (decode cX6_isPin q.1 = .ok (q.2.1, q.2.2))) = true := by decide +kernel
def pX6_isNet : aPg := [(0, .iload_n 0, 1), (1, .iconst 0, 1), (2, .bipush 7, 2), (4, .invokestatic 59, 3), (7, .ireturn, 1)]
set_option maxRecDepth 100000 in
theorem pX6_isNet_ok : (pX6_isNet.all fun q => decide (decode cX6_isNet q.1 = .ok (q.2.1, q.2.2))) = true := by decide +kernel
def pX6_pin : aPg := [(0, .iload_n 1, 1), (1, .invokestatic 201, 3), (4, .ifCond .eq 10, 3), (7, .iload_n 2, 1), (8, .invokestatic 204, 3), (11, .ifCond .ne 5, 3), (14, .iconst (-1), 1), (15, .ireturn, 1), (16, .aload_n 0, 1), (17, .getfield 51, 3), (20, .getfield 207, 3), (23, .iload_n 1, 1), (24, .iaload, 1), (25, .istore_n 3, 1), (26, .aload_n 0, 1), (27, .getfield 51, 3), (30, .getfield 207, 3), (33, .iload_n 1, 1), (34, .iload_n 2, 1), (35, .iastore, 1), (36, .iload_n 3, 1), (37, .ireturn, 1)]
set_option maxRecDepth 100000 in
theorem pX6_pin_ok : (pX6_pin.all fun q => decide (decode cX6_pin q.1 = .ok (q.2.1, q.2.2))) = true := by decide +kernel
def pX6_tests : aPg := [(0, .aload_n 0, 1), (1, .getfield 51, 3), (4, .invokevirtual 210, 3), (7, .ireturn, 1)]
set_option maxRecDepth 100000 in
theorem pX6_tests_ok : (pX6_tests.all fun q => decide (decode cX6_tests q.1 = .ok (q.2.1, q.2.2))) = true := by decide +kernel
def pX6_side : aPg := [(0, .iload_n 2, 1), (1, .invokestatic 201, 3), (4, .ifCond .ne 5, 3), (7, .iconst (-1), 1), (8, .ireturn, 1), (9, .iload_n 1, 1), (10, .iconst 0, 1), (11, .aload_n 0, 1), (12, .getfield 51, 3), (15, .invokevirtual 210, 3), (18, .iconst 1, 1), (19, .isub, 1), (20, .invokestatic 59, 3), (23, .ifCond .ne 6, 3), (26, .bipush (-2), 2), (28, .ireturn, 1), (29, .aload_n 0, 1), (30, .getfield 51, 3), (33, .getfield 207, 3), (36, .iload_n 2, 1), (37, .iaload, 1), (38, .iload_n 1, 1), (39, .ishr, 1), (40, .iconst 1, 1), (41, .iand, 1), (42, .ireturn, 1)]
set_option maxRecDepth 100000 in
theorem pX6_side_ok : (pX6_side.all fun q => decide (decode cX6_side q.1 = .ok (q.2.1, q.2.2))) = true := by decide +kernel
def pX6_shows : aPg := [(0, .iload_n 1, 1), (1, .invokestatic 204, 3), (4, .ifCond .eq 10, 3), (7, .iload_n 2, 1), (8, .invokestatic 204, 3), (11, .ifCond .ne 5, 3), (14, .iconst (-1), 1), (15, .ireturn, 1), (16, .aload_n 0, 1), (17, .getfield 51, 3), (20, .iload_n 1, 1), (21, .invokevirtual 213, 3), (24, .ifCond .eq 14, 3), (27, .aload_n 0, 1), (28, .getfield 51, 3), (31, .iload_n 2, 1), (32, .invokevirtual 213, 3), (35, .ifCond .ne 5, 3), (38, .iconst (-1), 1), (39, .ireturn, 1), (40, .iload_n 1, 1), (41, .iload_n 2, 1), (42, .if_icmp .ne 6, 3), (45, .bipush (-3), 2), (47, .ireturn, 1), (48, .iload_n 1, 1), (49, .iload_n 2, 1), (50, .ixor, 1), (51, .ireturn, 1)]
set_option maxRecDepth 100000 in
theorem pX6_shows_ok : (pX6_shows.all fun q => decide (decode cX6_shows q.1 = .ok (q.2.1, q.2.2))) = true := by decide +kernel
def pX6_pairs : aPg := [(0, .aload_n 0, 1), (1, .getfield 51, 3), (4, .iload_n 1, 1), (5, .invokevirtual 216, 3), (8, .ireturn, 1)]
set_option maxRecDepth 100000 in
theorem pX6_pairs_ok : (pX6_pairs.all fun q => decide (decode cX6_pairs q.1 = .ok (q.2.1, q.2.2))) = true := by decide +kernel
def pX6_count : aPg := [(0, .iload_n 1, 1), (1, .tableswitch 90 0 5 #[39, 47, 55, 63, 71, 82], 39), (40, .aload_n 0, 1), (41, .getfield 12, 3), (44, .getfield 63, 3), (47, .ireturn, 1), (48, .aload_n 0, 1), (49, .getfield 19, 3), (52, .getfield 74, 3), (55, .ireturn, 1), (56, .aload_n 0, 1), (57, .getfield 19, 3), (60, .invokevirtual 219, 3), (63, .ireturn, 1), (64, .aload_n 0, 1), (65, .getfield 44, 3), (68, .getfield 177, 3), (71, .ireturn, 1), (72, .aload_n 0, 1), (73, .getfield 51, 3), (76, .invokevirtual 222, 3), (79, .invokestatic 225, 3), (82, .ireturn, 1), (83, .aload_n 0, 1), (84, .getfield 19, 3), (87, .invokevirtual 230, 3), (90, .ireturn, 1), (91, .bipush (-2), 2), (93, .ireturn, 1)]
set_option maxRecDepth 100000 in
theorem pX6_count_ok : (pX6_count.all fun q => decide (decode cX6_count q.1 = .ok (q.2.1, q.2.2))) = true := by decide +kernel
def pX7_in : aPg := [(0, .iload_n 0, 1), (1, .iload_n 1, 1), (2, .if_icmp .lt 12, 3), (5, .iload_n 0, 1), (6, .iload_n 2, 1), (7, .if_icmp .gt 7, 3), (10, .iconst 1, 1), (11, .goto 4, 3), (14, .iconst 0, 1), (15, .ireturn, 1)]
set_option maxRecDepth 100000 in
theorem pX7_in_ok : (pX7_in.all fun q => decide (decode cX7_in q.1 = .ok (q.2.1, q.2.2))) = true := by decide +kernel
def pX7_isPlace : aPg := [(0, .iload_n 0, 1), (1, .iconst 0, 1), (2, .bipush 9, 2), (4, .invokestatic 94, 3), (7, .ireturn, 1)]
set_option maxRecDepth 100000 in
theorem pX7_isPlace_ok : (pX7_isPlace.all fun q => decide (decode cX7_isPlace q.1 = .ok (q.2.1, q.2.2))) = true := by decide +kernel
def pX7_ones : aPg := [(0, .iconst 0, 1), (1, .istore_n 1, 1), (2, .iconst 0, 1), (3, .istore_n 2, 1), (4, .iload_n 2, 1), (5, .bipush 20, 2), (7, .if_icmp .ge 17, 3), (10, .iload_n 1, 1), (11, .iload_n 0, 1), (12, .iload_n 2, 1), (13, .ishr, 1), (14, .iconst 1, 1), (15, .iand, 1), (16, .iadd, 1), (17, .istore_n 1, 1), (18, .iinc 2 1, 3), (21, .goto (-17), 3), (24, .iload_n 1, 1), (25, .ireturn, 1)]
set_option maxRecDepth 100000 in
theorem pX7_ones_ok : (pX7_ones.all fun q => decide (decode cX7_ones q.1 = .ok (q.2.1, q.2.2))) = true := by decide +kernel
def pX7_isDuct : aPg := [(0, .iload_n 1, 1), (1, .iconst 0, 1), (2, .aload_n 0, 1), (3, .getfield 98, 3), (6, .iconst 1, 1), (7, .isub, 1), (8, .invokestatic 94, 3), (11, .ireturn, 1)]
set_option maxRecDepth 100000 in
theorem pX7_isDuct_ok : (pX7_isDuct.all fun q => decide (decode cX7_isDuct q.1 = .ok (q.2.1, q.2.2))) = true := by decide +kernel
def pX7_isWire : aPg := [(0, .iload_n 1, 1), (1, .iconst 0, 1), (2, .aload_n 0, 1), (3, .getfield 101, 3), (6, .iconst 1, 1), (7, .isub, 1), (8, .invokestatic 94, 3), (11, .ireturn, 1)]
set_option maxRecDepth 100000 in
theorem pX7_isWire_ok : (pX7_isWire.all fun q => decide (decode cX7_isWire q.1 = .ok (q.2.1, q.2.2))) = true := by decide +kernel
def pX7_duct : aPg := [(0, .iload_n 1, 1), (1, .invokestatic 104, 3), (4, .ifCond .eq 10, 3), (7, .iload_n 2, 1), (8, .invokestatic 104, 3), (11, .ifCond .ne 5, 3), (14, .iconst (-1), 1), (15, .ireturn, 1), (16, .iload_n 3, 1), (17, .iconst 1, 1), (18, .bipush 99, 2), (20, .invokestatic 94, 3), (23, .ifCond .eq 15, 3), (26, .iload 4, 2), (28, .iconst 1, 1), (29, .sipush 300, 3), (32, .invokestatic 94, 3), (35, .ifCond .ne 6, 3), (38, .bipush (-2), 2), (40, .ireturn, 1), (41, .iload_n 1, 1), (42, .iload_n 2, 1), (43, .if_icmp .ne 6, 3), (46, .bipush (-3), 2), (48, .ireturn, 1), (49, .aload_n 0, 1), (50, .getfield 98, 3), (53, .bipush 16, 2), (55, .if_icmp .ne 6, 3), (58, .bipush (-4), 2), (60, .ireturn, 1), (61, .aload_n 0, 1), (62, .getfield 7, 3), (65, .aload_n 0, 1), (66, .getfield 98, 3), (69, .iload_n 1, 1), (70, .iastore, 1), (71, .aload_n 0, 1), (72, .getfield 13, 3), (75, .aload_n 0, 1), (76, .getfield 98, 3), (79, .iload_n 2, 1), (80, .iastore, 1), (81, .aload_n 0, 1), (82, .getfield 16, 3), (85, .aload_n 0, 1), (86, .getfield 98, 3), (89, .iload_n 3, 1), (90, .iastore, 1), (91, .aload_n 0, 1), (92, .getfield 19, 3), (95, .aload_n 0, 1), (96, .getfield 98, 3), (99, .iload 4, 2), (101, .iastore, 1), (102, .aload_n 0, 1), (103, .dup, 1), (104, .getfield 98, 3), (107, .iconst 1, 1), (108, .iadd, 1), (109, .putfield 98, 3), (112, .aload_n 0, 1), (113, .getfield 98, 3), (116, .iconst 1, 1), (117, .isub, 1), (118, .ireturn, 1)]
set_option maxRecDepth 100000 in
theorem pX7_duct_ok : (pX7_duct.all fun q => decide (decode cX7_duct q.1 = .ok (q.2.1, q.2.2))) = true := by decide +kernel
def pX7_wire : aPg := [(0, .iload_n 1, 1), (1, .invokestatic 104, 3), (4, .ifCond .eq 10, 3), (7, .iload_n 2, 1), (8, .invokestatic 104, 3), (11, .ifCond .ne 5, 3), (14, .iconst (-1), 1), (15, .ireturn, 1), (16, .iload_n 3, 1), (17, .iconst 1, 1), (18, .bipush 50, 2), (20, .invokestatic 94, 3), (23, .ifCond .eq 13, 3), (26, .iload 4, 2), (28, .iconst 0, 1), (29, .iconst 3, 1), (30, .invokestatic 94, 3), (33, .ifCond .ne 6, 3), (36, .bipush (-2), 2), (38, .ireturn, 1), (39, .iload_n 1, 1), (40, .iload_n 2, 1), (41, .if_icmp .ne 6, 3), (44, .bipush (-3), 2), (46, .ireturn, 1), (47, .aload_n 0, 1), (48, .getfield 101, 3), (51, .bipush 20, 2), (53, .if_icmp .ne 6, 3), (56, .bipush (-4), 2), (58, .ireturn, 1), (59, .aload_n 0, 1), (60, .getfield 22, 3), (63, .aload_n 0, 1), (64, .getfield 101, 3), (67, .iload_n 1, 1), (68, .iastore, 1), (69, .aload_n 0, 1), (70, .getfield 25, 3), (73, .aload_n 0, 1), (74, .getfield 101, 3), (77, .iload_n 2, 1), (78, .iastore, 1), (79, .aload_n 0, 1), (80, .getfield 28, 3), (83, .aload_n 0, 1), (84, .getfield 101, 3), (87, .iload_n 3, 1), (88, .iastore, 1), (89, .aload_n 0, 1), (90, .getfield 31, 3), (93, .aload_n 0, 1), (94, .getfield 101, 3), (97, .iload 4, 2), (99, .iastore, 1), (100, .aload_n 0, 1), (101, .dup, 1), (102, .getfield 101, 3), (105, .iconst 1, 1), (106, .iadd, 1), (107, .putfield 101, 3), (110, .aload_n 0, 1), (111, .getfield 101, 3), (114, .iconst 1, 1), (115, .isub, 1), (116, .ireturn, 1)]
set_option maxRecDepth 100000 in
theorem pX7_wire_ok : (pX7_wire.all fun q => decide (decode cX7_wire q.1 = .ok (q.2.1, q.2.2))) = true := by decide +kernel
def pX7_apart : aPg := [(0, .iload_n 1, 1), (1, .iconst 0, 1), (2, .iconst 3, 1), (3, .invokestatic 94, 3), (6, .ifCond .eq 12, 3), (9, .iload_n 2, 1), (10, .iconst 0, 1), (11, .iconst 3, 1), (12, .invokestatic 94, 3), (15, .ifCond .ne 6, 3), (18, .bipush (-2), 2), (20, .ireturn, 1), (21, .iload_n 1, 1), (22, .iload_n 2, 1), (23, .if_icmp .ne 6, 3), (26, .bipush (-3), 2), (28, .ireturn, 1), (29, .aload_n 0, 1), (30, .getfield 43, 3), (33, .iconst 4, 1), (34, .iload_n 1, 1), (35, .imul, 1), (36, .iload_n 2, 1), (37, .iadd, 1), (38, .baload, 1), (39, .ifCond .eq 7, 3), (42, .iconst 1, 1), (43, .goto 4, 3), (46, .iconst 0, 1), (47, .istore 4, 2), (49, .aload_n 0, 1), (50, .getfield 43, 3), (53, .iconst 4, 1), (54, .iload_n 1, 1), (55, .imul, 1), (56, .iload_n 2, 1), (57, .iadd, 1), (58, .iload_n 3, 1), (59, .bastore, 1), (60, .aload_n 0, 1), (61, .getfield 43, 3), (64, .iconst 4, 1), (65, .iload_n 2, 1), (66, .imul, 1), (67, .iload_n 1, 1), (68, .iadd, 1), (69, .iload_n 3, 1), (70, .bastore, 1), (71, .iload 4, 2), (73, .ireturn, 1)]
set_option maxRecDepth 100000 in
theorem pX7_apart_ok : (pX7_apart.all fun q => decide (decode cX7_apart q.1 = .ok (q.2.1, q.2.2))) = true := by decide +kernel
def pX7_goesBy : aPg := [(0, .iconst 0, 1), (1, .istore_n 3, 1), (2, .iconst 0, 1), (3, .istore 4, 2), (5, .iload 4, 2), (7, .aload_n 0, 1), (8, .getfield 37, 3), (11, .iload_n 1, 1), (12, .iaload, 1), (13, .if_icmp .ge 35, 3), (16, .iload_n 3, 1), (17, .ifCond .ne 19, 3), (20, .aload_n 0, 1), (21, .getfield 40, 3), (24, .bipush 10, 2), (26, .iload_n 1, 1), (27, .imul, 1), (28, .iload 4, 2), (30, .iadd, 1), (31, .iaload, 1), (32, .iload_n 2, 1), (33, .if_icmp .ne 7, 3), (36, .iconst 1, 1), (37, .goto 4, 3), (40, .iconst 0, 1), (41, .istore_n 3, 1), (42, .iinc 4 1, 3), (45, .goto (-40), 3), (48, .iload_n 3, 1), (49, .ireturn, 1)]
set_option maxRecDepth 100000 in
theorem pX7_goesBy_ok : (pX7_goesBy.all fun q => decide (decode cX7_goesBy q.1 = .ok (q.2.1, q.2.2))) = true := by decide +kernel
def pX7_full : aPg := [(0, .iconst 0, 1), (1, .istore_n 2, 1), (2, .iconst 0, 1), (3, .istore_n 3, 1), (4, .iload_n 3, 1), (5, .aload_n 0, 1), (6, .getfield 101, 3), (9, .if_icmp .ge 31, 3), (12, .iload_n 2, 1), (13, .aload_n 0, 1), (14, .iload_n 3, 1), (15, .iload_n 1, 1), (16, .invokevirtual 108, 3), (19, .ifCond .eq 12, 3), (22, .aload_n 0, 1), (23, .getfield 28, 3), (26, .iload_n 3, 1), (27, .iaload, 1), (28, .goto 4, 3), (31, .iconst 0, 1), (32, .iadd, 1), (33, .istore_n 2, 1), (34, .iinc 3 1, 3), (37, .goto (-33), 3), (40, .iload_n 2, 1), (41, .ireturn, 1)]
set_option maxRecDepth 100000 in
theorem pX7_full_ok : (pX7_full.all fun q => decide (decode cX7_full q.1 = .ok (q.2.1, q.2.2))) = true := by decide +kernel
def pX7_mayGo : aPg := [(0, .aload_n 0, 1), (1, .iload_n 2, 1), (2, .invokevirtual 112, 3), (5, .aload_n 0, 1), (6, .getfield 28, 3), (9, .iload_n 1, 1), (10, .iaload, 1), (11, .iadd, 1), (12, .aload_n 0, 1), (13, .getfield 19, 3), (16, .iload_n 2, 1), (17, .iaload, 1), (18, .if_icmp .gt 7, 3), (21, .iconst 1, 1), (22, .goto 4, 3), (25, .iconst 0, 1), (26, .istore_n 3, 1), (27, .iconst 0, 1), (28, .istore 4, 2), (30, .iload 4, 2), (32, .aload_n 0, 1), (33, .getfield 101, 3), (36, .if_icmp .ge 53, 3), (39, .iload_n 3, 1), (40, .ifCond .eq 49, 3), (43, .aload_n 0, 1), (44, .iload 4, 2), (46, .iload_n 2, 1), (47, .invokevirtual 108, 3), (50, .ifCond .eq 27, 3), (53, .aload_n 0, 1), (54, .getfield 43, 3), (57, .iconst 4, 1), (58, .aload_n 0, 1), (59, .getfield 31, 3), (62, .iload 4, 2), (64, .iaload, 1), (65, .imul, 1), (66, .aload_n 0, 1), (67, .getfield 31, 3), (70, .iload_n 1, 1), (71, .iaload, 1), (72, .iadd, 1), (73, .baload, 1), (74, .ifCond .ne 7, 3), (77, .iconst 1, 1), (78, .goto 4, 3), (81, .iconst 0, 1), (82, .istore_n 3, 1), (83, .iinc 4 1, 3), (86, .goto (-56), 3), (89, .iload_n 3, 1), (90, .ireturn, 1)]
set_option maxRecDepth 100000 in
theorem pX7_mayGo_ok : (pX7_mayGo.all fun q => decide (decode cX7_mayGo q.1 = .ok (q.2.1, q.2.2))) = true := by decide +kernel
def pX7_across : aPg := [(0, .aload_n 0, 1), (1, .getfield 7, 3), (4, .iload_n 1, 1), (5, .iaload, 1), (6, .iload_n 2, 1), (7, .if_icmp .ne 12, 3), (10, .aload_n 0, 1), (11, .getfield 13, 3), (14, .iload_n 1, 1), (15, .iaload, 1), (16, .goto 24, 3), (19, .aload_n 0, 1), (20, .getfield 13, 3), (23, .iload_n 1, 1), (24, .iaload, 1), (25, .iload_n 2, 1), (26, .if_icmp .ne 12, 3), (29, .aload_n 0, 1), (30, .getfield 7, 3), (33, .iload_n 1, 1), (34, .iaload, 1), (35, .goto 5, 3), (38, .bipush (-9), 2), (40, .ireturn, 1)]
set_option maxRecDepth 100000 in
theorem pX7_across_ok : (pX7_across.all fun q => decide (decode cX7_across q.1 = .ok (q.2.1, q.2.2))) = true := by decide +kernel
def pX7_better : aPg := [(0, .aload_n 0, 1), (1, .getfield 50, 3), (4, .iload_n 2, 1), (5, .iaload, 1), (6, .iload_n 3, 1), (7, .iadd, 1), (8, .istore 4, 2), (10, .iload 4, 2), (12, .aload_n 0, 1), (13, .getfield 50, 3), (16, .iload_n 1, 1), (17, .iaload, 1), (18, .if_icmp .lt 31, 3), (21, .iload 4, 2), (23, .aload_n 0, 1), (24, .getfield 50, 3), (27, .iload_n 1, 1), (28, .iaload, 1), (29, .if_icmp .ne 42, 3), (32, .aload_n 0, 1), (33, .getfield 53, 3), (36, .iload_n 2, 1), (37, .iaload, 1), (38, .iconst 1, 1), (39, .iadd, 1), (40, .aload_n 0, 1), (41, .getfield 53, 3), (44, .iload_n 1, 1), (45, .iaload, 1), (46, .if_icmp .ge 25, 3), (49, .aload_n 0, 1), (50, .getfield 50, 3), (53, .iload_n 1, 1), (54, .iload 4, 2), (56, .iastore, 1), (57, .aload_n 0, 1), (58, .getfield 53, 3), (61, .iload_n 1, 1), (62, .aload_n 0, 1), (63, .getfield 53, 3), (66, .iload_n 2, 1), (67, .iaload, 1), (68, .iconst 1, 1), (69, .iadd, 1), (70, .iastore, 1), (71, .return_, 1)]
set_option maxRecDepth 100000 in
theorem pX7_better_ok : (pX7_better.all fun q => decide (decode cX7_better q.1 = .ok (q.2.1, q.2.2))) = true := by decide +kernel
def pX7_measure : aPg := [(0, .iconst 0, 1), (1, .istore_n 2, 1), (2, .iload_n 2, 1), (3, .bipush 10, 2), (5, .if_icmp .ge 43, 3), (8, .aload_n 0, 1), (9, .getfield 50, 3), (12, .iload_n 2, 1), (13, .iload_n 2, 1), (14, .iload_n 1, 1), (15, .if_icmp .ne 7, 3), (18, .iconst 0, 1), (19, .goto 5, 3), (22, .ldc 116, 2), (24, .iastore, 1), (25, .aload_n 0, 1), (26, .getfield 53, 3), (29, .iload_n 2, 1), (30, .iload_n 2, 1), (31, .iload_n 1, 1), (32, .if_icmp .ne 7, 3), (35, .iconst 0, 1), (36, .goto 5, 3), (39, .ldc 116, 2), (41, .iastore, 1), (42, .iinc 2 1, 3), (45, .goto (-43), 3), (48, .iconst 0, 1), (49, .istore_n 2, 1), (50, .iload_n 2, 1), (51, .bipush 10, 2), (53, .if_icmp .ge 78, 3), (56, .iconst 0, 1), (57, .istore_n 3, 1), (58, .iload_n 3, 1), (59, .aload_n 0, 1), (60, .getfield 98, 3), (63, .if_icmp .ge 62, 3), (66, .aload_n 0, 1), (67, .getfield 47, 3), (70, .iload_n 3, 1), (71, .baload, 1), (72, .ifCond .eq 47, 3), (75, .aload_n 0, 1), (76, .aload_n 0, 1), (77, .getfield 7, 3), (80, .iload_n 3, 1), (81, .iaload, 1), (82, .aload_n 0, 1), (83, .getfield 13, 3), (86, .iload_n 3, 1), (87, .iaload, 1), (88, .aload_n 0, 1), (89, .getfield 16, 3), (92, .iload_n 3, 1), (93, .iaload, 1), (94, .invokevirtual 117, 3), (97, .aload_n 0, 1), (98, .aload_n 0, 1), (99, .getfield 13, 3), (102, .iload_n 3, 1), (103, .iaload, 1), (104, .aload_n 0, 1), (105, .getfield 7, 3), (108, .iload_n 3, 1), (109, .iaload, 1), (110, .aload_n 0, 1), (111, .getfield 16, 3), (114, .iload_n 3, 1), (115, .iaload, 1), (116, .invokevirtual 117, 3), (119, .iinc 3 1, 3), (122, .goto (-64), 3), (125, .iinc 2 1, 3), (128, .goto (-78), 3), (131, .return_, 1)]
set_option maxRecDepth 100000 in
theorem pX7_measure_ok : (pX7_measure.all fun q => decide (decode cX7_measure q.1 = .ok (q.2.1, q.2.2))) = true := by decide +kernel
def pX7_next : aPg := [(0, .iconst 0, 1), (1, .istore_n 2, 1), (2, .aload_n 0, 1), (3, .getfield 47, 3), (6, .iload_n 2, 1), (7, .baload, 1), (8, .ifCond .eq 63, 3), (11, .aload_n 0, 1), (12, .iload_n 2, 1), (13, .iload_n 1, 1), (14, .invokevirtual 121, 3), (17, .bipush (-9), 2), (19, .if_icmp .eq 52, 3), (22, .aload_n 0, 1), (23, .getfield 50, 3), (26, .aload_n 0, 1), (27, .iload_n 2, 1), (28, .iload_n 1, 1), (29, .invokevirtual 121, 3), (32, .iaload, 1), (33, .aload_n 0, 1), (34, .getfield 16, 3), (37, .iload_n 2, 1), (38, .iaload, 1), (39, .iadd, 1), (40, .aload_n 0, 1), (41, .getfield 50, 3), (44, .iload_n 1, 1), (45, .iaload, 1), (46, .if_icmp .ne 25, 3), (49, .aload_n 0, 1), (50, .getfield 53, 3), (53, .aload_n 0, 1), (54, .iload_n 2, 1), (55, .iload_n 1, 1), (56, .invokevirtual 121, 3), (59, .iaload, 1), (60, .iconst 1, 1), (61, .iadd, 1), (62, .aload_n 0, 1), (63, .getfield 53, 3), (66, .iload_n 1, 1), (67, .iaload, 1), (68, .if_icmp .eq 9, 3), (71, .iinc 2 1, 3), (74, .goto (-72), 3), (77, .iload_n 2, 1), (78, .ireturn, 1)]
set_option maxRecDepth 100000 in
theorem pX7_next_ok : (pX7_next.all fun q => decide (decode cX7_next q.1 = .ok (q.2.1, q.2.2))) = true := by decide +kernel
def pX7_lengthOf : aPg := [(0, .iconst 0, 1), (1, .istore_n 2, 1), (2, .iconst 0, 1), (3, .istore_n 3, 1), (4, .iload_n 3, 1), (5, .aload_n 0, 1), (6, .getfield 37, 3), (9, .iload_n 1, 1), (10, .iaload, 1), (11, .if_icmp .ge 28, 3), (14, .iload_n 2, 1), (15, .aload_n 0, 1), (16, .getfield 16, 3), (19, .aload_n 0, 1), (20, .getfield 40, 3), (23, .bipush 10, 2), (25, .iload_n 1, 1), (26, .imul, 1), (27, .iload_n 3, 1), (28, .iadd, 1), (29, .iaload, 1), (30, .iaload, 1), (31, .iadd, 1), (32, .istore_n 2, 1), (33, .iinc 3 1, 3), (36, .goto (-32), 3), (39, .iload_n 2, 1), (40, .ireturn, 1)]
set_option maxRecDepth 100000 in
theorem pX7_lengthOf_ok : (pX7_lengthOf.all fun q => decide (decode cX7_lengthOf q.1 = .ok (q.2.1, q.2.2))) = true := by decide +kernel
def pX7_lay : aPg := [(0, .aload_n 0, 1), (1, .iload_n 1, 1), (2, .invokevirtual 125, 3), (5, .ifCond .ne 5, 3), (8, .iconst (-1), 1), (9, .ireturn, 1), (10, .aload_n 0, 1), (11, .getfield 37, 3), (14, .iload_n 1, 1), (15, .iaload, 1), (16, .ifCond .le 6, 3), (19, .bipush (-3), 2), (21, .ireturn, 1), (22, .iconst 0, 1), (23, .istore_n 2, 1), (24, .iload_n 2, 1), (25, .aload_n 0, 1), (26, .getfield 98, 3), (29, .if_icmp .ge 21, 3), (32, .aload_n 0, 1), (33, .getfield 47, 3), (36, .iload_n 2, 1), (37, .aload_n 0, 1), (38, .iload_n 1, 1), (39, .iload_n 2, 1), (40, .invokevirtual 128, 3), (43, .bastore, 1), (44, .iinc 2 1, 3), (47, .goto (-23), 3), (50, .aload_n 0, 1), (51, .aload_n 0, 1), (52, .getfield 25, 3), (55, .iload_n 1, 1), (56, .iaload, 1), (57, .invokevirtual 131, 3), (60, .aload_n 0, 1), (61, .getfield 50, 3), (64, .aload_n 0, 1), (65, .getfield 22, 3), (68, .iload_n 1, 1), (69, .iaload, 1), (70, .iaload, 1), (71, .ldc 116, 2), (73, .if_icmp .lt 6, 3), (76, .bipush (-9), 2), (78, .ireturn, 1), (79, .aload_n 0, 1), (80, .getfield 22, 3), (83, .iload_n 1, 1), (84, .iaload, 1), (85, .istore_n 2, 1), (86, .iconst 0, 1), (87, .istore_n 3, 1), (88, .iload_n 2, 1), (89, .aload_n 0, 1), (90, .getfield 25, 3), (93, .iload_n 1, 1), (94, .iaload, 1), (95, .if_icmp .eq 37, 3), (98, .aload_n 0, 1), (99, .iload_n 2, 1), (100, .invokevirtual 135, 3), (103, .istore 4, 2), (105, .aload_n 0, 1), (106, .getfield 40, 3), (109, .bipush 10, 2), (111, .iload_n 1, 1), (112, .imul, 1), (113, .iload_n 3, 1), (114, .iadd, 1), (115, .iload 4, 2), (117, .iastore, 1), (118, .iinc 3 1, 3), (121, .aload_n 0, 1), (122, .iload 4, 2), (124, .iload_n 2, 1), (125, .invokevirtual 121, 3), (128, .istore_n 2, 1), (129, .goto (-41), 3), (132, .aload_n 0, 1), (133, .getfield 37, 3), (136, .iload_n 1, 1), (137, .iload_n 3, 1), (138, .iastore, 1), (139, .aload_n 0, 1), (140, .iload_n 1, 1), (141, .invokevirtual 138, 3), (144, .ireturn, 1)]
set_option maxRecDepth 100000 in
theorem pX7_lay_ok : (pX7_lay.all fun q => decide (decode cX7_lay q.1 = .ok (q.2.1, q.2.2))) = true := by decide +kernel
def pX7_lift : aPg := [(0, .aload_n 0, 1), (1, .iload_n 1, 1), (2, .invokevirtual 125, 3), (5, .ifCond .ne 5, 3), (8, .iconst (-1), 1), (9, .ireturn, 1), (10, .aload_n 0, 1), (11, .getfield 37, 3), (14, .iload_n 1, 1), (15, .iaload, 1), (16, .ifCond .ne 6, 3), (19, .bipush (-3), 2), (21, .ireturn, 1), (22, .aload_n 0, 1), (23, .iload_n 1, 1), (24, .invokevirtual 138, 3), (27, .istore_n 2, 1), (28, .aload_n 0, 1), (29, .getfield 37, 3), (32, .iload_n 1, 1), (33, .iconst 0, 1), (34, .iastore, 1), (35, .iload_n 2, 1), (36, .ireturn, 1)]
set_option maxRecDepth 100000 in
theorem pX7_lift_ok : (pX7_lift.all fun q => decide (decode cX7_lift q.1 = .ok (q.2.1, q.2.2))) = true := by decide +kernel
def pX7_way : aPg := [(0, .aload_n 0, 1), (1, .iload_n 1, 1), (2, .invokevirtual 125, 3), (5, .ifCond .ne 5, 3), (8, .iconst (-1), 1), (9, .ireturn, 1), (10, .iload_n 2, 1), (11, .iconst 0, 1), (12, .aload_n 0, 1), (13, .getfield 37, 3), (16, .iload_n 1, 1), (17, .iaload, 1), (18, .iconst 1, 1), (19, .isub, 1), (20, .invokestatic 94, 3), (23, .ifCond .eq 17, 3), (26, .aload_n 0, 1), (27, .getfield 40, 3), (30, .bipush 10, 2), (32, .iload_n 1, 1), (33, .imul, 1), (34, .iload_n 2, 1), (35, .iadd, 1), (36, .iaload, 1), (37, .goto 5, 3), (40, .bipush (-9), 2), (42, .ireturn, 1)]
set_option maxRecDepth 100000 in
theorem pX7_way_ok : (pX7_way.all fun q => decide (decode cX7_way q.1 = .ok (q.2.1, q.2.2))) = true := by decide +kernel
def pX7_length : aPg := [(0, .aload_n 0, 1), (1, .iload_n 1, 1), (2, .invokevirtual 125, 3), (5, .ifCond .ne 5, 3), (8, .iconst (-1), 1), (9, .ireturn, 1), (10, .aload_n 0, 1), (11, .getfield 37, 3), (14, .iload_n 1, 1), (15, .iaload, 1), (16, .ifCond .ne 8, 3), (19, .bipush (-9), 2), (21, .goto 8, 3), (24, .aload_n 0, 1), (25, .iload_n 1, 1), (26, .invokevirtual 138, 3), (29, .ireturn, 1)]
set_option maxRecDepth 100000 in
theorem pX7_length_ok : (pX7_length.all fun q => decide (decode cX7_length q.1 = .ok (q.2.1, q.2.2))) = true := by decide +kernel
def pX7_left : aPg := [(0, .aload_n 0, 1), (1, .iload_n 1, 1), (2, .invokevirtual 141, 3), (5, .ifCond .ne 5, 3), (8, .iconst (-1), 1), (9, .ireturn, 1), (10, .iconst 0, 1), (11, .istore_n 3, 1), (12, .iconst 0, 1), (13, .istore 4, 2), (15, .iload 4, 2), (17, .aload_n 0, 1), (18, .getfield 101, 3), (21, .if_icmp .ge 27, 3), (24, .iload_n 3, 1), (25, .aload_n 0, 1), (26, .iload 4, 2), (28, .iload_n 1, 1), (29, .invokevirtual 108, 3), (32, .ifCond .eq 7, 3), (35, .iconst 1, 1), (36, .goto 4, 3), (39, .iconst 0, 1), (40, .iadd, 1), (41, .istore_n 3, 1), (42, .iinc 4 1, 3), (45, .goto (-30), 3), (48, .iload_n 2, 1), (49, .ifCond .eq 7, 3), (52, .iload_n 3, 1), (53, .goto 15, 3), (56, .aload_n 0, 1), (57, .getfield 19, 3), (60, .iload_n 1, 1), (61, .iaload, 1), (62, .aload_n 0, 1), (63, .iload_n 1, 1), (64, .invokevirtual 112, 3), (67, .isub, 1), (68, .ireturn, 1)]
set_option maxRecDepth 100000 in
theorem pX7_left_ok : (pX7_left.all fun q => decide (decode cX7_left q.1 = .ok (q.2.1, q.2.2))) = true := by decide +kernel
def pX7_loss : aPg := [(0, .aload_n 0, 1), (1, .iload_n 1, 1), (2, .invokevirtual 125, 3), (5, .ifCond .ne 5, 3), (8, .iconst (-1), 1), (9, .ireturn, 1), (10, .iload_n 2, 1), (11, .iconst 1, 1), (12, .bipush 100, 2), (14, .invokestatic 94, 3), (17, .ifCond .ne 6, 3), (20, .bipush (-2), 2), (22, .ireturn, 1), (23, .aload_n 0, 1), (24, .getfield 37, 3), (27, .iload_n 1, 1), (28, .iaload, 1), (29, .ifCond .ne 6, 3), (32, .bipush (-3), 2), (34, .ireturn, 1), (35, .bipush 20, 2), (37, .iload_n 2, 1), (38, .imul, 1), (39, .aload_n 0, 1), (40, .iload_n 1, 1), (41, .invokevirtual 138, 3), (44, .imul, 1), (45, .aload_n 0, 1), (46, .getfield 28, 3), (49, .iload_n 1, 1), (50, .iaload, 1), (51, .iadd, 1), (52, .iconst 1, 1), (53, .isub, 1), (54, .aload_n 0, 1), (55, .getfield 28, 3), (58, .iload_n 1, 1), (59, .iaload, 1), (60, .idiv, 1), (61, .ireturn, 1)]
set_option maxRecDepth 100000 in
theorem pX7_loss_ok : (pX7_loss.all fun q => decide (decode cX7_loss q.1 = .ok (q.2.1, q.2.2))) = true := by decide +kernel
def pX7_isClash : aPg := [(0, .iconst 0, 1), (1, .istore_n 2, 1), (2, .iconst 0, 1), (3, .istore_n 3, 1), (4, .iload_n 3, 1), (5, .aload_n 0, 1), (6, .getfield 37, 3), (9, .iload_n 1, 1), (10, .iaload, 1), (11, .if_icmp .ge 81, 3), (14, .iconst 0, 1), (15, .istore 4, 2), (17, .iload 4, 2), (19, .aload_n 0, 1), (20, .getfield 101, 3), (23, .if_icmp .ge 63, 3), (26, .iload_n 2, 1), (27, .ifCond .ne 47, 3), (30, .aload_n 0, 1), (31, .iload 4, 2), (33, .aload_n 0, 1), (34, .getfield 40, 3), (37, .bipush 10, 2), (39, .iload_n 1, 1), (40, .imul, 1), (41, .iload_n 3, 1), (42, .iadd, 1), (43, .iaload, 1), (44, .invokevirtual 108, 3), (47, .ifCond .eq 31, 3), (50, .aload_n 0, 1), (51, .getfield 43, 3), (54, .iconst 4, 1), (55, .aload_n 0, 1), (56, .getfield 31, 3), (59, .iload 4, 2), (61, .iaload, 1), (62, .imul, 1), (63, .aload_n 0, 1), (64, .getfield 31, 3), (67, .iload_n 1, 1), (68, .iaload, 1), (69, .iadd, 1), (70, .baload, 1), (71, .ifCond .eq 7, 3), (74, .iconst 1, 1), (75, .goto 4, 3), (78, .iconst 0, 1), (79, .istore_n 2, 1), (80, .iinc 4 1, 3), (83, .goto (-66), 3), (86, .iinc 3 1, 3), (89, .goto (-85), 3), (92, .iload_n 2, 1), (93, .ireturn, 1)]
set_option maxRecDepth 100000 in
theorem pX7_isClash_ok : (pX7_isClash.all fun q => decide (decode cX7_isClash q.1 = .ok (q.2.1, q.2.2))) = true := by decide +kernel
def pX7_clashes : aPg := [(0, .iconst 0, 1), (1, .istore_n 1, 1), (2, .iconst 0, 1), (3, .istore_n 2, 1), (4, .iload_n 2, 1), (5, .aload_n 0, 1), (6, .getfield 101, 3), (9, .if_icmp .ge 25, 3), (12, .iload_n 1, 1), (13, .aload_n 0, 1), (14, .iload_n 2, 1), (15, .invokevirtual 144, 3), (18, .ifCond .eq 7, 3), (21, .iconst 1, 1), (22, .goto 4, 3), (25, .iconst 0, 1), (26, .iadd, 1), (27, .istore_n 1, 1), (28, .iinc 2 1, 3), (31, .goto (-27), 3), (34, .iload_n 1, 1), (35, .ireturn, 1)]
set_option maxRecDepth 100000 in
theorem pX7_clashes_ok : (pX7_clashes.all fun q => decide (decode cX7_clashes q.1 = .ok (q.2.1, q.2.2))) = true := by decide +kernel
def pX7_openAll : aPg := [(0, .iconst 0, 1), (1, .istore_n 1, 1), (2, .iload_n 1, 1), (3, .aload_n 0, 1), (4, .getfield 98, 3), (7, .if_icmp .ge 16, 3), (10, .aload_n 0, 1), (11, .getfield 47, 3), (14, .iload_n 1, 1), (15, .iconst 1, 1), (16, .bastore, 1), (17, .iinc 1 1, 3), (20, .goto (-18), 3), (23, .return_, 1)]
set_option maxRecDepth 100000 in
theorem pX7_openAll_ok : (pX7_openAll.all fun q => decide (decode cX7_openAll q.1 = .ok (q.2.1, q.2.2))) = true := by decide +kernel
def pX7_far : aPg := [(0, .iload_n 1, 1), (1, .invokestatic 104, 3), (4, .ifCond .eq 10, 3), (7, .iload_n 2, 1), (8, .invokestatic 104, 3), (11, .ifCond .ne 5, 3), (14, .iconst (-1), 1), (15, .ireturn, 1), (16, .iload_n 1, 1), (17, .iload_n 2, 1), (18, .if_icmp .ne 6, 3), (21, .bipush (-3), 2), (23, .ireturn, 1), (24, .aload_n 0, 1), (25, .invokevirtual 147, 3), (28, .aload_n 0, 1), (29, .iload_n 2, 1), (30, .invokevirtual 131, 3), (33, .aload_n 0, 1), (34, .getfield 50, 3), (37, .iload_n 1, 1), (38, .iaload, 1), (39, .ldc 116, 2), (41, .if_icmp .lt 8, 3), (44, .bipush (-9), 2), (46, .goto 9, 3), (49, .aload_n 0, 1), (50, .getfield 50, 3), (53, .iload_n 1, 1), (54, .iaload, 1), (55, .ireturn, 1)]
set_option maxRecDepth 100000 in
theorem pX7_far_ok : (pX7_far.all fun q => decide (decode cX7_far q.1 = .ok (q.2.1, q.2.2))) = true := by decide +kernel
def pX7_tryStep : aPg := [(0, .aload_n 0, 1), (1, .getfield 50, 3), (4, .iload_n 2, 1), (5, .iaload, 1), (6, .ldc 116, 2), (8, .if_icmp .ge 43, 3), (11, .aload_n 0, 1), (12, .getfield 50, 3), (15, .iload_n 2, 1), (16, .iaload, 1), (17, .iload 4, 2), (19, .iadd, 1), (20, .aload_n 0, 1), (21, .getfield 50, 3), (24, .iload_n 3, 1), (25, .iaload, 1), (26, .if_icmp .ge 25, 3), (29, .aload_n 0, 1), (30, .getfield 50, 3), (33, .iload_n 3, 1), (34, .aload_n 0, 1), (35, .getfield 50, 3), (38, .iload_n 2, 1), (39, .iaload, 1), (40, .iload 4, 2), (42, .iadd, 1), (43, .iastore, 1), (44, .aload_n 0, 1), (45, .getfield 59, 3), (48, .iload_n 3, 1), (49, .iload_n 1, 1), (50, .iastore, 1), (51, .return_, 1)]
set_option maxRecDepth 100000 in
theorem pX7_tryStep_ok : (pX7_tryStep.all fun q => decide (decode cX7_tryStep q.1 = .ok (q.2.1, q.2.2))) = true := by decide +kernel
def pX7_addWay : aPg := [(0, .iconst 0, 1), (1, .istore_n 3, 1), (2, .iload_n 3, 1), (3, .bipush 10, 2), (5, .if_icmp .ge 26, 3), (8, .aload_n 0, 1), (9, .getfield 50, 3), (12, .iload_n 3, 1), (13, .iload_n 3, 1), (14, .iload_n 1, 1), (15, .if_icmp .ne 7, 3), (18, .iconst 0, 1), (19, .goto 5, 3), (22, .ldc 116, 2), (24, .iastore, 1), (25, .iinc 3 1, 3), (28, .goto (-26), 3), (31, .iconst 0, 1), (32, .istore_n 3, 1), (33, .iload_n 3, 1), (34, .bipush 10, 2), (36, .if_icmp .ge 147, 3), (39, .iconst 0, 1), (40, .istore 4, 2), (42, .iload 4, 2), (44, .aload_n 0, 1), (45, .getfield 98, 3), (48, .if_icmp .ge 129, 3), (51, .aload_n 0, 1), (52, .getfield 56, 3), (55, .iload 4, 2), (57, .iaload, 1), (58, .iconst 1, 1), (59, .if_icmp .eq 52, 3), (62, .aload_n 0, 1), (63, .iload 4, 2), (65, .aload_n 0, 1), (66, .getfield 7, 3), (69, .iload 4, 2), (71, .iaload, 1), (72, .aload_n 0, 1), (73, .getfield 13, 3), (76, .iload 4, 2), (78, .iaload, 1), (79, .aload_n 0, 1), (80, .getfield 56, 3), (83, .iload 4, 2), (85, .iaload, 1), (86, .iconst 2, 1), (87, .if_icmp .ne 14, 3), (90, .aload_n 0, 1), (91, .getfield 16, 3), (94, .iload 4, 2), (96, .iaload, 1), (97, .ineg, 1), (98, .goto 10, 3), (101, .aload_n 0, 1), (102, .getfield 16, 3), (105, .iload 4, 2), (107, .iaload, 1), (108, .invokevirtual 150, 3), (111, .aload_n 0, 1), (112, .getfield 56, 3), (115, .iload 4, 2), (117, .iaload, 1), (118, .iconst 2, 1), (119, .if_icmp .eq 52, 3), (122, .aload_n 0, 1), (123, .iload 4, 2), (125, .aload_n 0, 1), (126, .getfield 13, 3), (129, .iload 4, 2), (131, .iaload, 1), (132, .aload_n 0, 1), (133, .getfield 7, 3), (136, .iload 4, 2), (138, .iaload, 1), (139, .aload_n 0, 1), (140, .getfield 56, 3), (143, .iload 4, 2), (145, .iaload, 1), (146, .iconst 1, 1), (147, .if_icmp .ne 14, 3), (150, .aload_n 0, 1), (151, .getfield 16, 3), (154, .iload 4, 2), (156, .iaload, 1), (157, .ineg, 1), (158, .goto 10, 3), (161, .aload_n 0, 1), (162, .getfield 16, 3), (165, .iload 4, 2), (167, .iaload, 1), (168, .invokevirtual 150, 3), (171, .iinc 4 1, 3), (174, .goto (-132), 3), (177, .iinc 3 1, 3), (180, .goto (-147), 3), (183, .aload_n 0, 1), (184, .getfield 50, 3), (187, .iload_n 2, 1), (188, .iaload, 1), (189, .ldc 116, 2), (191, .if_icmp .lt 5, 3), (194, .iconst 0, 1), (195, .ireturn, 1), (196, .iload_n 2, 1), (197, .istore_n 3, 1), (198, .iload_n 3, 1), (199, .iload_n 1, 1), (200, .if_icmp .eq 64, 3), (203, .aload_n 0, 1), (204, .getfield 59, 3), (207, .iload_n 3, 1), (208, .iaload, 1), (209, .istore 4, 2), (211, .aload_n 0, 1), (212, .iload 4, 2), (214, .iload_n 3, 1), (215, .invokevirtual 121, 3), (218, .istore 5, 2), (220, .aload_n 0, 1), (221, .getfield 56, 3), (224, .iload 4, 2), (226, .aload_n 0, 1), (227, .getfield 56, 3), (230, .iload 4, 2), (232, .iaload, 1), (233, .ifCond .le 7, 3), (236, .iconst 0, 1), (237, .goto 20, 3), (240, .iload 5, 2), (242, .aload_n 0, 1), (243, .getfield 7, 3), (246, .iload 4, 2), (248, .iaload, 1), (249, .if_icmp .ne 7, 3), (252, .iconst 1, 1), (253, .goto 4, 3), (256, .iconst 2, 1), (257, .iastore, 1), (258, .iload 5, 2), (260, .istore_n 3, 1), (261, .goto (-63), 3), (264, .iconst 1, 1), (265, .ireturn, 1)]
set_option maxRecDepth 100000 in
theorem pX7_addWay_ok : (pX7_addWay.all fun q => decide (decode cX7_addWay q.1 = .ok (q.2.1, q.2.2))) = true := by decide +kernel
def pX7_two : aPg := [(0, .iload_n 1, 1), (1, .invokestatic 104, 3), (4, .ifCond .eq 10, 3), (7, .iload_n 2, 1), (8, .invokestatic 104, 3), (11, .ifCond .ne 5, 3), (14, .iconst (-1), 1), (15, .ireturn, 1), (16, .iload_n 1, 1), (17, .iload_n 2, 1), (18, .if_icmp .ne 6, 3), (21, .bipush (-3), 2), (23, .ireturn, 1), (24, .iconst 0, 1), (25, .istore_n 3, 1), (26, .iload_n 3, 1), (27, .bipush 16, 2), (29, .if_icmp .ge 16, 3), (32, .aload_n 0, 1), (33, .getfield 56, 3), (36, .iload_n 3, 1), (37, .iconst 0, 1), (38, .iastore, 1), (39, .iinc 3 1, 3), (42, .goto (-16), 3), (45, .aload_n 0, 1), (46, .iload_n 1, 1), (47, .iload_n 2, 1), (48, .invokevirtual 154, 3), (51, .ifCond .eq 12, 3), (54, .aload_n 0, 1), (55, .iload_n 1, 1), (56, .iload_n 2, 1), (57, .invokevirtual 154, 3), (60, .ifCond .ne 6, 3), (63, .bipush (-9), 2), (65, .ireturn, 1), (66, .iconst 0, 1), (67, .istore_n 3, 1), (68, .iconst 0, 1), (69, .istore 4, 2), (71, .iload 4, 2), (73, .aload_n 0, 1), (74, .getfield 98, 3), (77, .if_icmp .ge 33, 3), (80, .iload_n 3, 1), (81, .aload_n 0, 1), (82, .getfield 56, 3), (85, .iload 4, 2), (87, .iaload, 1), (88, .ifCond .le 13, 3), (91, .aload_n 0, 1), (92, .getfield 16, 3), (95, .iload 4, 2), (97, .iaload, 1), (98, .goto 4, 3), (101, .iconst 0, 1), (102, .iadd, 1), (103, .istore_n 3, 1), (104, .iinc 4 1, 3), (107, .goto (-36), 3), (110, .iload_n 3, 1), (111, .ireturn, 1)]
set_option maxRecDepth 100000 in
theorem pX7_two_ok : (pX7_two.all fun q => decide (decode cX7_two q.1 = .ok (q.2.1, q.2.2))) = true := by decide +kernel
def pX7_treeOf : aPg := [(0, .iload_n 1, 1), (1, .invokestatic 157, 3), (4, .iconst 1, 1), (5, .isub, 1), (6, .istore_n 2, 1), (7, .iconst 0, 1), (8, .istore_n 3, 1), (9, .iconst 0, 1), (10, .istore 4, 2), (12, .iload 4, 2), (14, .bipush 10, 2), (16, .if_icmp .ge 18, 3), (19, .aload_n 0, 1), (20, .getfield 68, 3), (23, .iload 4, 2), (25, .iload 4, 2), (27, .iastore, 1), (28, .iinc 4 1, 3), (31, .goto (-19), 3), (34, .iconst 0, 1), (35, .istore 4, 2), (37, .iload 4, 2), (39, .aload_n 0, 1), (40, .getfield 98, 3), (43, .if_icmp .ge 142, 3), (46, .iload_n 2, 1), (47, .ifCond .le 138, 3), (50, .aload_n 0, 1), (51, .getfield 65, 3), (54, .iload 4, 2), (56, .iaload, 1), (57, .istore 5, 2), (59, .aload_n 0, 1), (60, .getfield 68, 3), (63, .aload_n 0, 1), (64, .getfield 7, 3), (67, .iload 5, 2), (69, .iaload, 1), (70, .iaload, 1), (71, .istore 6, 2), (73, .aload_n 0, 1), (74, .getfield 68, 3), (77, .aload_n 0, 1), (78, .getfield 13, 3), (81, .iload 5, 2), (83, .iaload, 1), (84, .iaload, 1), (85, .istore 7, 2), (87, .iload_n 1, 1), (88, .aload_n 0, 1), (89, .getfield 7, 3), (92, .iload 5, 2), (94, .iaload, 1), (95, .ishr, 1), (96, .iload_n 1, 1), (97, .aload_n 0, 1), (98, .getfield 13, 3), (101, .iload 5, 2), (103, .iaload, 1), (104, .ishr, 1), (105, .iand, 1), (106, .iconst 1, 1), (107, .iand, 1), (108, .iconst 1, 1), (109, .if_icmp .ne 70, 3), (112, .iload 6, 2), (114, .iload 7, 2), (116, .if_icmp .eq 63, 3), (119, .iconst 0, 1), (120, .istore 8, 2), (122, .iload 8, 2), (124, .bipush 10, 2), (126, .if_icmp .ge 40, 3), (129, .aload_n 0, 1), (130, .getfield 68, 3), (133, .iload 8, 2), (135, .aload_n 0, 1), (136, .getfield 68, 3), (139, .iload 8, 2), (141, .iaload, 1), (142, .iload 6, 2), (144, .if_icmp .ne 8, 3), (147, .iload 7, 2), (149, .goto 10, 3), (152, .aload_n 0, 1), (153, .getfield 68, 3), (156, .iload 8, 2), (158, .iaload, 1), (159, .iastore, 1), (160, .iinc 8 1, 3), (163, .goto (-41), 3), (166, .iload_n 3, 1), (167, .aload_n 0, 1), (168, .getfield 16, 3), (171, .iload 5, 2), (173, .iaload, 1), (174, .iadd, 1), (175, .istore_n 3, 1), (176, .iinc 2 (-1), 3), (179, .iinc 4 1, 3), (182, .goto (-145), 3), (185, .iload_n 2, 1), (186, .ifCond .le 8, 3), (189, .ldc 116, 2), (191, .goto 4, 3), (194, .iload_n 3, 1), (195, .ireturn, 1)]
set_option maxRecDepth 100000 in
theorem pX7_treeOf_ok : (pX7_treeOf.all fun q => decide (decode cX7_treeOf q.1 = .ok (q.2.1, q.2.2))) = true := by decide +kernel
def pX7_layTrees : aPg := [(0, .iconst 0, 1), (1, .istore_n 1, 1), (2, .iload_n 1, 1), (3, .aload_n 0, 1), (4, .getfield 98, 3), (7, .if_icmp .ge 64, 3), (10, .iload_n 1, 1), (11, .istore_n 2, 1), (12, .iload_n 2, 1), (13, .ifCond .le 45, 3), (16, .aload_n 0, 1), (17, .getfield 16, 3), (20, .aload_n 0, 1), (21, .getfield 65, 3), (24, .iload_n 2, 1), (25, .iconst 1, 1), (26, .isub, 1), (27, .iaload, 1), (28, .iaload, 1), (29, .aload_n 0, 1), (30, .getfield 16, 3), (33, .iload_n 1, 1), (34, .iaload, 1), (35, .if_icmp .le 23, 3), (38, .aload_n 0, 1), (39, .getfield 65, 3), (42, .iload_n 2, 1), (43, .aload_n 0, 1), (44, .getfield 65, 3), (47, .iload_n 2, 1), (48, .iconst 1, 1), (49, .isub, 1), (50, .iaload, 1), (51, .iastore, 1), (52, .iinc 2 (-1), 3), (55, .goto (-43), 3), (58, .aload_n 0, 1), (59, .getfield 65, 3), (62, .iload_n 2, 1), (63, .iload_n 1, 1), (64, .iastore, 1), (65, .iinc 1 1, 3), (68, .goto (-66), 3), (71, .iconst 1, 1), (72, .istore_n 1, 1), (73, .iload_n 1, 1), (74, .sipush 1024, 3), (77, .if_icmp .ge 20, 3), (80, .aload_n 0, 1), (81, .getfield 62, 3), (84, .iload_n 1, 1), (85, .aload_n 0, 1), (86, .iload_n 1, 1), (87, .invokevirtual 160, 3), (90, .iastore, 1), (91, .iinc 1 1, 3), (94, .goto (-21), 3), (97, .return_, 1)]
set_option maxRecDepth 100000 in
theorem pX7_layTrees_ok : (pX7_layTrees.all fun q => decide (decode cX7_layTrees q.1 = .ok (q.2.1, q.2.2))) = true := by decide +kernel
def pX7_leastNet : aPg := [(0, .ldc 116, 2), (2, .istore_n 3, 1), (3, .iload_n 1, 1), (4, .istore 4, 2), (6, .iload 4, 2), (8, .sipush 1024, 3), (11, .if_icmp .ge 67, 3), (14, .iload 4, 2), (16, .iload_n 1, 1), (17, .iand, 1), (18, .iload_n 1, 1), (19, .if_icmp .ne 22, 3), (22, .iload_n 2, 1), (23, .bipush (-9), 2), (25, .if_icmp .eq 12, 3), (28, .iload 4, 2), (30, .iload_n 2, 1), (31, .ishr, 1), (32, .iconst 1, 1), (33, .iand, 1), (34, .ifCond .ne 7, 3), (37, .iconst 1, 1), (38, .goto 4, 3), (41, .iconst 0, 1), (42, .istore 5, 2), (44, .iload 5, 2), (46, .ifCond .eq 24, 3), (49, .aload_n 0, 1), (50, .getfield 62, 3), (53, .iload 4, 2), (55, .iaload, 1), (56, .iload_n 3, 1), (57, .if_icmp .ge 13, 3), (60, .aload_n 0, 1), (61, .getfield 62, 3), (64, .iload 4, 2), (66, .iaload, 1), (67, .goto 4, 3), (70, .iload_n 3, 1), (71, .istore_n 3, 1), (72, .iinc 4 1, 3), (75, .goto (-69), 3), (78, .iload_n 3, 1), (79, .ireturn, 1)]
set_option maxRecDepth 100000 in
theorem pX7_leastNet_ok : (pX7_leastNet.all fun q => decide (decode cX7_leastNet q.1 = .ok (q.2.1, q.2.2))) = true := by decide +kernel
def pX7_isNet : aPg := [(0, .iload_n 0, 1), (1, .iconst 1, 1), (2, .sipush 1023, 3), (5, .invokestatic 94, 3), (8, .ifCond .eq 15, 3), (11, .iload_n 0, 1), (12, .invokestatic 157, 3), (15, .iconst 1, 1), (16, .if_icmp .le 7, 3), (19, .iconst 1, 1), (20, .goto 4, 3), (23, .iconst 0, 1), (24, .ireturn, 1)]
set_option maxRecDepth 100000 in
theorem pX7_isNet_ok : (pX7_isNet.all fun q => decide (decode cX7_isNet q.1 = .ok (q.2.1, q.2.2))) = true := by decide +kernel
def pX7_net : aPg := [(0, .iload_n 1, 1), (1, .invokestatic 163, 3), (4, .ifCond .ne 6, 3), (7, .bipush (-2), 2), (9, .ireturn, 1), (10, .aload_n 0, 1), (11, .invokevirtual 166, 3), (14, .aload_n 0, 1), (15, .iload_n 1, 1), (16, .bipush (-9), 2), (18, .invokevirtual 169, 3), (21, .istore_n 2, 1), (22, .iload_n 2, 1), (23, .ldc 116, 2), (25, .if_icmp .ne 8, 3), (28, .bipush (-9), 2), (30, .goto 4, 3), (33, .iload_n 2, 1), (34, .ireturn, 1)]
set_option maxRecDepth 100000 in
theorem pX7_net_ok : (pX7_net.all fun q => decide (decode cX7_net q.1 = .ok (q.2.1, q.2.2))) = true := by decide +kernel
def pX7_splice : aPg := [(0, .iload_n 1, 1), (1, .invokestatic 163, 3), (4, .ifCond .ne 6, 3), (7, .bipush (-2), 2), (9, .ireturn, 1), (10, .aload_n 0, 1), (11, .invokevirtual 166, 3), (14, .aload_n 0, 1), (15, .iload_n 1, 1), (16, .bipush (-9), 2), (18, .invokevirtual 169, 3), (21, .istore_n 2, 1), (22, .iconst 0, 1), (23, .istore_n 3, 1), (24, .iload_n 3, 1), (25, .bipush 10, 2), (27, .if_icmp .ge 35, 3), (30, .iload_n 2, 1), (31, .ldc 116, 2), (33, .if_icmp .ge 29, 3), (36, .iload_n 1, 1), (37, .iload_n 3, 1), (38, .ishr, 1), (39, .iconst 1, 1), (40, .iand, 1), (41, .ifCond .ne 15, 3), (44, .aload_n 0, 1), (45, .iload_n 1, 1), (46, .iload_n 3, 1), (47, .invokevirtual 169, 3), (50, .iload_n 2, 1), (51, .if_icmp .le 5, 3), (54, .iload_n 3, 1), (55, .ireturn, 1), (56, .iinc 3 1, 3), (59, .goto (-35), 3), (62, .bipush (-9), 2), (64, .ireturn, 1)]
set_option maxRecDepth 100000 in
theorem pX7_splice_ok : (pX7_splice.all fun q => decide (decode cX7_splice q.1 = .ok (q.2.1, q.2.2))) = true := by decide +kernel
def pX7_option : aPg := [(0, .aload_n 0, 1), (1, .iload_n 1, 1), (2, .invokevirtual 125, 3), (5, .ifCond .ne 5, 3), (8, .iconst (-1), 1), (9, .ireturn, 1), (10, .iload_n 2, 1), (11, .iconst 0, 1), (12, .sipush 255, 3), (15, .invokestatic 94, 3), (18, .ifCond .ne 6, 3), (21, .bipush (-2), 2), (23, .ireturn, 1), (24, .aload_n 0, 1), (25, .getfield 34, 3), (28, .iload_n 1, 1), (29, .iaload, 1), (30, .istore_n 3, 1), (31, .aload_n 0, 1), (32, .getfield 34, 3), (35, .iload_n 1, 1), (36, .iload_n 2, 1), (37, .iastore, 1), (38, .iload_n 3, 1), (39, .ireturn, 1)]
set_option maxRecDepth 100000 in
theorem pX7_option_ok : (pX7_option.all fun q => decide (decode cX7_option q.1 = .ok (q.2.1, q.2.2))) = true := by decide +kernel
def pX7_order : aPg := [(0, .iload_n 1, 1), (1, .iconst 0, 1), (2, .sipush 255, 3), (5, .invokestatic 94, 3), (8, .ifCond .eq 14, 3), (11, .iload_n 2, 1), (12, .iconst 1, 1), (13, .sipush 1000, 3), (16, .invokestatic 94, 3), (19, .ifCond .ne 6, 3), (22, .bipush (-2), 2), (24, .ireturn, 1), (25, .aload_n 0, 1), (26, .getfield 172, 3), (29, .bipush 8, 2), (31, .if_icmp .ne 6, 3), (34, .bipush (-4), 2), (36, .ireturn, 1), (37, .aload_n 0, 1), (38, .getfield 71, 3), (41, .aload_n 0, 1), (42, .getfield 172, 3), (45, .iload_n 1, 1), (46, .iastore, 1), (47, .aload_n 0, 1), (48, .getfield 74, 3), (51, .aload_n 0, 1), (52, .getfield 172, 3), (55, .iload_n 2, 1), (56, .iastore, 1), (57, .aload_n 0, 1), (58, .dup, 1), (59, .getfield 172, 3), (62, .iconst 1, 1), (63, .iadd, 1), (64, .putfield 172, 3), (67, .aload_n 0, 1), (68, .getfield 172, 3), (71, .iconst 1, 1), (72, .isub, 1), (73, .ireturn, 1)]
set_option maxRecDepth 100000 in
theorem pX7_order_ok : (pX7_order.all fun q => decide (decode cX7_order q.1 = .ok (q.2.1, q.2.2))) = true := by decide +kernel
def pX7_setup : aPg := [(0, .iload_n 1, 1), (1, .iconst 0, 1), (2, .ldc 175, 2), (4, .invokestatic 94, 3), (7, .ifCond .ne 6, 3), (10, .bipush (-2), 2), (12, .ireturn, 1), (13, .aload_n 0, 1), (14, .getfield 77, 3), (17, .istore_n 2, 1), (18, .aload_n 0, 1), (19, .iload_n 1, 1), (20, .putfield 77, 3), (23, .iload_n 2, 1), (24, .ireturn, 1)]
set_option maxRecDepth 100000 in
theorem pX7_setup_ok : (pX7_setup.all fun q => decide (decode cX7_setup q.1 = .ok (q.2.1, q.2.2))) = true := by decide +kernel
def pX7_needs : aPg := [(0, .aload_n 0, 1), (1, .getfield 34, 3), (4, .iload_n 2, 1), (5, .iaload, 1), (6, .aload_n 0, 1), (7, .getfield 71, 3), (10, .iload_n 1, 1), (11, .iaload, 1), (12, .iconst (-1), 1), (13, .ixor, 1), (14, .iand, 1), (15, .ifCond .ne 7, 3), (18, .iconst 1, 1), (19, .goto 4, 3), (22, .iconst 0, 1), (23, .ireturn, 1)]
set_option maxRecDepth 100000 in
theorem pX7_needs_ok : (pX7_needs.all fun q => decide (decode cX7_needs q.1 = .ok (q.2.1, q.2.2))) = true := by decide +kernel
def pX7_weightOf : aPg := [(0, .iconst 0, 1), (1, .istore_n 2, 1), (2, .iconst 0, 1), (3, .istore_n 3, 1), (4, .iload_n 3, 1), (5, .aload_n 0, 1), (6, .getfield 101, 3), (9, .if_icmp .ge 80, 3), (12, .iconst 0, 1), (13, .istore 4, 2), (15, .iconst 0, 1), (16, .istore 5, 2), (18, .iload 5, 2), (20, .aload_n 0, 1), (21, .getfield 172, 3), (24, .if_icmp .ge 41, 3), (27, .iload 4, 2), (29, .ifCond .ne 23, 3), (32, .iload_n 1, 1), (33, .iload 5, 2), (35, .ishr, 1), (36, .iconst 1, 1), (37, .iand, 1), (38, .iconst 1, 1), (39, .if_icmp .ne 17, 3), (42, .aload_n 0, 1), (43, .iload 5, 2), (45, .iload_n 3, 1), (46, .invokevirtual 176, 3), (49, .ifCond .eq 7, 3), (52, .iconst 1, 1), (53, .goto 4, 3), (56, .iconst 0, 1), (57, .istore 4, 2), (59, .iinc 5 1, 3), (62, .goto (-44), 3), (65, .iload_n 2, 1), (66, .iload 4, 2), (68, .ifCond .eq 12, 3), (71, .aload_n 0, 1), (72, .getfield 28, 3), (75, .iload_n 3, 1), (76, .iaload, 1), (77, .goto 4, 3), (80, .iconst 0, 1), (81, .iadd, 1), (82, .istore_n 2, 1), (83, .iinc 3 1, 3), (86, .goto (-82), 3), (89, .iload_n 2, 1), (90, .ireturn, 1)]
set_option maxRecDepth 100000 in
theorem pX7_weightOf_ok : (pX7_weightOf.all fun q => decide (decode cX7_weightOf q.1 = .ok (q.2.1, q.2.2))) = true := by decide +kernel
def pX7_weight : aPg := [(0, .iload_n 1, 1), (1, .iconst 0, 1), (2, .iconst 1, 1), (3, .aload_n 0, 1), (4, .getfield 172, 3), (7, .ishl, 1), (8, .iconst 1, 1), (9, .isub, 1), (10, .invokestatic 94, 3), (13, .ifCond .eq 11, 3), (16, .aload_n 0, 1), (17, .iload_n 1, 1), (18, .invokevirtual 179, 3), (21, .goto 4, 3), (24, .iconst (-1), 1), (25, .ireturn, 1)]
set_option maxRecDepth 100000 in
theorem pX7_weight_ok : (pX7_weight.all fun q => decide (decode cX7_weight q.1 = .ok (q.2.1, q.2.2))) = true := by decide +kernel
def pX7_mostAhead : aPg := [(0, .iconst (-1), 1), (1, .istore_n 2, 1), (2, .iconst 0, 1), (3, .istore_n 3, 1), (4, .iload_n 3, 1), (5, .iload_n 1, 1), (6, .if_icmp .ge 30, 3), (9, .aload_n 0, 1), (10, .getfield 81, 3), (13, .iload_n 3, 1), (14, .iaload, 1), (15, .iload_n 2, 1), (16, .if_icmp .le 12, 3), (19, .aload_n 0, 1), (20, .getfield 81, 3), (23, .iload_n 3, 1), (24, .iaload, 1), (25, .goto 4, 3), (28, .iload_n 2, 1), (29, .istore_n 2, 1), (30, .iinc 3 1, 3), (33, .goto (-29), 3), (36, .iload_n 2, 1), (37, .ireturn, 1)]
set_option maxRecDepth 100000 in
theorem pX7_mostAhead_ok : (pX7_mostAhead.all fun q => decide (decode cX7_mostAhead q.1 = .ok (q.2.1, q.2.2))) = true := by decide +kernel
def pX7_nextRow : aPg := [(0, .aload_n 0, 1), (1, .getfield 172, 3), (4, .iconst 1, 1), (5, .isub, 1), (6, .istore_n 1, 1), (7, .iload_n 1, 1), (8, .ifCond .le 23, 3), (11, .aload_n 0, 1), (12, .getfield 81, 3), (15, .iload_n 1, 1), (16, .iaload, 1), (17, .aload_n 0, 1), (18, .iload_n 1, 1), (19, .invokevirtual 182, 3), (22, .if_icmp .le 9, 3), (25, .iinc 1 (-1), 3), (28, .goto (-21), 3), (31, .iload_n 1, 1), (32, .ifCond .gt 5, 3), (35, .iconst 0, 1), (36, .ireturn, 1), (37, .aload_n 0, 1), (38, .getfield 81, 3), (41, .iload_n 1, 1), (42, .dup2, 1), (43, .iaload, 1), (44, .iconst 1, 1), (45, .iadd, 1), (46, .iastore, 1), (47, .iload_n 1, 1), (48, .iconst 1, 1), (49, .iadd, 1), (50, .istore_n 2, 1), (51, .iload_n 2, 1), (52, .aload_n 0, 1), (53, .getfield 172, 3), (56, .if_icmp .ge 16, 3), (59, .aload_n 0, 1), (60, .getfield 81, 3), (63, .iload_n 2, 1), (64, .iconst 0, 1), (65, .iastore, 1), (66, .iinc 2 1, 3), (69, .goto (-18), 3), (72, .iconst 1, 1), (73, .ireturn, 1)]
set_option maxRecDepth 100000 in
theorem pX7_nextRow_ok : (pX7_nextRow.all fun q => decide (decode cX7_nextRow q.1 = .ok (q.2.1, q.2.2))) = true := by decide +kernel
def pX7_layPlan : aPg := [(0, .iconst 1, 1), (1, .istore_n 1, 1), (2, .iload_n 1, 1), (3, .iconst 1, 1), (4, .aload_n 0, 1), (5, .getfield 172, 3), (8, .ishl, 1), (9, .if_icmp .ge 67, 3), (12, .lconst 0, 1), (13, .lstore_n 2, 1), (14, .iconst 0, 1), (15, .istore 4, 2), (17, .iload 4, 2), (19, .aload_n 0, 1), (20, .getfield 172, 3), (23, .if_icmp .ge 27, 3), (26, .lload_n 2, 1), (27, .iload_n 1, 1), (28, .iload 4, 2), (30, .ishr, 1), (31, .iconst 1, 1), (32, .iand, 1), (33, .aload_n 0, 1), (34, .getfield 74, 3), (37, .iload 4, 2), (39, .iaload, 1), (40, .imul, 1), (41, .i2l, 1), (42, .ladd, 1), (43, .lstore_n 2, 1), (44, .iinc 4 1, 3), (47, .goto (-30), 3), (50, .aload_n 0, 1), (51, .getfield 87, 3), (54, .iload_n 1, 1), (55, .aload_n 0, 1), (56, .getfield 77, 3), (59, .i2l, 1), (60, .lload_n 2, 1), (61, .aload_n 0, 1), (62, .iload_n 1, 1), (63, .invokevirtual 179, 3), (66, .i2l, 1), (67, .lmul, 1), (68, .ladd, 1), (69, .lastore, 1), (70, .iinc 1 1, 3), (73, .goto (-71), 3), (76, .iconst 0, 1), (77, .istore_n 1, 1), (78, .iload_n 1, 1), (79, .bipush 8, 2), (81, .if_icmp .ge 16, 3), (84, .aload_n 0, 1), (85, .getfield 81, 3), (88, .iload_n 1, 1), (89, .iconst 0, 1), (90, .iastore, 1), (91, .iinc 1 1, 3), (94, .goto (-16), 3), (97, .aload_n 0, 1), (98, .ldc2_w 185, 3), (101, .putfield 187, 3), (104, .bipush 9, 2), (106, .istore_n 1, 1), (107, .aload_n 0, 1), (108, .getfield 172, 3), (111, .ifCond .le 7, 3), (114, .iconst 1, 1), (115, .goto 4, 3), (118, .iconst 0, 1), (119, .istore_n 2, 1), (120, .iload_n 2, 1), (121, .ifCond .eq 172, 3), (124, .aload_n 0, 1), (125, .aload_n 0, 1), (126, .getfield 172, 3), (129, .invokevirtual 182, 3), (132, .iconst 1, 1), (133, .iadd, 1), (134, .istore_n 3, 1), (135, .lconst 0, 1), (136, .lstore 4, 2), (138, .iconst 0, 1), (139, .istore 6, 2), (141, .iload 6, 2), (143, .iload_n 3, 1), (144, .if_icmp .ge 67, 3), (147, .iconst 0, 1), (148, .istore 7, 2), (150, .iconst 0, 1), (151, .istore 8, 2), (153, .iload 8, 2), (155, .aload_n 0, 1), (156, .getfield 172, 3), (159, .if_icmp .ge 34, 3), (162, .iload 7, 2), (164, .aload_n 0, 1), (165, .getfield 81, 3), (168, .iload 8, 2), (170, .iaload, 1), (171, .iload 6, 2), (173, .if_icmp .ne 10, 3), (176, .iconst 1, 1), (177, .iload 8, 2), (179, .ishl, 1), (180, .goto 4, 3), (183, .iconst 0, 1), (184, .ior, 1), (185, .istore 7, 2), (187, .iinc 8 1, 3), (190, .goto (-37), 3), (193, .lload 4, 2), (195, .aload_n 0, 1), (196, .getfield 87, 3), (199, .iload 7, 2), (201, .laload, 1), (202, .ladd, 1), (203, .lstore 4, 2), (205, .iinc 6 1, 3), (208, .goto (-67), 3), (211, .aload_n 0, 1), (212, .getfield 187, 3), (215, .lconst 0, 1), (216, .lcmp, 1), (217, .ifCond .lt 28, 3), (220, .lload 4, 2), (222, .aload_n 0, 1), (223, .getfield 187, 3), (226, .lcmp, 1), (227, .ifCond .lt 18, 3), (230, .lload 4, 2), (232, .aload_n 0, 1), (233, .getfield 187, 3), (236, .lcmp, 1), (237, .ifCond .ne 48, 3), (240, .iload_n 3, 1), (241, .iload_n 1, 1), (242, .if_icmp .ge 43, 3), (245, .aload_n 0, 1), (246, .lload 4, 2), (248, .putfield 187, 3), (251, .iload_n 3, 1), (252, .istore_n 1, 1), (253, .iconst 0, 1), (254, .istore 6, 2), (256, .iload 6, 2), (258, .aload_n 0, 1), (259, .getfield 172, 3), (262, .if_icmp .ge 23, 3), (265, .aload_n 0, 1), (266, .getfield 84, 3), (269, .iload 6, 2), (271, .aload_n 0, 1), (272, .getfield 81, 3), (275, .iload 6, 2), (277, .iaload, 1), (278, .iastore, 1), (279, .iinc 6 1, 3), (282, .goto (-26), 3), (285, .aload_n 0, 1), (286, .invokevirtual 191, 3), (289, .istore_n 2, 1), (290, .goto (-170), 3), (293, .return_, 1)]
set_option maxRecDepth 100000 in
theorem pX7_layPlan_ok : (pX7_layPlan.all fun q => decide (decode cX7_layPlan q.1 = .ok (q.2.1, q.2.2))) = true := by decide +kernel
def pX7_best : aPg := [(0, .aload_n 0, 1), (1, .invokevirtual 195, 3), (4, .aload_n 0, 1), (5, .getfield 172, 3), (8, .ifCond .ne 7, 3), (11, .lconst 0, 1), (12, .goto 7, 3), (15, .aload_n 0, 1), (16, .getfield 187, 3), (19, .lreturn, 1)]
set_option maxRecDepth 100000 in
theorem pX7_best_ok : (pX7_best.all fun q => decide (decode cX7_best q.1 = .ok (q.2.1, q.2.2))) = true := by decide +kernel
def pX7_loom : aPg := [(0, .iload_n 1, 1), (1, .iconst 0, 1), (2, .aload_n 0, 1), (3, .getfield 172, 3), (6, .iconst 1, 1), (7, .isub, 1), (8, .invokestatic 94, 3), (11, .ifCond .ne 5, 3), (14, .iconst (-1), 1), (15, .ireturn, 1), (16, .aload_n 0, 1), (17, .invokevirtual 195, 3), (20, .aload_n 0, 1), (21, .getfield 84, 3), (24, .iload_n 1, 1), (25, .iaload, 1), (26, .ireturn, 1)]
set_option maxRecDepth 100000 in
theorem pX7_loom_ok : (pX7_loom.all fun q => decide (decode cX7_loom q.1 = .ok (q.2.1, q.2.2))) = true := by decide +kernel
def pX7_areAlike : aPg := [(0, .iconst 1, 1), (1, .istore_n 3, 1), (2, .iconst 0, 1), (3, .istore 4, 2), (5, .iload 4, 2), (7, .aload_n 0, 1), (8, .getfield 101, 3), (11, .if_icmp .ge 36, 3), (14, .iload_n 3, 1), (15, .ifCond .eq 24, 3), (18, .aload_n 0, 1), (19, .iload_n 1, 1), (20, .iload 4, 2), (22, .invokevirtual 176, 3), (25, .aload_n 0, 1), (26, .iload_n 2, 1), (27, .iload 4, 2), (29, .invokevirtual 176, 3), (32, .if_icmp .ne 7, 3), (35, .iconst 1, 1), (36, .goto 4, 3), (39, .iconst 0, 1), (40, .istore_n 3, 1), (41, .iinc 4 1, 3), (44, .goto (-39), 3), (47, .iload_n 3, 1), (48, .ireturn, 1)]
set_option maxRecDepth 100000 in
theorem pX7_areAlike_ok : (pX7_areAlike.all fun q => decide (decode cX7_areAlike q.1 = .ok (q.2.1, q.2.2))) = true := by decide +kernel
def pX7_alike : aPg := [(0, .iconst 0, 1), (1, .istore_n 1, 1), (2, .iconst 0, 1), (3, .istore_n 2, 1), (4, .iload_n 2, 1), (5, .aload_n 0, 1), (6, .getfield 172, 3), (9, .if_icmp .ge 67, 3), (12, .iconst 0, 1), (13, .istore_n 3, 1), (14, .iconst 0, 1), (15, .istore 4, 2), (17, .iload 4, 2), (19, .aload_n 0, 1), (20, .getfield 172, 3), (23, .if_icmp .ge 35, 3), (26, .iload_n 3, 1), (27, .ifCond .ne 19, 3), (30, .iload_n 2, 1), (31, .iload 4, 2), (33, .if_icmp .eq 17, 3), (36, .aload_n 0, 1), (37, .iload_n 2, 1), (38, .iload 4, 2), (40, .invokevirtual 198, 3), (43, .ifCond .eq 7, 3), (46, .iconst 1, 1), (47, .goto 4, 3), (50, .iconst 0, 1), (51, .istore_n 3, 1), (52, .iinc 4 1, 3), (55, .goto (-38), 3), (58, .iload_n 1, 1), (59, .iload_n 3, 1), (60, .ifCond .eq 7, 3), (63, .iconst 1, 1), (64, .goto 4, 3), (67, .iconst 0, 1), (68, .iadd, 1), (69, .istore_n 1, 1), (70, .iinc 2 1, 3), (73, .goto (-69), 3), (76, .iload_n 1, 1), (77, .ireturn, 1)]
set_option maxRecDepth 100000 in
theorem pX7_alike_ok : (pX7_alike.all fun q => decide (decode cX7_alike q.1 = .ok (q.2.1, q.2.2))) = true := by decide +kernel
def pX7_isPin : aPg := [(0, .iload_n 0, 1), (1, .iconst 0, 1), (2, .bipush 15, 2), (4, .invokestatic 94, 3), (7, .ireturn, 1)]
set_option maxRecDepth 100000 in
theorem pX7_isPin_ok : (pX7_isPin.all fun q => decide (decode cX7_isPin q.1 = .ok (q.2.1, q.2.2))) = true := by decide +kernel
def pX7_pin : aPg := [(0, .iload_n 1, 1), (1, .invokestatic 201, 3), (4, .ifCond .eq 13, 3), (7, .iload_n 2, 1), (8, .iconst 0, 1), (9, .bipush 7, 2), (11, .invokestatic 94, 3), (14, .ifCond .ne 5, 3), (17, .iconst (-1), 1), (18, .ireturn, 1), (19, .aload_n 0, 1), (20, .getfield 91, 3), (23, .iload_n 1, 1), (24, .iaload, 1), (25, .istore_n 3, 1), (26, .aload_n 0, 1), (27, .getfield 91, 3), (30, .iload_n 1, 1), (31, .iload_n 2, 1), (32, .iastore, 1), (33, .iload_n 3, 1), (34, .ireturn, 1)]
set_option maxRecDepth 100000 in
theorem pX7_pin_ok : (pX7_pin.all fun q => decide (decode cX7_pin q.1 = .ok (q.2.1, q.2.2))) = true := by decide +kernel
def pX7_nets : aPg := [(0, .iconst 0, 1), (1, .istore_n 1, 1), (2, .iconst 0, 1), (3, .istore_n 2, 1), (4, .iload_n 2, 1), (5, .bipush 16, 2), (7, .if_icmp .ge 20, 3), (10, .iload_n 1, 1), (11, .iconst 1, 1), (12, .aload_n 0, 1), (13, .getfield 91, 3), (16, .iload_n 2, 1), (17, .iaload, 1), (18, .ishl, 1), (19, .ior, 1), (20, .istore_n 1, 1), (21, .iinc 2 1, 3), (24, .goto (-20), 3), (27, .iload_n 1, 1), (28, .ireturn, 1)]
set_option maxRecDepth 100000 in
theorem pX7_nets_ok : (pX7_nets.all fun q => decide (decode cX7_nets q.1 = .ok (q.2.1, q.2.2))) = true := by decide +kernel
def pX7_testMany : aPg := [(0, .iconst 0, 1), (1, .istore_n 1, 1), (2, .iconst 0, 1), (3, .istore_n 2, 1), (4, .iload_n 2, 1), (5, .bipush 16, 2), (7, .if_icmp .ge 25, 3), (10, .iload_n 1, 1), (11, .aload_n 0, 1), (12, .getfield 91, 3), (15, .iload_n 2, 1), (16, .iaload, 1), (17, .aload_n 0, 1), (18, .getfield 91, 3), (21, .iconst 0, 1), (22, .iaload, 1), (23, .ixor, 1), (24, .ior, 1), (25, .istore_n 1, 1), (26, .iinc 2 1, 3), (29, .goto (-25), 3), (32, .iload_n 1, 1), (33, .iconst 3, 1), (34, .if_icmp .le 7, 3), (37, .iconst 3, 1), (38, .goto 13, 3), (41, .iload_n 1, 1), (42, .iconst 1, 1), (43, .if_icmp .le 7, 3), (46, .iconst 2, 1), (47, .goto 4, 3), (50, .iload_n 1, 1), (51, .ireturn, 1)]
set_option maxRecDepth 100000 in
theorem pX7_testMany_ok : (pX7_testMany.all fun q => decide (decode cX7_testMany q.1 = .ok (q.2.1, q.2.2))) = true := by decide +kernel
def pX7_tests : aPg := [(0, .aload_n 0, 1), (1, .invokevirtual 204, 3), (4, .ireturn, 1)]
set_option maxRecDepth 100000 in
theorem pX7_tests_ok : (pX7_tests.all fun q => decide (decode cX7_tests q.1 = .ok (q.2.1, q.2.2))) = true := by decide +kernel
def pX7_side : aPg := [(0, .iload_n 2, 1), (1, .invokestatic 201, 3), (4, .ifCond .ne 5, 3), (7, .iconst (-1), 1), (8, .ireturn, 1), (9, .iload_n 1, 1), (10, .iconst 0, 1), (11, .aload_n 0, 1), (12, .invokevirtual 204, 3), (15, .iconst 1, 1), (16, .isub, 1), (17, .invokestatic 94, 3), (20, .ifCond .eq 16, 3), (23, .aload_n 0, 1), (24, .getfield 91, 3), (27, .iload_n 2, 1), (28, .iaload, 1), (29, .iload_n 1, 1), (30, .ishr, 1), (31, .iconst 1, 1), (32, .iand, 1), (33, .goto 5, 3), (36, .bipush (-2), 2), (38, .ireturn, 1)]
set_option maxRecDepth 100000 in
theorem pX7_side_ok : (pX7_side.all fun q => decide (decode cX7_side q.1 = .ok (q.2.1, q.2.2))) = true := by decide +kernel
def pX7_hasPins : aPg := [(0, .iload_n 1, 1), (1, .iconst 0, 1), (2, .bipush 7, 2), (4, .invokestatic 94, 3), (7, .ifCond .eq 19, 3), (10, .aload_n 0, 1), (11, .invokevirtual 208, 3), (14, .iload_n 1, 1), (15, .ishr, 1), (16, .iconst 1, 1), (17, .iand, 1), (18, .iconst 1, 1), (19, .if_icmp .ne 7, 3), (22, .iconst 1, 1), (23, .goto 4, 3), (26, .iconst 0, 1), (27, .ireturn, 1)]
set_option maxRecDepth 100000 in
theorem pX7_hasPins_ok : (pX7_hasPins.all fun q => decide (decode cX7_hasPins q.1 = .ok (q.2.1, q.2.2))) = true := by decide +kernel
def pX7_shows : aPg := [(0, .aload_n 0, 1), (1, .iload_n 1, 1), (2, .invokevirtual 211, 3), (5, .ifCond .eq 11, 3), (8, .aload_n 0, 1), (9, .iload_n 2, 1), (10, .invokevirtual 211, 3), (13, .ifCond .ne 5, 3), (16, .iconst (-1), 1), (17, .ireturn, 1), (18, .iload_n 1, 1), (19, .iload_n 2, 1), (20, .if_icmp .ne 8, 3), (23, .bipush (-3), 2), (25, .goto 6, 3), (28, .iload_n 1, 1), (29, .iload_n 2, 1), (30, .ixor, 1), (31, .ireturn, 1)]
set_option maxRecDepth 100000 in
theorem pX7_shows_ok : (pX7_shows.all fun q => decide (decode cX7_shows q.1 = .ok (q.2.1, q.2.2))) = true := by decide +kernel
def pX7_pairs : aPg := [(0, .iconst 0, 1), (1, .istore_n 2, 1), (2, .iconst 0, 1), (3, .istore_n 3, 1), (4, .iload_n 3, 1), (5, .bipush 8, 2), (7, .if_icmp .ge 60, 3), (10, .iload_n 3, 1), (11, .iconst 1, 1), (12, .iadd, 1), (13, .istore 4, 2), (15, .iload 4, 2), (17, .bipush 8, 2), (19, .if_icmp .ge 42, 3), (22, .iload_n 2, 1), (23, .aload_n 0, 1), (24, .iload_n 3, 1), (25, .invokevirtual 211, 3), (28, .ifCond .eq 24, 3), (31, .aload_n 0, 1), (32, .iload 4, 2), (34, .invokevirtual 211, 3), (37, .ifCond .eq 15, 3), (40, .iload_n 3, 1), (41, .iload 4, 2), (43, .ixor, 1), (44, .iload_n 1, 1), (45, .if_icmp .ne 7, 3), (48, .iconst 1, 1), (49, .goto 4, 3), (52, .iconst 0, 1), (53, .iadd, 1), (54, .istore_n 2, 1), (55, .iinc 4 1, 3), (58, .goto (-43), 3), (61, .iinc 3 1, 3), (64, .goto (-60), 3), (67, .iload_n 2, 1), (68, .ireturn, 1)]
set_option maxRecDepth 100000 in
theorem pX7_pairs_ok : (pX7_pairs.all fun q => decide (decode cX7_pairs q.1 = .ok (q.2.1, q.2.2))) = true := by decide +kernel
def pX7_count : aPg := [(0, .iconst 0, 1), (1, .istore_n 2, 1), (2, .iconst 0, 1), (3, .istore_n 3, 1), (4, .iconst 0, 1), (5, .istore 4, 2), (7, .iload 4, 2), (9, .aload_n 0, 1), (10, .getfield 101, 3), (13, .if_icmp .ge 36, 3), (16, .iload_n 2, 1), (17, .aload_n 0, 1), (18, .getfield 37, 3), (21, .iload 4, 2), (23, .iaload, 1), (24, .ifCond .le 7, 3), (27, .iconst 1, 1), (28, .goto 4, 3), (31, .iconst 0, 1), (32, .iadd, 1), (33, .istore_n 2, 1), (34, .iload_n 3, 1), (35, .aload_n 0, 1), (36, .iload 4, 2), (38, .invokevirtual 138, 3), (41, .iadd, 1), (42, .istore_n 3, 1), (43, .iinc 4 1, 3), (46, .goto (-39), 3), (49, .iload_n 1, 1), (50, .tableswitch 65 0 5 #[38, 43, 48, 50, 55, 63], 38), (88, .aload_n 0, 1), (89, .getfield 98, 3), (92, .ireturn, 1), (93, .aload_n 0, 1), (94, .getfield 101, 3), (97, .ireturn, 1), (98, .iload_n 2, 1), (99, .ireturn, 1), (100, .aload_n 0, 1), (101, .getfield 172, 3), (104, .ireturn, 1), (105, .aload_n 0, 1), (106, .invokevirtual 208, 3), (109, .invokestatic 157, 3), (112, .ireturn, 1), (113, .iload_n 3, 1), (114, .ireturn, 1), (115, .bipush (-2), 2), (117, .ireturn, 1)]
set_option maxRecDepth 100000 in
theorem pX7_count_ok : (pX7_count.all fun q => decide (decode cX7_count q.1 = .ok (q.2.1, q.2.2))) = true := by decide +kernel
end
section
/-! ===== what the abstract machine asks of a run: a proposition, instruction by instruction ===== -/
def a_vr (r : Nat → Nat) (v : Value) : Value := match v with
  | .ref k => .ref (r k)
  | .int x => .int x
  | .long x => .long x
  | .float x => .float x
  | .double x => .double x
  | .null => .null
  | .retAddr k => .retAddr k
theorem a_vr_cat (r : Nat → Nat) (v : Value) : (a_vr r v).category = v.category := by cases v <;> rfl
def a_look {α : Type} (n : Nat) : List (Nat × α) → Option α
  | [] => none
  | q :: t => match Nat.beq n q.1 with
    | true => some q.2
    | false => a_look n t
theorem a_look_in {α : Type} {n : Nat} {v : α} : ∀ {l : List (Nat × α)}, a_look n l = some v → (n, v) ∈ l
  | [], h => by simp [a_look] at h
  | q :: t, h => by
    unfold a_look at h
    cases hb : Nat.beq n q.1 with
    | true =>
      rw [hb] at h
      have e1 : n = q.1 := Nat.eq_of_beq_eq_true hb
      have e2 : q.2 = v := Option.some.inj h
      have e3 : (n, v) = q := by rw [e1, ← e2]
      rw [e3]; exact List.mem_cons_self
    | false =>
      rw [hb] at h
      exact List.mem_cons_of_mem _ (a_look_in h)
def a_ck (b : Bool) (P : Prop) : Prop := match b with
  | true => P
  | false => False
theorem a_ck_e {b : Bool} {P : Prop} (h : a_ck b P) : b = true ∧ P := by
  cases b with
  | true => exact ⟨rfl, h⟩
  | false => exact h.elim
def a_st1 (lv : aLV) (i : Nat) (v : Value) : aLV := (i, v) :: lv.filter (fun q => !(q.1 == i) && !(q.1 + 1 == i && q.2.category == 2))
def a_st2 (lv : aLV) (i : Nat) (v : Value) : aLV := (i, v) :: lv.filter (fun q => !(q.1 == i) && (!(q.1 == i + 1) && !(q.1 + 1 == i && q.2.category == 2)))
def a_pick (lv : aLV) : List Nat → aLV
  | [] => []
  | k :: ks => match a_look k lv with
    | some v => (k, v) :: a_pick lv ks
    | none => a_pick lv ks
theorem a_pick_in {lv : aLV} : ∀ {ks : List Nat}, ∀ q ∈ a_pick lv ks, q ∈ lv
  | [], q, h => absurd h List.not_mem_nil
  | k :: ks, q, h => by
    unfold a_pick at h
    cases hk : a_look k lv with
    | none => rw [hk] at h; exact a_pick_in q h
    | some v =>
      rw [hk] at h
      rcases List.mem_cons.mp h with e | h
      · rw [e]; exact a_look_in hk
      · exact a_pick_in q h
def a_p1i (st : List Value) (k : Int32 → List Value → Prop) : Prop := match st with
  | .int x :: r => k x r
  | _ => False
def a_p1l (st : List Value) (k : Int64 → List Value → Prop) : Prop := match st with
  | .long x :: r => k x r
  | _ => False
def a_p1r (st : List Value) (k : Nat → List Value → Prop) : Prop := match st with
  | .ref x :: r => k x r
  | _ => False
theorem a_p1i_e {st : List Value} {k : Int32 → List Value → Prop} (h : a_p1i st k) : ∃ x r, st = .int x :: r ∧ k x r := by
  unfold a_p1i at h
  split at h
  · exact ⟨_, _, rfl, h⟩
  · exact h.elim
theorem a_p1l_e {st : List Value} {k : Int64 → List Value → Prop} (h : a_p1l st k) : ∃ x r, st = .long x :: r ∧ k x r := by
  unfold a_p1l at h
  split at h
  · exact ⟨_, _, rfl, h⟩
  · exact h.elim
theorem a_p1r_e {st : List Value} {k : Nat → List Value → Prop} (h : a_p1r st k) : ∃ x r, st = .ref x :: r ∧ k x r := by
  unfold a_p1r at h
  split at h
  · exact ⟨_, _, rfl, h⟩
  · exact h.elim
def a_p2i (st : List Value) (k : Int32 → Int32 → List Value → Prop) : Prop := a_p1i st fun y r => a_p1i r fun x r => k x y r
def a_p2l (st : List Value) (k : Int64 → Int64 → List Value → Prop) : Prop := a_p1l st fun y r => a_p1l r fun x r => k x y r
theorem a_p2i_e {st : List Value} {k : Int32 → Int32 → List Value → Prop} (h : a_p2i st k) : ∃ x y r, st = .int y :: .int x :: r ∧ k x y r := by
  replace h := a_p1i_e h; obtain ⟨y, r, rfl, h⟩ := h
  replace h := a_p1i_e h; obtain ⟨x, r, rfl, h⟩ := h
  exact ⟨x, y, r, rfl, h⟩
theorem a_p2l_e {st : List Value} {k : Int64 → Int64 → List Value → Prop} (h : a_p2l st k) : ∃ x y r, st = .long y :: .long x :: r ∧ k x y r := by
  replace h := a_p1l_e h; obtain ⟨y, r, rfl, h⟩ := h
  replace h := a_p1l_e h; obtain ⟨x, r, rfl, h⟩ := h
  exact ⟨x, y, r, rfl, h⟩
/-- the local i, an int, a long, a reference -/
def a_gi (lv : aLV) (i : Nat) (k : Int32 → Prop) : Prop := match a_look i lv with
  | some (.int x) => k x
  | _ => False
def a_gl (lv : aLV) (i : Nat) (k : Int64 → Prop) : Prop := match a_look i lv with
  | some (.long x) => k x
  | _ => False
def a_gr (lv : aLV) (i : Nat) (k : Nat → Prop) : Prop := match a_look i lv with
  | some (.ref x) => k x
  | _ => False
theorem a_gi_e {lv : aLV} {i : Nat} {k : Int32 → Prop} (h : a_gi lv i k) : ∃ x, (i, Value.int x) ∈ lv ∧ k x := by
  unfold a_gi at h
  split at h
  · rename_i x e; exact ⟨_, a_look_in e, h⟩
  · exact h.elim
theorem a_gl_e {lv : aLV} {i : Nat} {k : Int64 → Prop} (h : a_gl lv i k) : ∃ x, (i, Value.long x) ∈ lv ∧ k x := by
  unfold a_gl at h
  split at h
  · rename_i x e; exact ⟨_, a_look_in e, h⟩
  · exact h.elim
theorem a_gr_e {lv : aLV} {i : Nat} {k : Nat → Prop} (h : a_gr lv i k) : ∃ x, (i, Value.ref x) ∈ lv ∧ k x := by
  unfold a_gr at h
  split at h
  · rename_i x e; exact ⟨_, a_look_in e, h⟩
  · exact h.elim
def a_br1 (c : ClassFile.Cond) (x : Int32) (T F : Prop) : Prop := match c with
  | .eq => (x = 0 → T) ∧ (¬ x = 0 → F)
  | .ne => (¬ x = 0 → T) ∧ (x = 0 → F)
  | .lt => (x < 0 → T) ∧ (¬ x < 0 → F)
  | .ge => (0 ≤ x → T) ∧ (¬ 0 ≤ x → F)
  | .gt => (0 < x → T) ∧ (¬ 0 < x → F)
  | .le => (x ≤ 0 → T) ∧ (¬ x ≤ 0 → F)
def a_br2 (c : ClassFile.Cond) (x y : Int32) (T F : Prop) : Prop := match c with
  | .eq => (x = y → T) ∧ (¬ x = y → F)
  | .ne => (¬ x = y → T) ∧ (x = y → F)
  | .lt => (x < y → T) ∧ (¬ x < y → F)
  | .ge => (y ≤ x → T) ∧ (¬ y ≤ x → F)
  | .gt => (y < x → T) ∧ (¬ y < x → F)
  | .le => (x ≤ y → T) ∧ (¬ x ≤ y → F)
/-- a jump's target -/
def a_tg (pc : Nat) (off : Int) (k : Nat → Prop) : Prop := match (pc : Int) + off with
  | .ofNat t => k t
  | .negSucc _ => False
theorem a_tg_e {pc : Nat} {off : Int} {k : Nat → Prop} (h : a_tg pc off k) : ∃ t : Nat, (pc : Int) + off = (t : Int) ∧ k t := by
  unfold a_tg at h
  split at h
  · rename_i t e; exact ⟨t, e, h⟩
  · exact h.elim
def a_sw (x : Int) (k : Int → Prop) : Int → List Int → Prop
  | _, [] => True
  | lo, o :: os => (x = lo → k o) ∧ a_sw x k (lo + 1) os
def a_pop : Nat → List Value → List Value → (List Value → List Value → Prop) → Prop
  | 0, st, acc, k => k acc st
  | n + 1, v :: st, acc, k => a_pop n st (v :: acc) k
  | _ + 1, [], _, _ => False
theorem a_pop_e : ∀ {n : Nat} {st acc : List Value} {k : List Value → List Value → Prop}, a_pop n st acc k → ∃ as r, st = as.reverse ++ r ∧ as.length = n ∧ k (as ++ acc) r
  | 0, st, acc, k, h => ⟨[], st, rfl, rfl, h⟩
  | n + 1, [], acc, k, h => h.elim
  | n + 1, v :: st, acc, k, h => by
    obtain ⟨as, r, e1, e2, h⟩ := a_pop_e (n := n) (st := st) (acc := v :: acc) (k := k) h
    exact ⟨as ++ [v], r, by rw [e1]; simp, by simp [e2], by simpa using h⟩
def a_res (ret : Option FieldType) (sp : aPost → Prop) (k : List Value → aMem → Prop) : Prop := match ret with
  | none => sp (fun r m => r = none ∧ k [] m)
  | some .long => sp (fun r m => ∃ v : Int64, r = some (.long v) ∧ k [.long v] m)
  | some _ => sp (fun r m => ∃ v : Int32, r = some (.int v) ∧ k [.int v] m)
def a_rm (R : Jvm.Room) (S : aMS) (st : List Value) : Bool := Nat.ble (S.2.2.2.2.1.frames + 1) R.frames && Nat.ble (8 + (S.2.2.1 + 11) + S.2.2.2.2.1.locals) R.locals && Nat.ble ((st.map fun v => v.category).sum) 8
def a_ld {α : Type} (o : Option α) (k : α → Prop) : Prop := match o with
  | some v => k v
  | none => False
theorem a_ld_e {α : Type} {o : Option α} {k : α → Prop} (h : a_ld o k) : ∃ v, o = some v ∧ k v := by
  cases o with
  | none => exact h.elim
  | some v => exact ⟨v, rfl, h⟩
/-- the cell a, an object; an array -/
def a_ob (a : Nat) (k : Nat → List (Nat ⊕ Nat) → Prop) : Prop := match a_lay[a]? with
  | some (.inr q) => k q.1 q.2
  | _ => False
theorem a_ob_e {a : Nat} {k : Nat → List (Nat ⊕ Nat) → Prop} (h : a_ob a k) : ∃ ci fs, a_lay[a]? = some (.inr (ci, fs)) ∧ k ci fs := by
  unfold a_ob at h
  split at h
  · rename_i q e; exact ⟨q.1, q.2, e, h⟩
  · exact h.elim
def a_ar (a : Nat) (t : Nat) (k : Nat → Prop) : Prop := match a_lay[a]? with
  | some (.inl q) => a_ck (Nat.beq q.1 t) (k q.2)
  | _ => False
theorem a_ar_e {a t : Nat} {k : Nat → Prop} (h : a_ar a t k) : ∃ n, a_lay[a]? = some (.inl (t, n)) ∧ k n := by
  unfold a_ar at h
  split at h
  · rename_i q e
    obtain ⟨h1, h2⟩ := a_ck_e h
    obtain ⟨q1, q2⟩ := q
    obtain rfl : q1 = t := Nat.eq_of_beq_eq_true h1
    exact ⟨q2, e, h2⟩
  · exact h.elim
/-- the script is the cell 99 -/
def a_sc (a : Nat) (scr : Option (Nat × (Nat → Int32))) (k : Prop) (ks : Nat → (Nat → Int32) → Prop) : Prop := match Nat.beq a 99 with
  | true => a_ld scr fun q => ks q.1 q.2
  | false => k
theorem a_sc_e {a : Nat} {scr : Option (Nat × (Nat → Int32))} {k : Prop} {ks : Nat → (Nat → Int32) → Prop} (h : a_sc a scr k ks) : k ∨ (a = 99 ∧ ∃ L xs, scr = some (L, xs) ∧ ks L xs) := by
  unfold a_sc at h
  split at h
  · rename_i e
    obtain ⟨v, e1, h⟩ := a_ld_e h
    exact Or.inr ⟨Nat.eq_of_beq_eq_true e, v.1, v.2, e1, h⟩
  · exact Or.inl h
def a_fk (f : Nat ⊕ Nat) (kr : Nat → Prop) (kl ki : Prop) : Prop := match f with
  | .inl q => kr q
  | .inr 1 => kl
  | .inr _ => ki
def a_pk (f : Nat ⊕ Nat) (ki kz : Prop) : Prop := match f with
  | .inr 0 => ki
  | .inr 2 => kz
  | _ => False
def a_pl (f : Nat ⊕ Nat) (kl : Prop) : Prop := match f with
  | .inr 1 => kl
  | _ => False
def a_pv (st : List Value) (ki : Int32 → Nat → List Value → Prop) (kl : Int64 → Nat → List Value → Prop) : Prop := match st with
  | .int x :: .ref a :: r => ki x a r
  | .long x :: .ref a :: r => kl x a r
  | _ => False
theorem a_pv_e {st : List Value} {ki : Int32 → Nat → List Value → Prop} {kl : Int64 → Nat → List Value → Prop} (h : a_pv st ki kl) : (∃ x a r, st = .int x :: .ref a :: r ∧ ki x a r) ∨ (∃ x a r, st = .long x :: .ref a :: r ∧ kl x a r) := by
  unfold a_pv at h
  split at h
  · exact Or.inl ⟨_, _, _, rfl, h⟩
  · exact Or.inr ⟨_, _, _, rfl, h⟩
  · exact h.elim
def a_du (st : List Value) (k : Value → List Value → Prop) : Prop := match st with
  | .int x :: r => k (.int x) r
  | .ref x :: r => k (.ref x) r
  | _ => False
theorem a_du_e {st : List Value} {k : Value → List Value → Prop} (h : a_du st k) : ∃ v r, st = v :: r ∧ v.category = 1 ∧ k v r := by
  unfold a_du at h
  split at h
  · exact ⟨_, _, rfl, rfl, h⟩
  · exact ⟨_, _, rfl, rfl, h⟩
  · exact h.elim
def a_e1 (st : List Value) (k : Prop) : Prop := match st with
  | [] => k
  | _ => False
theorem a_e1_e {st : List Value} {k : Prop} (h : a_e1 st k) : st = [] ∧ k := by
  unfold a_e1 at h
  split at h
  · exact ⟨rfl, h⟩
  · exact h.elim
def a_ri (ret : Option FieldType) (x : Int32) (k : Prop) : Prop := match ret with
  | some .int => k
  | some .boolean => (x = 0 ∨ x = 1) ∧ k
  | _ => False
theorem a_ri_e {ret : Option FieldType} {x : Int32} {k : Prop} (h : a_ri ret x k) : (ret = some .int ∨ (ret = some .boolean ∧ (x = 0 ∨ x = 1))) ∧ k := by
  unfold a_ri at h
  split at h
  · exact ⟨Or.inl rfl, h⟩
  · exact ⟨Or.inr ⟨rfl, h.1⟩, h.2⟩
  · exact h.elim
def a_rl (ret : Option FieldType) (k : Prop) : Prop := match ret with
  | some .long => k
  | _ => False
theorem a_rl_e {ret : Option FieldType} {k : Prop} (h : a_rl ret k) : ret = some .long ∧ k := by
  unfold a_rl at h
  split at h
  · exact ⟨rfl, h⟩
  · exact h.elim
def a_rv (ret : Option FieldType) (k : Prop) : Prop := match ret with
  | none => k
  | _ => False
theorem a_rv_e {ret : Option FieldType} {k : Prop} (h : a_rv ret k) : ret = none ∧ k := by
  unfold a_rv at h
  split at h
  · exact ⟨rfl, h⟩
  · exact h.elim
/-- Math.min is the machine's own -/
def a_kd (k : Nat) (P3 P4 P : Prop) : Prop := match Nat.beq k 3 with
  | true => P3
  | false => match Nat.beq k 4 with
    | true => P4
    | false => P
theorem a_kd_e {k : Nat} {P3 P4 P : Prop} (h : a_kd k P3 P4 P) : (k = 3 ∧ P3) ∨ (k = 4 ∧ P4) ∨ P := by
  unfold a_kd at h
  split at h
  · rename_i e; exact Or.inl ⟨Nat.eq_of_beq_eq_true e, h⟩
  · split at h
    · rename_i e; exact Or.inr (Or.inl ⟨Nat.eq_of_beq_eq_true e, h⟩)
    · exact Or.inr (Or.inr h)
def a_ins (tab : aTab) (R : Jvm.Room) (nL : Nat) (ret : Option FieldType) (scr : Option (Nat × (Nat → Int32))) (sp : aMS → List Value → aMem → aPost → Prop) (post : aPost) (ins : Instr) (pc : Nat) (ft : aLV → List Value → aMem → Prop) (jp : Nat → aLV → List Value → aMem → Prop) (lv : aLV) (st : List Value) (μ : aMem) : Prop := match ins with
  | .aload_n k => a_gr lv k.val fun x => ft lv (.ref x :: st) μ
  | .aload k => a_gr lv k fun x => ft lv (.ref x :: st) μ
  | .iload_n k => a_gi lv k.val fun x => ft lv (.int x :: st) μ
  | .iload k => a_gi lv k fun x => ft lv (.int x :: st) μ
  | .lload_n k => a_gl lv k.val fun x => ft lv (.long x :: st) μ
  | .lload k => a_gl lv k fun x => ft lv (.long x :: st) μ
  | .istore_n k => a_p1i st fun x r => a_ck (Nat.blt k.val nL) (ft (a_st1 lv k.val (.int x)) r μ)
  | .istore k => a_p1i st fun x r => a_ck (Nat.blt k nL) (ft (a_st1 lv k (.int x)) r μ)
  | .lstore_n k => a_p1l st fun x r => a_ck (Nat.blt (k.val + 1) nL) (ft (a_st2 lv k.val (.long x)) r μ)
  | .lstore k => a_p1l st fun x r => a_ck (Nat.blt (k + 1) nL) (ft (a_st2 lv k (.long x)) r μ)
  | .iinc i n => a_gi lv i fun x => a_ck (Nat.blt i nL) (ft (a_st1 lv i (.int (x + Int32.ofInt n))) st μ)
  | .iconst n => ft lv (.int (Int32.ofInt n) :: st) μ
  | .bipush n => ft lv (.int (Int8.ofInt n).toInt32 :: st) μ
  | .sipush n => ft lv (.int (Int16.ofInt n).toInt32 :: st) μ
  | .lconst n => ft lv (.long (Int64.ofNat n.val) :: st) μ
  | .ldc i => a_ld (a_look i tab.2.2.1) fun v => ft lv (.int v :: st) μ
  | .ldc_w i => a_ld (a_look i tab.2.2.1) fun v => ft lv (.int v :: st) μ
  | .ldc2_w i => a_ld (a_look i tab.2.2.2) fun v => ft lv (.long v :: st) μ
  | .iadd => a_p2i st fun x y r => ft lv (.int (x + y) :: r) μ
  | .isub => a_p2i st fun x y r => ft lv (.int (x - y) :: r) μ
  | .imul => a_p2i st fun x y r => ft lv (.int (x * y) :: r) μ
  | .iand => a_p2i st fun x y r => ft lv (.int (x &&& y) :: r) μ
  | .ior => a_p2i st fun x y r => ft lv (.int (x ||| y) :: r) μ
  | .ixor => a_p2i st fun x y r => ft lv (.int (x ^^^ y) :: r) μ
  | .ishl => a_p2i st fun x y r => ft lv (.int (x <<< (y &&& 31)) :: r) μ
  | .ishr => a_p2i st fun x y r => ft lv (.int (x >>> (y &&& 31)) :: r) μ
  | .iushr => a_p2i st fun x y r => ft lv (.int (x.toUInt32 >>> (y.toUInt32 &&& Int32.toUInt32 31)).toInt32 :: r) μ
  | .idiv => a_p2i st fun x y r => (¬ y = 0) ∧ ft lv (.int (x / y) :: r) μ
  | .ineg => a_p1i st fun x r => ft lv (.int (-x) :: r) μ
  | .ladd => a_p2l st fun x y r => ft lv (.long (x + y) :: r) μ
  | .lmul => a_p2l st fun x y r => ft lv (.long (x * y) :: r) μ
  | .lshl => a_p1i st fun y r => a_p1l r fun x r => ft lv (.long (x <<< (y.toInt64 &&& 63)) :: r) μ
  | .lshr => a_p1i st fun y r => a_p1l r fun x r => ft lv (.long (x >>> (y.toInt64 &&& 63)) :: r) μ
  | .lcmp => a_p2l st fun x y r => ft lv (.int (lg_cmp x y) :: r) μ
  | .i2l => a_p1i st fun x r => ft lv (.long x.toInt64 :: r) μ
  | .l2i => a_p1l st fun x r => ft lv (.int x.toInt32 :: r) μ
  | .dup => a_du st fun v r => ft lv (v :: v :: r) μ
  | .dup2 => a_du st fun v r => a_du r fun w r => ft lv (v :: w :: v :: w :: r) μ
  | .ifCond c off => a_p1i st fun x r => a_tg pc off fun t => a_br1 c x (jp t lv r μ) (ft lv r μ)
  | .if_icmp c off => a_p2i st fun x y r => a_tg pc off fun t => a_br2 c x y (jp t lv r μ) (ft lv r μ)
  | .goto off => a_tg pc off fun t => jp t lv st μ
  | .tableswitch dflt lo hi offs => a_p1i st fun x r => a_ck (decide (hi - lo + 1 = (offs.toList.length : Int))) ((x.toInt < lo ∨ hi < x.toInt → a_tg pc dflt fun t => jp t lv r μ) ∧ a_sw x.toInt (fun off => a_tg pc off fun t => jp t lv r μ) lo offs.toList)
  | .getfield i => a_p1r st fun a r => a_ld (a_look i tab.1) fun q => a_ob a fun ci fs => a_ck (Nat.beq q.1 ci) (a_ld fs[q.2]? fun f => a_fk f (fun b => ft lv (.ref b :: r) μ) (ft lv (.long (μ.2 a q.2) :: r) μ) (ft lv (.int (μ.1 a q.2) :: r) μ))
  | .putfield i => a_pv st
      (fun x a r => a_ld (a_look i tab.1) fun q => a_ob a fun ci fs => a_ck (Nat.beq q.1 ci) (a_ld fs[q.2]? fun f => a_pk f (ft lv r (va_up μ.1 a (upd (μ.1 a) q.2 x), μ.2)) ((x = 0 ∨ x = 1) ∧ ft lv r (va_up μ.1 a (upd (μ.1 a) q.2 x), μ.2))))
      (fun x a r => a_ld (a_look i tab.1) fun q => a_ob a fun ci fs => a_ck (Nat.beq q.1 ci) (a_ld fs[q.2]? fun f => a_pl f (ft lv r (μ.1, va_up μ.2 a (vp_updL (μ.2 a) q.2 x)))))
  | .iaload => a_p1i st fun i r => a_p1r r fun a r => a_sc a scr (a_ar a 0 fun n => vp_in i n ∧ ft lv (.int (μ.1 a i.toNatClampNeg) :: r) μ) (fun L xs => vp_in i L ∧ ft lv (.int (xs i.toNatClampNeg) :: r) μ)
  | .baload => a_p1i st fun i r => a_p1r r fun a r => a_ar a 1 fun n => vp_in i n ∧ ft lv (.int (μ.1 a i.toNatClampNeg) :: r) μ
  | .laload => a_p1i st fun i r => a_p1r r fun a r => a_ar a 2 fun n => vp_in i n ∧ ft lv (.long (μ.2 a i.toNatClampNeg) :: r) μ
  | .iastore => a_p1i st fun x r => a_p1i r fun i r => a_p1r r fun a r => a_ar a 0 fun n => vp_in i n ∧ ft lv r (va_up μ.1 a (upd (μ.1 a) i.toNatClampNeg x), μ.2)
  | .bastore => a_p1i st fun x r => a_p1i r fun i r => a_p1r r fun a r => a_ar a 1 fun n => vp_in i n ∧ ft lv r (va_up μ.1 a (upd (μ.1 a) i.toNatClampNeg (x &&& 1)), μ.2)
  | .lastore => a_p1l st fun x r => a_p1i r fun i r => a_p1r r fun a r => a_ar a 2 fun n => vp_in i n ∧ ft lv r (μ.1, va_up μ.2 a (vp_updL (μ.2 a) i.toNatClampNeg x))
  | .arraylength => a_p1r st fun a r => a_sc a scr (a_ar a 0 fun n => ft lv (.int (Int32.ofNat n) :: r) μ) (fun L _ => ft lv (.int (Int32.ofNat L) :: r) μ)
  | .invokevirtual i => a_ld (a_look i tab.2.1) fun q => a_pop q.2.2.1 st [] fun as r => a_p1r r fun a r => a_ob a fun ci _ => a_ck (Nat.beq q.1 0 && Nat.beq q.2.1 ci && a_rm R q.2.2.2 r) (a_res q.2.2.2.2.2.2.1 (sp q.2.2.2 (.ref a :: as) μ) (fun vs m => ft lv (vs ++ r) m))
  | .invokestatic i => a_ld (a_look i tab.2.1) fun q => a_kd q.1
      (a_p2i st fun x y r => a_ck (Nat.ble 1 R.frames && Nat.ble ((r.map fun v => v.category).sum + 13) R.locals) (ft lv (.int (if y < x then y else x) :: r) μ))
      (a_p2l st fun x y r => a_ck (Nat.ble 1 R.frames && Nat.ble ((r.map fun v => v.category).sum + 15) R.locals) (ft lv (.long (if y < x then y else x) :: r) μ))
      (a_pop q.2.2.1 st [] fun as r => a_ck ((Nat.beq q.1 1 || Nat.beq q.1 2) && a_rm R q.2.2.2 r) (a_res q.2.2.2.2.2.2.1 (sp q.2.2.2 as μ) (fun vs m => ft lv (vs ++ r) m)))
  | .ireturn => a_p1i st fun x r => a_e1 r (a_ri ret x (post (some (.int x)) μ))
  | .lreturn => a_p1l st fun x r => a_e1 r (a_rl ret (post (some (.long x)) μ))
  | .return_ => a_e1 st (a_rv ret (post none μ))
  | _ => False
/-- how long an instruction is; a switch: as it is -/
def a_len (ins : Instr) : Nat := match ins with
  | .aload _ | .iload _ | .lload _ | .istore _ | .lstore _ | .bipush _ | .ldc _ => 2
  | .iinc _ _ | .sipush _ | .ldc_w _ | .ldc2_w _ | .ifCond _ _ | .if_icmp _ _ | .goto _ | .getfield _ | .putfield _ | .invokevirtual _ | .invokestatic _ => 3
  | .tableswitch _ _ _ _ => 0
  | _ => 1
def a_at (t : Nat) : aPg → aPg
  | [] => []
  | q :: r => match Nat.beq q.1 t with
    | true => q :: r
    | false => a_at t r
def a_hd (t : Nat) (pl : aPg) : Bool := match pl with
  | [] => false
  | q :: _ => Nat.beq q.1 t
def awp (tab : aTab) (pg : aPg) (cuts : List (Nat × List Nat)) (R : Jvm.Room) (nL : Nat) (ret : Option FieldType) (scr : Option (Nat × (Nat → Int32))) (sp : aMS → List Value → aMem → aPost → Prop) (rn : Nat → aLV → List Value → aMem → Prop) (post : aPost) : Nat → aPg → aLV → List Value → aMem → Prop
  | 0, _, _, _, _ => False
  | n + 1, pl, lv, st, μ => match pl with
    | [] => False
    | q :: rest => a_ck (Nat.beq q.2.2 (a_len q.2.1) || Nat.beq (a_len q.2.1) 0) (a_ins tab R nL ret scr sp post q.2.1 q.1
        (fun lv st μ => match a_look (q.1 + q.2.2) cuts with
          | some ks => rn (q.1 + q.2.2) (a_pick lv ks) st μ
          | none => a_ck (a_hd (q.1 + q.2.2) rest) (awp tab pg cuts R nL ret scr sp rn post n rest lv st μ))
        (fun t lv st μ => match a_look t cuts with
          | some ks => rn t (a_pick lv ks) st μ
          | none => a_ck (a_hd t (a_at t pg)) (awp tab pg cuts R nL ret scr sp rn post n (a_at t pg) lv st μ))
        lv st μ)
end
section
/-! ===== the world of a memory: its 63 cells at the addresses r ===== -/
def a_fv (r : Nat → Nat) (μ : aMem) (k j : Nat) (f : Nat ⊕ Nat) : Value := match f with
  | .inl q => .ref (r q)
  | .inr 1 => .long (μ.2 k j)
  | .inr _ => .int (μ.1 k j)
def a_cell (cA : ClassId × ClassId × ClassId) (r : Nat → Nat) (μ : aMem) (k : Nat) (d : aDsc) : va_E := match d with
  | .inl (0, n) => .inl (cA.1, n, .inl (μ.1 k))
  | .inl (1, n) => .inl (cA.2.1, n, .inl (μ.1 k))
  | .inl (_, n) => .inl (cA.2.2, n, .inr (.inl (μ.2 k)))
  | .inr (ci, fs) => .inr (ci, fs.mapIdx (fun j f => a_fv r μ k j f))
theorem a_world_ex : ∃ f : (ClassId × ClassId × ClassId) → (Nat → Nat) → aMem → va_W, f = fun cA r μ => a_lay.mapIdx (fun k d => (r k, a_cell cA r μ k d)) := ⟨_, rfl⟩
noncomputable def a_world : (ClassId × ClassId × ClassId) → (Nat → Nat) → aMem → va_W := Classical.choose a_world_ex
theorem a_world_eq (cA : ClassId × ClassId × ClassId) (r : Nat → Nat) (μ : aMem) : a_world cA r μ = a_lay.mapIdx (fun k d => (r k, a_cell cA r μ k d)) := by
  have h := Classical.choose_spec a_world_ex
  show Classical.choose a_world_ex cA r μ = _
  rw [h]
theorem a_fv_cong {r : Nat → Nat} {μ ν : aMem} {k j : Nat} (h1 : μ.1 k j = ν.1 k j) (h2 : μ.2 k j = ν.2 k j) (f : Nat ⊕ Nat) : a_fv r μ k j f = a_fv r ν k j f := by
  unfold a_fv; split <;> simp [h1, h2]
theorem a_cell_cong {cA : ClassId × ClassId × ClassId} {r : Nat → Nat} {μ ν : aMem} {k : Nat} (h1 : μ.1 k = ν.1 k) (h2 : μ.2 k = ν.2 k) (d : aDsc) : a_cell cA r μ k d = a_cell cA r ν k d := by
  unfold a_cell
  split
  · rw [h1]
  · rw [h1]
  · rw [h2]
  · have e : (fun j f => a_fv r μ k j f) = fun j f => a_fv r ν k j f := by
      funext j f; exact a_fv_cong (by rw [h1]) (by rw [h2]) f
    rw [e]
theorem a_world_at {cA : ClassId × ClassId × ClassId} {r : Nat → Nat} {μ : aMem} {k : Nat} {d : aDsc} (h : a_lay[k]? = some d) : (a_world cA r μ)[k]? = some (r k, a_cell cA r μ k d) := by
  rw [a_world_eq, List.getElem?_mapIdx, h]; rfl
theorem a_world_set {cA : ClassId × ClassId × ClassId} {r : Nat → Nat} {μ ν : aMem} {k : Nat} {d : aDsc} (h : a_lay[k]? = some d) (h1 : ∀ i, i ≠ k → ν.1 i = μ.1 i) (h2 : ∀ i, i ≠ k → ν.2 i = μ.2 i) : (a_world cA r μ).set k (r k, a_cell cA r ν k d) = a_world cA r ν := by
  apply List.ext_getElem?
  intro i
  by_cases e : i = k
  · subst e
    have hl : i < (a_world cA r μ).length := (List.getElem?_eq_some_iff.mp (a_world_at (cA := cA) (r := r) (μ := μ) h)).1
    rw [List.getElem?_set_self hl, a_world_at h]
  · rw [List.getElem?_set_ne (fun q => e q.symm)]
    cases hd : a_lay[i]? with
    | none =>
      have q1 : (a_world cA r μ)[i]? = none := by rw [a_world_eq, List.getElem?_mapIdx, hd]; rfl
      have q2 : (a_world cA r ν)[i]? = none := by rw [a_world_eq, List.getElem?_mapIdx, hd]; rfl
      rw [q1, q2]
    | some d' =>
      rw [a_world_at hd, a_world_at hd, a_cell_cong (h1 i e) (h2 i e) d']
abbrev aG : Type := Launch × va_G × (ClassId × ClassId × ClassId) × (Nat → Nat)
def a_A (r : Nat → Nat) : Nat → Prop := fun q => ∃ k, k < a_lay.length ∧ q = r k
def a_inj (r : Nat → Nat) : Prop := ∀ i j, i < a_lay.length → j < a_lay.length → r i = r j → i = j
theorem a_world_D {cA : ClassId × ClassId × ClassId} {r : Nat → Nat} {μ : aMem} (h : a_inj r) : va_D (a_A r) (a_world cA r μ) := by
  have key : ∀ (i : Nat) (p : Nat × va_E), (a_world cA r μ)[i]? = some p → i < a_lay.length ∧ p.1 = r i := by
    intro i p hp
    rw [a_world_eq, List.getElem?_mapIdx] at hp
    cases hd : a_lay[i]? with
    | none => rw [hd] at hp; cases hp
    | some d =>
      rw [hd] at hp
      refine ⟨(List.getElem?_eq_some_iff.mp hd).1, ?_⟩
      have := Option.some.inj hp
      rw [← this]
  refine ⟨fun i j p q hp hq e => ?_, fun k q hq => ?_⟩
  · obtain ⟨a1, a2⟩ := key i p hp
    obtain ⟨b1, b2⟩ := key j q hq
    exact h i j a1 b1 (by rw [← a2, ← b2]; exact e)
  · obtain ⟨a1, a2⟩ := key k q hq
    exact ⟨k, a1, a2⟩
abbrev a_tys (cA : ClassId × ClassId × ClassId) : List (ClassId × FieldType) := [(cA.1, .int), (cA.2.1, .boolean), (cA.2.2, .long)]
def a_N (U : State) : Prop := ∀ q ∈ a_nest, va_Nw (.methodLinkNest q.1 q.2.1 q.2.2.1 q.2.2.2) U
def a_ws : List Jvm.Cond := lw_tbl.filter goodWord
def a_Pic (G : aG) (μ : aMem) (U : State) : Prop := va_P G.2.1 vwCl (a_world G.2.2.1 G.2.2.2 μ) U.heap ∧ va_K G.2.1 vwCl (a_tys G.2.2.1) U ∧ a_N U ∧ a_inj G.2.2.2
def a_Q (G : aG) (post : aPost) : Array Value → State → Outcome → State → Prop := fun _ st oc t => (∃ (v : Option Value) (μ : aMem), oc = .returned (v.map (a_vr G.2.2.2)) ∧ post v μ ∧ va_P G.2.1 vwCl (a_world G.2.2.1 G.2.2.2 μ) t.heap) ∧ va_F (a_A G.2.2.2) st t
/-- THE CONTRACT of a method: from every state that holds the memory μ, with these arguments, it returns, and post holds of answer and memory -/
def a_Spec (G : aG) (S : aMS) (as : List Value) (μ : aMem) (post : aPost) : Prop := Met G.1 S.1 (.code S.1 S.2.1 S.2.2.1 S.2.2.2.1 :: a_ws) S.2.2.2.2.1 (va_Pc (as.map (a_vr G.2.2.2)) (a_Pic G μ)) (a_Q G post) 0 0 (a_A G.2.2.2)
/-- what holds all through a method's body -/
def a_Cx (G : aG) (S : aMS) (p : Program) (s : State) (m : MethodId) (args : Array Value) (meth : Method) (c : Code) : Prop :=
  p.tables.exec = Jvm.exec ∧ c.code = S.2.1 ∧ meth.sig.returnType = S.2.2.2.1 ∧ c.maxLocals = S.2.2.1 ∧ s.vm.findClass S.1.cls = some m.cls ∧ (∀ w ∈ a_ws, w.before args s = true) ∧ meth.locks = false ∧ va_K G.2.1 vwCl (a_tys G.2.2.1) s ∧ a_N s ∧ a_inj G.2.2.2
def a_lm (r : Nat → Nat) (lv : aLV) : List (Nat × Value) := lv.map fun q => (q.1, a_vr r q.2)
/-- the machine, from the program counter pc on, with these locals, this stack, this memory, comes to Q -/
def a_W (G : aG) (p : Program) (e : Env) (R : Jvm.Room) (s : State) (m : MethodId) (args : Array Value) (below : List Frame) (meth : Method) (c : Code) (nL cells slots : Nat) (Q : State → Prop) (pc : Nat) (lv : aLV) (st : List Value) (μ : aMem) : Prop :=
  ∀ (H : Heap) (locs : List Loc) (ls : Array Slot), va_P G.2.1 vwCl (a_world G.2.2.1 G.2.2.2 μ) H → va_S (a_A G.2.2.2) s.heap H locs → lv_has ls nL (a_lm G.2.2.2 lv) → W p G.1 e R s m args below meth c H locs cells slots Q (F0 m pc ls (st.map (a_vr G.2.2.2)))
def a_Runs (G : aG) (S : aMS) (pc : Nat) (lv : aLV) (st : List Value) (μ : aMem) (post : aPost) : Prop :=
  ∀ (p : Program) (e : Env) (s : State) (m : MethodId) (args : Array Value) (below : List Frame) (meth : Method) (c : Code), a_Cx G S p s m args meth c → a_W G p e S.2.2.2.2.1 s m args below meth c S.2.2.1 0 0 (MQ below (a_Q G post) args s 0 0 (a_A G.2.2.2)) pc lv st μ
theorem a_lm_in {r : Nat → Nat} {lv : aLV} {i : Nat} {v : Value} (h : (i, v) ∈ lv) : (i, a_vr r v) ∈ a_lm r lv := List.mem_map.mpr ⟨(i, v), h, rfl⟩
theorem a_lm_sub {r : Nat → Nat} {lv lv' : aLV} {ls : Array Slot} {nL : Nat} (h : lv_has ls nL (a_lm r lv)) (hs : ∀ q ∈ lv', q ∈ lv) : lv_has ls nL (a_lm r lv') := by
  refine ⟨h.1, h.2.1, fun q hq => ?_⟩
  obtain ⟨q0, h1, h2⟩ := List.mem_map.mp hq
  rw [← h2]
  exact h.2.2 _ (a_lm_in (hs q0 h1))
theorem a_lm_st1 (r : Nat → Nat) (lv : aLV) (i : Nat) (v : Value) : (i, a_vr r v) :: (a_lm r lv).filter (fun q => !(q.1 == i) && !(q.1 + 1 == i && q.2.category == 2)) = a_lm r (a_st1 lv i v) := by
  unfold a_lm a_st1
  rw [List.map_cons, List.filter_map]
  congr 2
  apply List.filter_congr
  intro q _
  simp only [Function.comp, a_vr_cat]
theorem a_lm_st2 (r : Nat → Nat) (lv : aLV) (i : Nat) (v : Value) : (i, a_vr r v) :: (a_lm r lv).filter (fun q => !(q.1 == i) && (!(q.1 == i + 1) && !(q.1 + 1 == i && q.2.category == 2))) = a_lm r (a_st2 lv i v) := by
  unfold a_lm a_st2
  rw [List.map_cons, List.filter_map]
  congr 2
  apply List.filter_congr
  intro q _
  simp only [Function.comp, a_vr_cat]
theorem a_ws_of {s : State} {args : Array Value} (h : ∀ w ∈ a_ws, w.before args s = true) {w : Jvm.Cond} (hw : w ∈ lw_tbl) (hg : goodWord w = true) : w.before args s = true := h w (List.mem_filter.mpr ⟨hw, hg⟩)
theorem a_good (x : Jvm.Cond) (big : List Jvm.Cond) (hx : x ∈ big ∧ goodWord x = true) (hb : ∀ w ∈ a_ws, w ∈ big) : GoodIn big (x :: a_ws) := by
  intro w hw
  rcases List.mem_cons.mp hw with e | hw
  · rw [e]; exact ⟨hx.1, good_of_word hx.2⟩
  · exact ⟨hb w hw, good_of_word (List.mem_filter.mp hw).2⟩
theorem a_N.warm {s U : State} (hW : s.WarmedH U.vm) (h : a_N s) : a_N U := fun q hq => va_Nw.warmM hW (h q hq)
theorem a_Pic.blind (G : aG) (as : List Value) (μ : aMem) : FrameBlind (va_Pc as (a_Pic G μ)) := by
  intro a U g mk h
  obtain ⟨h0, h1, h2, h3, h4⟩ := h
  exact ⟨h0, h1, va_K.moved (u := U) (U := U.calling g mk a) (Vm.Alike.refl U.vm) h2, fun q hq => va_Nw.same rfl (u := U) (U := U.calling g mk a) rfl (h3 q hq), h4⟩
end
section
/-! ===== what the tables say, as propositions ===== -/
def a_okU (ci : Nat) (ps : List Nat) : Bool := match vwCl[ci]? with
  | some (C, T, N) => a_all2 (fun w p => a_w p w && goodWord w) (u_ws C T N) ps
  | none => true
theorem a_okU_0 : a_okU 0 [86, 88, 90, 92, 94, 96, 98] = true := by decide +kernel
theorem a_okU_1 : a_okU 1 [213, 215, 217, 219, 221, 223, 225, 227, 229, 231, 233] = true := by decide +kernel
theorem a_okU_2 : a_okU 2 [245] = true := by decide +kernel
theorem a_okU_3 : a_okU 3 [159, 161, 163, 165, 167, 169] = true := by decide +kernel
theorem a_okU_4 : a_okU 4 [184, 186, 188, 190] = true := by decide +kernel
theorem a_okU_5 : a_okU 5 [124, 126, 128, 130, 132, 134, 136, 138, 140, 142] = true := by decide +kernel
theorem a_okU_6 : a_okU 6 [254, 256, 258, 260, 262, 264] = true := by decide +kernel
theorem a_okU_7 : a_okU 7 [671, 673, 675, 677, 679, 681, 683, 685, 687, 689, 691, 693, 695, 697, 699, 701, 703, 705, 707, 709, 711, 713, 715, 717, 719, 721, 723, 725, 727, 729, 731] = true := by decide +kernel
theorem a_okU_e {ci : Nat} {ps : List Nat} {C : String} {T : u_T} {N : Nat} (h : a_okU ci ps = true) (hc : vwCl[ci]? = some (C, T, N)) : ∀ w ∈ u_ws C T N, w ∈ a_ws := by
  unfold a_okU at h
  rw [hc] at h
  intro w hw
  obtain ⟨p, hp⟩ := a_all2_in h w hw
  simp only [Bool.and_eq_true] at hp
  exact List.mem_filter.mpr ⟨a_w_in hp.1, hp.2⟩
theorem a_cls {ci : Nat} {C : String} {T : u_T} {N : Nat} (h : vwCl[ci]? = some (C, T, N)) : (∀ w ∈ u_ws C T N, w ∈ a_ws) ∧ ∃ ty0 : Nat → FieldType, (∀ k, k < N → parseFieldDescriptor (T k).2.2.1 = some (ty0 k)) ∧ (∀ a, a < N → ∀ b, b < N → a ≠ b → (T a).2.1 ≠ (T b).2.1) := by
  match ci, h with
  | 0, h => refine ⟨a_okU_e a_okU_0 h, tyX0, ?_⟩; cases h; exact ⟨tyX0_ok, nmX0⟩
  | 1, h => refine ⟨a_okU_e a_okU_1 h, tyX1, ?_⟩; cases h; exact ⟨tyX1_ok, nmX1⟩
  | 2, h => refine ⟨a_okU_e a_okU_2 h, tyX2, ?_⟩; cases h; exact ⟨tyX2_ok, nmX2⟩
  | 3, h => refine ⟨a_okU_e a_okU_3 h, tyX3, ?_⟩; cases h; exact ⟨tyX3_ok, nmX3⟩
  | 4, h => refine ⟨a_okU_e a_okU_4 h, tyX4, ?_⟩; cases h; exact ⟨tyX4_ok, nmX4⟩
  | 5, h => refine ⟨a_okU_e a_okU_5 h, tyX5, ?_⟩; cases h; exact ⟨tyX5_ok, nmX5⟩
  | 6, h => refine ⟨a_okU_e a_okU_6 h, tyX6, ?_⟩; cases h; exact ⟨tyX6_ok, nmX6⟩
  | 7, h => refine ⟨a_okU_e a_okU_7 h, tyX7, ?_⟩; cases h; exact ⟨tyX7_ok, nmX7⟩
  | k + 8, h => simp [vwCl] at h
def a_okL (d : aDsc) : Bool := match d with
  | .inl _ => true
  | .inr (ci, fs) => match vwCl[ci]? with
    | some (_, T, N) => Nat.beq fs.length N && (List.range N).all (fun j => match fs[j]? with
      | some (.inr 0) => decide (parseFieldDescriptor (T j).2.2.1 = some .int) && !(T j).2.2.2
      | some (.inr 1) => decide (parseFieldDescriptor (T j).2.2.1 = some .long) && !(T j).2.2.2
      | some (.inr 2) => decide (parseFieldDescriptor (T j).2.2.1 = some .boolean) && !(T j).2.2.2
      | some (.inr _) => false
      | _ => true)
    | none => false
theorem a_okL_all : a_lay.all a_okL = true := by decide +kernel
theorem a_lay_obj {a ci : Nat} {fs : List (Nat ⊕ Nat)} {C : String} {T : u_T} {N : Nat} (h : a_lay[a]? = some (.inr (ci, fs))) (hc : vwCl[ci]? = some (C, T, N)) : fs.length = N ∧ ∀ j, j < N →
    (fs[j]? = some (.inr 0) → parseFieldDescriptor (T j).2.2.1 = some .int ∧ (T j).2.2.2 = false) ∧ (fs[j]? = some (.inr 1) → parseFieldDescriptor (T j).2.2.1 = some .long ∧ (T j).2.2.2 = false) ∧ (fs[j]? = some (.inr 2) → parseFieldDescriptor (T j).2.2.1 = some .boolean ∧ (T j).2.2.2 = false) := by
  have h1 := List.all_eq_true.mp a_okL_all _ (List.mem_of_getElem? h)
  unfold a_okL at h1
  simp only [hc, Bool.and_eq_true] at h1
  refine ⟨Nat.eq_of_beq_eq_true h1.1, fun j hj => ?_⟩
  have h2 := List.all_eq_true.mp h1.2 j (List.mem_range.mpr hj)
  refine ⟨fun e => ?_, fun e => ?_, fun e => ?_⟩ <;> (rw [e] at h2; simpa using h2)
theorem a_okF_e {own : String} {q : Nat × Nat × Nat} {p : Nat} (h : a_okF own q p = true) : ∃ C T N, vwCl[q.2.1]? = some (C, T, N) ∧ q.2.2 < N ∧ (T q.2.2).1 = C ∧ Jvm.Cond.fieldLink own q.1 C (T q.2.2).2.1 (T q.2.2).2.2.1 ∈ lw_tbl := by
  unfold a_okF at h
  split at h
  · rename_i C T N e
    simp only [Bool.and_eq_true, decide_eq_true_eq] at h
    exact ⟨C, T, N, e, by simpa [Nat.blt_eq] using h.1.1, h.1.2, a_w_in h.2⟩
  · cases h
def a_SOK (S : aMS) (n : Nat) : Prop := Jvm.Cond.code S.1 S.2.1 S.2.2.1 S.2.2.2.1 ∈ lw_tbl ∧ (S.1.cls ≠ "java/lang/invoke/MethodHandle" ∧ S.1.cls ≠ "java/lang/invoke/VarHandle" ∧ (parseMethodDescriptor S.1.desc).map (fun d => d.parameters.length) = some n) ∧ S.2.2.2.2.1.cells = 0 ∧ S.2.2.2.2.1.slots = 0 ∧ Jvm.Cond.initialized S.1.cls ∈ lw_tbl
theorem a_okS_e {S : aMS} {n p : Nat} (h : a_okS S n p = true) : a_SOK S n := by
  unfold a_okS at h
  simp only [Bool.and_eq_true] at h
  obtain ⟨⟨⟨⟨⟨⟨h1, h2⟩, h3⟩, h4⟩, h5⟩, h6⟩, h7⟩ := h
  exact ⟨a_w_in h1, ⟨of_decide_eq_true h2, of_decide_eq_true h3, of_decide_eq_true h4⟩, Nat.eq_of_beq_eq_true h5, Nat.eq_of_beq_eq_true h6, a_w_in h7⟩
theorem a_okC0_e {own : String} {i ci n : Nat} {S : aMS} {p : Nat × Nat × Nat × Nat} (h : a_okC own (i, 0, ci, n, S) p = true) : a_SOK S n ∧ (∃ T N, vwCl[ci]? = some (S.1.cls, T, N)) ∧ Jvm.Cond.methodLink own i S.1 ∈ lw_tbl ∧ Jvm.Cond.instanceMethod S.1 ∈ lw_tbl ∧ Jvm.Cond.selects S.1.cls S.1 S.1 ∈ lw_tbl := by
  have h : (a_okS S n p.1 && decide ((vwCl[ci]?).map (fun z => z.1) = some S.1.cls) && a_w p.2.1 (Jvm.Cond.methodLink own i S.1) && a_w p.2.2.1 (Jvm.Cond.instanceMethod S.1) && a_w p.2.2.2 (Jvm.Cond.selects S.1.cls S.1 S.1)) = true := h
  simp only [Bool.and_eq_true] at h
  obtain ⟨⟨⟨⟨h1, h2⟩, h3⟩, h4⟩, h5⟩ := h
  have h2 := of_decide_eq_true h2
  refine ⟨a_okS_e h1, ?_, a_w_in h3, a_w_in h4, a_w_in h5⟩
  cases hv : vwCl[ci]? with
  | none => rw [hv] at h2; cases h2
  | some z =>
    rw [hv] at h2
    obtain ⟨C, T, N⟩ := z
    have h2 : C = S.1.cls := Option.some.inj h2
    exact ⟨T, N, by rw [h2]⟩
theorem a_okC1_e {own : String} {i ci n : Nat} {S : aMS} {p : Nat × Nat × Nat × Nat} (h : a_okC own (i, 1, ci, n, S) p = true) : a_SOK S n ∧ Jvm.Cond.methodLink own i S.1 ∈ lw_tbl ∧ Jvm.Cond.static S.1 ∈ lw_tbl := by
  have h : (a_okS S n p.1 && a_w p.2.1 (Jvm.Cond.methodLink own i S.1) && a_w p.2.2.1 (Jvm.Cond.static S.1)) = true := h
  simp only [Bool.and_eq_true] at h
  exact ⟨a_okS_e h.1.1, a_w_in h.1.2, a_w_in h.2⟩
theorem a_okC2_e {own : String} {i ci n : Nat} {S : aMS} {p : Nat × Nat × Nat × Nat} (h : a_okC own (i, 2, ci, n, S) p = true) : a_SOK S n ∧ (own, i, S.1, "CableLooms") ∈ a_nest ∧ Jvm.Cond.static S.1 ∈ lw_tbl := by
  have h : (a_okS S n p.1 && a_w p.2.2.1 (Jvm.Cond.static S.1) && decide (a_nest[p.2.1]? = some (own, i, S.1, "CableLooms"))) = true := h
  simp only [Bool.and_eq_true] at h
  exact ⟨a_okS_e h.1.1, List.mem_of_getElem? (of_decide_eq_true h.2), a_w_in h.1.2⟩
theorem a_okC3_e {own : String} {i ci n : Nat} {S : aMS} {p : Nat × Nat × Nat × Nat} (h : a_okC own (i, 3, ci, n, S) p = true) : Jvm.Cond.code Lib.Math.min.name Lib.Math.min.code 2 (some .int) ∈ lw_tbl ∧ Jvm.Cond.initialized "java/lang/Math" ∈ lw_tbl ∧ Jvm.Cond.methodLink own i Lib.Math.min.name ∈ lw_tbl ∧ Jvm.Cond.static Lib.Math.min.name ∈ lw_tbl := by
  have h : (a_w S.2.2.2.2.2 (Jvm.Cond.code Lib.Math.min.name Lib.Math.min.code 2 (some .int)) && a_w p.1 (Jvm.Cond.initialized "java/lang/Math") && a_w p.2.1 (Jvm.Cond.methodLink own i Lib.Math.min.name) && a_w p.2.2.1 (Jvm.Cond.static Lib.Math.min.name)) = true := h
  simp only [Bool.and_eq_true] at h
  exact ⟨a_w_in h.1.1.1, a_w_in h.1.1.2, a_w_in h.1.2, a_w_in h.2⟩
theorem a_okC4_e {own : String} {i ci n : Nat} {S : aMS} {p : Nat × Nat × Nat × Nat} (h : a_okC own (i, 4, ci, n, S) p = true) : Jvm.Cond.code Lib.MathLoose.min_long.x Lib.MathLoose.min_long.code 4 (some .long) ∈ lw_tbl ∧ Jvm.Cond.initialized "java/lang/Math" ∈ lw_tbl ∧ Jvm.Cond.methodLink own i Lib.MathLoose.min_long.x ∈ lw_tbl ∧ Jvm.Cond.static Lib.MathLoose.min_long.x ∈ lw_tbl := by
  have h : (a_w S.2.2.2.2.2 (Jvm.Cond.code Lib.MathLoose.min_long.x Lib.MathLoose.min_long.code 4 (some .long)) && a_w p.1 (Jvm.Cond.initialized "java/lang/Math") && a_w p.2.1 (Jvm.Cond.methodLink own i Lib.MathLoose.min_long.x) && a_w p.2.2.1 (Jvm.Cond.static Lib.MathLoose.min_long.x)) = true := h
  simp only [Bool.and_eq_true] at h
  exact ⟨a_w_in h.1.1.1, a_w_in h.1.1.2, a_w_in h.1.2, a_w_in h.2⟩
/-- what a class's table gives -/
def a_TOK (own : String) (t : aTab) : Prop := (∀ q ∈ t.1, ∃ p, a_okF own q p = true) ∧ (∀ q ∈ t.2.1, ∃ p, a_okC own q p = true) ∧ (∀ q ∈ t.2.2.1, Jvm.Cond.constant own q.1 q.2 ∈ lw_tbl) ∧ (∀ q ∈ t.2.2.2, Jvm.Cond.constantLong own q.1 q.2 ∈ lw_tbl)
theorem a_okT_e {own : String} {t : aTab} {pF : List Nat} {pC : List (Nat × Nat × Nat × Nat)} {pK pL : List Nat} (h : a_okT own t pF pC pK pL = true) : a_TOK own t := by
  unfold a_okT at h
  simp only [Bool.and_eq_true] at h
  obtain ⟨⟨⟨h1, h2⟩, h3⟩, h4⟩ := h
  refine ⟨a_all2_in h1, a_all2_in h2, fun q hq => ?_, fun q hq => ?_⟩
  · obtain ⟨p, hp⟩ := a_all2_in h3 q hq; exact a_w_in hp
  · obtain ⟨p, hp⟩ := a_all2_in h4 q hq; exact a_w_in hp
end
section
/-! ===== each instruction: what the abstract machine asks is enough ===== -/
section ASOUND
variable {G : aG} {p : Program} {e : Env} {R : Jvm.Room} {s : State} {m : MethodId} {args : Array Value} {below : List Frame} {meth : Method} {c : Code} {nL cells slots : Nat} {Q : State → Prop} {cc : ByteArray} {pc : Nat} {lv : aLV} {st : List Value} {μ : aMem}
/-- behind a call -/
theorem a_call {H : Heap} {locs : List Loc} {ls : Array Slot} {rest st0 : List Value} {a : Array Value} {post : aPost} (hr : va_Run p G.1 e R s m args below meth c H locs cells slots 0 0 (F0 m pc ls st0) rest (a_Q G post a) (a_A G.2.2.2)) (hS : va_S (a_A G.2.2.2) s.heap H locs)
    (kk : ∀ (v : Option Value) (ν : aMem) (H1 : Heap) (locs1 : List Loc), post v ν → va_P G.2.1 vwCl (a_world G.2.2.1 G.2.2.2 ν) H1 → va_S (a_A G.2.2.2) s.heap H1 locs1 → W p G.1 e R s m args below meth c H1 locs1 cells slots Q (F0 m (pc + 3) ls ((v.map (a_vr G.2.2.2)).toList ++ rest))) : W p G.1 e R s m args below meth c H locs cells slots Q (F0 m pc ls st0) := by
  intro T hT X
  obtain ⟨v, st₀, t, T', L, h0, X', hL, e1, e2, ⟨⟨r, u, hv, hp, hb⟩, hz, hk⟩, st⟩ := hr T hT X
  have hv : v = r.map (a_vr G.2.2.2) := by cases hv; rfl
  subst hv
  rw [h0] at hz hk
  obtain ⟨t2, a1, b1⟩ := kk r u T'.heap (locs ++ L) hp (by rw [e1]; exact hb)
    ⟨Nat.le_trans hS.1 (by rw [e1]; exact hz), fun q h1 h2 => by rw [e1, hk q (Nat.lt_of_lt_of_le h1 hS.1) h2]; exact hS.2.1 q h1 h2, fun q hq => by
      rcases List.mem_append.mp hq with h | h
      · exact hS.2.2 q h
      · exact hL q h⟩ T' rfl X'
  exact ⟨t2, st t2 a1, b1⟩
abbrev a_WW (G : aG) (p : Program) (e : Env) (R : Jvm.Room) (s : State) (m : MethodId) (args : Array Value) (below : List Frame) (meth : Method) (c : Code) (nL cells slots : Nat) (Q : State → Prop) (pc : Nat) (ft : aLV → List Value → aMem → Prop) : Prop := ∀ lv st μ, ft lv st μ → a_W G p e R s m args below meth c nL cells slots Q pc lv st μ
/-- the context of a body -/
abbrev a_CX (G : aG) (own : String) (cc : ByteArray) (nL : Nat) (p : Program) (s : State) (m : MethodId) (args : Array Value) (c : Code) : Prop := p.tables.exec = Jvm.exec ∧ c.code = cc ∧ c.maxLocals = nL ∧ s.vm.findClass own = some m.cls ∧ (∀ w ∈ a_ws, w.before args s = true) ∧ va_K G.2.1 vwCl (a_tys G.2.2.1) s ∧ a_N s ∧ a_inj G.2.2.2
theorem a_s_store1 {own : String} {x : Value} {i : Nat} {r : List Value} {pc' : Nat} {ft : aLV → List Value → aMem → Prop} (hft : a_WW G p e R s m args below meth c nL cells slots Q pc' ft) (h : ft (a_st1 lv i x) r μ) {H : Heap} {locs : List Loc} (hP : va_P G.2.1 vwCl (a_world G.2.2.1 G.2.2.2 μ) H) (hS : va_S (a_A G.2.2.2) s.heap H locs) : ∀ ls' : Array Slot, lv_has ls' nL (a_lm G.2.2.2 (a_st1 lv i x)) → W p G.1 e R s m args below meth c H locs cells slots Q (F0 m pc' ls' (r.map (a_vr G.2.2.2))) := fun ls' hl => hft _ _ _ h H locs ls' hP hS hl
theorem a_s_get {own : String} (C : a_CX G own cc nL p s m args c) {a ci j i : Nat} {fs : List (Nat ⊕ Nat)} {f : Nat ⊕ Nat} {q : Nat × Nat × Nat} {pp : Nat} (hq : a_okF own q pp = true) (hq1 : q = (i, ci, j)) (ha : a_lay[a]? = some (.inr (ci, fs))) (hf : fs[j]? = some f) (hdg : decode cc pc = .ok (.getfield i, 3)) {H : Heap} {locs : List Loc} {ls : Array Slot} {r : List Value} (hP : va_P G.2.1 vwCl (a_world G.2.2.1 G.2.2.2 μ) H)
    (kk : W p G.1 e R s m args below meth c H locs cells slots Q (F0 m (pc + 3) ls (a_fv G.2.2.2 μ a j f :: r))) : W p G.1 e R s m args below meth c H locs cells slots Q (F0 m pc ls (.ref (G.2.2.2 a) :: r)) := by
  obtain ⟨hx, hb, hml, hown, hts, hK, hN, hI⟩ := C
  subst hq1
  obtain ⟨Cn, T, N, h1, h2, h3, h4⟩ := a_okF_e hq
  refine va_get (D := G.2.1) (ci := ci) (v := a_fv G.2.2.2 μ a j f) (fs := fs.mapIdx (fun j f => a_fv G.2.2.2 μ a j f)) (C := Cn) (T := T) (N := N) hx hb hts (a_cls h1).1 hown hK hP a (a_world_at ha) h1 j h2 (a_ws_of hts h4 rfl) (fun x hx => by rw [← h3]; exact hx) (by rw [List.getElem?_mapIdx, hf]; rfl) hdg kk
theorem a_s_put {own : String} (C : a_CX G own cc nL p s m args c) {a ci j i : Nat} {fs : List (Nat ⊕ Nat)} {f : Nat ⊕ Nat} {q : Nat × Nat × Nat} {pp : Nat} (hq : a_okF own q pp = true) (hq1 : q = (i, ci, j)) (ha : a_lay[a]? = some (.inr (ci, fs))) (hf : fs[j]? = some f) {ν : aMem} {v : Value} {ty : FieldType} (hfd : ∀ (C : String) (T : u_T) (N : Nat), vwCl[ci]? = some (C, T, N) → j < N → parseFieldDescriptor (T j).2.2.1 = some ty ∧ (T j).2.2.2 = false) (hn : narrow ty v = v) (hfit : fits ty v = true)
    (hν1 : ∀ i, i ≠ a → ν.1 i = μ.1 i) (hν2 : ∀ i, i ≠ a → ν.2 i = μ.2 i) (hνj : ∀ k f, k ≠ j → a_fv G.2.2.2 ν a k f = a_fv G.2.2.2 μ a k f) (hνv : a_fv G.2.2.2 ν a j f = v)
    (hdg : decode cc pc = .ok (.putfield i, 3)) {H : Heap} {locs : List Loc} {ls : Array Slot} {r : List Value} (hP : va_P G.2.1 vwCl (a_world G.2.2.1 G.2.2.2 μ) H) (hS : va_S (a_A G.2.2.2) s.heap H locs)
    (kk : ∀ (H1 : Heap) (locs1 : List Loc), va_P G.2.1 vwCl (a_world G.2.2.1 G.2.2.2 ν) H1 → va_S (a_A G.2.2.2) s.heap H1 locs1 → W p G.1 e R s m args below meth c H1 locs1 cells slots Q (F0 m (pc + 3) ls r)) : W p G.1 e R s m args below meth c H locs cells slots Q (F0 m pc ls (v :: .ref (G.2.2.2 a) :: r)) := by
  obtain ⟨hx, hb, hml, hown, hts, hK, hN, hI⟩ := C
  subst hq1
  obtain ⟨Cn, T, N, h1, h2, h3, h4⟩ := a_okF_e hq
  obtain ⟨hin, ty0, hty, hnm⟩ := a_cls h1
  obtain ⟨hd, hfin⟩ := hfd Cn T N h1 h2
  have hlen : fs.length = N := (a_lay_obj ha h1).1
  have hset : ((fs.mapIdx (fun j f => a_fv G.2.2.2 μ a j f)).set j v) = fs.mapIdx (fun j f => a_fv G.2.2.2 ν a j f) := by
    apply List.ext_getElem?
    intro k
    by_cases ek : k = j
    · subst ek
      rw [List.getElem?_set_self (by rw [List.length_mapIdx, hlen]; exact h2), List.getElem?_mapIdx, hf, ← hνv]; rfl
    · rw [List.getElem?_set_ne (fun q => ek q.symm), List.getElem?_mapIdx, List.getElem?_mapIdx]
      cases fs[k]? with
      | none => rfl
      | some z => exact congrArg some (hνj k z ek).symm
  refine va_put (D := G.2.1) (ci := ci) (v := v) (ty := ty) (fs := fs.mapIdx (fun j f => a_fv G.2.2.2 μ a j f)) (C := Cn) (T := T) (N := N) hx hb hts hin ty0 hty hnm hown hK hP (a_world_D hI) hS a (a_world_at ha) h1 j h2 (a_ws_of hts h4 rfl) (fun x hx => by rw [← h3]; exact hx) hfin hd hn hfit (by rw [List.length_mapIdx, hlen]; exact h2) hdg (fun H1 locs1 hP1 hD1 hS1 => kk H1 locs1 ?_ hS1)
  rw [hset] at hP1
  have e1 : (Sum.inr (ci, fs.mapIdx (fun j f => a_fv G.2.2.2 ν a j f)) : va_E) = a_cell G.2.2.1 G.2.2.2 ν a (.inr (ci, fs)) := rfl
  rw [e1, a_world_set ha hν1 hν2] at hP1
  exact hP1
end ASOUND
end
section
section AINS
variable {G : aG} {p : Program} {e : Env} {R : Jvm.Room} {s : State} {m : MethodId} {args : Array Value} {below : List Frame} {meth : Method} {c : Code} {nL cells slots : Nat} {Q : State → Prop} {cc : ByteArray} {pc : Nat} {lv : aLV} {st : List Value} {μ : aMem}
/-- a call of a method of an object -/
theorem a_s_callV {own : String} (C : a_CX G own cc nL p s m args c) (hcs : cells ≤ R.cells ∧ slots ≤ R.slots) {i ci n a : Nat} {S : aMS} {pp : Nat × Nat × Nat × Nat} (hq : a_okC own (i, 0, ci, n, S) pp = true) {fs : List (Nat ⊕ Nat)} (ha : a_lay[a]? = some (.inr (ci, fs))) {as r : List Value} (hn : as.length = n) (hrm : a_rm R S r = true) {post : aPost} (hM : a_Spec G S (.ref a :: as) μ post) (hdg : decode cc pc = .ok (.invokevirtual i, 3)) {H : Heap} {locs : List Loc} {ls : Array Slot} (hP : va_P G.2.1 vwCl (a_world G.2.2.1 G.2.2.2 μ) H) (hS : va_S (a_A G.2.2.2) s.heap H locs) (hl : lv_has ls nL (a_lm G.2.2.2 lv))
    (kk : ∀ (v : Option Value) (ν : aMem) (H1 : Heap) (locs1 : List Loc), post v ν → va_P G.2.1 vwCl (a_world G.2.2.1 G.2.2.2 ν) H1 → va_S (a_A G.2.2.2) s.heap H1 locs1 → W p G.1 e R s m args below meth c H1 locs1 cells slots Q (F0 m (pc + 3) ls ((v.map (a_vr G.2.2.2)).toList ++ r.map (a_vr G.2.2.2)))) : W p G.1 e R s m args below meth c H locs cells slots Q (F0 m pc ls ((as.reverse ++ .ref a :: r).map (a_vr G.2.2.2))) := by
  obtain ⟨hx, hb, hml, hown, hts, hK, hN, hI⟩ := C
  obtain ⟨⟨h1, h2, h3, h4, h5⟩, ⟨T, N, h6⟩, h7, h8, h9⟩ := a_okC0_e hq
  unfold a_rm at hrm
  simp only [Bool.and_eq_true, Nat.ble_eq] at hrm
  have hcat : ∀ l : List Value, ((l.map (a_vr G.2.2.2)).map fun v => v.category) = l.map fun v => v.category := fun l => by rw [List.map_map]; exact List.map_congr_left (fun v _ => a_vr_cat _ v)
  have cw : CallW R s args own S.1.cls i S.1 S.2.1 S.2.2.1 S.2.2.2.1 (.code S.1 S.2.1 S.2.2.1 S.2.2.2.1 :: a_ws) S.2.2.2.2.1 0 0 n :=
    ⟨callB_of n hts (a_good _ _ ⟨List.mem_filter.mpr ⟨h1, rfl⟩, rfl⟩ (fun w hw => hw)) rfl h3 h4 (a_ws_of hts h5 rfl) (a_ws_of hts h7 rfl) h2 ⟨hrm.1.1, hrm.1.2⟩, a_ws_of hts h8 rfl, a_ws_of hts h9 rfl⟩
  refine a_call (post := post) (va_runV (As := as.map (a_vr G.2.2.2)) (b := G.2.2.2 a) (rest := r.map (a_vr G.2.2.2)) ⟨hx, hb, hml, hown, hts⟩ hM cw ⟨a_Pic.blind _ _ _, va_recv hK hP h6 (a_world_at ha), fun U hU hW => ⟨rfl, by rw [hU]; exact hP, va_K.moved hW.alike hK, hN.warm hW, hI⟩⟩ rfl (by rw [List.length_map]; exact hn) hl.1 (by show List.map (a_vr G.2.2.2) _ = _; rw [List.map_append, List.map_reverse]; rfl) (lv_room (by rw [hcat]; exact hrm.2)) hdg ⟨hcs.1, hcs.2⟩) hS kk
theorem a_s_callS {own : String} (C : a_CX G own cc nL p s m args c) (hcs : cells ≤ R.cells ∧ slots ≤ R.slots) {i ci n : Nat} {S : aMS} {pp : Nat × Nat × Nat × Nat} (hq : a_okC own (i, 1, ci, n, S) pp = true) {as r : List Value} (hn : as.length = n) (hrm : a_rm R S r = true) {post : aPost} (hM : a_Spec G S as μ post) (hdg : decode cc pc = .ok (.invokestatic i, 3)) {H : Heap} {locs : List Loc} {ls : Array Slot} (hP : va_P G.2.1 vwCl (a_world G.2.2.1 G.2.2.2 μ) H) (hS : va_S (a_A G.2.2.2) s.heap H locs) (hl : lv_has ls nL (a_lm G.2.2.2 lv))
    (kk : ∀ (v : Option Value) (ν : aMem) (H1 : Heap) (locs1 : List Loc), post v ν → va_P G.2.1 vwCl (a_world G.2.2.1 G.2.2.2 ν) H1 → va_S (a_A G.2.2.2) s.heap H1 locs1 → W p G.1 e R s m args below meth c H1 locs1 cells slots Q (F0 m (pc + 3) ls ((v.map (a_vr G.2.2.2)).toList ++ r.map (a_vr G.2.2.2)))) : W p G.1 e R s m args below meth c H locs cells slots Q (F0 m pc ls ((as.reverse ++ r).map (a_vr G.2.2.2))) := by
  obtain ⟨hx, hb, hml, hown, hts, hK, hN, hI⟩ := C
  obtain ⟨⟨h1, h2, h3, h4, h5⟩, h7, h8⟩ := a_okC1_e hq
  unfold a_rm at hrm
  simp only [Bool.and_eq_true, Nat.ble_eq] at hrm
  have hcat : ∀ l : List Value, ((l.map (a_vr G.2.2.2)).map fun v => v.category) = l.map fun v => v.category := fun l => by rw [List.map_map]; exact List.map_congr_left (fun v _ => a_vr_cat _ v)
  have cw : CallB R s args own i S.1 S.2.1 S.2.2.1 S.2.2.2.1 (.code S.1 S.2.1 S.2.2.1 S.2.2.2.1 :: a_ws) S.2.2.2.2.1 0 0 n ∧ (Jvm.Cond.static S.1).before args s = true :=
    ⟨callB_of n hts (a_good _ _ ⟨List.mem_filter.mpr ⟨h1, rfl⟩, rfl⟩ (fun w hw => hw)) rfl h3 h4 (a_ws_of hts h5 rfl) (a_ws_of hts h7 rfl) h2 ⟨hrm.1.1, hrm.1.2⟩, a_ws_of hts h8 rfl⟩
  refine a_call (post := post) (va_runS (As := as.map (a_vr G.2.2.2)) (rest := r.map (a_vr G.2.2.2)) ⟨hx, hb, hml, hown, hts⟩ hM cw ⟨a_Pic.blind _ _ _, fun U hU hW => ⟨rfl, by rw [hU]; exact hP, va_K.moved hW.alike hK, hN.warm hW, hI⟩⟩ rfl (by rw [List.length_map]; exact hn) hl.1 (by show List.map (a_vr G.2.2.2) _ = _; rw [List.map_append, List.map_reverse]) (lv_room (by rw [hcat]; exact hrm.2)) hdg ⟨hcs.1, hcs.2⟩) hS kk
theorem a_s_callN {own : String} (C : a_CX G own cc nL p s m args c) (hcs : cells ≤ R.cells ∧ slots ≤ R.slots) {i ci n : Nat} {S : aMS} {pp : Nat × Nat × Nat × Nat} (hq : a_okC own (i, 2, ci, n, S) pp = true) {as r : List Value} (hn : as.length = n) (hrm : a_rm R S r = true) {post : aPost} (hM : a_Spec G S as μ post) (hdg : decode cc pc = .ok (.invokestatic i, 3)) {H : Heap} {locs : List Loc} {ls : Array Slot} (hP : va_P G.2.1 vwCl (a_world G.2.2.1 G.2.2.2 μ) H) (hS : va_S (a_A G.2.2.2) s.heap H locs) (hl : lv_has ls nL (a_lm G.2.2.2 lv))
    (kk : ∀ (v : Option Value) (ν : aMem) (H1 : Heap) (locs1 : List Loc), post v ν → va_P G.2.1 vwCl (a_world G.2.2.1 G.2.2.2 ν) H1 → va_S (a_A G.2.2.2) s.heap H1 locs1 → W p G.1 e R s m args below meth c H1 locs1 cells slots Q (F0 m (pc + 3) ls ((v.map (a_vr G.2.2.2)).toList ++ r.map (a_vr G.2.2.2)))) : W p G.1 e R s m args below meth c H locs cells slots Q (F0 m pc ls ((as.reverse ++ r).map (a_vr G.2.2.2))) := by
  obtain ⟨hx, hb, hml, hown, hts, hK, hN, hI⟩ := C
  obtain ⟨⟨h1, h2, h3, h4, h5⟩, h7, h8⟩ := a_okC2_e hq
  unfold a_rm at hrm
  simp only [Bool.and_eq_true, Nat.ble_eq] at hrm
  have hcat : ∀ l : List Value, ((l.map (a_vr G.2.2.2)).map fun v => v.category) = l.map fun v => v.category := fun l => by rw [List.map_map]; exact List.map_congr_left (fun v _ => a_vr_cat _ v)
  have cw : va_CN R s args own i S.1 "CableLooms" S.2.1 S.2.2.1 S.2.2.2.1 (.code S.1 S.2.1 S.2.2.1 S.2.2.2.1 :: a_ws) S.2.2.2.2.1 0 0 n ∧ (Jvm.Cond.static S.1).before args s = true ∧ True :=
    ⟨va_cnB n hts (a_good _ _ ⟨List.mem_filter.mpr ⟨h1, rfl⟩, rfl⟩ (fun w hw => hw)) rfl h3 h4 (hN _ h7) (a_ws_of hts h5 rfl) h2 ⟨hrm.1.1, hrm.1.2⟩, a_ws_of hts h8 rfl, trivial⟩
  refine a_call (post := post) (va_runSN (As := as.map (a_vr G.2.2.2)) (rest := r.map (a_vr G.2.2.2)) ⟨hx, hb, hml, hown, hts⟩ hM cw ⟨a_Pic.blind _ _ _, fun U hU hW => ⟨rfl, by rw [hU]; exact hP, va_K.moved hW.alike hK, hN.warm hW, hI⟩⟩ rfl (by rw [List.length_map]; exact hn) hl.1 (by show List.map (a_vr G.2.2.2) _ = _; rw [List.map_append, List.map_reverse]) (lv_room (by rw [hcat]; exact hrm.2)) hdg ⟨hcs.1, hcs.2⟩) hS kk
/-- behind a call, by the kind of the answer -/
theorem a_s_res {ret : Option FieldType} {sp : aPost → Prop} {k : List Value → aMem → Prop} {X : Prop} (h : a_res ret sp k) (kk : ∀ post : aPost, sp post → (∀ v ν, post v ν → ∃ vs, v.toList = vs ∧ k vs ν) → X) : X := by
  unfold a_res at h
  split at h
  · exact kk _ h (fun v ν hv => ⟨[], by rw [hv.1]; rfl, hv.2⟩)
  · exact kk _ h (fun v ν hv => by obtain ⟨x, e1, e2⟩ := hv; exact ⟨_, by rw [e1]; rfl, e2⟩)
  · exact kk _ h (fun v ν hv => by obtain ⟨x, e1, e2⟩ := hv; exact ⟨_, by rw [e1]; rfl, e2⟩)
theorem a_toList (r : Nat → Nat) (v : Option Value) (l : List Value) : (v.map (a_vr r)).toList ++ l.map (a_vr r) = (v.toList ++ l).map (a_vr r) := by cases v <;> rfl
/-- what a return needs -/
abbrev a_RT (G : aG) (p : Program) (e : Env) (R : Jvm.Room) (s : State) (m : MethodId) (args : Array Value) (below : List Frame) (meth : Method) (c : Code) (nL cells slots : Nat) (Q : State → Prop) (cc : ByteArray) (ret : Option FieldType) (post : aPost) : Prop :=
  (∀ (pc : Nat) (lv : aLV) (x : Int32) (μ : aMem), decode cc pc = .ok (.ireturn, 1) → (ret = some .int ∨ (ret = some .boolean ∧ (x = 0 ∨ x = 1))) → post (some (.int x)) μ → a_W G p e R s m args below meth c nL cells slots Q pc lv [.int x] μ) ∧
  (∀ (pc : Nat) (lv : aLV) (x : Int64) (μ : aMem), decode cc pc = .ok (.lreturn, 1) → ret = some .long → post (some (.long x)) μ → a_W G p e R s m args below meth c nL cells slots Q pc lv [.long x] μ) ∧
  (∀ (pc : Nat) (lv : aLV) (μ : aMem), decode cc pc = .ok (.return_, 1) → ret = none → post none μ → a_W G p e R s m args below meth c nL cells slots Q pc lv [] μ)
abbrev a_SC (G : aG) (s : State) (scr : Option (Nat × (Nat → Int32))) : Prop := ∀ L xs, scr = some (L, xs) → va_X (G.2.2.2 99) L xs s s.heap ∧ G.2.2.2 99 < s.heap.size ∧ ¬ a_A G.2.2.2 (G.2.2.2 99)
theorem a_sw_e {x : Int} {k : Int → Prop} : ∀ {os : List Int} {lo : Int}, a_sw x k lo os → lo ≤ x → x < lo + os.length → ∃ o, os[(x - lo).toNat]? = some o ∧ k o
  | [], lo, _, h1, h2 => by simp at h2; omega
  | o :: os, lo, h, h1, h2 => by
    by_cases hx : x = lo
    · subst hx
      exact ⟨o, by simp, h.1 rfl⟩
    · obtain ⟨o', e1, e2⟩ := a_sw_e (os := os) (lo := lo + 1) h.2 (by omega) (by simp at h2; omega)
      refine ⟨o', ?_, e2⟩
      have : (x - lo).toNat = (x - (lo + 1)).toNat + 1 := by omega
      rw [this]; simpa using e1
theorem a_s_puti {own : String} (C : a_CX G own cc nL p s m args c) {a ci j i : Nat} {fs : List (Nat ⊕ Nat)} {f : Nat ⊕ Nat} {pp : Nat} (hq : a_okF own (i, ci, j) pp = true) (ha : a_lay[a]? = some (.inr (ci, fs))) (hf : fs[j]? = some f) (hdg : decode cc pc = .ok (.putfield i, 3)) {x : Int32} {ft : aMem → Prop} {H : Heap} {locs : List Loc} {ls : Array Slot} {r : List Value} (hP : va_P G.2.1 vwCl (a_world G.2.2.1 G.2.2.2 μ) H) (hS : va_S (a_A G.2.2.2) s.heap H locs)
    (h : a_pk f (ft (va_up μ.1 a (upd (μ.1 a) j x), μ.2)) ((x = 0 ∨ x = 1) ∧ ft (va_up μ.1 a (upd (μ.1 a) j x), μ.2)))
    (kk : ∀ (H1 : Heap) (locs1 : List Loc), ft (va_up μ.1 a (upd (μ.1 a) j x), μ.2) → va_P G.2.1 vwCl (a_world G.2.2.1 G.2.2.2 (va_up μ.1 a (upd (μ.1 a) j x), μ.2)) H1 → va_S (a_A G.2.2.2) s.heap H1 locs1 → W p G.1 e R s m args below meth c H1 locs1 cells slots Q (F0 m (pc + 3) ls r)) : W p G.1 e R s m args below meth c H locs cells slots Q (F0 m pc ls (.int x :: .ref (G.2.2.2 a) :: r)) := by
  have fvn : ∀ (k : Nat) (f : Nat ⊕ Nat), k ≠ j → a_fv G.2.2.2 (va_up μ.1 a (upd (μ.1 a) j x), μ.2) a k f = a_fv G.2.2.2 μ a k f := by
    intro k f hk
    refine a_fv_cong (μ := (va_up μ.1 a (upd (μ.1 a) j x), μ.2)) (ν := μ) ?_ rfl f
    show (va_up μ.1 a (upd (μ.1 a) j x)) a k = _
    rw [va_up_self]; exact pk_un hk
  have fvs : (va_up μ.1 a (upd (μ.1 a) j x)) a j = x := by rw [va_up_self, pk_us]
  unfold a_pk at h
  split at h
  · exact a_s_put C (μ := μ) (ν := (va_up μ.1 a (upd (μ.1 a) j x), μ.2)) (v := .int x) (ty := .int) hq rfl ha hf (fun Cn T N h1 h2 => ((a_lay_obj ha h1).2 j h2).1 hf) rfl rfl (fun i hi => va_up_ne _ _ hi) (fun _ _ => rfl) fvn (congrArg Value.int fvs) hdg hP hS (fun H1 locs1 hP1 hS1 => kk H1 locs1 h hP1 hS1)
  · exact a_s_put C (μ := μ) (ν := (va_up μ.1 a (upd (μ.1 a) j x), μ.2)) (v := .int x) (ty := .boolean) hq rfl ha hf (fun Cn T N h1 h2 => ((a_lay_obj ha h1).2 j h2).2.2 hf) (by rcases h.1 with e | e <;> subst e <;> rfl) (by rcases h.1 with e | e <;> subst e <;> rfl) (fun i hi => va_up_ne _ _ hi) (fun _ _ => rfl) fvn (congrArg Value.int fvs) hdg hP hS (fun H1 locs1 hP1 hS1 => kk H1 locs1 h.2 hP1 hS1)
  · exact h.elim
theorem a_s_putl {own : String} (C : a_CX G own cc nL p s m args c) {a ci j i : Nat} {fs : List (Nat ⊕ Nat)} {f : Nat ⊕ Nat} {pp : Nat} (hq : a_okF own (i, ci, j) pp = true) (ha : a_lay[a]? = some (.inr (ci, fs))) (hf : fs[j]? = some f) (hdg : decode cc pc = .ok (.putfield i, 3)) {x : Int64} {ft : aMem → Prop} {H : Heap} {locs : List Loc} {ls : Array Slot} {r : List Value} (hP : va_P G.2.1 vwCl (a_world G.2.2.1 G.2.2.2 μ) H) (hS : va_S (a_A G.2.2.2) s.heap H locs)
    (h : a_pl f (ft (μ.1, va_up μ.2 a (vp_updL (μ.2 a) j x))))
    (kk : ∀ (H1 : Heap) (locs1 : List Loc), ft (μ.1, va_up μ.2 a (vp_updL (μ.2 a) j x)) → va_P G.2.1 vwCl (a_world G.2.2.1 G.2.2.2 (μ.1, va_up μ.2 a (vp_updL (μ.2 a) j x))) H1 → va_S (a_A G.2.2.2) s.heap H1 locs1 → W p G.1 e R s m args below meth c H1 locs1 cells slots Q (F0 m (pc + 3) ls r)) : W p G.1 e R s m args below meth c H locs cells slots Q (F0 m pc ls (.long x :: .ref (G.2.2.2 a) :: r)) := by
  have fvn : ∀ (k : Nat) (f : Nat ⊕ Nat), k ≠ j → a_fv G.2.2.2 (μ.1, va_up μ.2 a (vp_updL (μ.2 a) j x)) a k f = a_fv G.2.2.2 μ a k f := by
    intro k f hk
    refine a_fv_cong (μ := (μ.1, va_up μ.2 a (vp_updL (μ.2 a) j x))) (ν := μ) rfl ?_ f
    show (va_up μ.2 a (vp_updL (μ.2 a) j x)) a k = _
    rw [va_up_self]; exact pk_uLn hk
  have fvs : (va_up μ.2 a (vp_updL (μ.2 a) j x)) a j = x := by rw [va_up_self, pk_uLs]
  unfold a_pl at h
  split at h
  · exact a_s_put C (μ := μ) (ν := (μ.1, va_up μ.2 a (vp_updL (μ.2 a) j x))) (v := .long x) (ty := .long) hq rfl ha hf (fun Cn T N h1 h2 => ((a_lay_obj ha h1).2 j h2).2.1 hf) rfl rfl (fun _ _ => rfl) (fun i hi => va_up_ne _ _ hi) fvn (congrArg Value.long fvs) hdg hP hS (fun H1 locs1 hP1 hS1 => kk H1 locs1 h hP1 hS1)
  · exact h.elim
theorem a_s_iast {own : String} (C : a_CX G own cc nL p s m args c) {a n : Nat} (hla : a_lay[a]? = some (.inl (0, n))) {i x : Int32} (hi : vp_in i n) (hdg : decode cc pc = .ok (.iastore, 1)) {H : Heap} {locs : List Loc} {ls : Array Slot} {r : List Value} (hP : va_P G.2.1 vwCl (a_world G.2.2.1 G.2.2.2 μ) H) (hS : va_S (a_A G.2.2.2) s.heap H locs)
    (kk : ∀ (H1 : Heap) (locs1 : List Loc), va_P G.2.1 vwCl (a_world G.2.2.1 G.2.2.2 (va_up μ.1 a (upd (μ.1 a) i.toNatClampNeg x), μ.2)) H1 → va_S (a_A G.2.2.2) s.heap H1 locs1 → W p G.1 e R s m args below meth c H1 locs1 cells slots Q (F0 m (pc + 1) ls r)) : W p G.1 e R s m args below meth c H locs cells slots Q (F0 m pc ls (.int x :: .int i :: .ref (G.2.2.2 a) :: r)) := by
  obtain ⟨hx, hb, hml, hown, hts, hK, hN, hI⟩ := C
  refine va_iast hx hb hK hP (a_world_D hI) hS a 0 (a_world_at hla) rfl hi hdg (fun H1 locs1 hP1 hD1 hS1 => kk H1 locs1 ?_ hS1)
  rw [← a_world_set (μ := μ) (ν := (va_up μ.1 a (upd (μ.1 a) i.toNatClampNeg x), μ.2)) hla (fun i hi => va_up_ne _ _ hi) (fun _ _ => rfl)]
  have e1 : a_cell G.2.2.1 G.2.2.2 (va_up μ.1 a (upd (μ.1 a) i.toNatClampNeg x), μ.2) a (.inl (0, n)) = .inl (G.2.2.1.1, n, .inl (upd (μ.1 a) i.toNatClampNeg x)) := by
    show Sum.inl (G.2.2.1.1, n, Sum.inl ((va_up μ.1 a (upd (μ.1 a) i.toNatClampNeg x)) a)) = _
    rw [va_up_self]
  rw [e1]
  exact hP1
theorem a_s_zast {own : String} (C : a_CX G own cc nL p s m args c) {a n : Nat} (hla : a_lay[a]? = some (.inl (1, n))) {i x : Int32} (hi : vp_in i n) (hdg : decode cc pc = .ok (.bastore, 1)) {H : Heap} {locs : List Loc} {ls : Array Slot} {r : List Value} (hP : va_P G.2.1 vwCl (a_world G.2.2.1 G.2.2.2 μ) H) (hS : va_S (a_A G.2.2.2) s.heap H locs)
    (kk : ∀ (H1 : Heap) (locs1 : List Loc), va_P G.2.1 vwCl (a_world G.2.2.1 G.2.2.2 (va_up μ.1 a (upd (μ.1 a) i.toNatClampNeg (x &&& 1)), μ.2)) H1 → va_S (a_A G.2.2.2) s.heap H1 locs1 → W p G.1 e R s m args below meth c H1 locs1 cells slots Q (F0 m (pc + 1) ls r)) : W p G.1 e R s m args below meth c H locs cells slots Q (F0 m pc ls (.int x :: .int i :: .ref (G.2.2.2 a) :: r)) := by
  obtain ⟨hx, hb, hml, hown, hts, hK, hN, hI⟩ := C
  refine va_zast hx hb hK hP (a_world_D hI) hS a 1 (a_world_at hla) rfl hi hdg (fun H1 locs1 hP1 hD1 hS1 => kk H1 locs1 ?_ hS1)
  rw [← a_world_set (μ := μ) (ν := (va_up μ.1 a (upd (μ.1 a) i.toNatClampNeg (x &&& 1)), μ.2)) hla (fun i hi => va_up_ne _ _ hi) (fun _ _ => rfl)]
  have e1 : a_cell G.2.2.1 G.2.2.2 (va_up μ.1 a (upd (μ.1 a) i.toNatClampNeg (x &&& 1)), μ.2) a (.inl (1, n)) = .inl (G.2.2.1.2.1, n, .inl (upd (μ.1 a) i.toNatClampNeg (vp_nar .boolean x))) := by
    show Sum.inl (G.2.2.1.2.1, n, Sum.inl ((va_up μ.1 a (upd (μ.1 a) i.toNatClampNeg (x &&& 1))) a)) = _
    rw [va_up_self]; rfl
  rw [e1]
  exact hP1
theorem a_s_last {own : String} (C : a_CX G own cc nL p s m args c) {a n : Nat} (hla : a_lay[a]? = some (.inl (2, n))) {i : Int32} {x : Int64} (hi : vp_in i n) (hdg : decode cc pc = .ok (.lastore, 1)) {H : Heap} {locs : List Loc} {ls : Array Slot} {r : List Value} (hP : va_P G.2.1 vwCl (a_world G.2.2.1 G.2.2.2 μ) H) (hS : va_S (a_A G.2.2.2) s.heap H locs)
    (kk : ∀ (H1 : Heap) (locs1 : List Loc), va_P G.2.1 vwCl (a_world G.2.2.1 G.2.2.2 (μ.1, va_up μ.2 a (vp_updL (μ.2 a) i.toNatClampNeg x))) H1 → va_S (a_A G.2.2.2) s.heap H1 locs1 → W p G.1 e R s m args below meth c H1 locs1 cells slots Q (F0 m (pc + 1) ls r)) : W p G.1 e R s m args below meth c H locs cells slots Q (F0 m pc ls (.long x :: .int i :: .ref (G.2.2.2 a) :: r)) := by
  obtain ⟨hx, hb, hml, hown, hts, hK, hN, hI⟩ := C
  refine va_last hx hb hK hP (a_world_D hI) hS a 2 (a_world_at hla) rfl hi hdg (fun H1 locs1 hP1 hD1 hS1 => kk H1 locs1 ?_ hS1)
  rw [← a_world_set (μ := μ) (ν := (μ.1, va_up μ.2 a (vp_updL (μ.2 a) i.toNatClampNeg x))) hla (fun _ _ => rfl) (fun i hi => va_up_ne _ _ hi)]
  have e1 : a_cell G.2.2.1 G.2.2.2 (μ.1, va_up μ.2 a (vp_updL (μ.2 a) i.toNatClampNeg x)) a (.inl (2, n)) = .inl (G.2.2.1.2.2, n, .inr (.inl (vp_updL (μ.2 a) i.toNatClampNeg x))) := by
    show Sum.inl (G.2.2.1.2.2, n, Sum.inr (Sum.inl ((va_up μ.2 a (vp_updL (μ.2 a) i.toNatClampNeg x)) a))) = _
    rw [va_up_self]
  rw [e1]
  exact hP1
set_option maxHeartbeats 4000000 in
set_option maxRecDepth 100000 in
theorem a_ins_sound {own : String} (C : a_CX G own cc nL p s m args c) (hcs : cells ≤ R.cells ∧ slots ≤ R.slots) {tab : aTab} (hT : a_TOK own tab) {ret : Option FieldType} {scr : Option (Nat × (Nat → Int32))} (hscr : a_SC G s scr) {post : aPost} (hrt : a_RT G p e R s m args below meth c nL cells slots Q cc ret post)
    {ins : Instr} {len : Nat} (hdg : decode cc pc = .ok (ins, len)) (hlen : len = a_len ins ∨ a_len ins = 0) {ft : aLV → List Value → aMem → Prop} {jp : Nat → aLV → List Value → aMem → Prop} (hft : a_WW G p e R s m args below meth c nL cells slots Q (pc + len) ft) (hjp : ∀ t, a_WW G p e R s m args below meth c nL cells slots Q t (jp t))
    (h : a_ins tab R nL ret scr (a_Spec G) post ins pc ft jp lv st μ) : a_W G p e R s m args below meth c nL cells slots Q pc lv st μ := by
  have C' := C
  obtain ⟨hx, hb, hml, hown, hts, hK, hN, hI⟩ := C'
  intro H locs ls hP hS hl
  cases ins
  case aload_n k =>
    obtain ⟨x, h1, h2⟩ := a_gr_e h
    obtain rfl : len = 1 := hlen.elim id (fun q => by cases q)
    exact lv_aload_n hx hb hdg rfl (hl.2.2 _ (a_lm_in h1)) (hft _ _ _ h2 H locs ls hP hS hl)
  case aload k =>
    obtain ⟨x, h1, h2⟩ := a_gr_e h
    obtain rfl : len = 2 := hlen.elim id (fun q => by cases q)
    exact lv_aload hx hb hdg (hl.2.2 _ (a_lm_in h1)) (hft _ _ _ h2 H locs ls hP hS hl)
  case iload_n k =>
    obtain ⟨x, h1, h2⟩ := a_gi_e h
    obtain rfl : len = 1 := hlen.elim id (fun q => by cases q)
    exact lv_iload_n hx hb hdg rfl (hl.2.2 _ (a_lm_in h1)) (hft _ _ _ h2 H locs ls hP hS hl)
  case iload k =>
    obtain ⟨x, h1, h2⟩ := a_gi_e h
    obtain rfl : len = 2 := hlen.elim id (fun q => by cases q)
    exact lv_iload hx hb hdg (hl.2.2 _ (a_lm_in h1)) (hft _ _ _ h2 H locs ls hP hS hl)
  case lload_n k =>
    obtain ⟨x, h1, h2⟩ := a_gl_e h
    obtain rfl : len = 1 := hlen.elim id (fun q => by cases q)
    exact lv_lload_n hx hb hdg rfl (hl.2.2 _ (a_lm_in h1)) (hft _ _ _ h2 H locs ls hP hS hl)
  case lload k =>
    obtain ⟨x, h1, h2⟩ := a_gl_e h
    obtain rfl : len = 2 := hlen.elim id (fun q => by cases q)
    exact lv_lload hx hb hdg (hl.2.2 _ (a_lm_in h1)) (hft _ _ _ h2 H locs ls hP hS hl)
  case istore_n k =>
    replace h := a_p1i_e h; obtain ⟨x, r, rfl, h⟩ := h
    obtain ⟨h1, h2⟩ := a_ck_e h
    obtain rfl : len = 1 := hlen.elim id (fun q => by cases q)
    exact lv_istore_n hx hb hdg rfl hl (by simpa [Nat.blt_eq] using h1) (a_lm_st1 _ _ _ (.int x)) (fun ls' hl' => hft _ _ _ h2 H locs ls' hP hS hl')
  case istore k =>
    replace h := a_p1i_e h; obtain ⟨x, r, rfl, h⟩ := h
    obtain ⟨h1, h2⟩ := a_ck_e h
    obtain rfl : len = 2 := hlen.elim id (fun q => by cases q)
    exact lv_istore hx hb hdg hl (by simpa [Nat.blt_eq] using h1) (a_lm_st1 _ _ _ (.int x)) (fun ls' hl' => hft _ _ _ h2 H locs ls' hP hS hl')
  case lstore_n k =>
    replace h := a_p1l_e h; obtain ⟨x, r, rfl, h⟩ := h
    obtain ⟨h1, h2⟩ := a_ck_e h
    obtain rfl : len = 1 := hlen.elim id (fun q => by cases q)
    exact lv_lstore_n hx hb hdg rfl hl (by simpa [Nat.blt_eq] using h1) (a_lm_st2 _ _ _ (.long x)) (fun ls' hl' => hft _ _ _ h2 H locs ls' hP hS hl')
  case lstore k =>
    replace h := a_p1l_e h; obtain ⟨x, r, rfl, h⟩ := h
    obtain ⟨h1, h2⟩ := a_ck_e h
    obtain rfl : len = 2 := hlen.elim id (fun q => by cases q)
    exact lv_lstore hx hb hdg hl (by simpa [Nat.blt_eq] using h1) (a_lm_st2 _ _ _ (.long x)) (fun ls' hl' => hft _ _ _ h2 H locs ls' hP hS hl')
  case iinc i n =>
    obtain ⟨x, h0, h⟩ := a_gi_e h
    obtain ⟨h1, h2⟩ := a_ck_e h
    obtain rfl : len = 3 := hlen.elim id (fun q => by cases q)
    obtain ⟨k, hk⟩ := List.getElem?_of_mem (a_lm_in (r := G.2.2.2) h0)
    exact lv_iinc hx hb hdg hl hk rfl (by simpa [Nat.blt_eq] using h1) (a_lm_st1 _ _ _ (.int (x + Int32.ofInt n))) (fun ls' hl' => hft _ _ _ h2 H locs ls' hP hS hl')
  case iconst n =>
    obtain rfl : len = 1 := hlen.elim id (fun q => by cases q)
    exact lv_iconst hx hb hdg rfl (hft _ _ _ h H locs ls hP hS hl)
  case bipush n =>
    obtain rfl : len = 2 := hlen.elim id (fun q => by cases q)
    exact lv_bipush hx hb hdg rfl (hft _ _ _ h H locs ls hP hS hl)
  case sipush n =>
    obtain rfl : len = 3 := hlen.elim id (fun q => by cases q)
    exact lv_sipush hx hb hdg rfl (hft _ _ _ h H locs ls hP hS hl)
  case lconst n =>
    obtain rfl : len = 1 := hlen.elim id (fun q => by cases q)
    exact lv_lconst hx hb hdg rfl (hft _ _ _ h H locs ls hP hS hl)
  case ldc i =>
    obtain ⟨v, hv, h⟩ := a_ld_e h
    obtain rfl : len = 2 := hlen.elim id (fun q => by cases q)
    exact lv_ldc hx hb hown (a_ws_of hts (hT.2.2.1 _ (a_look_in hv)) rfl) hdg (hft _ _ _ h H locs ls hP hS hl)
  case ldc_w i =>
    obtain ⟨v, hv, h⟩ := a_ld_e h
    obtain rfl : len = 3 := hlen.elim id (fun q => by cases q)
    exact lv_ldcw hx hb hown (a_ws_of hts (hT.2.2.1 _ (a_look_in hv)) rfl) hdg (hft _ _ _ h H locs ls hP hS hl)
  case ldc2_w i =>
    obtain ⟨v, hv, h⟩ := a_ld_e h
    obtain rfl : len = 3 := hlen.elim id (fun q => by cases q)
    exact lv_ldc2 hx hb hown (a_ws_of hts (hT.2.2.2 _ (a_look_in hv)) rfl) hdg (hft _ _ _ h H locs ls hP hS hl)
  case iadd =>
    replace h := a_p2i_e h; obtain ⟨x, y, r, rfl, h⟩ := h
    obtain rfl : len = 1 := hlen.elim id (fun q => by cases q)
    exact lv_iadd hx hb hdg (hft _ _ _ h H locs ls hP hS hl)
  case isub =>
    replace h := a_p2i_e h; obtain ⟨x, y, r, rfl, h⟩ := h
    obtain rfl : len = 1 := hlen.elim id (fun q => by cases q)
    exact lv_isub hx hb hdg (hft _ _ _ h H locs ls hP hS hl)
  case imul =>
    replace h := a_p2i_e h; obtain ⟨x, y, r, rfl, h⟩ := h
    obtain rfl : len = 1 := hlen.elim id (fun q => by cases q)
    exact lv_imul hx hb hdg (hft _ _ _ h H locs ls hP hS hl)
  case iand =>
    replace h := a_p2i_e h; obtain ⟨x, y, r, rfl, h⟩ := h
    obtain rfl : len = 1 := hlen.elim id (fun q => by cases q)
    exact lv_iand hx hb hdg (hft _ _ _ h H locs ls hP hS hl)
  case ior =>
    replace h := a_p2i_e h; obtain ⟨x, y, r, rfl, h⟩ := h
    obtain rfl : len = 1 := hlen.elim id (fun q => by cases q)
    exact lv_ior hx hb hdg (hft _ _ _ h H locs ls hP hS hl)
  case ixor =>
    replace h := a_p2i_e h; obtain ⟨x, y, r, rfl, h⟩ := h
    obtain rfl : len = 1 := hlen.elim id (fun q => by cases q)
    exact lv_ixor hx hb hdg (hft _ _ _ h H locs ls hP hS hl)
  case ishl =>
    replace h := a_p2i_e h; obtain ⟨x, y, r, rfl, h⟩ := h
    obtain rfl : len = 1 := hlen.elim id (fun q => by cases q)
    exact lv_ishl hx hb hdg (hft _ _ _ h H locs ls hP hS hl)
  case ishr =>
    replace h := a_p2i_e h; obtain ⟨x, y, r, rfl, h⟩ := h
    obtain rfl : len = 1 := hlen.elim id (fun q => by cases q)
    exact lv_ishr hx hb hdg (hft _ _ _ h H locs ls hP hS hl)
  case ladd =>
    replace h := a_p2l_e h; obtain ⟨x, y, r, rfl, h⟩ := h
    obtain rfl : len = 1 := hlen.elim id (fun q => by cases q)
    exact lv_ladd hx hb hdg (hft _ _ _ h H locs ls hP hS hl)
  case lmul =>
    replace h := a_p2l_e h; obtain ⟨x, y, r, rfl, h⟩ := h
    obtain rfl : len = 1 := hlen.elim id (fun q => by cases q)
    exact lv_lmul hx hb hdg (hft _ _ _ h H locs ls hP hS hl)
  case idiv =>
    replace h := a_p2i_e h; obtain ⟨x, y, r, rfl, h0, h⟩ := h
    obtain rfl : len = 1 := hlen.elim id (fun q => by cases q)
    exact lv_idiv hx hb hdg h0 (hft _ _ _ h H locs ls hP hS hl)
  case iushr =>
    replace h := a_p2i_e h; obtain ⟨x, y, r, rfl, h⟩ := h
    obtain rfl : len = 1 := hlen.elim id (fun q => by cases q)
    exact lv_iushr hx hb hdg rfl (hft _ _ _ h H locs ls hP hS hl)
  case ineg =>
    replace h := a_p1i_e h; obtain ⟨x, r, rfl, h⟩ := h
    obtain rfl : len = 1 := hlen.elim id (fun q => by cases q)
    exact lv_ineg hx hb hdg (hft _ _ _ h H locs ls hP hS hl)
  case lcmp =>
    replace h := a_p2l_e h; obtain ⟨x, y, r, rfl, h⟩ := h
    obtain rfl : len = 1 := hlen.elim id (fun q => by cases q)
    exact W.lcmp hx hb hdg (hft _ _ _ h H locs ls hP hS hl)
  case lshl =>
    replace h := a_p1i_e h; obtain ⟨y, r, rfl, h⟩ := h
    replace h := a_p1l_e h; obtain ⟨x, r, rfl, h⟩ := h
    obtain rfl : len = 1 := hlen.elim id (fun q => by cases q)
    exact lv_lshl hx hb hdg rfl (hft _ _ _ h H locs ls hP hS hl)
  case lshr =>
    replace h := a_p1i_e h; obtain ⟨y, r, rfl, h⟩ := h
    replace h := a_p1l_e h; obtain ⟨x, r, rfl, h⟩ := h
    obtain rfl : len = 1 := hlen.elim id (fun q => by cases q)
    exact lv_lshr hx hb hdg rfl (hft _ _ _ h H locs ls hP hS hl)
  case i2l =>
    replace h := a_p1i_e h; obtain ⟨x, r, rfl, h⟩ := h
    obtain rfl : len = 1 := hlen.elim id (fun q => by cases q)
    exact lv_i2l hx hb hdg rfl (hft _ _ _ h H locs ls hP hS hl)
  case l2i =>
    replace h := a_p1l_e h; obtain ⟨x, r, rfl, h⟩ := h
    obtain rfl : len = 1 := hlen.elim id (fun q => by cases q)
    exact lv_l2i hx hb hdg rfl (hft _ _ _ h H locs ls hP hS hl)
  case dup =>
    obtain rfl : len = 1 := hlen.elim id (fun q => by cases q)
    have h1 : a_du st fun v r => ft lv (v :: v :: r) μ := h
    obtain ⟨v, r, e0, hv, h2⟩ := a_du_e h1
    subst e0
    exact lv_dup hx hb hdg (by rw [a_vr_cat]; exact hv) (hft _ _ _ h2 H locs ls hP hS hl)
  case dup2 =>
    obtain rfl : len = 1 := hlen.elim id (fun q => by cases q)
    have h1 : a_du st fun v r => a_du r fun w r => ft lv (v :: w :: v :: w :: r) μ := h
    obtain ⟨v, r, e0, hv, h2⟩ := a_du_e h1
    obtain ⟨w, r', e1, hw, h3⟩ := a_du_e h2
    subst e0
    subst e1
    exact lv_dup2_11 hx hb hdg (by rw [a_vr_cat]; exact hv) (by rw [a_vr_cat]; exact hw) (hft _ _ _ h3 H locs ls hP hS hl)
  case ifCond cd off =>
    replace h := a_p1i_e h; obtain ⟨x, r, rfl, h⟩ := h
    obtain ⟨t, ht, h⟩ := a_tg_e h
    obtain rfl : len = 3 := hlen.elim id (fun q => by cases q)
    cases cd
    case eq => exact lv_if_eq hx hb hdg ht (fun q => hjp t _ _ _ (h.1 q) H locs ls hP hS hl) (fun q => hft _ _ _ (h.2 q) H locs ls hP hS hl)
    case ne => exact lv_if_ne hx hb hdg ht (fun q => hjp t _ _ _ (h.1 q) H locs ls hP hS hl) (fun q => hft _ _ _ (h.2 q) H locs ls hP hS hl)
    case lt => exact lv_if_lt hx hb hdg ht (fun q => hjp t _ _ _ (h.1 q) H locs ls hP hS hl) (fun q => hft _ _ _ (h.2 q) H locs ls hP hS hl)
    case ge => exact lv_if_ge hx hb hdg ht (fun q => hjp t _ _ _ (h.1 q) H locs ls hP hS hl) (fun q => hft _ _ _ (h.2 q) H locs ls hP hS hl)
    case gt => exact lv_if_gt hx hb hdg ht (fun q => hjp t _ _ _ (h.1 q) H locs ls hP hS hl) (fun q => hft _ _ _ (h.2 q) H locs ls hP hS hl)
    case le => exact lv_if_le hx hb hdg ht (fun q => hjp t _ _ _ (h.1 q) H locs ls hP hS hl) (fun q => hft _ _ _ (h.2 q) H locs ls hP hS hl)
  case if_icmp cd off =>
    replace h := a_p2i_e h; obtain ⟨x, y, r, rfl, h⟩ := h
    obtain ⟨t, ht, h⟩ := a_tg_e h
    obtain rfl : len = 3 := hlen.elim id (fun q => by cases q)
    cases cd
    case eq => exact lv_icmp_eq hx hb hdg ht (fun q => hjp t _ _ _ (h.1 q) H locs ls hP hS hl) (fun q => hft _ _ _ (h.2 q) H locs ls hP hS hl)
    case ne => exact lv_icmp_ne hx hb hdg ht (fun q => hjp t _ _ _ (h.1 q) H locs ls hP hS hl) (fun q => hft _ _ _ (h.2 q) H locs ls hP hS hl)
    case lt => exact lv_icmp_lt hx hb hdg ht (fun q => hjp t _ _ _ (h.1 q) H locs ls hP hS hl) (fun q => hft _ _ _ (h.2 q) H locs ls hP hS hl)
    case ge => exact lv_icmp_ge hx hb hdg ht (fun q => hjp t _ _ _ (h.1 q) H locs ls hP hS hl) (fun q => hft _ _ _ (h.2 q) H locs ls hP hS hl)
    case gt => exact lv_icmp_gt hx hb hdg ht (fun q => hjp t _ _ _ (h.1 q) H locs ls hP hS hl) (fun q => hft _ _ _ (h.2 q) H locs ls hP hS hl)
    case le => exact lv_icmp_le hx hb hdg ht (fun q => hjp t _ _ _ (h.1 q) H locs ls hP hS hl) (fun q => hft _ _ _ (h.2 q) H locs ls hP hS hl)
  case goto off =>
    obtain ⟨t, ht, h⟩ := a_tg_e h
    obtain rfl : len = 3 := hlen.elim id (fun q => by cases q)
    exact lv_goto hx hb hdg ht (hjp t _ _ _ h H locs ls hP hS hl)
  case tableswitch dflt lo hi offs =>
    replace h := a_p1i_e h; obtain ⟨x, r, rfl, h⟩ := h
    obtain ⟨h0, h1, h2⟩ := a_ck_e h
    have h0 := of_decide_eq_true h0
    by_cases ho : x.toInt < lo ∨ hi < x.toInt
    · obtain ⟨t, ht, h⟩ := a_tg_e (h1 ho)
      exact lv_tableOut hx hb hdg ho ht (hjp t _ _ _ h H locs ls hP hS hl)
    · obtain ⟨o, e1, e2⟩ := a_sw_e h2 (by omega) (by omega)
      obtain ⟨t, ht, h⟩ := a_tg_e e2
      exact lv_tableIn hx hb hdg (by omega) (by omega) (by simpa using e1) ht (hjp t _ _ _ h H locs ls hP hS hl)
  case getfield i =>
    obtain ⟨a, r, e0, h1⟩ := a_p1r_e h
    obtain ⟨⟨ci, j⟩, hlk, h2⟩ := a_ld_e h1
    obtain ⟨pp, hq⟩ := hT.1 _ (a_look_in hlk)
    obtain ⟨ci', fs, hla, h3⟩ := a_ob_e h2
    obtain ⟨he, h4⟩ := a_ck_e h3
    have e1 : ci = ci' := Nat.eq_of_beq_eq_true he
    obtain ⟨f, hfj, h5⟩ := a_ld_e h4
    obtain rfl : len = 3 := hlen.elim id (fun q => by cases q)
    subst e0
    subst e1
    refine a_s_get C hq rfl hla hfj hdg hP ?_
    have h6 : a_fk f (fun b => ft lv (.ref b :: r) μ) (ft lv (.long (μ.2 a j) :: r) μ) (ft lv (.int (μ.1 a j) :: r) μ) := h5
    match f, h6 with
    | .inl q, h6 => exact hft _ _ _ h6 H locs ls hP hS hl
    | .inr 0, h6 => exact hft _ _ _ h6 H locs ls hP hS hl
    | .inr 1, h6 => exact hft _ _ _ h6 H locs ls hP hS hl
    | .inr (z + 2), h6 => exact hft _ _ _ h6 H locs ls hP hS hl
  case putfield i =>
    obtain rfl : len = 3 := hlen.elim id (fun q => by cases q)
    rcases a_pv_e h with ⟨x, a, r, e0, h1⟩ | ⟨x, a, r, e0, h1⟩
    · obtain ⟨⟨ci, j⟩, hlk, h2⟩ := a_ld_e h1
      obtain ⟨pp, hq⟩ := hT.1 _ (a_look_in hlk)
      obtain ⟨ci', fs, hla, h3⟩ := a_ob_e h2
      obtain ⟨he, h4⟩ := a_ck_e h3
      have e1 : ci = ci' := Nat.eq_of_beq_eq_true he
      obtain ⟨f, hfj, h5⟩ := a_ld_e h4
      subst e0
      subst e1
      exact a_s_puti (ft := fun ν => ft lv r ν) C hq hla hfj hdg hP hS h5 (fun H1 locs1 hh hP1 hS1 => hft _ _ _ hh H1 locs1 ls hP1 hS1 hl)
    · obtain ⟨⟨ci, j⟩, hlk, h2⟩ := a_ld_e h1
      obtain ⟨pp, hq⟩ := hT.1 _ (a_look_in hlk)
      obtain ⟨ci', fs, hla, h3⟩ := a_ob_e h2
      obtain ⟨he, h4⟩ := a_ck_e h3
      have e1 : ci = ci' := Nat.eq_of_beq_eq_true he
      obtain ⟨f, hfj, h5⟩ := a_ld_e h4
      subst e0
      subst e1
      exact a_s_putl (ft := fun ν => ft lv r ν) C hq hla hfj hdg hP hS h5 (fun H1 locs1 hh hP1 hS1 => hft _ _ _ hh H1 locs1 ls hP1 hS1 hl)
  case iaload =>
    replace h := a_p1i_e h; obtain ⟨i, r, rfl, h⟩ := h
    replace h := a_p1r_e h; obtain ⟨a, r, rfl, h⟩ := h
    obtain rfl : len = 1 := hlen.elim id (fun q => by cases q)
    rcases a_sc_e h with h | ⟨rfl, L, xs, hsc, h⟩
    · obtain ⟨n, hla, h⟩ := a_ar_e h
      exact va_iald hx hb hK hP a 0 (a_world_at hla) rfl h.1 hdg (hft _ _ _ h.2 H locs ls hP hS hl)
    · obtain ⟨q1, q2, q3⟩ := hscr L xs hsc
      exact va_sld hx hb q1 q2 q3 hS h.1 hdg (hft _ _ _ h.2 H locs ls hP hS hl)
  case baload =>
    replace h := a_p1i_e h; obtain ⟨i, r, rfl, h⟩ := h
    replace h := a_p1r_e h; obtain ⟨a, r, rfl, h⟩ := h
    obtain rfl : len = 1 := hlen.elim id (fun q => by cases q)
    obtain ⟨n, hla, h⟩ := a_ar_e h
    exact va_zald hx hb hK hP a 1 (a_world_at hla) rfl h.1 hdg (hft _ _ _ h.2 H locs ls hP hS hl)
  case laload =>
    replace h := a_p1i_e h; obtain ⟨i, r, rfl, h⟩ := h
    replace h := a_p1r_e h; obtain ⟨a, r, rfl, h⟩ := h
    obtain rfl : len = 1 := hlen.elim id (fun q => by cases q)
    obtain ⟨n, hla, h⟩ := a_ar_e h
    exact va_lald hx hb hK hP a 2 (a_world_at hla) rfl h.1 hdg (hft _ _ _ h.2 H locs ls hP hS hl)
  case iastore =>
    replace h := a_p1i_e h; obtain ⟨x, r, rfl, h⟩ := h
    replace h := a_p1i_e h; obtain ⟨i, r, rfl, h⟩ := h
    replace h := a_p1r_e h; obtain ⟨a, r, rfl, h⟩ := h
    obtain rfl : len = 1 := hlen.elim id (fun q => by cases q)
    obtain ⟨n, hla, h⟩ := a_ar_e h
    exact a_s_iast C hla h.1 hdg hP hS (fun H1 locs1 hP1 hS1 => hft _ _ _ h.2 H1 locs1 ls hP1 hS1 hl)
  case bastore =>
    replace h := a_p1i_e h; obtain ⟨x, r, rfl, h⟩ := h
    replace h := a_p1i_e h; obtain ⟨i, r, rfl, h⟩ := h
    replace h := a_p1r_e h; obtain ⟨a, r, rfl, h⟩ := h
    obtain rfl : len = 1 := hlen.elim id (fun q => by cases q)
    obtain ⟨n, hla, h⟩ := a_ar_e h
    exact a_s_zast C hla h.1 hdg hP hS (fun H1 locs1 hP1 hS1 => hft _ _ _ h.2 H1 locs1 ls hP1 hS1 hl)
  case lastore =>
    replace h := a_p1l_e h; obtain ⟨x, r, rfl, h⟩ := h
    replace h := a_p1i_e h; obtain ⟨i, r, rfl, h⟩ := h
    replace h := a_p1r_e h; obtain ⟨a, r, rfl, h⟩ := h
    obtain rfl : len = 1 := hlen.elim id (fun q => by cases q)
    obtain ⟨n, hla, h⟩ := a_ar_e h
    exact a_s_last C hla h.1 hdg hP hS (fun H1 locs1 hP1 hS1 => hft _ _ _ h.2 H1 locs1 ls hP1 hS1 hl)
  case arraylength =>
    replace h := a_p1r_e h; obtain ⟨a, r, rfl, h⟩ := h
    obtain rfl : len = 1 := hlen.elim id (fun q => by cases q)
    rcases a_sc_e h with h | ⟨rfl, L, xs, hsc, h⟩
    · obtain ⟨n, hla, h⟩ := a_ar_e h
      exact va_alen hx hb hK hP a 0 (a_world_at hla) rfl rfl hdg (hft _ _ _ h H locs ls hP hS hl)
    · obtain ⟨q1, q2, q3⟩ := hscr L xs hsc
      exact va_slen hx hb q1 q2 q3 hS hdg (hft _ _ _ h H locs ls hP hS hl)
  case invokevirtual i =>
    obtain rfl : len = 3 := hlen.elim id (fun q => by cases q)
    obtain ⟨⟨kd, ci, n, S⟩, hlk, h1⟩ := a_ld_e h
    obtain ⟨pp, hq⟩ := hT.2.1 _ (a_look_in hlk)
    obtain ⟨as, r0, e0, hn, h2⟩ := a_pop_e h1
    obtain ⟨a, r, e1, h3⟩ := a_p1r_e h2
    obtain ⟨ci', fs, hla, h4⟩ := a_ob_e h3
    obtain ⟨he, h5⟩ := a_ck_e h4
    simp only [Bool.and_eq_true] at he
    have e2 : kd = 0 := Nat.eq_of_beq_eq_true he.1.1
    have e3 : ci = ci' := Nat.eq_of_beq_eq_true he.1.2
    rw [List.append_nil] at h5
    subst e0
    subst e1
    subst e2
    subst e3
    refine a_s_res h5 (fun post hM hk => a_s_callV C hcs hq hla hn he.2 hM hdg hP hS hl (fun v ν H1 locs1 hv hP1 hS1 => ?_))
    obtain ⟨vs, e1, e2⟩ := hk v ν hv
    rw [a_toList, e1]
    exact hft _ _ _ e2 H1 locs1 ls hP1 hS1 hl
  case invokestatic i =>
    obtain rfl : len = 3 := hlen.elim id (fun q => by cases q)
    obtain ⟨⟨kd, ci, n, S⟩, hlk, h1⟩ := a_ld_e h
    obtain ⟨pp, hq⟩ := hT.2.1 _ (a_look_in hlk)
    rcases a_kd_e h1 with ⟨ek, h1⟩ | ⟨ek, h1⟩ | h1
    · have ek : kd = 3 := ek
      subst ek
      obtain ⟨x, y, r, e0, h2⟩ := a_p2i_e h1
      obtain ⟨he, h3⟩ := a_ck_e h2
      simp only [Bool.and_eq_true, Nat.ble_eq] at he
      subst e0
      obtain ⟨g1, g2, g3, g4⟩ := a_okC3_e hq
      have hcat : ∀ l : List Value, ((l.map (a_vr G.2.2.2)).map fun v => v.category) = l.map fun v => v.category := fun l => by rw [List.map_map]; exact List.map_congr_left (fun v _ => a_vr_cat _ v)
      exact va_mmin hx hb (hml.trans hl.1.symm) hown (a_ws_of hts g3 rfl) (a_ws_of hts g4 rfl) (a_ws_of hts g2 rfl) (a_ws_of hts g1 rfl) he.1 (by rw [hcat]; exact he.2) hcs.1 hcs.2 hdg (hft _ _ _ h3 H locs ls hP hS hl)
    · have ek : kd = 4 := ek
      subst ek
      obtain ⟨x, y, r, e0, h2⟩ := a_p2l_e h1
      obtain ⟨he, h3⟩ := a_ck_e h2
      simp only [Bool.and_eq_true, Nat.ble_eq] at he
      subst e0
      obtain ⟨g1, g2, g3, g4⟩ := a_okC4_e hq
      have hcat : ∀ l : List Value, ((l.map (a_vr G.2.2.2)).map fun v => v.category) = l.map fun v => v.category := fun l => by rw [List.map_map]; exact List.map_congr_left (fun v _ => a_vr_cat _ v)
      exact va_mmin_long hx hb (hml.trans hl.1.symm) hown (a_ws_of hts g3 rfl) (a_ws_of hts g4 rfl) (a_ws_of hts g2 rfl) (a_ws_of hts g1 rfl) he.1 (by rw [hcat]; exact he.2) hcs.1 hcs.2 hdg (hft _ _ _ h3 H locs ls hP hS hl)
    obtain ⟨as, r, e0, hn, h2⟩ := a_pop_e h1
    obtain ⟨he, h3⟩ := a_ck_e h2
    simp only [Bool.and_eq_true, Bool.or_eq_true] at he
    rw [List.append_nil] at h3
    subst e0
    refine a_s_res h3 (fun post hM hk => ?_)
    have kk : ∀ (v : Option Value) (ν : aMem) (H1 : Heap) (locs1 : List Loc), post v ν → va_P G.2.1 vwCl (a_world G.2.2.1 G.2.2.2 ν) H1 → va_S (a_A G.2.2.2) s.heap H1 locs1 → W p G.1 e R s m args below meth c H1 locs1 cells slots Q (F0 m (pc + 3) ls ((v.map (a_vr G.2.2.2)).toList ++ r.map (a_vr G.2.2.2))) := fun v ν H1 locs1 hv hP1 hS1 => by
      obtain ⟨vs, e1, e2⟩ := hk v ν hv
      rw [a_toList, e1]
      exact hft _ _ _ e2 H1 locs1 ls hP1 hS1 hl
    rcases he.1 with e0 | e0
    · have e4 : kd = 1 := Nat.eq_of_beq_eq_true e0
      subst e4
      exact a_s_callS C hcs hq hn he.2 hM hdg hP hS hl kk
    · have e4 : kd = 2 := Nat.eq_of_beq_eq_true e0
      subst e4
      exact a_s_callN C hcs hq hn he.2 hM hdg hP hS hl kk
  case ireturn =>
    obtain rfl : len = 1 := hlen.elim id (fun q => by cases q)
    replace h := a_p1i_e h; obtain ⟨x, r, rfl, h⟩ := h
    obtain ⟨rfl, h⟩ := a_e1_e h
    obtain ⟨h1, h⟩ := a_ri_e h
    exact hrt.1 pc lv x μ hdg h1 h H locs ls hP hS hl
  case lreturn =>
    obtain rfl : len = 1 := hlen.elim id (fun q => by cases q)
    replace h := a_p1l_e h; obtain ⟨x, r, rfl, h⟩ := h
    obtain ⟨rfl, h⟩ := a_e1_e h
    obtain ⟨h1, h⟩ := a_rl_e h
    exact hrt.2.1 pc lv x μ hdg h1 h H locs ls hP hS hl
  case return_ =>
    obtain rfl : len = 1 := hlen.elim id (fun q => by cases q)
    replace h := a_e1_e h
    obtain ⟨rfl, h⟩ := h
    obtain ⟨h1, h⟩ := a_rv_e h
    exact hrt.2.2 pc lv μ hdg h1 h H locs ls hP hS hl
  all_goals exact False.elim h
theorem a_at_in {t : Nat} : ∀ {pg : aPg}, ∀ q ∈ a_at t pg, q ∈ pg
  | [], q, h => h
  | x :: r, q, h => by
    unfold a_at at h
    split at h
    · exact h
    · exact List.mem_cons_of_mem _ (a_at_in q h)
/-- THE ABSTRACT MACHINE IS SOUND -/
theorem awp_W {own : String} (C : a_CX G own cc nL p s m args c) (hcs : cells ≤ R.cells ∧ slots ≤ R.slots) {tab : aTab} (hT : a_TOK own tab) {ret : Option FieldType} {scr : Option (Nat × (Nat → Int32))} (hscr : a_SC G s scr) {post : aPost} (hrt : a_RT G p e R s m args below meth c nL cells slots Q cc ret post) {pg : aPg} (hpg : (pg.all fun q => decide (decode cc q.1 = .ok (q.2.1, q.2.2))) = true) {cuts : List (Nat × List Nat)} {rn : Nat → aLV → List Value → aMem → Prop} (hrn : ∀ pc, a_WW G p e R s m args below meth c nL cells slots Q pc (rn pc)) :
    ∀ (n : Nat) (pl : aPg) (lv : aLV) (st : List Value) (μ : aMem), (∀ q ∈ pl, q ∈ pg) → awp tab pg cuts R nL ret scr (a_Spec G) rn post n pl lv st μ → ∃ q r, pl = q :: r ∧ a_W G p e R s m args below meth c nL cells slots Q q.1 lv st μ := by
  intro n
  have pick : ∀ (pc : Nat) (lv : aLV) (ks : List Nat) (st : List Value) (μ : aMem), rn pc (a_pick lv ks) st μ → a_W G p e R s m args below meth c nL cells slots Q pc lv st μ := fun pc lv ks st μ h H locs ls hP hS hl => hrn pc _ _ _ h H locs ls hP hS (a_lm_sub hl a_pick_in)
  induction n with
  | zero => intro pl lv st μ _ h; exact h.elim
  | succ n ih =>
    intro pl lv st μ hin h
    unfold awp at h
    split at h
    · exact h.elim
    · rename_i q rest
      obtain ⟨hlen, h⟩ := a_ck_e h
      refine ⟨q, rest, rfl, ?_⟩
      have hdg : decode cc q.1 = .ok (q.2.1, q.2.2) := of_decide_eq_true (List.all_eq_true.mp hpg q (hin q List.mem_cons_self))
      refine a_ins_sound C hcs hT hscr hrt hdg ?_ ?_ ?_ h
      · simp only [Bool.or_eq_true] at hlen
        rcases hlen with e | e
        · exact Or.inl (Nat.eq_of_beq_eq_true e)
        · exact Or.inr (Nat.eq_of_beq_eq_true e)
      · intro lv st μ h
        split at h
        · exact pick _ _ _ _ _ h
        · obtain ⟨h1, h2⟩ := a_ck_e h
          obtain ⟨q', r', e1, e2⟩ := ih rest lv st μ (fun x hx => hin x (List.mem_cons_of_mem _ hx)) h2
          subst e1
          have e3 : q'.1 = q.1 + q.2.2 := Nat.eq_of_beq_eq_true h1
          rw [← e3]; exact e2
      · intro t lv st μ h
        split at h
        · exact pick _ _ _ _ _ h
        · obtain ⟨h1, h2⟩ := a_ck_e h
          obtain ⟨q', r', e1, e2⟩ := ih (a_at t pg) lv st μ a_at_in h2
          rw [e1] at h1
          have e3 : q'.1 = t := Nat.eq_of_beq_eq_true h1
          rw [← e3]; exact e2
end AINS
end
section
/-! ===== from the abstract machine to contracts ===== -/
theorem a_lm_args (r : Nat → Nat) : ∀ (i : Nat) (as : List Value), lv_args i (as.map (a_vr r)) = a_lm r (lv_args i as)
  | i, [] => rfl
  | i, v :: vs => by
    show (i, a_vr r v) :: lv_args (if (a_vr r v).category = 2 then i + 2 else i + 1) (vs.map (a_vr r)) = (i, a_vr r v) :: a_lm r (lv_args (if v.category = 2 then i + 2 else i + 1) vs)
    rw [a_vr_cat, a_lm_args]
theorem a_sl_len (r : Nat → Nat) : ∀ (as : List Value), (lg_sl (as.map (a_vr r))).length = (lg_sl as).length
  | [] => rfl
  | v :: vs => by
    have ih := a_sl_len r vs
    cases v <;> simp [lg_sl, a_vr, Value.category] at ih ⊢ <;> first | exact ih | omega | (simp [ih]; done)
theorem a_enter {G : aG} {S : aMS} {as : List Value} {μ : aMem} {post : aPost} (hy : plainName S.1.cls = true) (hn : Nat.ble (lg_sl as).length S.2.2.1 = true) (h : a_Runs G S 0 (lv_args 0 as) [] μ post) : a_Spec G S as μ post := by
  refine Met.ofW (cc := S.2.1) (maxL := S.2.2.1) (ret := S.2.2.2.1) hy rfl ?_
  intro p e s m args below meth c s₁ B hml hv
  obtain ⟨rfl, hP, hK, hN, hI⟩ := hv
  have hts : ∀ w ∈ a_ws, w.before (as.map (a_vr G.2.2.2)).toArray s = true := fun w hw => atoms_spec (ws := .code S.1 S.2.1 S.2.2.1 S.2.2.2.1 :: a_ws) B.pre w (List.mem_cons_of_mem _ hw)
  have hl := lv_entry (as.map (a_vr G.2.2.2)) (n := S.2.2.1) (by rw [a_sl_len]; exact Nat.le_of_ble_eq_true hn)
  rw [lg_entry_eq]
  rw [a_lm_args] at hl
  exact h p e s m _ below meth c ⟨B.exec, B.bytes, B.returns, hml, findClass_of_methodNamed B.named, hts, B.notSynchronized, hK, hN, hI⟩ s.heap [] _ hP va_S.rf hl
theorem a_run {G : aG} {S : aMS} {pc : Nat} {lv : aLV} {st : List Value} {μ : aMem} {post : aPost} {tab : aTab} {pg : aPg} (cuts : List (Nat × List Nat)) (n : Nat) (hT : a_TOK S.1.cls tab) (hpg : (pg.all fun q => decide (decode S.2.1 q.1 = .ok (q.2.1, q.2.2))) = true) (hd : a_hd pc (a_at pc pg) = true)
    (h : awp tab pg cuts S.2.2.2.2.1 S.2.2.1 S.2.2.2.1 none (a_Spec G) (fun pc lv st μ => a_Runs G S pc lv st μ post) post n (a_at pc pg) lv st μ) : a_Runs G S pc lv st μ post := by
  intro p e s m args below meth c C
  obtain ⟨hx, hb, hr, hml, hown, hts, hlocks, hK, hN, hI⟩ := C
  have C' : a_Cx G S p s m args meth c := ⟨hx, hb, hr, hml, hown, hts, hlocks, hK, hN, hI⟩
  obtain ⟨q, r, e1, e2⟩ := awp_W (Q := MQ below (a_Q G post) args s 0 0 (a_A G.2.2.2)) (cells := 0) (slots := 0) ⟨hx, hb, hml, hown, hts, hK, hN, hI⟩ ⟨Nat.zero_le _, Nat.zero_le _⟩ hT (ret := S.2.2.2.1) (scr := none) (fun L xs h => by cases h) (post := post)
    ⟨fun pc lv x μ hdg hret hpost H locs ls hP hS hl => by
      have hq : ∀ t : State, t.heap = H → s.WarmedH t.vm → a_Q G post args s (.returned (some (.int x))) t := fun t ht _ => ⟨⟨some (.int x), μ, rfl, hpost, by rw [ht]; exact hP⟩, hS.F ht⟩
      rcases hret with e | ⟨e, ex⟩
      · exact W.iret hx hb (hr.trans e) hq hS.2.2 hdg hlocks
      · exact W.zret (ty := .boolean) hx hb (hr.trans e) (by rcases ex with e | e <;> subst e <;> rfl) hq hS.2.2 hdg hlocks,
     fun pc lv x μ hdg hret hpost H locs ls hP hS hl => W.lret hx hb (hr.trans hret) (fun t ht _ => ⟨⟨some (.long x), μ, rfl, hpost, by rw [ht]; exact hP⟩, hS.F ht⟩) hS.2.2 hdg hlocks,
     fun pc lv μ hdg hret hpost H locs ls hP hS hl => W.vret hx hb (hr.trans hret) (fun t ht _ => ⟨⟨none, μ, rfl, hpost, by rw [ht]; exact hP⟩, hS.F ht⟩) hS.2.2 hdg hlocks⟩
    hpg (cuts := cuts) (rn := fun pc lv st μ => a_Runs G S pc lv st μ post) (fun pc lv st μ h => h p e s m args below meth c C') n (a_at pc pg) lv st μ a_at_in h
  rw [e1] at hd
  have e3 : q.1 = pc := Nat.eq_of_beq_eq_true hd
  rw [← e3]; exact e2
theorem a_Spec.mono {G : aG} {S : aMS} {as : List Value} {μ : aMem} {post post' : aPost} (h : a_Spec G S as μ post) (hm : ∀ v ν, post v ν → post' v ν) : a_Spec G S as μ post' := by
  intro p e ha hc hk s m args below h1 h2 h3 h4
  obtain ⟨t, o, a1, a2, a3, ⟨⟨v, ν, b1, b2, b3⟩, b4⟩, b5⟩ := h p e ha hc hk s m args below h1 h2 h3 h4
  exact ⟨t, o, a1, a2, a3, ⟨⟨v, ν, b1, hm v ν b2, b3⟩, b4⟩, b5⟩
/-- a method that answers v and leaves the memory ν -/
def a_Ret (G : aG) (S : aMS) (as : List Value) (μ : aMem) (v : Option Value) (ν : aMem) : Prop := ∀ post : aPost, post v ν → a_Spec G S as μ post
end
section
set_option maxRecDepth 100000 in
set_option maxHeartbeats 4000000 in
theorem w_X0_sortIn_0 {G : aG} {μ : aMem} {post : aPost} (x1 : Int32) (h :
    a_Runs G sX0_sortIn 2 [(0, .ref 1), (1, .int x1), (2, .int x1)] [] μ post) :
    a_Spec G sX0_sortIn [.ref 1, .int x1] μ post := a_enter (by decide +kernel) rfl (a_run (S := sX0_sortIn) (pg := pX0_sortIn) (tab := tX0) [(2, [0, 1, 2])] 5 (a_okT_e tX0_ok) pX0_sortIn_ok rfl h)
set_option maxRecDepth 100000 in
set_option maxHeartbeats 4000000 in
theorem w_X0_sortIn_2 {G : aG} {μ : aMem} {post : aPost} (x1 : Int32) (x2 : Int32) (h :
    ((x2 ≤ 0 →
      vp_in x2 16 ∧
      post none (va_up μ.1 12 (upd (μ.1 12) x2.toNatClampNeg x1), μ.2)) ∧
    (¬ x2 ≤ 0 →
      vp_in (x2 - (nI 1)) 16 ∧
      vp_in (μ.1 12 (x2 - (nI 1)).toNatClampNeg) 16 ∧
      vp_in x1 16 ∧
      (((μ.1 10 (μ.1 12 (x2 - (nI 1)).toNatClampNeg).toNatClampNeg) ≤ (μ.1 10 x1.toNatClampNeg) →
        vp_in x2 16 ∧
        post none (va_up μ.1 12 (upd (μ.1 12) x2.toNatClampNeg x1), μ.2)) ∧
      (¬ (μ.1 10 (μ.1 12 (x2 - (nI 1)).toNatClampNeg).toNatClampNeg) ≤ (μ.1 10 x1.toNatClampNeg) →
        vp_in (x2 - (nI 1)) 16 ∧
        vp_in x2 16 ∧
        a_Runs G sX0_sortIn 2 [(0, .ref 1), (1, .int x1), (2, .int (x2 + (-1)))] [] (va_up μ.1 12 (upd (μ.1 12) x2.toNatClampNeg (μ.1 12 (x2 - (nI 1)).toNatClampNeg)), μ.2) post))))) :
    a_Runs G sX0_sortIn 2 [(0, .ref 1), (1, .int x1), (2, .int x2)] [] μ post := a_run (S := sX0_sortIn) (pg := pX0_sortIn) (tab := tX0) [(2, [0, 1, 2])] 31 (a_okT_e tX0_ok) pX0_sortIn_ok rfl h
set_option maxRecDepth 100000 in
set_option maxHeartbeats 4000000 in
theorem w_X0_add_0 {G : aG} {μ : aMem} {post : aPost} (x1 : Int32) (x2 : Int32) (x3 : Int32) (x4 : Int32) (h :
    vp_in (μ.1 1 0) 16 ∧
    vp_in (μ.1 1 0) 16 ∧
    vp_in (μ.1 1 0) 16 ∧
    vp_in (μ.1 1 0) 16 ∧
    vp_in (μ.1 1 0) 16 ∧
    a_Spec G sX0_sortIn [.ref 1, .int (μ.1 1 0)] (va_up (va_up (va_up (va_up (va_up μ.1 7 (upd (μ.1 7) ((μ.1 1 0).toNatClampNeg) x1)) 8 (upd (μ.1 8) ((μ.1 1 0).toNatClampNeg) x2)) 9 (upd (μ.1 9) ((μ.1 1 0).toNatClampNeg) (((nI 1) <<< (x1 &&& 31)) ||| ((nI 1) <<< (x2 &&& 31))))) 10 (upd (μ.1 10) ((μ.1 1 0).toNatClampNeg) x3)) 11 (upd (μ.1 11) ((μ.1 1 0).toNatClampNeg) x4), μ.2) (fun r1 m1 => r1 = none ∧
    post (some (.int (μ.1 1 0))) (va_up m1.1 1 (upd (m1.1 1) 0 ((μ.1 1 0) + (nI 1))), m1.2))) :
    a_Spec G sX0_add [.ref 1, .int x1, .int x2, .int x3, .int x4] μ post := a_enter (by decide +kernel) rfl (a_run (S := sX0_add) (pg := pX0_add) (tab := tX0) [] 46 (a_okT_e tX0_ok) pX0_add_ok rfl h)
set_option maxRecDepth 100000 in
set_option maxHeartbeats 4000000 in
theorem w_X0_allBits_0 {G : aG} {μ : aMem} {post : aPost}  (h :
    post (some (.int (((nI 1) <<< ((μ.1 1 0) &&& 31)) - (nI 1)))) μ) :
    a_Spec G sX0_allBits [.ref 1] μ post := a_enter (by decide +kernel) rfl (a_run (S := sX0_allBits) (pg := pX0_allBits) (tab := tX0) [] 9 (a_okT_e tX0_ok) pX0_allBits_ok rfl h)
set_option maxRecDepth 100000 in
set_option maxHeartbeats 4000000 in
theorem w_X0_across_0 {G : aG} {μ : aMem} {post : aPost} (x1 : Int32) (x2 : Int32) (h :
    vp_in x1 16 ∧
    ((¬ (μ.1 7 x1.toNatClampNeg) = x2 →
      vp_in x1 16 ∧
      post (some (.int (μ.1 7 x1.toNatClampNeg))) μ) ∧
    ((μ.1 7 x1.toNatClampNeg) = x2 →
      vp_in x1 16 ∧
      post (some (.int (μ.1 8 x1.toNatClampNeg))) μ))) :
    a_Spec G sX0_across [.ref 1, .int x1, .int x2] μ post := a_enter (by decide +kernel) rfl (a_run (S := sX0_across) (pg := pX0_across) (tab := tX0) [] 14 (a_okT_e tX0_ok) pX0_across_ok rfl h)
set_option maxRecDepth 100000 in
set_option maxHeartbeats 4000000 in
theorem w_X1_add_0 {G : aG} {μ : aMem} {post : aPost} (x1 : Int32) (x2 : Int32) (h :
    vp_in (μ.1 5 0) 8 ∧
    vp_in (μ.1 5 0) 8 ∧
    ((nI 1) = 0 ∨ (nI 1) = 1) ∧
    post (some (.int (μ.1 5 0))) (va_up (va_up (va_up (va_up μ.1 28 (upd (μ.1 28) ((μ.1 5 0).toNatClampNeg) x1)) 29 (upd (μ.1 29) ((μ.1 5 0).toNatClampNeg) x2)) 5 (upd (μ.1 5) 0 ((μ.1 5 0) + (nI 1)))) 5 (upd (upd (μ.1 5) 0 ((μ.1 5 0) + (nI 1))) 2 (nI 1)), μ.2)) :
    a_Spec G sX1_add [.ref 5, .int x1, .int x2] μ post := a_enter (by decide +kernel) rfl (a_run (S := sX1_add) (pg := pX1_add) (tab := tX1) [] 25 (a_okT_e tX1_ok) pX1_add_ok rfl h)
set_option maxRecDepth 100000 in
set_option maxHeartbeats 4000000 in
theorem w_X1_allBits_0 {G : aG} {μ : aMem} {post : aPost}  (h :
    post (some (.int (((nI 1) <<< ((μ.1 5 0) &&& 31)) - (nI 1)))) μ) :
    a_Spec G sX1_allBits [.ref 5] μ post := a_enter (by decide +kernel) rfl (a_run (S := sX1_allBits) (pg := pX1_allBits) (tab := tX1) [] 9 (a_okT_e tX1_ok) pX1_allBits_ok rfl h)
set_option maxRecDepth 100000 in
set_option maxHeartbeats 4000000 in
theorem w_X6_has_0 {G : aG} {μ : aMem} {post : aPost} (x0 : Int32) (x1 : Int32) (h :
    ((¬ ((x0 >>> (x1 &&& 31)) &&& (nI 1)) = (nI 1) →
      ((nI 0) = 0 ∨ (nI 0) = 1) ∧ post (some (.int (nI 0))) μ) ∧
    (((x0 >>> (x1 &&& 31)) &&& (nI 1)) = (nI 1) →
      ((nI 1) = 0 ∨ (nI 1) = 1) ∧ post (some (.int (nI 1))) μ))) :
    a_Spec G sX6_has [.int x0, .int x1] μ post := a_enter (by decide +kernel) rfl (a_run (S := sX6_has) (pg := pX6_has) (tab := tX6) [] 12 (a_okT_e tX6_ok) pX6_has_ok rfl h)
set_option maxRecDepth 100000 in
set_option maxHeartbeats 4000000 in
theorem w_X5_neededWith_0 {G : aG} {μ : aMem} {post : aPost} (x1 : Int32) (h :
    a_Runs G sX5_neededWith 4 [(0, .ref 2), (1, .int x1), (2, .int (nI 0)), (3, .int (nI 0))] [] μ post) :
    a_Spec G sX5_neededWith [.ref 2, .int x1] μ post := a_enter (by decide +kernel) rfl (a_run (S := sX5_neededWith) (pg := pX5_neededWith) (tab := tX5) [(4, [0, 1, 2, 3])] 7 (a_okT_e tX5_ok) pX5_neededWith_ok rfl h)
set_option maxRecDepth 100000 in
set_option maxHeartbeats 4000000 in
theorem w_X5_neededWith_4 {G : aG} {μ : aMem} {post : aPost} (x1 : Int32) (x2 : Int32) (x3 : Int32) (h :
    (((μ.1 2 0) ≤ x3 →
      post (some (.int x2)) μ) ∧
    (¬ (μ.1 2 0) ≤ x3 →
      vp_in x3 20 ∧
      ((¬ ((μ.1 17 x3.toNatClampNeg) &&& (x1 ^^^ (-1))) = 0 →
        a_Runs G sX5_neededWith 4 [(0, .ref 2), (1, .int x1), (2, .int x2), (3, .int (x3 + nI 1))] [] μ post) ∧
      (((μ.1 17 x3.toNatClampNeg) &&& (x1 ^^^ (-1))) = 0 →
        a_Runs G sX5_neededWith 4 [(0, .ref 2), (1, .int x1), (2, .int (x2 ||| ((nI 1) <<< (x3 &&& 31)))), (3, .int (x3 + nI 1))] [] μ post))))) :
    a_Runs G sX5_neededWith 4 [(0, .ref 2), (1, .int x1), (2, .int x2), (3, .int x3)] [] μ post := a_run (S := sX5_neededWith) (pg := pX5_neededWith) (tab := tX5) [(4, [0, 1, 2, 3])] 24 (a_okT_e tX5_ok) pX5_neededWith_ok rfl h
set_option maxRecDepth 100000 in
set_option maxHeartbeats 4000000 in
theorem w_X1_wiresFor_0 {G : aG} {μ : aMem} {post : aPost} (x1 : Int32) (h :
    a_Runs G sX1_wiresFor 4 [(0, .ref 5), (1, .int x1), (2, .int (nI 0)), (3, .int (nI 0))] [] μ post) :
    a_Spec G sX1_wiresFor [.ref 5, .int x1] μ post := a_enter (by decide +kernel) rfl (a_run (S := sX1_wiresFor) (pg := pX1_wiresFor) (tab := tX1) [(4, [0, 1, 2, 3])] 7 (a_okT_e tX1_ok) pX1_wiresFor_ok rfl h)
set_option maxRecDepth 100000 in
set_option maxHeartbeats 4000000 in
theorem w_X1_wiresFor_4 {G : aG} {μ : aMem} {post : aPost} (x1 : Int32) (x2 : Int32) (x3 : Int32) (h :
    (((μ.1 5 0) ≤ x3 →
      post (some (.int x2)) μ) ∧
    (¬ (μ.1 5 0) ≤ x3 →
      a_Spec G sX6_has [.int x1, .int x3] μ (fun r1 m1 => ∃ v1 : Int32, r1 = some (.int v1) ∧
      ((v1 = 0 →
        a_Runs G sX1_wiresFor 4 [(0, .ref 5), (1, .int x1), (2, .int x2), (3, .int (x3 + nI 1))] [] m1 post) ∧
      (¬ v1 = 0 →
        vp_in x3 8 ∧
        a_Spec G sX5_neededWith [.ref 2, .int (m1.1 28 x3.toNatClampNeg)] m1 (fun r2 m2 => ∃ v2 : Int32, r2 = some (.int v2) ∧
        a_Runs G sX1_wiresFor 4 [(0, .ref 5), (1, .int x1), (2, .int (x2 ||| v2)), (3, .int (x3 + nI 1))] [] m2 post))))))) :
    a_Runs G sX1_wiresFor 4 [(0, .ref 5), (1, .int x1), (2, .int x2), (3, .int x3)] [] μ post := a_run (S := sX1_wiresFor) (pg := pX1_wiresFor) (tab := tX1) [(4, [0, 1, 2, 3])] 23 (a_okT_e tX1_ok) pX1_wiresFor_ok rfl h
set_option maxRecDepth 100000 in
set_option maxHeartbeats 4000000 in
theorem w_X1_hasTwin_0 {G : aG} {μ : aMem} {post : aPost} (x1 : Int32) (h :
    vp_in x1 8 ∧
    a_Spec G sX5_neededWith [.ref 2, .int (μ.1 28 x1.toNatClampNeg)] μ (fun r1 m1 => ∃ v1 : Int32, r1 = some (.int v1) ∧
    a_Runs G sX1_hasTwin 16 [(0, .ref 5), (1, .int x1), (2, .int v1), (3, .int (nI 0))] [] m1 post)) :
    a_Spec G sX1_hasTwin [.ref 5, .int x1] μ post := a_enter (by decide +kernel) rfl (a_run (S := sX1_hasTwin) (pg := pX1_hasTwin) (tab := tX1) [(16, [0, 1, 2, 3])] 13 (a_okT_e tX1_ok) pX1_hasTwin_ok rfl h)
set_option maxRecDepth 100000 in
set_option maxHeartbeats 4000000 in
theorem w_X1_hasTwin_16 {G : aG} {μ : aMem} {post : aPost} (x1 : Int32) (x2 : Int32) (x3 : Int32) (h :
    (((μ.1 5 0) ≤ x3 →
      ((nI 0) = 0 ∨ (nI 0) = 1) ∧ post (some (.int (nI 0))) μ) ∧
    (¬ (μ.1 5 0) ≤ x3 →
      ((x3 = x1 →
        a_Runs G sX1_hasTwin 16 [(0, .ref 5), (1, .int x1), (2, .int x2), (3, .int (x3 + nI 1))] [] μ post) ∧
      (¬ x3 = x1 →
        vp_in x3 8 ∧
        a_Spec G sX5_neededWith [.ref 2, .int (μ.1 28 x3.toNatClampNeg)] μ (fun r1 m1 => ∃ v1 : Int32, r1 = some (.int v1) ∧
        ((¬ v1 = x2 →
          a_Runs G sX1_hasTwin 16 [(0, .ref 5), (1, .int x1), (2, .int x2), (3, .int (x3 + nI 1))] [] m1 post) ∧
        (v1 = x2 →
          ((nI 1) = 0 ∨ (nI 1) = 1) ∧ post (some (.int (nI 1))) m1)))))))) :
    a_Runs G sX1_hasTwin 16 [(0, .ref 5), (1, .int x1), (2, .int x2), (3, .int x3)] [] μ post := a_run (S := sX1_hasTwin) (pg := pX1_hasTwin) (tab := tX1) [(16, [0, 1, 2, 3])] 21 (a_okT_e tX1_ok) pX1_hasTwin_ok rfl h
set_option maxRecDepth 100000 in
set_option maxHeartbeats 4000000 in
theorem w_X1_loomShift_0 {G : aG} {μ : aMem} {post : aPost} (x0 : Int32) (h :
    post (some (.int (((nI 7) - x0) * (nI 3)))) μ) :
    a_Spec G sX1_loomShift [.int x0] μ post := a_enter (by decide +kernel) rfl (a_run (S := sX1_loomShift) (pg := pX1_loomShift) (tab := tX1) [] 8 (a_okT_e tX1_ok) pX1_loomShift_ok rfl h)
set_option maxRecDepth 100000 in
set_option maxHeartbeats 4000000 in
theorem w_X1_gatherSums_0 {G : aG} {μ : aMem} {post : aPost}  (h :
    a_Runs G sX1_gatherSums 2 [(0, .ref 5), (1, .int (nI 0))] [] μ post) :
    a_Spec G sX1_gatherSums [.ref 5] μ post := a_enter (by decide +kernel) rfl (a_run (S := sX1_gatherSums) (pg := pX1_gatherSums) (tab := tX1) [(2, [0, 1]), (31, [0, 1, 2, 3, 4])] 5 (a_okT_e tX1_ok) pX1_gatherSums_ok rfl h)
set_option maxRecDepth 100000 in
set_option maxHeartbeats 4000000 in
theorem w_X1_gatherSums_2 {G : aG} {μ : aMem} {post : aPost} (x1 : Int32) (h :
    (((μ.1 5 0) ≤ x1 →
      post none μ) ∧
    (¬ (μ.1 5 0) ≤ x1 →
      vp_in x1 8 ∧
      a_Spec G sX5_neededWith [.ref 2, .int (μ.1 28 x1.toNatClampNeg)] μ (fun r1 m1 => ∃ v1 : Int32, r1 = some (.int v1) ∧
      a_Runs G sX1_gatherSums 31 [(0, .ref 5), (1, .int x1), (2, .int ((nI 1) <<< (x1 &&& 31))), (3, .int v1), (4, .int (nI 0))] [] m1 post)))) :
    a_Runs G sX1_gatherSums 2 [(0, .ref 5), (1, .int x1)] [] μ post := a_run (S := sX1_gatherSums) (pg := pX1_gatherSums) (tab := tX1) [(2, [0, 1]), (31, [0, 1, 2, 3, 4])] 21 (a_okT_e tX1_ok) pX1_gatherSums_ok rfl h
set_option maxRecDepth 100000 in
set_option maxHeartbeats 4000000 in
theorem w_X1_gatherSums_31 {G : aG} {μ : aMem} {post : aPost} (x1 : Int32) (x2 : Int32) (x3 : Int32) (x4 : Int32) (h :
    ((x2 ≤ x4 →
      a_Runs G sX1_gatherSums 2 [(0, .ref 5), (1, .int (x1 + nI 1))] [] μ post) ∧
    (¬ x2 ≤ x4 →
      vp_in x4 256 ∧
      vp_in (x4 ||| x2) 256 ∧
      vp_in x4 256 ∧
      vp_in x1 8 ∧
      vp_in (x4 ||| x2) 256 ∧
      vp_in x4 256 ∧
      a_Spec G sX1_loomShift [.int x1] (va_up (va_up μ.1 30 (upd (μ.1 30) ((x4 ||| x2).toNatClampNeg) ((μ.1 30 x4.toNatClampNeg) ||| x3))) 31 (upd (μ.1 31) ((x4 ||| x2).toNatClampNeg) ((μ.1 31 x4.toNatClampNeg) + (μ.1 29 x1.toNatClampNeg))), μ.2) (fun r1 m1 => ∃ v1 : Int32, r1 = some (.int v1) ∧
      vp_in (x4 ||| x2) 256 ∧
      a_Runs G sX1_gatherSums 31 [(0, .ref 5), (1, .int x1), (2, .int x2), (3, .int x3), (4, .int (x4 + nI 1))] [] (va_up m1.1 33 (upd (m1.1 33) ((x4 ||| x2).toNatClampNeg) ((μ.1 33 x4.toNatClampNeg) + ((nI 1) <<< (v1 &&& 31)))), m1.2) post)))) :
    a_Runs G sX1_gatherSums 31 [(0, .ref 5), (1, .int x1), (2, .int x2), (3, .int x3), (4, .int x4)] [] μ post := a_run (S := sX1_gatherSums) (pg := pX1_gatherSums) (tab := tX1) [(2, [0, 1]), (31, [0, 1, 2, 3, 4])] 50 (a_okT_e tX1_ok) pX1_gatherSums_ok rfl h
set_option maxRecDepth 100000 in
set_option maxHeartbeats 4000000 in
theorem w_X5_weightOf_0 {G : aG} {μ : aMem} {post : aPost} (x1 : Int32) (h :
    a_Runs G sX5_weightOf 4 [(0, .ref 2), (1, .int x1), (2, .int (nI 0)), (3, .int (nI 0))] [] μ post) :
    a_Spec G sX5_weightOf [.ref 2, .int x1] μ post := a_enter (by decide +kernel) rfl (a_run (S := sX5_weightOf) (pg := pX5_weightOf) (tab := tX5) [(4, [0, 1, 2, 3])] 7 (a_okT_e tX5_ok) pX5_weightOf_ok rfl h)
set_option maxRecDepth 100000 in
set_option maxHeartbeats 4000000 in
theorem w_X5_weightOf_4 {G : aG} {μ : aMem} {post : aPost} (x1 : Int32) (x2 : Int32) (x3 : Int32) (h :
    (((μ.1 2 0) ≤ x3 →
      post (some (.int x2)) μ) ∧
    (¬ (μ.1 2 0) ≤ x3 →
      a_Spec G sX6_has [.int x1, .int x3] μ (fun r1 m1 => ∃ v1 : Int32, r1 = some (.int v1) ∧
      ((v1 = 0 →
        a_Runs G sX5_weightOf 4 [(0, .ref 2), (1, .int x1), (2, .int x2), (3, .int (x3 + nI 1))] [] m1 post) ∧
      (¬ v1 = 0 →
        vp_in x3 20 ∧
        a_Runs G sX5_weightOf 4 [(0, .ref 2), (1, .int x1), (2, .int (x2 + (m1.1 15 x3.toNatClampNeg))), (3, .int (x3 + nI 1))] [] m1 post)))))) :
    a_Runs G sX5_weightOf 4 [(0, .ref 2), (1, .int x1), (2, .int x2), (3, .int x3)] [] μ post := a_run (S := sX5_weightOf) (pg := pX5_weightOf) (tab := tX5) [(4, [0, 1, 2, 3])] 20 (a_okT_e tX5_ok) pX5_weightOf_ok rfl h
set_option maxRecDepth 100000 in
set_option maxHeartbeats 4000000 in
theorem w_J6_bitCount_0 {G : aG} {μ : aMem} {post : aPost} (x0 : Int32) (h :
    post (some (.int ((((((((x0 - (((x0.toUInt32 >>> ((nI 1).toUInt32 &&& Int32.toUInt32 31)).toInt32) &&& (nI 1431655765))) &&& (nI 858993459)) + ((((x0 - (((x0.toUInt32 >>> ((nI 1).toUInt32 &&& Int32.toUInt32 31)).toInt32) &&& (nI 1431655765))).toUInt32 >>> ((nI 2).toUInt32 &&& Int32.toUInt32 31)).toInt32) &&& (nI 858993459))) + (((((x0 - (((x0.toUInt32 >>> ((nI 1).toUInt32 &&& Int32.toUInt32 31)).toInt32) &&& (nI 1431655765))) &&& (nI 858993459)) + ((((x0 - (((x0.toUInt32 >>> ((nI 1).toUInt32 &&& Int32.toUInt32 31)).toInt32) &&& (nI 1431655765))).toUInt32 >>> ((nI 2).toUInt32 &&& Int32.toUInt32 31)).toInt32) &&& (nI 858993459))).toUInt32 >>> ((nI 4).toUInt32 &&& Int32.toUInt32 31)).toInt32)) &&& (nI 252645135)) + (((((((x0 - (((x0.toUInt32 >>> ((nI 1).toUInt32 &&& Int32.toUInt32 31)).toInt32) &&& (nI 1431655765))) &&& (nI 858993459)) + ((((x0 - (((x0.toUInt32 >>> ((nI 1).toUInt32 &&& Int32.toUInt32 31)).toInt32) &&& (nI 1431655765))).toUInt32 >>> ((nI 2).toUInt32 &&& Int32.toUInt32 31)).toInt32) &&& (nI 858993459))) + (((((x0 - (((x0.toUInt32 >>> ((nI 1).toUInt32 &&& Int32.toUInt32 31)).toInt32) &&& (nI 1431655765))) &&& (nI 858993459)) + ((((x0 - (((x0.toUInt32 >>> ((nI 1).toUInt32 &&& Int32.toUInt32 31)).toInt32) &&& (nI 1431655765))).toUInt32 >>> ((nI 2).toUInt32 &&& Int32.toUInt32 31)).toInt32) &&& (nI 858993459))).toUInt32 >>> ((nI 4).toUInt32 &&& Int32.toUInt32 31)).toInt32)) &&& (nI 252645135)).toUInt32 >>> ((nI 8).toUInt32 &&& Int32.toUInt32 31)).toInt32)) + ((((((((x0 - (((x0.toUInt32 >>> ((nI 1).toUInt32 &&& Int32.toUInt32 31)).toInt32) &&& (nI 1431655765))) &&& (nI 858993459)) + ((((x0 - (((x0.toUInt32 >>> ((nI 1).toUInt32 &&& Int32.toUInt32 31)).toInt32) &&& (nI 1431655765))).toUInt32 >>> ((nI 2).toUInt32 &&& Int32.toUInt32 31)).toInt32) &&& (nI 858993459))) + (((((x0 - (((x0.toUInt32 >>> ((nI 1).toUInt32 &&& Int32.toUInt32 31)).toInt32) &&& (nI 1431655765))) &&& (nI 858993459)) + ((((x0 - (((x0.toUInt32 >>> ((nI 1).toUInt32 &&& Int32.toUInt32 31)).toInt32) &&& (nI 1431655765))).toUInt32 >>> ((nI 2).toUInt32 &&& Int32.toUInt32 31)).toInt32) &&& (nI 858993459))).toUInt32 >>> ((nI 4).toUInt32 &&& Int32.toUInt32 31)).toInt32)) &&& (nI 252645135)) + (((((((x0 - (((x0.toUInt32 >>> ((nI 1).toUInt32 &&& Int32.toUInt32 31)).toInt32) &&& (nI 1431655765))) &&& (nI 858993459)) + ((((x0 - (((x0.toUInt32 >>> ((nI 1).toUInt32 &&& Int32.toUInt32 31)).toInt32) &&& (nI 1431655765))).toUInt32 >>> ((nI 2).toUInt32 &&& Int32.toUInt32 31)).toInt32) &&& (nI 858993459))) + (((((x0 - (((x0.toUInt32 >>> ((nI 1).toUInt32 &&& Int32.toUInt32 31)).toInt32) &&& (nI 1431655765))) &&& (nI 858993459)) + ((((x0 - (((x0.toUInt32 >>> ((nI 1).toUInt32 &&& Int32.toUInt32 31)).toInt32) &&& (nI 1431655765))).toUInt32 >>> ((nI 2).toUInt32 &&& Int32.toUInt32 31)).toInt32) &&& (nI 858993459))).toUInt32 >>> ((nI 4).toUInt32 &&& Int32.toUInt32 31)).toInt32)) &&& (nI 252645135)).toUInt32 >>> ((nI 8).toUInt32 &&& Int32.toUInt32 31)).toInt32)).toUInt32 >>> ((nI 16).toUInt32 &&& Int32.toUInt32 31)).toInt32)) &&& (nI 63)))) μ) :
    a_Spec G sJ6_bitCount_0f7a4 [.int x0] μ post := a_enter (by decide +kernel) rfl (a_run (S := sJ6_bitCount_0f7a4) (pg := pJ6_bitCount_0f7a4) (tab := tJ6) [] 44 (a_okT_e tJ6_ok) pJ6_bitCount_0f7a4_ok rfl h)
set_option maxRecDepth 100000 in
set_option maxHeartbeats 4000000 in
theorem w_X1_leastPlan_0 {G : aG} {μ : aMem} {post : aPost} (x1 : Int32) (h :
    a_Spec G sJ6_bitCount_0f7a4 [.int (x1 ^^^ (x1 &&& (-x1)))] μ (fun r1 m1 => ∃ v1 : Int32, r1 = some (.int v1) ∧
    a_Runs G sX1_leastPlan 28 [(0, .ref 5), (2, .int (x1 &&& (-x1))), (3, .int (x1 ^^^ (x1 &&& (-x1)))), (4, .int ((nI 1) <<< (v1 &&& 31))), (5, .int (x1 ^^^ (x1 &&& (-x1)))), (6, .long (9223372036854775807 : Int64)), (8, .int (nI 0))] [] m1 post)) :
    a_Spec G sX1_leastPlan [.ref 5, .int x1] μ post := a_enter (by decide +kernel) rfl (a_run (S := sX1_leastPlan) (pg := pX1_leastPlan) (tab := tX1) [(28, [0, 2, 3, 4, 5, 6, 8])] 23 (a_okT_e tX1_ok) pX1_leastPlan_ok rfl h)
set_option maxRecDepth 100000 in
set_option maxHeartbeats 4000000 in
theorem w_X1_leastPlan_28 {G : aG} {μ : aMem} {post : aPost} (x2 : Int32) (x3 : Int32) (x4 : Int32) (x5 : Int32) (x6 : Int64) (x8 : Int32) (h :
    ((x4 ≤ x8 →
      post (some (.long x6)) μ) ∧
    (¬ x4 ≤ x8 →
      vp_in (x2 ||| x5) 256 ∧
      vp_in (x3 ^^^ x5) 256 ∧
      vp_in (x3 ^^^ x5) 256 ∧
      a_Runs G sX1_leastPlan 28 [(0, .ref 5), (2, .int x2), (3, .int x3), (4, .int x4), (5, .int ((x5 - (nI 1)) &&& x3)), (6, .long (if ((((((μ.1 32 (x2 ||| x5).toNatClampNeg).toInt64) <<< ((nI 28).toInt64 &&& 63)) + (16777216 : Int64)) + (μ.2 34 (x3 ^^^ x5).toNatClampNeg)) + ((μ.1 33 (x3 ^^^ x5).toNatClampNeg).toInt64)) < x6 then ((((((μ.1 32 (x2 ||| x5).toNatClampNeg).toInt64) <<< ((nI 28).toInt64 &&& 63)) + (16777216 : Int64)) + (μ.2 34 (x3 ^^^ x5).toNatClampNeg)) + ((μ.1 33 (x3 ^^^ x5).toNatClampNeg).toInt64)) else x6)), (8, .int (x8 + nI 1))] [] μ post))) :
    a_Runs G sX1_leastPlan 28 [(0, .ref 5), (2, .int x2), (3, .int x3), (4, .int x4), (5, .int x5), (6, .long x6), (8, .int x8)] [] μ post := a_run (S := sX1_leastPlan) (pg := pX1_leastPlan) (tab := tX1) [(28, [0, 2, 3, 4, 5, 6, 8])] 47 (a_okT_e tX1_ok) pX1_leastPlan_ok rfl h
set_option maxRecDepth 100000 in
set_option maxHeartbeats 4000000 in
theorem w_X1_refresh_0 {G : aG} {μ : aMem} {post : aPost}  (h :
    ((¬ (μ.1 5 2) = 0 →
      a_Spec G sX1_gatherSums [.ref 5] μ (fun r1 m1 => r1 = none ∧
      a_Runs G sX1_refresh 21 [(0, .ref 5), (1, .int ((nI 1) <<< ((m1.1 5 0) &&& 31))), (2, .int (nI 1))] [] m1 post)) ∧
    ((μ.1 5 2) = 0 →
      post none μ))) :
    a_Spec G sX1_refresh [.ref 5] μ post := a_enter (by decide +kernel) rfl (a_run (S := sX1_refresh) (pg := pX1_refresh) (tab := tX1) [(21, [0, 1, 2]), (74, [0, 1, 2])] 15 (a_okT_e tX1_ok) pX1_refresh_ok rfl h)
set_option maxRecDepth 100000 in
set_option maxHeartbeats 4000000 in
theorem w_X1_refresh_21 {G : aG} {μ : aMem} {post : aPost} (x1 : Int32) (x2 : Int32) (h :
    ((x1 ≤ x2 →
      vp_in (nI 0) 256 ∧
      a_Runs G sX1_refresh 74 [(0, .ref 5), (1, .int x1), (2, .int (nI 1))] [] (μ.1, va_up μ.2 34 (vp_updL (μ.2 34) ((nI 0).toNatClampNeg) (0 : Int64))) post) ∧
    (¬ x1 ≤ x2 →
      vp_in x2 256 ∧
      a_Spec G sX5_weightOf [.ref 2, .int (μ.1 30 x2.toNatClampNeg)] μ (fun r1 m1 => ∃ v1 : Int32, r1 = some (.int v1) ∧
      vp_in x2 256 ∧
      vp_in x2 256 ∧
      a_Runs G sX1_refresh 21 [(0, .ref 5), (1, .int x1), (2, .int (x2 + nI 1))] [] (va_up m1.1 32 (upd (m1.1 32) x2.toNatClampNeg ((m1.1 5 1) + ((m1.1 31 x2.toNatClampNeg) * v1))), m1.2) post)))) :
    a_Runs G sX1_refresh 21 [(0, .ref 5), (1, .int x1), (2, .int x2)] [] μ post := a_run (S := sX1_refresh) (pg := pX1_refresh) (tab := tX1) [(21, [0, 1, 2]), (74, [0, 1, 2])] 29 (a_okT_e tX1_ok) pX1_refresh_ok rfl h
set_option maxRecDepth 100000 in
set_option maxHeartbeats 4000000 in
theorem w_X1_refresh_74 {G : aG} {μ : aMem} {post : aPost} (x1 : Int32) (x2 : Int32) (h :
    ((x1 ≤ x2 →
      ((nI 0) = 0 ∨ (nI 0) = 1) ∧
      post none (va_up μ.1 5 (upd (μ.1 5) 2 (nI 0)), μ.2)) ∧
    (¬ x1 ≤ x2 →
      a_Spec G sX1_leastPlan [.ref 5, .int x2] μ (fun r1 m1 => ∃ v1 : Int64, r1 = some (.long v1) ∧
      vp_in x2 256 ∧
      a_Runs G sX1_refresh 74 [(0, .ref 5), (1, .int x1), (2, .int (x2 + nI 1))] [] (m1.1, va_up m1.2 34 (vp_updL (m1.2 34) x2.toNatClampNeg v1)) post)))) :
    a_Runs G sX1_refresh 74 [(0, .ref 5), (1, .int x1), (2, .int x2)] [] μ post := a_run (S := sX1_refresh) (pg := pX1_refresh) (tab := tX1) [(21, [0, 1, 2]), (74, [0, 1, 2])] 15 (a_okT_e tX1_ok) pX1_refresh_ok rfl h
set_option maxRecDepth 100000 in
set_option maxHeartbeats 4000000 in
theorem w_X1_bestCost_0 {G : aG} {μ : aMem} {post : aPost}  (h :
    a_Spec G sX1_refresh [.ref 5] μ (fun r1 m1 => r1 = none ∧
    a_Spec G sX1_allBits [.ref 5] m1 (fun r2 m2 => ∃ v2 : Int32, r2 = some (.int v2) ∧
    vp_in v2 256 ∧
    post (some (.long ((m2.2 34 v2.toNatClampNeg) >>> ((nI 28).toInt64 &&& 63)))) m2))) :
    a_Spec G sX1_bestCost [.ref 5] μ post := a_enter (by decide +kernel) rfl (a_run (S := sX1_bestCost) (pg := pX1_bestCost) (tab := tX1) [] 12 (a_okT_e tX1_ok) pX1_bestCost_ok rfl h)
set_option maxRecDepth 100000 in
set_option maxHeartbeats 4000000 in
theorem w_X1_loomOf_0 {G : aG} {μ : aMem} {post : aPost} (x1 : Int32) (h :
    a_Spec G sX1_refresh [.ref 5] μ (fun r1 m1 => r1 = none ∧
    a_Spec G sX1_allBits [.ref 5] m1 (fun r2 m2 => ∃ v2 : Int32, r2 = some (.int v2) ∧
    vp_in v2 256 ∧
    a_Spec G sX1_loomShift [.int x1] m2 (fun r3 m3 => ∃ v3 : Int32, r3 = some (.int v3) ∧
    post (some (.int ((((m2.2 34 v2.toNatClampNeg) >>> (v3.toInt64 &&& 63)).toInt32) &&& (nI 7)))) m3)))) :
    a_Spec G sX1_loomOf [.ref 5, .int x1] μ post := a_enter (by decide +kernel) rfl (a_run (S := sX1_loomOf) (pg := pX1_loomOf) (tab := tX1) [] 16 (a_okT_e tX1_ok) pX1_loomOf_ok rfl h)
set_option maxRecDepth 100000 in
set_option maxHeartbeats 4000000 in
theorem w_X2_usedNets_0 {G : aG} {μ : aMem} {post : aPost}  (h :
    a_Runs G sX2_usedNets 4 [(0, .ref 6), (1, .int (nI 0)), (2, .int (nI 0))] [] μ post) :
    a_Spec G sX2_usedNets [.ref 6] μ post := a_enter (by decide +kernel) rfl (a_run (S := sX2_usedNets) (pg := pX2_usedNets) (tab := tX2) [(4, [0, 1, 2])] 7 (a_okT_e tX2_ok) pX2_usedNets_ok rfl h)
set_option maxRecDepth 100000 in
set_option maxHeartbeats 4000000 in
theorem w_X2_usedNets_4 {G : aG} {μ : aMem} {post : aPost} (x1 : Int32) (x2 : Int32) (h :
    (((nI 16) ≤ x2 →
      post (some (.int x1)) μ) ∧
    (¬ (nI 16) ≤ x2 →
      vp_in x2 16 ∧
      a_Runs G sX2_usedNets 4 [(0, .ref 6), (1, .int (x1 ||| ((nI 1) <<< ((μ.1 35 x2.toNatClampNeg) &&& 31)))), (2, .int (x2 + nI 1))] [] μ post))) :
    a_Runs G sX2_usedNets 4 [(0, .ref 6), (1, .int x1), (2, .int x2)] [] μ post := a_run (S := sX2_usedNets) (pg := pX2_usedNets) (tab := tX2) [(4, [0, 1, 2])] 17 (a_okT_e tX2_ok) pX2_usedNets_ok rfl h
set_option maxRecDepth 100000 in
set_option maxHeartbeats 4000000 in
theorem w_X2_isUsed_0 {G : aG} {μ : aMem} {post : aPost} (x1 : Int32) (h :
    a_Spec G sX2_usedNets [.ref 6] μ (fun r1 m1 => ∃ v1 : Int32, r1 = some (.int v1) ∧
    a_Spec G sX6_has [.int v1, .int x1] m1 (fun r2 m2 => ∃ v2 : Int32, r2 = some (.int v2) ∧
    (v2 = 0 ∨ v2 = 1) ∧ post (some (.int v2)) m2))) :
    a_Spec G sX2_isUsed [.ref 6, .int x1] μ post := a_enter (by decide +kernel) rfl (a_run (S := sX2_isUsed) (pg := pX2_isUsed) (tab := tX2) [] 7 (a_okT_e tX2_ok) pX2_isUsed_ok rfl h)
set_option maxRecDepth 100000 in
set_option maxHeartbeats 4000000 in
theorem w_X2_testsNeeded_0 {G : aG} {μ : aMem} {post : aPost}  (h :
    a_Runs G sX2_testsNeeded 4 [(0, .ref 6), (1, .int (nI 0)), (2, .int (nI 1))] [] μ post) :
    a_Spec G sX2_testsNeeded [.ref 6] μ post := a_enter (by decide +kernel) rfl (a_run (S := sX2_testsNeeded) (pg := pX2_testsNeeded) (tab := tX2) [(4, [0, 1, 2]), (36, [1, 2, 3])] 7 (a_okT_e tX2_ok) pX2_testsNeeded_ok rfl h)
set_option maxRecDepth 100000 in
set_option maxHeartbeats 4000000 in
theorem w_X2_testsNeeded_4 {G : aG} {μ : aMem} {post : aPost} (x1 : Int32) (x2 : Int32) (h :
    (((nI 16) ≤ x2 →
      a_Runs G sX2_testsNeeded 36 [(1, .int x1), (2, .int (nI 0)), (3, .int (nI 0))] [] μ post) ∧
    (¬ (nI 16) ≤ x2 →
      vp_in x2 16 ∧
      vp_in (nI 0) 16 ∧
      a_Runs G sX2_testsNeeded 4 [(0, .ref 6), (1, .int (x1 ||| ((μ.1 35 x2.toNatClampNeg) ^^^ (μ.1 35 (nI 0).toNatClampNeg)))), (2, .int (x2 + nI 1))] [] μ post))) :
    a_Runs G sX2_testsNeeded 4 [(0, .ref 6), (1, .int x1), (2, .int x2)] [] μ post := a_run (S := sX2_testsNeeded) (pg := pX2_testsNeeded) (tab := tX2) [(4, [0, 1, 2]), (36, [1, 2, 3])] 20 (a_okT_e tX2_ok) pX2_testsNeeded_ok rfl h
set_option maxRecDepth 100000 in
set_option maxHeartbeats 4000000 in
theorem w_X2_testsNeeded_36 {G : aG} {μ : aMem} {post : aPost} (x1 : Int32) (x2 : Int32) (x3 : Int32) (h :
    (((nI 3) ≤ x3 →
      post (some (.int x2)) μ) ∧
    (¬ (nI 3) ≤ x3 →
      a_Spec G sX6_has [.int x1, .int x3] μ (fun r1 m1 => ∃ v1 : Int32, r1 = some (.int v1) ∧
      ((v1 = 0 →
        a_Runs G sX2_testsNeeded 36 [(1, .int x1), (2, .int x2), (3, .int (x3 + nI 1))] [] m1 post) ∧
      (¬ v1 = 0 →
        a_Runs G sX2_testsNeeded 36 [(1, .int x1), (2, .int (x3 + (nI 1))), (3, .int (x3 + nI 1))] [] m1 post)))))) :
    a_Runs G sX2_testsNeeded 36 [(1, .int x1), (2, .int x2), (3, .int x3)] [] μ post := a_run (S := sX2_testsNeeded) (pg := pX2_testsNeeded) (tab := tX2) [(4, [0, 1, 2]), (36, [1, 2, 3])] 16 (a_okT_e tX2_ok) pX2_testsNeeded_ok rfl h
set_option maxRecDepth 100000 in
set_option maxHeartbeats 4000000 in
theorem w_X2_pairsUnlikeJustIn_0 {G : aG} {μ : aMem} {post : aPost} (x1 : Int32) (h :
    a_Spec G sX2_usedNets [.ref 6] μ (fun r1 m1 => ∃ v1 : Int32, r1 = some (.int v1) ∧
    a_Runs G sX2_pairsUnlikeJustIn 10 [(1, .int x1), (2, .int v1), (3, .int (nI 0)), (4, .int (nI 0))] [] m1 post)) :
    a_Spec G sX2_pairsUnlikeJustIn [.ref 6, .int x1] μ post := a_enter (by decide +kernel) rfl (a_run (S := sX2_pairsUnlikeJustIn) (pg := pX2_pairsUnlikeJustIn) (tab := tX2) [(10, [1, 2, 3, 4]), (23, [1, 2, 3, 4, 5])] 10 (a_okT_e tX2_ok) pX2_pairsUnlikeJustIn_ok rfl h)
set_option maxRecDepth 100000 in
set_option maxHeartbeats 4000000 in
theorem w_X2_pairsUnlikeJustIn_10 {G : aG} {μ : aMem} {post : aPost} (x1 : Int32) (x2 : Int32) (x3 : Int32) (x4 : Int32) (h :
    (((nI 8) ≤ x4 →
      post (some (.int x3)) μ) ∧
    (¬ (nI 8) ≤ x4 →
      a_Runs G sX2_pairsUnlikeJustIn 23 [(1, .int x1), (2, .int x2), (3, .int x3), (4, .int x4), (5, .int (x4 + (nI 1)))] [] μ post))) :
    a_Runs G sX2_pairsUnlikeJustIn 10 [(1, .int x1), (2, .int x2), (3, .int x3), (4, .int x4)] [] μ post := a_run (S := sX2_pairsUnlikeJustIn) (pg := pX2_pairsUnlikeJustIn) (tab := tX2) [(10, [1, 2, 3, 4]), (23, [1, 2, 3, 4, 5])] 10 (a_okT_e tX2_ok) pX2_pairsUnlikeJustIn_ok rfl h
set_option maxRecDepth 100000 in
set_option maxHeartbeats 4000000 in
theorem w_X2_pairsUnlikeJustIn_23 {G : aG} {μ : aMem} {post : aPost} (x1 : Int32) (x2 : Int32) (x3 : Int32) (x4 : Int32) (x5 : Int32) (h :
    (((nI 8) ≤ x5 →
      a_Runs G sX2_pairsUnlikeJustIn 10 [(1, .int x1), (2, .int x2), (3, .int x3), (4, .int (x4 + nI 1))] [] μ post) ∧
    (¬ (nI 8) ≤ x5 →
      a_Spec G sX6_has [.int x2, .int x4] μ (fun r1 m1 => ∃ v1 : Int32, r1 = some (.int v1) ∧
      ((v1 = 0 →
        a_Runs G sX2_pairsUnlikeJustIn 23 [(1, .int x1), (2, .int x2), (3, .int x3), (4, .int x4), (5, .int (x5 + nI 1))] [] m1 post) ∧
      (¬ v1 = 0 →
        a_Spec G sX6_has [.int x2, .int x5] m1 (fun r2 m2 => ∃ v2 : Int32, r2 = some (.int v2) ∧
        ((v2 = 0 →
          a_Runs G sX2_pairsUnlikeJustIn 23 [(1, .int x1), (2, .int x2), (3, .int x3), (4, .int x4), (5, .int (x5 + nI 1))] [] m2 post) ∧
        (¬ v2 = 0 →
          ((¬ (x4 ^^^ x5) = x1 →
            a_Runs G sX2_pairsUnlikeJustIn 23 [(1, .int x1), (2, .int x2), (3, .int x3), (4, .int x4), (5, .int (x5 + nI 1))] [] m2 post) ∧
          ((x4 ^^^ x5) = x1 →
            a_Runs G sX2_pairsUnlikeJustIn 23 [(1, .int x1), (2, .int x2), (3, .int (x3 + nI 1)), (4, .int x4), (5, .int (x5 + nI 1))] [] m2 post))))))))))) :
    a_Runs G sX2_pairsUnlikeJustIn 23 [(1, .int x1), (2, .int x2), (3, .int x3), (4, .int x4), (5, .int x5)] [] μ post := a_run (S := sX2_pairsUnlikeJustIn) (pg := pX2_pairsUnlikeJustIn) (tab := tX2) [(10, [1, 2, 3, 4]), (23, [1, 2, 3, 4, 5])] 22 (a_okT_e tX2_ok) pX2_pairsUnlikeJustIn_ok rfl h
set_option maxRecDepth 100000 in
set_option maxHeartbeats 4000000 in
theorem w_X3_open_0 {G : aG} {μ : aMem} {post : aPost} (x1 : Int32) (h :
    a_Runs G sX3_open 2 [(0, .ref 3), (1, .int x1), (2, .int (nI 0))] [] μ post) :
    a_Spec G sX3_open [.ref 3, .int x1] μ post := a_enter (by decide +kernel) rfl (a_run (S := sX3_open) (pg := pX3_open) (tab := tX3) [(2, [0, 1, 2])] 5 (a_okT_e tX3_ok) pX3_open_ok rfl h)
set_option maxRecDepth 100000 in
set_option maxHeartbeats 4000000 in
theorem w_X3_open_2 {G : aG} {μ : aMem} {post : aPost} (x1 : Int32) (x2 : Int32) (h :
    (((μ.1 1 0) ≤ x2 →
      post none μ) ∧
    (¬ (μ.1 1 0) ≤ x2 →
      a_Spec G sX6_has [.int x1, .int x2] μ (fun r1 m1 => ∃ v1 : Int32, r1 = some (.int v1) ∧
      ((v1 = 0 →
        vp_in x2 16 ∧
        vp_in x2 16 ∧
        a_Runs G sX3_open 2 [(0, .ref 3), (1, .int x1), (2, .int (x2 + nI 1))] [] (va_up (va_up m1.1 22 (upd (m1.1 22) x2.toNatClampNeg (nI 1000000))) 23 (upd (m1.1 23) x2.toNatClampNeg (nI 1000000)), m1.2) post) ∧
      (¬ v1 = 0 →
        vp_in x2 16 ∧
        vp_in x2 16 ∧
        vp_in x2 16 ∧
        a_Runs G sX3_open 2 [(0, .ref 3), (1, .int x1), (2, .int (x2 + nI 1))] [] (va_up (va_up m1.1 22 (upd (m1.1 22) x2.toNatClampNeg (((m1.1 10 x2.toNatClampNeg) * (nI 32)) + (nI 1)))) 23 (upd (m1.1 23) x2.toNatClampNeg (((m1.1 10 x2.toNatClampNeg) * (nI 32)) + (nI 1))), m1.2) post)))))) :
    a_Runs G sX3_open 2 [(0, .ref 3), (1, .int x1), (2, .int x2)] [] μ post := a_run (S := sX3_open) (pg := pX3_open) (tab := tX3) [(2, [0, 1, 2])] 35 (a_okT_e tX3_ok) pX3_open_ok rfl h
set_option maxRecDepth 100000 in
set_option maxHeartbeats 4000000 in
theorem w_J7_filla_0 {G : aG} {μ : aMem} {post : aPost} (x1 : Int32) (h :
    a_Runs G sJ7_fill_53178 5 [(0, .ref 24), (1, .int x1), (2, .int (nI 0)), (3, .int (Int32.ofNat 10))] [] μ post) :
    a_Spec G sJ7_fill_53178 [.ref 24, .int x1] μ post := a_enter (by decide +kernel) rfl (a_run (S := sJ7_fill_53178) (pg := pJ7_fill_53178) (tab := tJ7) [(5, [0, 1, 2, 3])] 8 (a_okT_e tJ7_ok) pJ7_fill_53178_ok rfl h)
set_option maxRecDepth 100000 in
set_option maxHeartbeats 4000000 in
theorem w_J7_filla_5 {G : aG} {μ : aMem} {post : aPost} (x1 : Int32) (x2 : Int32) (x3 : Int32) (h :
    ((x3 ≤ x2 →
      post none μ) ∧
    (¬ x3 ≤ x2 →
      vp_in x2 10 ∧
      a_Runs G sJ7_fill_53178 5 [(0, .ref 24), (1, .int x1), (2, .int (x2 + nI 1)), (3, .int x3)] [] (va_up μ.1 24 (upd (μ.1 24) x2.toNatClampNeg x1), μ.2) post))) :
    a_Runs G sJ7_fill_53178 5 [(0, .ref 24), (1, .int x1), (2, .int x2), (3, .int x3)] [] μ post := a_run (S := sJ7_fill_53178) (pg := pJ7_fill_53178) (tab := tJ7) [(5, [0, 1, 2, 3])] 12 (a_okT_e tJ7_ok) pJ7_fill_53178_ok rfl h
set_option maxRecDepth 100000 in
set_option maxHeartbeats 4000000 in
theorem w_J7_fillb_0 {G : aG} {μ : aMem} {post : aPost} (x1 : Int32) (h :
    a_Runs G sJ7_fill_53178 5 [(0, .ref 27), (1, .int x1), (2, .int (nI 0)), (3, .int (Int32.ofNat 10))] [] μ post) :
    a_Spec G sJ7_fill_53178 [.ref 27, .int x1] μ post := a_enter (by decide +kernel) rfl (a_run (S := sJ7_fill_53178) (pg := pJ7_fill_53178) (tab := tJ7) [(5, [0, 1, 2, 3])] 8 (a_okT_e tJ7_ok) pJ7_fill_53178_ok rfl h)
set_option maxRecDepth 100000 in
set_option maxHeartbeats 4000000 in
theorem w_J7_fillb_5 {G : aG} {μ : aMem} {post : aPost} (x1 : Int32) (x2 : Int32) (x3 : Int32) (h :
    ((x3 ≤ x2 →
      post none μ) ∧
    (¬ x3 ≤ x2 →
      vp_in x2 10 ∧
      a_Runs G sJ7_fill_53178 5 [(0, .ref 27), (1, .int x1), (2, .int (x2 + nI 1)), (3, .int x3)] [] (va_up μ.1 27 (upd (μ.1 27) x2.toNatClampNeg x1), μ.2) post))) :
    a_Runs G sJ7_fill_53178 5 [(0, .ref 27), (1, .int x1), (2, .int x2), (3, .int x3)] [] μ post := a_run (S := sJ7_fill_53178) (pg := pJ7_fill_53178) (tab := tJ7) [(5, [0, 1, 2, 3])] 12 (a_okT_e tJ7_ok) pJ7_fill_53178_ok rfl h
set_option maxRecDepth 100000 in
set_option maxHeartbeats 4000000 in
theorem w_X3_lower_0 {G : aG} {μ : aMem} {post : aPost} (x1 : Int32) (x2 : Int32) (x3 : Int32) (h :
    ((x3 = (nI 1000000) →
      ((nI 0) = 0 ∨ (nI 0) = 1) ∧ post (some (.int (nI 0))) μ) ∧
    (¬ x3 = (nI 1000000) →
      vp_in x2 10 ∧
      ((¬ (μ.1 24 x2.toNatClampNeg) = (nI 1000000) →
        vp_in x2 10 ∧
        vp_in x1 10 ∧
        (((x3 + (μ.1 24 x2.toNatClampNeg)) < (μ.1 24 x1.toNatClampNeg) →
          vp_in x1 10 ∧
          ((nI 1) = 0 ∨ (nI 1) = 1) ∧ post (some (.int (nI 1))) (va_up μ.1 24 (upd (μ.1 24) x1.toNatClampNeg (x3 + (μ.1 24 x2.toNatClampNeg))), μ.2)) ∧
        (¬ (x3 + (μ.1 24 x2.toNatClampNeg)) < (μ.1 24 x1.toNatClampNeg) →
          ((nI 0) = 0 ∨ (nI 0) = 1) ∧ post (some (.int (nI 0))) μ))) ∧
      ((μ.1 24 x2.toNatClampNeg) = (nI 1000000) →
        ((nI 0) = 0 ∨ (nI 0) = 1) ∧ post (some (.int (nI 0))) μ))))) :
    a_Spec G sX3_lower [.ref 3, .int x1, .int x2, .int x3] μ post := a_enter (by decide +kernel) rfl (a_run (S := sX3_lower) (pg := pX3_lower) (tab := tX3) [] 31 (a_okT_e tX3_ok) pX3_lower_ok rfl h)
set_option maxRecDepth 100000 in
set_option maxHeartbeats 4000000 in
theorem w_X3_spread_0 {G : aG} {μ : aMem} {post : aPost} (x1 : Int32) (h :
    a_Spec G sJ7_fill_53178 [.ref 24, .int (nI 1000000)] μ (fun r1 m1 => r1 = none ∧
    vp_in x1 10 ∧
    a_Runs G sX3_spread 20 [(0, .ref 3), (2, .int (nI 1)), (3, .int (nI 0))] [] (va_up m1.1 24 (upd (m1.1 24) x1.toNatClampNeg (nI 0)), m1.2) post)) :
    a_Spec G sX3_spread [.ref 3, .int x1] μ post := a_enter (by decide +kernel) rfl (a_run (S := sX3_spread) (pg := pX3_spread) (tab := tX3) [(20, [0, 2, 3]), (35, [0, 2, 3, 4])] 16 (a_okT_e tX3_ok) pX3_spread_ok rfl h)
set_option maxRecDepth 100000 in
set_option maxHeartbeats 4000000 in
theorem w_X3_spread_20 {G : aG} {μ : aMem} {post : aPost} (x2 : Int32) (x3 : Int32) (h :
    (((nI 9) ≤ x3 →
      post none μ) ∧
    (¬ (nI 9) ≤ x3 →
      ((x2 = 0 →
        post none μ) ∧
      (¬ x2 = 0 →
        a_Runs G sX3_spread 35 [(0, .ref 3), (2, .int (nI 0)), (3, .int x3), (4, .int (nI 0))] [] μ post))))) :
    a_Runs G sX3_spread 20 [(0, .ref 3), (2, .int x2), (3, .int x3)] [] μ post := a_run (S := sX3_spread) (pg := pX3_spread) (tab := tX3) [(20, [0, 2, 3]), (35, [0, 2, 3, 4])] 12 (a_okT_e tX3_ok) pX3_spread_ok rfl h
set_option maxRecDepth 100000 in
set_option maxHeartbeats 4000000 in
theorem w_X3_spread_35 {G : aG} {μ : aMem} {post : aPost} (x2 : Int32) (x3 : Int32) (x4 : Int32) (h :
    (((μ.1 1 0) ≤ x4 →
      a_Runs G sX3_spread 20 [(0, .ref 3), (2, .int x2), (3, .int (x3 + nI 1))] [] μ post) ∧
    (¬ (μ.1 1 0) ≤ x4 →
      vp_in x4 16 ∧
      vp_in x4 16 ∧
      vp_in x4 16 ∧
      a_Spec G sX3_lower [.ref 3, .int (μ.1 7 x4.toNatClampNeg), .int (μ.1 8 x4.toNatClampNeg), .int (μ.1 22 x4.toNatClampNeg)] μ (fun r1 m1 => ∃ v1 : Int32, r1 = some (.int v1) ∧
      vp_in x4 16 ∧
      vp_in x4 16 ∧
      vp_in x4 16 ∧
      a_Spec G sX3_lower [.ref 3, .int (m1.1 8 x4.toNatClampNeg), .int (m1.1 7 x4.toNatClampNeg), .int (m1.1 23 x4.toNatClampNeg)] m1 (fun r2 m2 => ∃ v2 : Int32, r2 = some (.int v2) ∧
      ((¬ x2 = 0 →
        a_Runs G sX3_spread 35 [(0, .ref 3), (2, .int (nI 1)), (3, .int x3), (4, .int (x4 + nI 1))] [] m2 post) ∧
      (x2 = 0 →
        ((¬ v1 = 0 →
          a_Runs G sX3_spread 35 [(0, .ref 3), (2, .int (nI 1)), (3, .int x3), (4, .int (x4 + nI 1))] [] m2 post) ∧
        (v1 = 0 →
          ((v2 = 0 →
            a_Runs G sX3_spread 35 [(0, .ref 3), (2, .int (nI 0)), (3, .int x3), (4, .int (x4 + nI 1))] [] m2 post) ∧
          (¬ v2 = 0 →
            a_Runs G sX3_spread 35 [(0, .ref 3), (2, .int (nI 1)), (3, .int x3), (4, .int (x4 + nI 1))] [] m2 post))))))))))) :
    a_Runs G sX3_spread 35 [(0, .ref 3), (2, .int x2), (3, .int x3), (4, .int x4)] [] μ post := a_run (S := sX3_spread) (pg := pX3_spread) (tab := tX3) [(20, [0, 2, 3]), (35, [0, 2, 3, 4])] 53 (a_okT_e tX3_ok) pX3_spread_ok rfl h
set_option maxRecDepth 100000 in
set_option maxHeartbeats 4000000 in
theorem w_X3_leastLength_0 {G : aG} {μ : aMem} {post : aPost} (x1 : Int32) (x2 : Int32) (h :
    a_Spec G sX3_spread [.ref 3, .int x2] μ (fun r1 m1 => r1 = none ∧
    vp_in x1 10 ∧
    ((¬ (m1.1 24 x1.toNatClampNeg) = (nI 1000000) →
      vp_in x1 10 ∧
      ¬ (nI 32) = 0 ∧
      post (some (.int ((m1.1 24 x1.toNatClampNeg) / (nI 32)))) m1) ∧
    ((m1.1 24 x1.toNatClampNeg) = (nI 1000000) →
      post (some (.int (-9))) m1)))) :
    a_Spec G sX3_leastLength [.ref 3, .int x1, .int x2] μ post := a_enter (by decide +kernel) rfl (a_run (S := sX3_leastLength) (pg := pX3_leastLength) (tab := tX3) [] 18 (a_okT_e tX3_ok) pX3_leastLength_ok rfl h)
set_option maxRecDepth 100000 in
set_option maxHeartbeats 4000000 in
theorem w_X3_priceFrom_0 {G : aG} {μ : aMem} {post : aPost} (x1 : Int32) (x2 : Int32) (h :
    vp_in x1 16 ∧
    ((¬ (μ.1 7 x1.toNatClampNeg) = x2 →
      vp_in x1 16 ∧
      ((¬ (μ.1 8 x1.toNatClampNeg) = x2 →
        post (some (.int (nI 1000000))) μ) ∧
      ((μ.1 8 x1.toNatClampNeg) = x2 →
        vp_in x1 16 ∧
        post (some (.int (μ.1 23 x1.toNatClampNeg))) μ))) ∧
    ((μ.1 7 x1.toNatClampNeg) = x2 →
      vp_in x1 16 ∧
      post (some (.int (μ.1 22 x1.toNatClampNeg))) μ))) :
    a_Spec G sX3_priceFrom [.ref 3, .int x1, .int x2] μ post := a_enter (by decide +kernel) rfl (a_run (S := sX3_priceFrom) (pg := pX3_priceFrom) (tab := tX3) [] 22 (a_okT_e tX3_ok) pX3_priceFrom_ok rfl h)
set_option maxRecDepth 100000 in
set_option maxHeartbeats 4000000 in
theorem w_X3_firstStep_0 {G : aG} {μ : aMem} {post : aPost} (x1 : Int32) (h :
    a_Runs G sX3_firstStep 2 [(0, .ref 3), (1, .int x1), (2, .int (nI 0))] [] μ post) :
    a_Spec G sX3_firstStep [.ref 3, .int x1] μ post := a_enter (by decide +kernel) rfl (a_run (S := sX3_firstStep) (pg := pX3_firstStep) (tab := tX3) [(2, [0, 1, 2])] 5 (a_okT_e tX3_ok) pX3_firstStep_ok rfl h)
set_option maxRecDepth 100000 in
set_option maxHeartbeats 4000000 in
theorem w_X3_firstStep_2 {G : aG} {μ : aMem} {post : aPost} (x1 : Int32) (x2 : Int32) (h :
    (((μ.1 1 0) ≤ x2 →
      post (some (.int (-9))) μ) ∧
    (¬ (μ.1 1 0) ≤ x2 →
      a_Spec G sX3_priceFrom [.ref 3, .int x2, .int x1] μ (fun r1 m1 => ∃ v1 : Int32, r1 = some (.int v1) ∧
      ((v1 = (nI 1000000) →
        a_Runs G sX3_firstStep 2 [(0, .ref 3), (1, .int x1), (2, .int (x2 + nI 1))] [] m1 post) ∧
      (¬ v1 = (nI 1000000) →
        vp_in x1 10 ∧
        a_Spec G sX0_across [.ref 1, .int x2, .int x1] m1 (fun r2 m2 => ∃ v2 : Int32, r2 = some (.int v2) ∧
        vp_in v2 10 ∧
        ((¬ (m1.1 24 x1.toNatClampNeg) = (v1 + (m2.1 24 v2.toNatClampNeg)) →
          a_Runs G sX3_firstStep 2 [(0, .ref 3), (1, .int x1), (2, .int (x2 + nI 1))] [] m2 post) ∧
        ((m1.1 24 x1.toNatClampNeg) = (v1 + (m2.1 24 v2.toNatClampNeg)) →
          post (some (.int x2)) m2))))))))) :
    a_Runs G sX3_firstStep 2 [(0, .ref 3), (1, .int x1), (2, .int x2)] [] μ post := a_run (S := sX3_firstStep) (pg := pX3_firstStep) (tab := tX3) [(2, [0, 1, 2])] 33 (a_okT_e tX3_ok) pX3_firstStep_ok rfl h
set_option maxRecDepth 100000 in
set_option maxHeartbeats 4000000 in
theorem w_X3_walk_0 {G : aG} {μ : aMem} {post : aPost} (x1 : Int32) (x2 : Int32) (h :
    a_Runs G sX3_walk 7 [(0, .ref 3), (2, .int x2), (3, .int x1)] [] (va_up μ.1 3 (upd (μ.1 3) 5 (nI 0)), μ.2) post) :
    a_Spec G sX3_walk [.ref 3, .int x1, .int x2] μ post := a_enter (by decide +kernel) rfl (a_run (S := sX3_walk) (pg := pX3_walk) (tab := tX3) [(7, [0, 2, 3])] 8 (a_okT_e tX3_ok) pX3_walk_ok rfl h)
set_option maxRecDepth 100000 in
set_option maxHeartbeats 4000000 in
theorem w_X3_walk_7 {G : aG} {μ : aMem} {post : aPost} (x2 : Int32) (x3 : Int32) (h :
    ((x3 = x2 →
      post none μ) ∧
    (¬ x3 = x2 →
      (((nI 9) ≤ (μ.1 3 5) →
        post none μ) ∧
      (¬ (nI 9) ≤ (μ.1 3 5) →
        a_Spec G sX3_firstStep [.ref 3, .int x3] μ (fun r1 m1 => ∃ v1 : Int32, r1 = some (.int v1) ∧
        ((¬ v1 = (-9) →
          vp_in (m1.1 3 5) 9 ∧
          a_Spec G sX0_across [.ref 1, .int v1, .int x3] (va_up (va_up m1.1 25 (upd (m1.1 25) ((m1.1 3 5).toNatClampNeg) v1)) 3 (upd (m1.1 3) 5 ((m1.1 3 5) + (nI 1))), m1.2) (fun r2 m2 => ∃ v2 : Int32, r2 = some (.int v2) ∧
          a_Runs G sX3_walk 7 [(0, .ref 3), (2, .int x2), (3, .int v2)] [] m2 post)) ∧
        (v1 = (-9) →
          post none m1)))))))) :
    a_Runs G sX3_walk 7 [(0, .ref 3), (2, .int x2), (3, .int x3)] [] μ post := a_run (S := sX3_walk) (pg := pX3_walk) (tab := tX3) [(7, [0, 2, 3])] 36 (a_okT_e tX3_ok) pX3_walk_ok rfl h
set_option maxRecDepth 100000 in
set_option maxHeartbeats 4000000 in
theorem w_X3_turnSteps_0 {G : aG} {μ : aMem} {post : aPost} (x1 : Int32) (h :
    a_Runs G sX3_turnSteps 4 [(0, .ref 3), (2, .int x1), (3, .int (nI 0))] [] μ post) :
    a_Spec G sX3_turnSteps [.ref 3, .int x1] μ post := a_enter (by decide +kernel) rfl (a_run (S := sX3_turnSteps) (pg := pX3_turnSteps) (tab := tX3) [(4, [0, 2, 3])] 7 (a_okT_e tX3_ok) pX3_turnSteps_ok rfl h)
set_option maxRecDepth 100000 in
set_option maxHeartbeats 4000000 in
theorem w_X3_turnSteps_4 {G : aG} {μ : aMem} {post : aPost} (x2 : Int32) (x3 : Int32) (h :
    (((μ.1 3 5) ≤ x3 →
      post none μ) ∧
    (¬ (μ.1 3 5) ≤ x3 →
      vp_in x3 9 ∧
      vp_in (μ.1 25 x3.toNatClampNeg) 16 ∧
      ((¬ (μ.1 7 (μ.1 25 x3.toNatClampNeg).toNatClampNeg) = x2 →
        (((nI 0) = 0 →
          vp_in (μ.1 25 x3.toNatClampNeg) 16 ∧
          (((nI 0) = 0 →
            vp_in (μ.1 25 x3.toNatClampNeg) 16 ∧
            (((nI 0) = 0 →
              vp_in (μ.1 25 x3.toNatClampNeg) 16 ∧
              a_Spec G sX0_across [.ref 1, .int (μ.1 25 x3.toNatClampNeg), .int x2] (va_up (va_up μ.1 22 (upd (μ.1 22) ((μ.1 25 x3.toNatClampNeg).toNatClampNeg) (-(μ.1 23 (μ.1 25 x3.toNatClampNeg).toNatClampNeg)))) 23 (upd (μ.1 23) ((μ.1 25 x3.toNatClampNeg).toNatClampNeg) (nI 1000000)), μ.2) (fun r1 m1 => ∃ v1 : Int32, r1 = some (.int v1) ∧
              a_Runs G sX3_turnSteps 4 [(0, .ref 3), (2, .int v1), (3, .int (x3 + nI 1))] [] m1 post)) ∧
            (¬ (nI 0) = 0 →
              vp_in (μ.1 25 x3.toNatClampNeg) 16 ∧
              a_Spec G sX0_across [.ref 1, .int (μ.1 25 x3.toNatClampNeg), .int x2] (va_up (va_up μ.1 22 (upd (μ.1 22) ((μ.1 25 x3.toNatClampNeg).toNatClampNeg) (-(μ.1 23 (μ.1 25 x3.toNatClampNeg).toNatClampNeg)))) 23 (upd (μ.1 23) ((μ.1 25 x3.toNatClampNeg).toNatClampNeg) (-(μ.1 23 (μ.1 25 x3.toNatClampNeg).toNatClampNeg))), μ.2) (fun r2 m2 => ∃ v2 : Int32, r2 = some (.int v2) ∧
              a_Runs G sX3_turnSteps 4 [(0, .ref 3), (2, .int v2), (3, .int (x3 + nI 1))] [] m2 post)))) ∧
          (¬ (nI 0) = 0 →
            vp_in (μ.1 25 x3.toNatClampNeg) 16 ∧
            (((nI 0) = 0 →
              vp_in (μ.1 25 x3.toNatClampNeg) 16 ∧
              a_Spec G sX0_across [.ref 1, .int (μ.1 25 x3.toNatClampNeg), .int x2] (va_up (va_up μ.1 22 (upd (μ.1 22) ((μ.1 25 x3.toNatClampNeg).toNatClampNeg) (nI 1000000))) 23 (upd (μ.1 23) ((μ.1 25 x3.toNatClampNeg).toNatClampNeg) (nI 1000000)), μ.2) (fun r3 m3 => ∃ v3 : Int32, r3 = some (.int v3) ∧
              a_Runs G sX3_turnSteps 4 [(0, .ref 3), (2, .int v3), (3, .int (x3 + nI 1))] [] m3 post)) ∧
            (¬ (nI 0) = 0 →
              vp_in (μ.1 25 x3.toNatClampNeg) 16 ∧
              a_Spec G sX0_across [.ref 1, .int (μ.1 25 x3.toNatClampNeg), .int x2] (va_up (va_up μ.1 22 (upd (μ.1 22) ((μ.1 25 x3.toNatClampNeg).toNatClampNeg) (nI 1000000))) 23 (upd (μ.1 23) ((μ.1 25 x3.toNatClampNeg).toNatClampNeg) (-(μ.1 23 (μ.1 25 x3.toNatClampNeg).toNatClampNeg))), μ.2) (fun r4 m4 => ∃ v4 : Int32, r4 = some (.int v4) ∧
              a_Runs G sX3_turnSteps 4 [(0, .ref 3), (2, .int v4), (3, .int (x3 + nI 1))] [] m4 post)))))) ∧
        (¬ (nI 0) = 0 →
          vp_in (μ.1 25 x3.toNatClampNeg) 16 ∧
          (((nI 0) = 0 →
            vp_in (μ.1 25 x3.toNatClampNeg) 16 ∧
            (((nI 0) = 0 →
              vp_in (μ.1 25 x3.toNatClampNeg) 16 ∧
              a_Spec G sX0_across [.ref 1, .int (μ.1 25 x3.toNatClampNeg), .int x2] (va_up (va_up μ.1 22 (upd (μ.1 22) ((μ.1 25 x3.toNatClampNeg).toNatClampNeg) (-(μ.1 22 (μ.1 25 x3.toNatClampNeg).toNatClampNeg)))) 23 (upd (μ.1 23) ((μ.1 25 x3.toNatClampNeg).toNatClampNeg) (nI 1000000)), μ.2) (fun r5 m5 => ∃ v5 : Int32, r5 = some (.int v5) ∧
              a_Runs G sX3_turnSteps 4 [(0, .ref 3), (2, .int v5), (3, .int (x3 + nI 1))] [] m5 post)) ∧
            (¬ (nI 0) = 0 →
              vp_in (μ.1 25 x3.toNatClampNeg) 16 ∧
              a_Spec G sX0_across [.ref 1, .int (μ.1 25 x3.toNatClampNeg), .int x2] (va_up (va_up μ.1 22 (upd (μ.1 22) ((μ.1 25 x3.toNatClampNeg).toNatClampNeg) (-(μ.1 22 (μ.1 25 x3.toNatClampNeg).toNatClampNeg)))) 23 (upd (μ.1 23) ((μ.1 25 x3.toNatClampNeg).toNatClampNeg) (-(μ.1 22 (μ.1 25 x3.toNatClampNeg).toNatClampNeg))), μ.2) (fun r6 m6 => ∃ v6 : Int32, r6 = some (.int v6) ∧
              a_Runs G sX3_turnSteps 4 [(0, .ref 3), (2, .int v6), (3, .int (x3 + nI 1))] [] m6 post)))) ∧
          (¬ (nI 0) = 0 →
            vp_in (μ.1 25 x3.toNatClampNeg) 16 ∧
            (((nI 0) = 0 →
              vp_in (μ.1 25 x3.toNatClampNeg) 16 ∧
              a_Spec G sX0_across [.ref 1, .int (μ.1 25 x3.toNatClampNeg), .int x2] (va_up (va_up μ.1 22 (upd (μ.1 22) ((μ.1 25 x3.toNatClampNeg).toNatClampNeg) (nI 1000000))) 23 (upd (μ.1 23) ((μ.1 25 x3.toNatClampNeg).toNatClampNeg) (nI 1000000)), μ.2) (fun r7 m7 => ∃ v7 : Int32, r7 = some (.int v7) ∧
              a_Runs G sX3_turnSteps 4 [(0, .ref 3), (2, .int v7), (3, .int (x3 + nI 1))] [] m7 post)) ∧
            (¬ (nI 0) = 0 →
              vp_in (μ.1 25 x3.toNatClampNeg) 16 ∧
              a_Spec G sX0_across [.ref 1, .int (μ.1 25 x3.toNatClampNeg), .int x2] (va_up (va_up μ.1 22 (upd (μ.1 22) ((μ.1 25 x3.toNatClampNeg).toNatClampNeg) (nI 1000000))) 23 (upd (μ.1 23) ((μ.1 25 x3.toNatClampNeg).toNatClampNeg) (-(μ.1 22 (μ.1 25 x3.toNatClampNeg).toNatClampNeg))), μ.2) (fun r8 m8 => ∃ v8 : Int32, r8 = some (.int v8) ∧
              a_Runs G sX3_turnSteps 4 [(0, .ref 3), (2, .int v8), (3, .int (x3 + nI 1))] [] m8 post)))))))) ∧
      ((μ.1 7 (μ.1 25 x3.toNatClampNeg).toNatClampNeg) = x2 →
        (((nI 1) = 0 →
          vp_in (μ.1 25 x3.toNatClampNeg) 16 ∧
          (((nI 1) = 0 →
            vp_in (μ.1 25 x3.toNatClampNeg) 16 ∧
            (((nI 1) = 0 →
              vp_in (μ.1 25 x3.toNatClampNeg) 16 ∧
              a_Spec G sX0_across [.ref 1, .int (μ.1 25 x3.toNatClampNeg), .int x2] (va_up (va_up μ.1 22 (upd (μ.1 22) ((μ.1 25 x3.toNatClampNeg).toNatClampNeg) (-(μ.1 23 (μ.1 25 x3.toNatClampNeg).toNatClampNeg)))) 23 (upd (μ.1 23) ((μ.1 25 x3.toNatClampNeg).toNatClampNeg) (nI 1000000)), μ.2) (fun r9 m9 => ∃ v9 : Int32, r9 = some (.int v9) ∧
              a_Runs G sX3_turnSteps 4 [(0, .ref 3), (2, .int v9), (3, .int (x3 + nI 1))] [] m9 post)) ∧
            (¬ (nI 1) = 0 →
              vp_in (μ.1 25 x3.toNatClampNeg) 16 ∧
              a_Spec G sX0_across [.ref 1, .int (μ.1 25 x3.toNatClampNeg), .int x2] (va_up (va_up μ.1 22 (upd (μ.1 22) ((μ.1 25 x3.toNatClampNeg).toNatClampNeg) (-(μ.1 23 (μ.1 25 x3.toNatClampNeg).toNatClampNeg)))) 23 (upd (μ.1 23) ((μ.1 25 x3.toNatClampNeg).toNatClampNeg) (-(μ.1 23 (μ.1 25 x3.toNatClampNeg).toNatClampNeg))), μ.2) (fun r10 m10 => ∃ v10 : Int32, r10 = some (.int v10) ∧
              a_Runs G sX3_turnSteps 4 [(0, .ref 3), (2, .int v10), (3, .int (x3 + nI 1))] [] m10 post)))) ∧
          (¬ (nI 1) = 0 →
            vp_in (μ.1 25 x3.toNatClampNeg) 16 ∧
            (((nI 1) = 0 →
              vp_in (μ.1 25 x3.toNatClampNeg) 16 ∧
              a_Spec G sX0_across [.ref 1, .int (μ.1 25 x3.toNatClampNeg), .int x2] (va_up (va_up μ.1 22 (upd (μ.1 22) ((μ.1 25 x3.toNatClampNeg).toNatClampNeg) (nI 1000000))) 23 (upd (μ.1 23) ((μ.1 25 x3.toNatClampNeg).toNatClampNeg) (nI 1000000)), μ.2) (fun r11 m11 => ∃ v11 : Int32, r11 = some (.int v11) ∧
              a_Runs G sX3_turnSteps 4 [(0, .ref 3), (2, .int v11), (3, .int (x3 + nI 1))] [] m11 post)) ∧
            (¬ (nI 1) = 0 →
              vp_in (μ.1 25 x3.toNatClampNeg) 16 ∧
              a_Spec G sX0_across [.ref 1, .int (μ.1 25 x3.toNatClampNeg), .int x2] (va_up (va_up μ.1 22 (upd (μ.1 22) ((μ.1 25 x3.toNatClampNeg).toNatClampNeg) (nI 1000000))) 23 (upd (μ.1 23) ((μ.1 25 x3.toNatClampNeg).toNatClampNeg) (-(μ.1 23 (μ.1 25 x3.toNatClampNeg).toNatClampNeg))), μ.2) (fun r12 m12 => ∃ v12 : Int32, r12 = some (.int v12) ∧
              a_Runs G sX3_turnSteps 4 [(0, .ref 3), (2, .int v12), (3, .int (x3 + nI 1))] [] m12 post)))))) ∧
        (¬ (nI 1) = 0 →
          vp_in (μ.1 25 x3.toNatClampNeg) 16 ∧
          (((nI 1) = 0 →
            vp_in (μ.1 25 x3.toNatClampNeg) 16 ∧
            (((nI 1) = 0 →
              vp_in (μ.1 25 x3.toNatClampNeg) 16 ∧
              a_Spec G sX0_across [.ref 1, .int (μ.1 25 x3.toNatClampNeg), .int x2] (va_up (va_up μ.1 22 (upd (μ.1 22) ((μ.1 25 x3.toNatClampNeg).toNatClampNeg) (-(μ.1 22 (μ.1 25 x3.toNatClampNeg).toNatClampNeg)))) 23 (upd (μ.1 23) ((μ.1 25 x3.toNatClampNeg).toNatClampNeg) (nI 1000000)), μ.2) (fun r13 m13 => ∃ v13 : Int32, r13 = some (.int v13) ∧
              a_Runs G sX3_turnSteps 4 [(0, .ref 3), (2, .int v13), (3, .int (x3 + nI 1))] [] m13 post)) ∧
            (¬ (nI 1) = 0 →
              vp_in (μ.1 25 x3.toNatClampNeg) 16 ∧
              a_Spec G sX0_across [.ref 1, .int (μ.1 25 x3.toNatClampNeg), .int x2] (va_up (va_up μ.1 22 (upd (μ.1 22) ((μ.1 25 x3.toNatClampNeg).toNatClampNeg) (-(μ.1 22 (μ.1 25 x3.toNatClampNeg).toNatClampNeg)))) 23 (upd (μ.1 23) ((μ.1 25 x3.toNatClampNeg).toNatClampNeg) (-(μ.1 22 (μ.1 25 x3.toNatClampNeg).toNatClampNeg))), μ.2) (fun r14 m14 => ∃ v14 : Int32, r14 = some (.int v14) ∧
              a_Runs G sX3_turnSteps 4 [(0, .ref 3), (2, .int v14), (3, .int (x3 + nI 1))] [] m14 post)))) ∧
          (¬ (nI 1) = 0 →
            vp_in (μ.1 25 x3.toNatClampNeg) 16 ∧
            (((nI 1) = 0 →
              vp_in (μ.1 25 x3.toNatClampNeg) 16 ∧
              a_Spec G sX0_across [.ref 1, .int (μ.1 25 x3.toNatClampNeg), .int x2] (va_up (va_up μ.1 22 (upd (μ.1 22) ((μ.1 25 x3.toNatClampNeg).toNatClampNeg) (nI 1000000))) 23 (upd (μ.1 23) ((μ.1 25 x3.toNatClampNeg).toNatClampNeg) (nI 1000000)), μ.2) (fun r15 m15 => ∃ v15 : Int32, r15 = some (.int v15) ∧
              a_Runs G sX3_turnSteps 4 [(0, .ref 3), (2, .int v15), (3, .int (x3 + nI 1))] [] m15 post)) ∧
            (¬ (nI 1) = 0 →
              vp_in (μ.1 25 x3.toNatClampNeg) 16 ∧
              a_Spec G sX0_across [.ref 1, .int (μ.1 25 x3.toNatClampNeg), .int x2] (va_up (va_up μ.1 22 (upd (μ.1 22) ((μ.1 25 x3.toNatClampNeg).toNatClampNeg) (nI 1000000))) 23 (upd (μ.1 23) ((μ.1 25 x3.toNatClampNeg).toNatClampNeg) (-(μ.1 22 (μ.1 25 x3.toNatClampNeg).toNatClampNeg))), μ.2) (fun r16 m16 => ∃ v16 : Int32, r16 = some (.int v16) ∧
              a_Runs G sX3_turnSteps 4 [(0, .ref 3), (2, .int v16), (3, .int (x3 + nI 1))] [] m16 post)))))))))))) :
    a_Runs G sX3_turnSteps 4 [(0, .ref 3), (2, .int x2), (3, .int x3)] [] μ post := a_run (S := sX3_turnSteps) (pg := pX3_turnSteps) (tab := tX3) [(4, [0, 2, 3])] 55 (a_okT_e tX3_ok) pX3_turnSteps_ok rfl h
set_option maxRecDepth 100000 in
set_option maxHeartbeats 4000000 in
theorem w_X3_leastLengthOfTwo_0 {G : aG} {μ : aMem} {post : aPost} (x1 : Int32) (x2 : Int32) (h :
    a_Spec G sX0_allBits [.ref 1] μ (fun r1 m1 => ∃ v1 : Int32, r1 = some (.int v1) ∧
    a_Spec G sX3_open [.ref 3, .int v1] m1 (fun r2 m2 => r2 = none ∧
    a_Spec G sX3_spread [.ref 3, .int x2] m2 (fun r3 m3 => r3 = none ∧
    vp_in x1 10 ∧
    ((¬ (m3.1 24 x1.toNatClampNeg) = (nI 1000000) →
      vp_in x1 10 ∧
      a_Spec G sX3_walk [.ref 3, .int x1, .int x2] m3 (fun r4 m4 => r4 = none ∧
      a_Spec G sX3_turnSteps [.ref 3, .int x1] m4 (fun r5 m5 => r5 = none ∧
      a_Spec G sX3_spread [.ref 3, .int x2] m5 (fun r6 m6 => r6 = none ∧
      vp_in x1 10 ∧
      ((¬ (m6.1 24 x1.toNatClampNeg) = (nI 1000000) →
        vp_in x1 10 ∧
        ¬ (nI 32) = 0 ∧
        post (some (.int (((m3.1 24 x1.toNatClampNeg) + (m6.1 24 x1.toNatClampNeg)) / (nI 32)))) m6) ∧
      ((m6.1 24 x1.toNatClampNeg) = (nI 1000000) →
        post (some (.int (-9))) m6)))))) ∧
    ((m3.1 24 x1.toNatClampNeg) = (nI 1000000) →
      post (some (.int (-9))) m3)))))) :
    a_Spec G sX3_leastLengthOfTwo [.ref 3, .int x1, .int x2] μ post := a_enter (by decide +kernel) rfl (a_run (S := sX3_leastLengthOfTwo) (pg := pX3_leastLengthOfTwo) (tab := tX3) [] 46 (a_okT_e tX3_ok) pX3_leastLengthOfTwo_ok rfl h)
set_option maxRecDepth 100000 in
set_option maxHeartbeats 4000000 in
theorem w_X4_headOf_0 {G : aG} {μ : aMem} {post : aPost} (x1 : Int32) (h :
    a_Runs G sX4_headOf 4 [(0, .ref 4), (2, .int x1), (3, .int (nI 0))] [] μ post) :
    a_Spec G sX4_headOf [.ref 4, .int x1] μ post := a_enter (by decide +kernel) rfl (a_run (S := sX4_headOf) (pg := pX4_headOf) (tab := tX4) [(4, [0, 2, 3])] 7 (a_okT_e tX4_ok) pX4_headOf_ok rfl h)
set_option maxRecDepth 100000 in
set_option maxHeartbeats 4000000 in
theorem w_X4_headOf_4 {G : aG} {μ : aMem} {post : aPost} (x2 : Int32) (x3 : Int32) (h :
    (((nI 10) ≤ x3 →
      post (some (.int x2)) μ) ∧
    (¬ (nI 10) ≤ x3 →
      vp_in x2 10 ∧
      (((μ.1 26 x2.toNatClampNeg) = x2 →
        post (some (.int x2)) μ) ∧
      (¬ (μ.1 26 x2.toNatClampNeg) = x2 →
        vp_in x2 10 ∧
        a_Runs G sX4_headOf 4 [(0, .ref 4), (2, .int (μ.1 26 x2.toNatClampNeg)), (3, .int (x3 + nI 1))] [] μ post))))) :
    a_Runs G sX4_headOf 4 [(0, .ref 4), (2, .int x2), (3, .int x3)] [] μ post := a_run (S := sX4_headOf) (pg := pX4_headOf) (tab := tX4) [(4, [0, 2, 3])] 19 (a_okT_e tX4_ok) pX4_headOf_ok rfl h
set_option maxRecDepth 100000 in
set_option maxHeartbeats 4000000 in
theorem w_X4_joins_0 {G : aG} {μ : aMem} {post : aPost} (x1 : Int32) (x2 : Int32) (h :
    vp_in x1 16 ∧
    ((((μ.1 9 x1.toNatClampNeg) &&& (x2 ^^^ (-1))) = 0 →
      vp_in x1 16 ∧
      a_Spec G sX4_headOf [.ref 4, .int (μ.1 7 x1.toNatClampNeg)] μ (fun r1 m1 => ∃ v1 : Int32, r1 = some (.int v1) ∧
      vp_in x1 16 ∧
      a_Spec G sX4_headOf [.ref 4, .int (m1.1 8 x1.toNatClampNeg)] m1 (fun r2 m2 => ∃ v2 : Int32, r2 = some (.int v2) ∧
      vp_in v1 10 ∧
      ((v1 = v2 →
        ((nI 0) = 0 ∨ (nI 0) = 1) ∧ post (some (.int (nI 0))) (va_up m2.1 26 (upd (m2.1 26) v1.toNatClampNeg v2), m2.2)) ∧
      (¬ v1 = v2 →
        ((nI 1) = 0 ∨ (nI 1) = 1) ∧ post (some (.int (nI 1))) (va_up m2.1 26 (upd (m2.1 26) v1.toNatClampNeg v2), m2.2)))))) ∧
    (¬ ((μ.1 9 x1.toNatClampNeg) &&& (x2 ^^^ (-1))) = 0 →
      ((nI 0) = 0 ∨ (nI 0) = 1) ∧ post (some (.int (nI 0))) μ))) :
    a_Spec G sX4_joins [.ref 4, .int x1, .int x2] μ post := a_enter (by decide +kernel) rfl (a_run (S := sX4_joins) (pg := pX4_joins) (tab := tX4) [] 39 (a_okT_e tX4_ok) pX4_joins_ok rfl h)
set_option maxRecDepth 100000 in
set_option maxHeartbeats 4000000 in
theorem w_X4_treeLength_0 {G : aG} {μ : aMem} {post : aPost} (x1 : Int32) (h :
    a_Runs G sX4_treeLength 2 [(0, .ref 4), (1, .int x1), (2, .int (nI 0))] [] μ post) :
    a_Spec G sX4_treeLength [.ref 4, .int x1] μ post := a_enter (by decide +kernel) rfl (a_run (S := sX4_treeLength) (pg := pX4_treeLength) (tab := tX4) [(2, [0, 1, 2]), (33, [0, 1, 2, 3, 4])] 5 (a_okT_e tX4_ok) pX4_treeLength_ok rfl h)
set_option maxRecDepth 100000 in
set_option maxHeartbeats 4000000 in
theorem w_X4_treeLength_2 {G : aG} {μ : aMem} {post : aPost} (x1 : Int32) (x2 : Int32) (h :
    (((nI 10) ≤ x2 →
      a_Spec G sJ6_bitCount_0f7a4 [.int x1] μ (fun r1 m1 => ∃ v1 : Int32, r1 = some (.int v1) ∧
      a_Runs G sX4_treeLength 33 [(0, .ref 4), (1, .int x1), (2, .int (v1 - (nI 1))), (3, .int (nI 0)), (4, .int (nI 0))] [] m1 post)) ∧
    (¬ (nI 10) ≤ x2 →
      vp_in x2 10 ∧
      a_Runs G sX4_treeLength 2 [(0, .ref 4), (1, .int x1), (2, .int (x2 + nI 1))] [] (va_up μ.1 26 (upd (μ.1 26) x2.toNatClampNeg x2), μ.2) post))) :
    a_Runs G sX4_treeLength 2 [(0, .ref 4), (1, .int x1), (2, .int x2)] [] μ post := a_run (S := sX4_treeLength) (pg := pX4_treeLength) (tab := tX4) [(2, [0, 1, 2]), (33, [0, 1, 2, 3, 4])] 15 (a_okT_e tX4_ok) pX4_treeLength_ok rfl h
set_option maxRecDepth 100000 in
set_option maxHeartbeats 4000000 in
theorem w_X4_treeLength_33 {G : aG} {μ : aMem} {post : aPost} (x1 : Int32) (x2 : Int32) (x3 : Int32) (x4 : Int32) (h :
    (((μ.1 1 0) ≤ x4 →
      ((¬ x2 = 0 →
        post (some (.int (nI 1000000))) μ) ∧
      (x2 = 0 →
        post (some (.int x3)) μ))) ∧
    (¬ (μ.1 1 0) ≤ x4 →
      ((x2 ≤ 0 →
        ((¬ x2 = 0 →
          post (some (.int (nI 1000000))) μ) ∧
        (x2 = 0 →
          post (some (.int x3)) μ))) ∧
      (¬ x2 ≤ 0 →
        vp_in x4 16 ∧
        a_Spec G sX4_joins [.ref 4, .int (μ.1 12 x4.toNatClampNeg), .int x1] μ (fun r1 m1 => ∃ v1 : Int32, r1 = some (.int v1) ∧
        ((v1 = 0 →
          a_Runs G sX4_treeLength 33 [(0, .ref 4), (1, .int x1), (2, .int x2), (3, .int x3), (4, .int (x4 + nI 1))] [] m1 post) ∧
        (¬ v1 = 0 →
          vp_in (μ.1 12 x4.toNatClampNeg) 16 ∧
          a_Runs G sX4_treeLength 33 [(0, .ref 4), (1, .int x1), (2, .int (x2 + (-1))), (3, .int (x3 + (m1.1 10 (μ.1 12 x4.toNatClampNeg).toNatClampNeg))), (4, .int (x4 + nI 1))] [] m1 post)))))))) :
    a_Runs G sX4_treeLength 33 [(0, .ref 4), (1, .int x1), (2, .int x2), (3, .int x3), (4, .int x4)] [] μ post := a_run (S := sX4_treeLength) (pg := pX4_treeLength) (tab := tX4) [(2, [0, 1, 2]), (33, [0, 1, 2, 3, 4])] 32 (a_okT_e tX4_ok) pX4_treeLength_ok rfl h
set_option maxRecDepth 100000 in
set_option maxHeartbeats 4000000 in
theorem w_X4_note_0 {G : aG} {μ : aMem} {post : aPost} (x1 : Int32) (x2 : Int32) (h :
    ((¬ x2 = (nI 1000000) →
      a_Runs G sX4_note 21 [(0, .ref 4), (1, .int x1), (2, .int x2), (3, .int (nI 0))] [] (va_up μ.1 4 (upd (μ.1 4) 3 (if x2 < (μ.1 4 3) then x2 else (μ.1 4 3))), μ.2) post) ∧
    (x2 = (nI 1000000) →
      post none μ))) :
    a_Spec G sX4_note [.ref 4, .int x1, .int x2] μ post := a_enter (by decide +kernel) rfl (a_run (S := sX4_note) (pg := pX4_note) (tab := tX4) [(21, [0, 1, 2, 3])] 14 (a_okT_e tX4_ok) pX4_note_ok rfl h)
set_option maxRecDepth 100000 in
set_option maxHeartbeats 4000000 in
theorem w_X4_note_21 {G : aG} {μ : aMem} {post : aPost} (x1 : Int32) (x2 : Int32) (x3 : Int32) (h :
    (((nI 10) ≤ x3 →
      post none μ) ∧
    (¬ (nI 10) ≤ x3 →
      a_Spec G sX6_has [.int x1, .int x3] μ (fun r1 m1 => ∃ v1 : Int32, r1 = some (.int v1) ∧
      ((¬ v1 = 0 →
        a_Runs G sX4_note 21 [(0, .ref 4), (1, .int x1), (2, .int x2), (3, .int (x3 + nI 1))] [] m1 post) ∧
      (v1 = 0 →
        vp_in x3 10 ∧
        (((m1.1 27 x3.toNatClampNeg) ≤ x2 →
          a_Runs G sX4_note 21 [(0, .ref 4), (1, .int x1), (2, .int x2), (3, .int (x3 + nI 1))] [] m1 post) ∧
        (¬ (m1.1 27 x3.toNatClampNeg) ≤ x2 →
          vp_in x3 10 ∧
          a_Runs G sX4_note 21 [(0, .ref 4), (1, .int x1), (2, .int x2), (3, .int (x3 + nI 1))] [] (va_up m1.1 27 (upd (m1.1 27) x3.toNatClampNeg x2), m1.2) post)))))))) :
    a_Runs G sX4_note 21 [(0, .ref 4), (1, .int x1), (2, .int x2), (3, .int x3)] [] μ post := a_run (S := sX4_note) (pg := pX4_note) (tab := tX4) [(21, [0, 1, 2, 3])] 23 (a_okT_e tX4_ok) pX4_note_ok rfl h
set_option maxRecDepth 100000 in
set_option maxHeartbeats 4000000 in
theorem w_X4_compare_0 {G : aG} {μ : aMem} {post : aPost} (x1 : Int32) (h :
    a_Spec G sJ7_fill_53178 [.ref 27, .int (nI 1000000)] (va_up μ.1 4 (upd (μ.1 4) 3 (nI 1000000)), μ.2) (fun r1 m1 => r1 = none ∧
    a_Runs G sX4_compare 17 [(0, .ref 4), (1, .int x1), (2, .int (nI 0))] [] m1 post)) :
    a_Spec G sX4_compare [.ref 4, .int x1] μ post := a_enter (by decide +kernel) rfl (a_run (S := sX4_compare) (pg := pX4_compare) (tab := tX4) [(17, [0, 1, 2])] 12 (a_okT_e tX4_ok) pX4_compare_ok rfl h)
set_option maxRecDepth 100000 in
set_option maxHeartbeats 4000000 in
theorem w_X4_compare_17 {G : aG} {μ : aMem} {post : aPost} (x1 : Int32) (x2 : Int32) (h :
    (((nI 1024) ≤ x2 →
      post none μ) ∧
    (¬ (nI 1024) ≤ x2 →
      ((¬ (x2 &&& x1) = x1 →
        a_Runs G sX4_compare 17 [(0, .ref 4), (1, .int x1), (2, .int (x2 + nI 1))] [] μ post) ∧
      ((x2 &&& x1) = x1 →
        a_Spec G sX4_treeLength [.ref 4, .int x2] μ (fun r1 m1 => ∃ v1 : Int32, r1 = some (.int v1) ∧
        a_Spec G sX4_note [.ref 4, .int x2, .int v1] m1 (fun r2 m2 => r2 = none ∧
        a_Runs G sX4_compare 17 [(0, .ref 4), (1, .int x1), (2, .int (x2 + nI 1))] [] m2 post))))))) :
    a_Runs G sX4_compare 17 [(0, .ref 4), (1, .int x1), (2, .int x2)] [] μ post := a_run (S := sX4_compare) (pg := pX4_compare) (tab := tX4) [(17, [0, 1, 2])] 19 (a_okT_e tX4_ok) pX4_compare_ok rfl h
set_option maxRecDepth 100000 in
set_option maxHeartbeats 4000000 in
theorem w_X4_firstNeeded_0 {G : aG} {μ : aMem} {post : aPost} (x1 : Int32) (h :
    ((¬ (μ.1 4 3) = (nI 1000000) →
      a_Runs G sX4_firstNeeded 14 [(0, .ref 4), (1, .int x1), (2, .int (nI 0))] [] μ post) ∧
    ((μ.1 4 3) = (nI 1000000) →
      post (some (.int (-9))) μ))) :
    a_Spec G sX4_firstNeeded [.ref 4, .int x1] μ post := a_enter (by decide +kernel) rfl (a_run (S := sX4_firstNeeded) (pg := pX4_firstNeeded) (tab := tX4) [(14, [0, 1, 2])] 9 (a_okT_e tX4_ok) pX4_firstNeeded_ok rfl h)
set_option maxRecDepth 100000 in
set_option maxHeartbeats 4000000 in
theorem w_X4_firstNeeded_14 {G : aG} {μ : aMem} {post : aPost} (x1 : Int32) (x2 : Int32) (h :
    (((nI 10) ≤ x2 →
      post (some (.int (-9))) μ) ∧
    (¬ (nI 10) ≤ x2 →
      a_Spec G sX6_has [.int x1, .int x2] μ (fun r1 m1 => ∃ v1 : Int32, r1 = some (.int v1) ∧
      ((¬ v1 = 0 →
        a_Runs G sX4_firstNeeded 14 [(0, .ref 4), (1, .int x1), (2, .int (x2 + nI 1))] [] m1 post) ∧
      (v1 = 0 →
        vp_in x2 10 ∧
        (((m1.1 27 x2.toNatClampNeg) ≤ (m1.1 4 3) →
          a_Runs G sX4_firstNeeded 14 [(0, .ref 4), (1, .int x1), (2, .int (x2 + nI 1))] [] m1 post) ∧
        (¬ (m1.1 27 x2.toNatClampNeg) ≤ (m1.1 4 3) →
          post (some (.int x2)) m1)))))))) :
    a_Runs G sX4_firstNeeded 14 [(0, .ref 4), (1, .int x1), (2, .int x2)] [] μ post := a_run (S := sX4_firstNeeded) (pg := pX4_firstNeeded) (tab := tX4) [(14, [0, 1, 2])] 19 (a_okT_e tX4_ok) pX4_firstNeeded_ok rfl h
set_option maxRecDepth 100000 in
set_option maxHeartbeats 4000000 in
theorem w_X5_add_0 {G : aG} {μ : aMem} {post : aPost} (x1 : Int32) (x2 : Int32) (x3 : Int32) (x4 : Int32) (h :
    vp_in (μ.1 2 0) 20 ∧
    vp_in (μ.1 2 0) 20 ∧
    vp_in (μ.1 2 0) 20 ∧
    vp_in (μ.1 2 0) 20 ∧
    post (some (.int (μ.1 2 0))) (va_up (va_up (va_up (va_up (va_up μ.1 13 (upd (μ.1 13) ((μ.1 2 0).toNatClampNeg) x1)) 14 (upd (μ.1 14) ((μ.1 2 0).toNatClampNeg) x2)) 15 (upd (μ.1 15) ((μ.1 2 0).toNatClampNeg) x3)) 16 (upd (μ.1 16) ((μ.1 2 0).toNatClampNeg) x4)) 2 (upd (μ.1 2) 0 ((μ.1 2 0) + (nI 1))), μ.2)) :
    a_Spec G sX5_add [.ref 2, .int x1, .int x2, .int x3, .int x4] μ post := a_enter (by decide +kernel) rfl (a_run (S := sX5_add) (pg := pX5_add) (tab := tX5) [] 32 (a_okT_e tX5_ok) pX5_add_ok rfl h)
set_option maxRecDepth 100000 in
set_option maxHeartbeats 4000000 in
theorem w_X5_areApart_0 {G : aG} {μ : aMem} {post : aPost} (x1 : Int32) (x2 : Int32) (h :
    vp_in x1 4 ∧
    a_Spec G sX6_has [.int (μ.1 21 x1.toNatClampNeg), .int x2] μ (fun r1 m1 => ∃ v1 : Int32, r1 = some (.int v1) ∧
    (v1 = 0 ∨ v1 = 1) ∧ post (some (.int v1)) m1)) :
    a_Spec G sX5_areApart [.ref 2, .int x1, .int x2] μ post := a_enter (by decide +kernel) rfl (a_run (S := sX5_areApart) (pg := pX5_areApart) (tab := tX5) [] 9 (a_okT_e tX5_ok) pX5_areApart_ok rfl h)
set_option maxRecDepth 100000 in
set_option maxHeartbeats 4000000 in
theorem w_X5_setApart_0 {G : aG} {μ : aMem} {post : aPost} (x1 : Int32) (x2 : Int32) (x3 : Int32) (h :
    ((x3 = 0 →
      vp_in x1 4 ∧
      vp_in x1 4 ∧
      ((x3 = 0 →
        vp_in x2 4 ∧
        vp_in x2 4 ∧
        post none (va_up (va_up μ.1 21 (upd (μ.1 21) x1.toNatClampNeg ((μ.1 21 x1.toNatClampNeg) &&& (((nI 1) <<< (x2 &&& 31)) ^^^ (-1))))) 21 (upd (upd (μ.1 21) x1.toNatClampNeg ((μ.1 21 x1.toNatClampNeg) &&& (((nI 1) <<< (x2 &&& 31)) ^^^ (-1)))) x2.toNatClampNeg (((upd (μ.1 21) x1.toNatClampNeg ((μ.1 21 x1.toNatClampNeg) &&& (((nI 1) <<< (x2 &&& 31)) ^^^ (-1)))) x2.toNatClampNeg) &&& (((nI 1) <<< (x1 &&& 31)) ^^^ (-1)))), μ.2)) ∧
      (¬ x3 = 0 →
        vp_in x2 4 ∧
        vp_in x2 4 ∧
        post none (va_up (va_up μ.1 21 (upd (μ.1 21) x1.toNatClampNeg ((μ.1 21 x1.toNatClampNeg) &&& (((nI 1) <<< (x2 &&& 31)) ^^^ (-1))))) 21 (upd (upd (μ.1 21) x1.toNatClampNeg ((μ.1 21 x1.toNatClampNeg) &&& (((nI 1) <<< (x2 &&& 31)) ^^^ (-1)))) x2.toNatClampNeg (((upd (μ.1 21) x1.toNatClampNeg ((μ.1 21 x1.toNatClampNeg) &&& (((nI 1) <<< (x2 &&& 31)) ^^^ (-1)))) x2.toNatClampNeg) ||| ((nI 1) <<< (x1 &&& 31)))), μ.2)))) ∧
    (¬ x3 = 0 →
      vp_in x1 4 ∧
      vp_in x1 4 ∧
      ((x3 = 0 →
        vp_in x2 4 ∧
        vp_in x2 4 ∧
        post none (va_up (va_up μ.1 21 (upd (μ.1 21) x1.toNatClampNeg ((μ.1 21 x1.toNatClampNeg) ||| ((nI 1) <<< (x2 &&& 31))))) 21 (upd (upd (μ.1 21) x1.toNatClampNeg ((μ.1 21 x1.toNatClampNeg) ||| ((nI 1) <<< (x2 &&& 31)))) x2.toNatClampNeg (((upd (μ.1 21) x1.toNatClampNeg ((μ.1 21 x1.toNatClampNeg) ||| ((nI 1) <<< (x2 &&& 31)))) x2.toNatClampNeg) &&& (((nI 1) <<< (x1 &&& 31)) ^^^ (-1)))), μ.2)) ∧
      (¬ x3 = 0 →
        vp_in x2 4 ∧
        vp_in x2 4 ∧
        post none (va_up (va_up μ.1 21 (upd (μ.1 21) x1.toNatClampNeg ((μ.1 21 x1.toNatClampNeg) ||| ((nI 1) <<< (x2 &&& 31))))) 21 (upd (upd (μ.1 21) x1.toNatClampNeg ((μ.1 21 x1.toNatClampNeg) ||| ((nI 1) <<< (x2 &&& 31)))) x2.toNatClampNeg (((upd (μ.1 21) x1.toNatClampNeg ((μ.1 21 x1.toNatClampNeg) ||| ((nI 1) <<< (x2 &&& 31)))) x2.toNatClampNeg) ||| ((nI 1) <<< (x1 &&& 31)))), μ.2)))))) :
    a_Spec G sX5_setApart [.ref 2, .int x1, .int x2, .int x3] μ post := a_enter (by decide +kernel) rfl (a_run (S := sX5_setApart) (pg := pX5_setApart) (tab := tX5) [] 35 (a_okT_e tX5_ok) pX5_setApart_ok rfl h)
set_option maxRecDepth 100000 in
set_option maxHeartbeats 4000000 in
theorem w_X5_isLaid_0 {G : aG} {μ : aMem} {post : aPost} (x1 : Int32) (h :
    vp_in x1 20 ∧
    (((μ.1 18 x1.toNatClampNeg) = 0 →
      ((nI 0) = 0 ∨ (nI 0) = 1) ∧ post (some (.int (nI 0))) μ) ∧
    (¬ (μ.1 18 x1.toNatClampNeg) = 0 →
      ((nI 1) = 0 ∨ (nI 1) = 1) ∧ post (some (.int (nI 1))) μ))) :
    a_Spec G sX5_isLaid [.ref 2, .int x1] μ post := a_enter (by decide +kernel) rfl (a_run (S := sX5_isLaid) (pg := pX5_isLaid) (tab := tX5) [] 10 (a_okT_e tX5_ok) pX5_isLaid_ok rfl h)
set_option maxRecDepth 100000 in
set_option maxHeartbeats 4000000 in
theorem w_X5_putThrough_0 {G : aG} {μ : aMem} {post : aPost} (x1 : Int32) (x3 : Int32) (x4 : Int32) (h :
    a_Runs G sX5_putThrough 6 [(0, .ref 2), (1, .int x1), (2, .ref 25), (3, .int x3), (4, .int x4), (5, .int (nI 0)), (6, .int (nI 0))] [] μ post) :
    a_Spec G sX5_putThrough [.ref 2, .int x1, .ref 25, .int x3, .int x4] μ post := a_enter (by decide +kernel) rfl (a_run (S := sX5_putThrough) (pg := pX5_putThrough) (tab := tX5) [(6, [0, 1, 2, 3, 4, 5, 6])] 7 (a_okT_e tX5_ok) pX5_putThrough_ok rfl h)
set_option maxRecDepth 100000 in
set_option maxHeartbeats 4000000 in
theorem w_X5_putThrough_6 {G : aG} {μ : aMem} {post : aPost} (x1 : Int32) (x3 : Int32) (x4 : Int32) (x5 : Int32) (x6 : Int32) (h :
    ((x3 ≤ x6 →
      vp_in x1 20 ∧
      vp_in x1 20 ∧
      post none (va_up (va_up μ.1 18 (upd (μ.1 18) x1.toNatClampNeg x5)) 19 (upd (μ.1 19) x1.toNatClampNeg x4), μ.2)) ∧
    (¬ x3 ≤ x6 →
      (((nI 9) ≤ x6 →
        vp_in x1 20 ∧
        vp_in x1 20 ∧
        post none (va_up (va_up μ.1 18 (upd (μ.1 18) x1.toNatClampNeg x5)) 19 (upd (μ.1 19) x1.toNatClampNeg x4), μ.2)) ∧
      (¬ (nI 9) ≤ x6 →
        vp_in x6 9 ∧
        vp_in ((x1 * (nI 9)) + x6) 180 ∧
        vp_in x6 9 ∧
        a_Runs G sX5_putThrough 6 [(0, .ref 2), (1, .int x1), (2, .ref 25), (3, .int x3), (4, .int x4), (5, .int (x5 ||| ((nI 1) <<< ((μ.1 25 x6.toNatClampNeg) &&& 31)))), (6, .int (x6 + nI 1))] [] (va_up μ.1 20 (upd (μ.1 20) (((x1 * (nI 9)) + x6).toNatClampNeg) (μ.1 25 x6.toNatClampNeg)), μ.2) post))))) :
    a_Runs G sX5_putThrough 6 [(0, .ref 2), (1, .int x1), (2, .ref 25), (3, .int x3), (4, .int x4), (5, .int x5), (6, .int x6)] [] μ post := a_run (S := sX5_putThrough) (pg := pX5_putThrough) (tab := tX5) [(6, [0, 1, 2, 3, 4, 5, 6])] 30 (a_okT_e tX5_ok) pX5_putThrough_ok rfl h
set_option maxRecDepth 100000 in
set_option maxHeartbeats 4000000 in
theorem w_X5_takeOut_0 {G : aG} {μ : aMem} {post : aPost} (x1 : Int32) (h :
    vp_in x1 20 ∧
    vp_in x1 20 ∧
    post none (va_up (va_up μ.1 18 (upd (μ.1 18) x1.toNatClampNeg (nI 0))) 19 (upd (μ.1 19) x1.toNatClampNeg (nI 0)), μ.2)) :
    a_Spec G sX5_takeOut [.ref 2, .int x1] μ post := a_enter (by decide +kernel) rfl (a_run (S := sX5_takeOut) (pg := pX5_takeOut) (tab := tX5) [] 13 (a_okT_e tX5_ok) pX5_takeOut_ok rfl h)
set_option maxRecDepth 100000 in
set_option maxHeartbeats 4000000 in
theorem w_X5_step_0 {G : aG} {μ : aMem} {post : aPost} (x1 : Int32) (x2 : Int32) (h :
    ((x2 < 0 →
      post (some (.int (-9))) μ) ∧
    (¬ x2 < 0 →
      vp_in x1 20 ∧
      a_Spec G sJ6_bitCount_0f7a4 [.int (μ.1 18 x1.toNatClampNeg)] μ (fun r1 m1 => ∃ v1 : Int32, r1 = some (.int v1) ∧
      ((x2 < v1 →
        vp_in ((x1 * (nI 9)) + x2) 180 ∧
        post (some (.int (m1.1 20 ((x1 * (nI 9)) + x2).toNatClampNeg))) m1) ∧
      (¬ x2 < v1 →
        post (some (.int (-9))) m1)))))) :
    a_Spec G sX5_step [.ref 2, .int x1, .int x2] μ post := a_enter (by decide +kernel) rfl (a_run (S := sX5_step) (pg := pX5_step) (tab := tX5) [] 20 (a_okT_e tX5_ok) pX5_step_ok rfl h)
set_option maxRecDepth 100000 in
set_option maxHeartbeats 4000000 in
theorem w_X5_mayGoThrough_0 {G : aG} {μ : aMem} {post : aPost} (x1 : Int32) (x2 : Int32) (x3 : Int32) (h :
    vp_in x1 20 ∧
    a_Runs G sX5_mayGoThrough 11 [(0, .ref 2), (1, .int x1), (2, .int x2), (3, .int x3), (4, .int (μ.1 15 x1.toNatClampNeg)), (5, .int (nI 0))] [] μ post) :
    a_Spec G sX5_mayGoThrough [.ref 2, .int x1, .int x2, .int x3] μ post := a_enter (by decide +kernel) rfl (a_run (S := sX5_mayGoThrough) (pg := pX5_mayGoThrough) (tab := tX5) [(11, [0, 1, 2, 3, 4, 5])] 10 (a_okT_e tX5_ok) pX5_mayGoThrough_ok rfl h)
set_option maxRecDepth 100000 in
set_option maxHeartbeats 4000000 in
theorem w_X5_mayGoThrough_11 {G : aG} {μ : aMem} {post : aPost} (x1 : Int32) (x2 : Int32) (x3 : Int32) (x4 : Int32) (x5 : Int32) (h :
    (((μ.1 2 0) ≤ x5 →
      ((x3 < x4 →
        ((nI 0) = 0 ∨ (nI 0) = 1) ∧ post (some (.int (nI 0))) μ) ∧
      (¬ x3 < x4 →
        ((nI 1) = 0 ∨ (nI 1) = 1) ∧ post (some (.int (nI 1))) μ))) ∧
    (¬ (μ.1 2 0) ≤ x5 →
      vp_in x5 20 ∧
      a_Spec G sX6_has [.int (μ.1 18 x5.toNatClampNeg), .int x2] μ (fun r1 m1 => ∃ v1 : Int32, r1 = some (.int v1) ∧
      ((v1 = 0 →
        a_Runs G sX5_mayGoThrough 11 [(0, .ref 2), (1, .int x1), (2, .int x2), (3, .int x3), (4, .int x4), (5, .int (x5 + nI 1))] [] m1 post) ∧
      (¬ v1 = 0 →
        vp_in x1 20 ∧
        vp_in x5 20 ∧
        a_Spec G sX5_areApart [.ref 2, .int (m1.1 16 x1.toNatClampNeg), .int (m1.1 16 x5.toNatClampNeg)] m1 (fun r2 m2 => ∃ v2 : Int32, r2 = some (.int v2) ∧
        ((v2 = 0 →
          vp_in x5 20 ∧
          a_Runs G sX5_mayGoThrough 11 [(0, .ref 2), (1, .int x1), (2, .int x2), (3, .int x3), (4, .int (x4 + (m2.1 15 x5.toNatClampNeg))), (5, .int (x5 + nI 1))] [] m2 post) ∧
        (¬ v2 = 0 →
          ((nI 0) = 0 ∨ (nI 0) = 1) ∧ post (some (.int (nI 0))) m2))))))))) :
    a_Runs G sX5_mayGoThrough 11 [(0, .ref 2), (1, .int x1), (2, .int x2), (3, .int x3), (4, .int x4), (5, .int x5)] [] μ post := a_run (S := sX5_mayGoThrough) (pg := pX5_mayGoThrough) (tab := tX5) [(11, [0, 1, 2, 3, 4, 5])] 34 (a_okT_e tX5_ok) pX5_mayGoThrough_ok rfl h
set_option maxRecDepth 100000 in
set_option maxHeartbeats 4000000 in
theorem w_X5_laidThrough_0 {G : aG} {μ : aMem} {post : aPost} (x1 : Int32) (h :
    a_Runs G sX5_laidThrough 4 [(0, .ref 2), (1, .int x1), (2, .int (nI 0)), (3, .int (nI 0))] [] μ post) :
    a_Spec G sX5_laidThrough [.ref 2, .int x1] μ post := a_enter (by decide +kernel) rfl (a_run (S := sX5_laidThrough) (pg := pX5_laidThrough) (tab := tX5) [(4, [0, 1, 2, 3])] 7 (a_okT_e tX5_ok) pX5_laidThrough_ok rfl h)
set_option maxRecDepth 100000 in
set_option maxHeartbeats 4000000 in
theorem w_X5_laidThrough_4 {G : aG} {μ : aMem} {post : aPost} (x1 : Int32) (x2 : Int32) (x3 : Int32) (h :
    (((μ.1 2 0) ≤ x3 →
      post (some (.int x2)) μ) ∧
    (¬ (μ.1 2 0) ≤ x3 →
      vp_in x3 20 ∧
      a_Spec G sX6_has [.int (μ.1 18 x3.toNatClampNeg), .int x1] μ (fun r1 m1 => ∃ v1 : Int32, r1 = some (.int v1) ∧
      ((v1 = 0 →
        a_Runs G sX5_laidThrough 4 [(0, .ref 2), (1, .int x1), (2, .int x2), (3, .int (x3 + nI 1))] [] m1 post) ∧
      (¬ v1 = 0 →
        a_Runs G sX5_laidThrough 4 [(0, .ref 2), (1, .int x1), (2, .int (x2 + nI 1)), (3, .int (x3 + nI 1))] [] m1 post)))))) :
    a_Runs G sX5_laidThrough 4 [(0, .ref 2), (1, .int x1), (2, .int x2), (3, .int x3)] [] μ post := a_run (S := sX5_laidThrough) (pg := pX5_laidThrough) (tab := tX5) [(4, [0, 1, 2, 3])] 17 (a_okT_e tX5_ok) pX5_laidThrough_ok rfl h
set_option maxRecDepth 100000 in
set_option maxHeartbeats 4000000 in
theorem w_X5_thicknessThrough_0 {G : aG} {μ : aMem} {post : aPost} (x1 : Int32) (h :
    a_Runs G sX5_thicknessThrough 4 [(0, .ref 2), (1, .int x1), (2, .int (nI 0)), (3, .int (nI 0))] [] μ post) :
    a_Spec G sX5_thicknessThrough [.ref 2, .int x1] μ post := a_enter (by decide +kernel) rfl (a_run (S := sX5_thicknessThrough) (pg := pX5_thicknessThrough) (tab := tX5) [(4, [0, 1, 2, 3])] 7 (a_okT_e tX5_ok) pX5_thicknessThrough_ok rfl h)
set_option maxRecDepth 100000 in
set_option maxHeartbeats 4000000 in
theorem w_X5_thicknessThrough_4 {G : aG} {μ : aMem} {post : aPost} (x1 : Int32) (x2 : Int32) (x3 : Int32) (h :
    (((μ.1 2 0) ≤ x3 →
      post (some (.int x2)) μ) ∧
    (¬ (μ.1 2 0) ≤ x3 →
      vp_in x3 20 ∧
      a_Spec G sX6_has [.int (μ.1 18 x3.toNatClampNeg), .int x1] μ (fun r1 m1 => ∃ v1 : Int32, r1 = some (.int v1) ∧
      ((v1 = 0 →
        a_Runs G sX5_thicknessThrough 4 [(0, .ref 2), (1, .int x1), (2, .int x2), (3, .int (x3 + nI 1))] [] m1 post) ∧
      (¬ v1 = 0 →
        vp_in x3 20 ∧
        a_Runs G sX5_thicknessThrough 4 [(0, .ref 2), (1, .int x1), (2, .int (x2 + (m1.1 15 x3.toNatClampNeg))), (3, .int (x3 + nI 1))] [] m1 post)))))) :
    a_Runs G sX5_thicknessThrough 4 [(0, .ref 2), (1, .int x1), (2, .int x2), (3, .int x3)] [] μ post := a_run (S := sX5_thicknessThrough) (pg := pX5_thicknessThrough) (tab := tX5) [(4, [0, 1, 2, 3])] 23 (a_okT_e tX5_ok) pX5_thicknessThrough_ok rfl h
set_option maxRecDepth 100000 in
set_option maxHeartbeats 4000000 in
theorem w_X5_isClashing_0 {G : aG} {μ : aMem} {post : aPost} (x1 : Int32) (h :
    a_Runs G sX5_isClashing 2 [(0, .ref 2), (1, .int x1), (2, .int (nI 0))] [] μ post) :
    a_Spec G sX5_isClashing [.ref 2, .int x1] μ post := a_enter (by decide +kernel) rfl (a_run (S := sX5_isClashing) (pg := pX5_isClashing) (tab := tX5) [(2, [0, 1, 2])] 5 (a_okT_e tX5_ok) pX5_isClashing_ok rfl h)
set_option maxRecDepth 100000 in
set_option maxHeartbeats 4000000 in
theorem w_X5_isClashing_2 {G : aG} {μ : aMem} {post : aPost} (x1 : Int32) (x2 : Int32) (h :
    (((μ.1 2 0) ≤ x2 →
      ((nI 0) = 0 ∨ (nI 0) = 1) ∧ post (some (.int (nI 0))) μ) ∧
    (¬ (μ.1 2 0) ≤ x2 →
      vp_in x1 20 ∧
      vp_in x2 20 ∧
      ((((μ.1 18 x1.toNatClampNeg) &&& (μ.1 18 x2.toNatClampNeg)) = 0 →
        (((nI 0) = 0 →
          a_Runs G sX5_isClashing 2 [(0, .ref 2), (1, .int x1), (2, .int (x2 + nI 1))] [] μ post) ∧
        (¬ (nI 0) = 0 →
          vp_in x1 20 ∧
          vp_in x2 20 ∧
          a_Spec G sX5_areApart [.ref 2, .int (μ.1 16 x1.toNatClampNeg), .int (μ.1 16 x2.toNatClampNeg)] μ (fun r1 m1 => ∃ v1 : Int32, r1 = some (.int v1) ∧
          ((v1 = 0 →
            a_Runs G sX5_isClashing 2 [(0, .ref 2), (1, .int x1), (2, .int (x2 + nI 1))] [] m1 post) ∧
          (¬ v1 = 0 →
            ((nI 1) = 0 ∨ (nI 1) = 1) ∧ post (some (.int (nI 1))) m1)))))) ∧
      (¬ ((μ.1 18 x1.toNatClampNeg) &&& (μ.1 18 x2.toNatClampNeg)) = 0 →
        (((nI 1) = 0 →
          a_Runs G sX5_isClashing 2 [(0, .ref 2), (1, .int x1), (2, .int (x2 + nI 1))] [] μ post) ∧
        (¬ (nI 1) = 0 →
          vp_in x1 20 ∧
          vp_in x2 20 ∧
          a_Spec G sX5_areApart [.ref 2, .int (μ.1 16 x1.toNatClampNeg), .int (μ.1 16 x2.toNatClampNeg)] μ (fun r2 m2 => ∃ v2 : Int32, r2 = some (.int v2) ∧
          ((v2 = 0 →
            a_Runs G sX5_isClashing 2 [(0, .ref 2), (1, .int x1), (2, .int (x2 + nI 1))] [] m2 post) ∧
          (¬ v2 = 0 →
            ((nI 1) = 0 ∨ (nI 1) = 1) ∧ post (some (.int (nI 1))) m2)))))))))) :
    a_Runs G sX5_isClashing 2 [(0, .ref 2), (1, .int x1), (2, .int x2)] [] μ post := a_run (S := sX5_isClashing) (pg := pX5_isClashing) (tab := tX5) [(2, [0, 1, 2])] 35 (a_okT_e tX5_ok) pX5_isClashing_ok rfl h
set_option maxRecDepth 100000 in
set_option maxHeartbeats 4000000 in
theorem w_X5_laid_0 {G : aG} {μ : aMem} {post : aPost}  (h :
    a_Runs G sX5_laid 4 [(0, .ref 2), (1, .int (nI 0)), (2, .int (nI 0))] [] μ post) :
    a_Spec G sX5_laid [.ref 2] μ post := a_enter (by decide +kernel) rfl (a_run (S := sX5_laid) (pg := pX5_laid) (tab := tX5) [(4, [0, 1, 2])] 7 (a_okT_e tX5_ok) pX5_laid_ok rfl h)
set_option maxRecDepth 100000 in
set_option maxHeartbeats 4000000 in
theorem w_X5_laid_4 {G : aG} {μ : aMem} {post : aPost} (x1 : Int32) (x2 : Int32) (h :
    (((μ.1 2 0) ≤ x2 →
      post (some (.int x1)) μ) ∧
    (¬ (μ.1 2 0) ≤ x2 →
      a_Spec G sX5_isLaid [.ref 2, .int x2] μ (fun r1 m1 => ∃ v1 : Int32, r1 = some (.int v1) ∧
      ((v1 = 0 →
        a_Runs G sX5_laid 4 [(0, .ref 2), (1, .int x1), (2, .int (x2 + nI 1))] [] m1 post) ∧
      (¬ v1 = 0 →
        a_Runs G sX5_laid 4 [(0, .ref 2), (1, .int (x1 + nI 1)), (2, .int (x2 + nI 1))] [] m1 post)))))) :
    a_Runs G sX5_laid 4 [(0, .ref 2), (1, .int x1), (2, .int x2)] [] μ post := a_run (S := sX5_laid) (pg := pX5_laid) (tab := tX5) [(4, [0, 1, 2])] 14 (a_okT_e tX5_ok) pX5_laid_ok rfl h
set_option maxRecDepth 100000 in
set_option maxHeartbeats 4000000 in
theorem w_X5_laidLength_0 {G : aG} {μ : aMem} {post : aPost}  (h :
    a_Runs G sX5_laidLength 4 [(0, .ref 2), (1, .int (nI 0)), (2, .int (nI 0))] [] μ post) :
    a_Spec G sX5_laidLength [.ref 2] μ post := a_enter (by decide +kernel) rfl (a_run (S := sX5_laidLength) (pg := pX5_laidLength) (tab := tX5) [(4, [0, 1, 2])] 7 (a_okT_e tX5_ok) pX5_laidLength_ok rfl h)
set_option maxRecDepth 100000 in
set_option maxHeartbeats 4000000 in
theorem w_X5_laidLength_4 {G : aG} {μ : aMem} {post : aPost} (x1 : Int32) (x2 : Int32) (h :
    (((μ.1 2 0) ≤ x2 →
      post (some (.int x1)) μ) ∧
    (¬ (μ.1 2 0) ≤ x2 →
      vp_in x2 20 ∧
      a_Runs G sX5_laidLength 4 [(0, .ref 2), (1, .int (x1 + (μ.1 19 x2.toNatClampNeg))), (2, .int (x2 + nI 1))] [] μ post))) :
    a_Runs G sX5_laidLength 4 [(0, .ref 2), (1, .int x1), (2, .int x2)] [] μ post := a_run (S := sX5_laidLength) (pg := pX5_laidLength) (tab := tX5) [(4, [0, 1, 2])] 16 (a_okT_e tX5_ok) pX5_laidLength_ok rfl h
set_option maxRecDepth 100000 in
set_option maxHeartbeats 4000000 in
theorem w_X6_isWithin_0 {G : aG} {μ : aMem} {post : aPost} (x0 : Int32) (x1 : Int32) (x2 : Int32) (h :
    ((x0 < x1 →
      ((nI 0) = 0 ∨ (nI 0) = 1) ∧ post (some (.int (nI 0))) μ) ∧
    (¬ x0 < x1 →
      ((x2 < x0 →
        ((nI 0) = 0 ∨ (nI 0) = 1) ∧ post (some (.int (nI 0))) μ) ∧
      (¬ x2 < x0 →
        ((nI 1) = 0 ∨ (nI 1) = 1) ∧ post (some (.int (nI 1))) μ))))) :
    a_Spec G sX6_isWithin [.int x0, .int x1, .int x2] μ post := a_enter (by decide +kernel) rfl (a_run (S := sX6_isWithin) (pg := pX6_isWithin) (tab := tX6) [] 11 (a_okT_e tX6_ok) pX6_isWithin_ok rfl h)
set_option maxRecDepth 100000 in
set_option maxHeartbeats 4000000 in
theorem w_X6_isPlace_0 {G : aG} {μ : aMem} {post : aPost} (x0 : Int32) (h :
    a_Spec G sX6_isWithin [.int x0, .int (nI 0), .int (nI 9)] μ (fun r1 m1 => ∃ v1 : Int32, r1 = some (.int v1) ∧
    (v1 = 0 ∨ v1 = 1) ∧ post (some (.int v1)) m1)) :
    a_Spec G sX6_isPlace [.int x0] μ post := a_enter (by decide +kernel) rfl (a_run (S := sX6_isPlace) (pg := pX6_isPlace) (tab := tX6) [] 7 (a_okT_e tX6_ok) pX6_isPlace_ok rfl h)
set_option maxRecDepth 100000 in
set_option maxHeartbeats 4000000 in
theorem w_X6_duct_0 {G : aG} {μ : aMem} {post : aPost} (x1 : Int32) (x2 : Int32) (x3 : Int32) (x4 : Int32) (h :
    a_Spec G sX6_isPlace [.int x1] μ (fun r1 m1 => ∃ v1 : Int32, r1 = some (.int v1) ∧
    ((v1 = 0 →
      post (some (.int (-1))) m1) ∧
    (¬ v1 = 0 →
      a_Spec G sX6_isPlace [.int x2] m1 (fun r2 m2 => ∃ v2 : Int32, r2 = some (.int v2) ∧
      ((¬ v2 = 0 →
        a_Spec G sX6_isWithin [.int x3, .int (nI 1), .int (nI 99)] m2 (fun r3 m3 => ∃ v3 : Int32, r3 = some (.int v3) ∧
        ((v3 = 0 →
          post (some (.int (-2))) m3) ∧
        (¬ v3 = 0 →
          a_Spec G sX6_isWithin [.int x4, .int (nI 1), .int (nI 300)] m3 (fun r4 m4 => ∃ v4 : Int32, r4 = some (.int v4) ∧
          ((¬ v4 = 0 →
            ((¬ x1 = x2 →
              (((m4.1 1 0) < (nI 16) →
                a_Spec G sX0_add [.ref 1, .int x1, .int x2, .int x3, .int x4] m4 (fun r5 m5 => ∃ v5 : Int32, r5 = some (.int v5) ∧
                post (some (.int v5)) m5)) ∧
              (¬ (m4.1 1 0) < (nI 16) →
                post (some (.int (-4))) m4))) ∧
            (x1 = x2 →
              post (some (.int (-3))) m4))) ∧
          (v4 = 0 →
            post (some (.int (-2))) m4))))))) ∧
      (v2 = 0 →
        post (some (.int (-1))) m2))))))) :
    a_Spec G sX6_duct [.ref 0, .int x1, .int x2, .int x3, .int x4] μ post := a_enter (by decide +kernel) rfl (a_run (S := sX6_duct) (pg := pX6_duct) (tab := tX6) [] 34 (a_okT_e tX6_ok) pX6_duct_ok rfl h)
set_option maxRecDepth 100000 in
set_option maxHeartbeats 4000000 in
theorem w_X6_isKind_0 {G : aG} {μ : aMem} {post : aPost} (x0 : Int32) (h :
    a_Spec G sX6_isWithin [.int x0, .int (nI 0), .int (nI 3)] μ (fun r1 m1 => ∃ v1 : Int32, r1 = some (.int v1) ∧
    (v1 = 0 ∨ v1 = 1) ∧ post (some (.int v1)) m1)) :
    a_Spec G sX6_isKind [.int x0] μ post := a_enter (by decide +kernel) rfl (a_run (S := sX6_isKind) (pg := pX6_isKind) (tab := tX6) [] 7 (a_okT_e tX6_ok) pX6_isKind_ok rfl h)
set_option maxRecDepth 100000 in
set_option maxHeartbeats 4000000 in
theorem w_X6_wire_0 {G : aG} {μ : aMem} {post : aPost} (x1 : Int32) (x2 : Int32) (x3 : Int32) (x4 : Int32) (h :
    a_Spec G sX6_isPlace [.int x1] μ (fun r1 m1 => ∃ v1 : Int32, r1 = some (.int v1) ∧
    ((v1 = 0 →
      post (some (.int (-1))) m1) ∧
    (¬ v1 = 0 →
      a_Spec G sX6_isPlace [.int x2] m1 (fun r2 m2 => ∃ v2 : Int32, r2 = some (.int v2) ∧
      ((¬ v2 = 0 →
        a_Spec G sX6_isWithin [.int x3, .int (nI 1), .int (nI 50)] m2 (fun r3 m3 => ∃ v3 : Int32, r3 = some (.int v3) ∧
        ((v3 = 0 →
          post (some (.int (-2))) m3) ∧
        (¬ v3 = 0 →
          a_Spec G sX6_isKind [.int x4] m3 (fun r4 m4 => ∃ v4 : Int32, r4 = some (.int v4) ∧
          ((¬ v4 = 0 →
            ((¬ x1 = x2 →
              (((m4.1 2 0) < (nI 20) →
                ((nI 1) = 0 ∨ (nI 1) = 1) ∧
                a_Spec G sX5_add [.ref 2, .int x1, .int x2, .int x3, .int x4] (va_up m4.1 5 (upd (m4.1 5) 2 (nI 1)), m4.2) (fun r5 m5 => ∃ v5 : Int32, r5 = some (.int v5) ∧
                post (some (.int v5)) m5)) ∧
              (¬ (m4.1 2 0) < (nI 20) →
                post (some (.int (-4))) m4))) ∧
            (x1 = x2 →
              post (some (.int (-3))) m4))) ∧
          (v4 = 0 →
            post (some (.int (-2))) m4))))))) ∧
      (v2 = 0 →
        post (some (.int (-1))) m2))))))) :
    a_Spec G sX6_wire [.ref 0, .int x1, .int x2, .int x3, .int x4] μ post := a_enter (by decide +kernel) rfl (a_run (S := sX6_wire) (pg := pX6_wire) (tab := tX6) [] 36 (a_okT_e tX6_ok) pX6_wire_ok rfl h)
set_option maxRecDepth 100000 in
set_option maxHeartbeats 4000000 in
theorem w_X6_apart_0 {G : aG} {μ : aMem} {post : aPost} (x1 : Int32) (x2 : Int32) (x3 : Int32) (h :
    a_Spec G sX6_isKind [.int x1] μ (fun r1 m1 => ∃ v1 : Int32, r1 = some (.int v1) ∧
    ((v1 = 0 →
      post (some (.int (-2))) m1) ∧
    (¬ v1 = 0 →
      a_Spec G sX6_isKind [.int x2] m1 (fun r2 m2 => ∃ v2 : Int32, r2 = some (.int v2) ∧
      ((¬ v2 = 0 →
        ((¬ x1 = x2 →
          a_Spec G sX5_areApart [.ref 2, .int x1, .int x2] m2 (fun r3 m3 => ∃ v3 : Int32, r3 = some (.int v3) ∧
          ((v3 = 0 →
            a_Spec G sX5_setApart [.ref 2, .int x1, .int x2, .int x3] m3 (fun r4 m4 => r4 = none ∧
            post (some (.int (nI 0))) m4)) ∧
          (¬ v3 = 0 →
            a_Spec G sX5_setApart [.ref 2, .int x1, .int x2, .int x3] m3 (fun r5 m5 => r5 = none ∧
            post (some (.int (nI 1))) m5))))) ∧
        (x1 = x2 →
          post (some (.int (-3))) m2))) ∧
      (v2 = 0 →
        post (some (.int (-2))) m2))))))) :
    a_Spec G sX6_apart [.ref 0, .int x1, .int x2, .int x3] μ post := a_enter (by decide +kernel) rfl (a_run (S := sX6_apart) (pg := pX6_apart) (tab := tX6) [] 28 (a_okT_e tX6_ok) pX6_apart_ok rfl h)
set_option maxRecDepth 100000 in
set_option maxHeartbeats 4000000 in
theorem w_X6_isWire_0 {G : aG} {μ : aMem} {post : aPost} (x1 : Int32) (h :
    a_Spec G sX6_isWithin [.int x1, .int (nI 0), .int ((μ.1 2 0) - (nI 1))] μ (fun r1 m1 => ∃ v1 : Int32, r1 = some (.int v1) ∧
    (v1 = 0 ∨ v1 = 1) ∧ post (some (.int v1)) m1)) :
    a_Spec G sX6_isWire [.ref 0, .int x1] μ post := a_enter (by decide +kernel) rfl (a_run (S := sX6_isWire) (pg := pX6_isWire) (tab := tX6) [] 11 (a_okT_e tX6_ok) pX6_isWire_ok rfl h)
set_option maxRecDepth 100000 in
set_option maxHeartbeats 4000000 in
theorem w_X6_openDucts_0 {G : aG} {μ : aMem} {post : aPost} (x1 : Int32) (h :
    a_Runs G sX6_openDucts 4 [(0, .ref 0), (1, .int x1), (2, .int (nI 0)), (3, .int (nI 0))] [] μ post) :
    a_Spec G sX6_openDucts [.ref 0, .int x1] μ post := a_enter (by decide +kernel) rfl (a_run (S := sX6_openDucts) (pg := pX6_openDucts) (tab := tX6) [(4, [0, 1, 2, 3])] 7 (a_okT_e tX6_ok) pX6_openDucts_ok rfl h)
set_option maxRecDepth 100000 in
set_option maxHeartbeats 4000000 in
theorem w_X6_openDucts_4 {G : aG} {μ : aMem} {post : aPost} (x1 : Int32) (x2 : Int32) (x3 : Int32) (h :
    (((μ.1 1 0) ≤ x3 →
      post (some (.int x2)) μ) ∧
    (¬ (μ.1 1 0) ≤ x3 →
      vp_in x3 16 ∧
      a_Spec G sX5_mayGoThrough [.ref 2, .int x1, .int x3, .int (μ.1 11 x3.toNatClampNeg)] μ (fun r1 m1 => ∃ v1 : Int32, r1 = some (.int v1) ∧
      ((v1 = 0 →
        a_Runs G sX6_openDucts 4 [(0, .ref 0), (1, .int x1), (2, .int x2), (3, .int (x3 + nI 1))] [] m1 post) ∧
      (¬ v1 = 0 →
        a_Runs G sX6_openDucts 4 [(0, .ref 0), (1, .int x1), (2, .int (x2 ||| ((nI 1) <<< (x3 &&& 31)))), (3, .int (x3 + nI 1))] [] m1 post)))))) :
    a_Runs G sX6_openDucts 4 [(0, .ref 0), (1, .int x1), (2, .int x2), (3, .int x3)] [] μ post := a_run (S := sX6_openDucts) (pg := pX6_openDucts) (tab := tX6) [(4, [0, 1, 2, 3])] 27 (a_okT_e tX6_ok) pX6_openDucts_ok rfl h
set_option maxRecDepth 100000 in
set_option maxHeartbeats 4000000 in
theorem w_X6_lay_0 {G : aG} {μ : aMem} {post : aPost} (x1 : Int32) (h :
    a_Spec G sX6_isWire [.ref 0, .int x1] μ (fun r1 m1 => ∃ v1 : Int32, r1 = some (.int v1) ∧
    ((¬ v1 = 0 →
      a_Spec G sX5_isLaid [.ref 2, .int x1] m1 (fun r2 m2 => ∃ v2 : Int32, r2 = some (.int v2) ∧
      ((v2 = 0 →
        a_Spec G sX6_openDucts [.ref 0, .int x1] m2 (fun r3 m3 => ∃ v3 : Int32, r3 = some (.int v3) ∧
        a_Spec G sX3_open [.ref 3, .int v3] m3 (fun r4 m4 => r4 = none ∧
        vp_in x1 20 ∧
        vp_in x1 20 ∧
        a_Spec G sX3_leastLength [.ref 3, .int (m4.1 13 x1.toNatClampNeg), .int (m4.1 14 x1.toNatClampNeg)] m4 (fun r5 m5 => ∃ v5 : Int32, r5 = some (.int v5) ∧
        ((¬ v5 = (-9) →
          vp_in x1 20 ∧
          vp_in x1 20 ∧
          a_Spec G sX3_walk [.ref 3, .int (m5.1 13 x1.toNatClampNeg), .int (m5.1 14 x1.toNatClampNeg)] m5 (fun r6 m6 => r6 = none ∧
          a_Spec G sX5_putThrough [.ref 2, .int x1, .ref 25, .int (m6.1 3 5), .int v5] m6 (fun r7 m7 => r7 = none ∧
          post (some (.int v5)) m7))) ∧
        (v5 = (-9) →
          post (some (.int (-9))) m5)))))) ∧
      (¬ v2 = 0 →
        post (some (.int (-3))) m2)))) ∧
    (v1 = 0 →
      post (some (.int (-1))) m1)))) :
    a_Spec G sX6_lay [.ref 0, .int x1] μ post := a_enter (by decide +kernel) rfl (a_run (S := sX6_lay) (pg := pX6_lay) (tab := tX6) [] 60 (a_okT_e tX6_ok) pX6_lay_ok rfl h)
set_option maxRecDepth 100000 in
set_option maxHeartbeats 4000000 in
theorem w_X6_lift_0 {G : aG} {μ : aMem} {post : aPost} (x1 : Int32) (h :
    a_Spec G sX6_isWire [.ref 0, .int x1] μ (fun r1 m1 => ∃ v1 : Int32, r1 = some (.int v1) ∧
    ((¬ v1 = 0 →
      a_Spec G sX5_isLaid [.ref 2, .int x1] m1 (fun r2 m2 => ∃ v2 : Int32, r2 = some (.int v2) ∧
      ((¬ v2 = 0 →
        vp_in x1 20 ∧
        a_Spec G sX5_takeOut [.ref 2, .int x1] m2 (fun r3 m3 => r3 = none ∧
        post (some (.int (m2.1 19 x1.toNatClampNeg))) m3)) ∧
      (v2 = 0 →
        post (some (.int (-3))) m2)))) ∧
    (v1 = 0 →
      post (some (.int (-1))) m1)))) :
    a_Spec G sX6_lift [.ref 0, .int x1] μ post := a_enter (by decide +kernel) rfl (a_run (S := sX6_lift) (pg := pX6_lift) (tab := tX6) [] 23 (a_okT_e tX6_ok) pX6_lift_ok rfl h)
set_option maxRecDepth 100000 in
set_option maxHeartbeats 4000000 in
theorem w_X6_way_0 {G : aG} {μ : aMem} {post : aPost} (x1 : Int32) (x2 : Int32) (h :
    a_Spec G sX6_isWire [.ref 0, .int x1] μ (fun r1 m1 => ∃ v1 : Int32, r1 = some (.int v1) ∧
    ((¬ v1 = 0 →
      a_Spec G sX5_step [.ref 2, .int x1, .int x2] m1 (fun r2 m2 => ∃ v2 : Int32, r2 = some (.int v2) ∧
      post (some (.int v2)) m2)) ∧
    (v1 = 0 →
      post (some (.int (-1))) m1)))) :
    a_Spec G sX6_way [.ref 0, .int x1, .int x2] μ post := a_enter (by decide +kernel) rfl (a_run (S := sX6_way) (pg := pX6_way) (tab := tX6) [] 12 (a_okT_e tX6_ok) pX6_way_ok rfl h)
set_option maxRecDepth 100000 in
set_option maxHeartbeats 4000000 in
theorem w_X6_length_0 {G : aG} {μ : aMem} {post : aPost} (x1 : Int32) (h :
    a_Spec G sX6_isWire [.ref 0, .int x1] μ (fun r1 m1 => ∃ v1 : Int32, r1 = some (.int v1) ∧
    ((¬ v1 = 0 →
      a_Spec G sX5_isLaid [.ref 2, .int x1] m1 (fun r2 m2 => ∃ v2 : Int32, r2 = some (.int v2) ∧
      ((v2 = 0 →
        post (some (.int (-9))) m2) ∧
      (¬ v2 = 0 →
        vp_in x1 20 ∧
        post (some (.int (m2.1 19 x1.toNatClampNeg))) m2)))) ∧
    (v1 = 0 →
      post (some (.int (-1))) m1)))) :
    a_Spec G sX6_length [.ref 0, .int x1] μ post := a_enter (by decide +kernel) rfl (a_run (S := sX6_length) (pg := pX6_length) (tab := tX6) [] 18 (a_okT_e tX6_ok) pX6_length_ok rfl h)
set_option maxRecDepth 100000 in
set_option maxHeartbeats 4000000 in
theorem w_X6_left_0 {G : aG} {μ : aMem} {post : aPost} (x1 : Int32) (x2 : Int32) (h :
    a_Spec G sX6_isWithin [.int x1, .int (nI 0), .int ((μ.1 1 0) - (nI 1))] μ (fun r1 m1 => ∃ v1 : Int32, r1 = some (.int v1) ∧
    ((¬ v1 = 0 →
      ((x2 = 0 →
        vp_in x1 16 ∧
        a_Spec G sX5_thicknessThrough [.ref 2, .int x1] m1 (fun r2 m2 => ∃ v2 : Int32, r2 = some (.int v2) ∧
        post (some (.int ((m1.1 11 x1.toNatClampNeg) - v2))) m2)) ∧
      (¬ x2 = 0 →
        a_Spec G sX5_laidThrough [.ref 2, .int x1] m1 (fun r3 m3 => ∃ v3 : Int32, r3 = some (.int v3) ∧
        post (some (.int v3)) m3)))) ∧
    (v1 = 0 →
      post (some (.int (-1))) m1)))) :
    a_Spec G sX6_left [.ref 0, .int x1, .int x2] μ post := a_enter (by decide +kernel) rfl (a_run (S := sX6_left) (pg := pX6_left) (tab := tX6) [] 24 (a_okT_e tX6_ok) pX6_left_ok rfl h)
set_option maxRecDepth 100000 in
set_option maxHeartbeats 4000000 in
theorem w_X6_dividedUp_0 {G : aG} {μ : aMem} {post : aPost} (x0 : Int32) (x1 : Int32) (h :
    (((nI 1) ≤ x1 →
      ¬ x1 = 0 ∧
      post (some (.int (((x0 + x1) - (nI 1)) / x1))) μ) ∧
    (¬ (nI 1) ≤ x1 →
      post (some (.int x0)) μ))) :
    a_Spec G sX6_dividedUp [.int x0, .int x1] μ post := a_enter (by decide +kernel) rfl (a_run (S := sX6_dividedUp) (pg := pX6_dividedUp) (tab := tX6) [] 13 (a_okT_e tX6_ok) pX6_dividedUp_ok rfl h)
set_option maxRecDepth 100000 in
set_option maxHeartbeats 4000000 in
theorem w_X6_loss_0 {G : aG} {μ : aMem} {post : aPost} (x1 : Int32) (x2 : Int32) (h :
    a_Spec G sX6_isWire [.ref 0, .int x1] μ (fun r1 m1 => ∃ v1 : Int32, r1 = some (.int v1) ∧
    ((¬ v1 = 0 →
      a_Spec G sX6_isWithin [.int x2, .int (nI 1), .int (nI 100)] m1 (fun r2 m2 => ∃ v2 : Int32, r2 = some (.int v2) ∧
      ((¬ v2 = 0 →
        a_Spec G sX5_isLaid [.ref 2, .int x1] m2 (fun r3 m3 => ∃ v3 : Int32, r3 = some (.int v3) ∧
        ((¬ v3 = 0 →
          vp_in x1 20 ∧
          vp_in x1 20 ∧
          a_Spec G sX6_dividedUp [.int (((nI 20) * x2) * (m3.1 19 x1.toNatClampNeg)), .int (m3.1 15 x1.toNatClampNeg)] m3 (fun r4 m4 => ∃ v4 : Int32, r4 = some (.int v4) ∧
          post (some (.int v4)) m4)) ∧
        (v3 = 0 →
          post (some (.int (-3))) m3)))) ∧
      (v2 = 0 →
        post (some (.int (-2))) m2)))) ∧
    (v1 = 0 →
      post (some (.int (-1))) m1)))) :
    a_Spec G sX6_loss [.ref 0, .int x1, .int x2] μ post := a_enter (by decide +kernel) rfl (a_run (S := sX6_loss) (pg := pX6_loss) (tab := tX6) [] 32 (a_okT_e tX6_ok) pX6_loss_ok rfl h)
set_option maxRecDepth 100000 in
set_option maxHeartbeats 4000000 in
theorem w_X6_clashes_0 {G : aG} {μ : aMem} {post : aPost}  (h :
    a_Runs G sX6_clashes 4 [(0, .ref 0), (1, .int (nI 0)), (2, .int (nI 0))] [] μ post) :
    a_Spec G sX6_clashes [.ref 0] μ post := a_enter (by decide +kernel) rfl (a_run (S := sX6_clashes) (pg := pX6_clashes) (tab := tX6) [(4, [0, 1, 2])] 7 (a_okT_e tX6_ok) pX6_clashes_ok rfl h)
set_option maxRecDepth 100000 in
set_option maxHeartbeats 4000000 in
theorem w_X6_clashes_4 {G : aG} {μ : aMem} {post : aPost} (x1 : Int32) (x2 : Int32) (h :
    (((μ.1 2 0) ≤ x2 →
      post (some (.int x1)) μ) ∧
    (¬ (μ.1 2 0) ≤ x2 →
      a_Spec G sX5_isClashing [.ref 2, .int x2] μ (fun r1 m1 => ∃ v1 : Int32, r1 = some (.int v1) ∧
      ((v1 = 0 →
        a_Runs G sX6_clashes 4 [(0, .ref 0), (1, .int x1), (2, .int (x2 + nI 1))] [] m1 post) ∧
      (¬ v1 = 0 →
        a_Runs G sX6_clashes 4 [(0, .ref 0), (1, .int (x1 + nI 1)), (2, .int (x2 + nI 1))] [] m1 post)))))) :
    a_Runs G sX6_clashes 4 [(0, .ref 0), (1, .int x1), (2, .int x2)] [] μ post := a_run (S := sX6_clashes) (pg := pX6_clashes) (tab := tX6) [(4, [0, 1, 2])] 16 (a_okT_e tX6_ok) pX6_clashes_ok rfl h
set_option maxRecDepth 100000 in
set_option maxHeartbeats 4000000 in
theorem w_X6_far_0 {G : aG} {μ : aMem} {post : aPost} (x1 : Int32) (x2 : Int32) (h :
    a_Spec G sX6_isPlace [.int x1] μ (fun r1 m1 => ∃ v1 : Int32, r1 = some (.int v1) ∧
    ((v1 = 0 →
      post (some (.int (-1))) m1) ∧
    (¬ v1 = 0 →
      a_Spec G sX6_isPlace [.int x2] m1 (fun r2 m2 => ∃ v2 : Int32, r2 = some (.int v2) ∧
      ((¬ v2 = 0 →
        ((¬ x1 = x2 →
          a_Spec G sX0_allBits [.ref 1] m2 (fun r3 m3 => ∃ v3 : Int32, r3 = some (.int v3) ∧
          a_Spec G sX3_open [.ref 3, .int v3] m3 (fun r4 m4 => r4 = none ∧
          a_Spec G sX3_leastLength [.ref 3, .int x1, .int x2] m4 (fun r5 m5 => ∃ v5 : Int32, r5 = some (.int v5) ∧
          post (some (.int v5)) m5)))) ∧
        (x1 = x2 →
          post (some (.int (-3))) m2))) ∧
      (v2 = 0 →
        post (some (.int (-1))) m2))))))) :
    a_Spec G sX6_far [.ref 0, .int x1, .int x2] μ post := a_enter (by decide +kernel) rfl (a_run (S := sX6_far) (pg := pX6_far) (tab := tX6) [] 23 (a_okT_e tX6_ok) pX6_far_ok rfl h)
set_option maxRecDepth 100000 in
set_option maxHeartbeats 4000000 in
theorem w_X6_two_0 {G : aG} {μ : aMem} {post : aPost} (x1 : Int32) (x2 : Int32) (h :
    a_Spec G sX6_isPlace [.int x1] μ (fun r1 m1 => ∃ v1 : Int32, r1 = some (.int v1) ∧
    ((v1 = 0 →
      post (some (.int (-1))) m1) ∧
    (¬ v1 = 0 →
      a_Spec G sX6_isPlace [.int x2] m1 (fun r2 m2 => ∃ v2 : Int32, r2 = some (.int v2) ∧
      ((¬ v2 = 0 →
        ((¬ x1 = x2 →
          a_Spec G sX3_leastLengthOfTwo [.ref 3, .int x1, .int x2] m2 (fun r3 m3 => ∃ v3 : Int32, r3 = some (.int v3) ∧
          post (some (.int v3)) m3)) ∧
        (x1 = x2 →
          post (some (.int (-3))) m2))) ∧
      (v2 = 0 →
        post (some (.int (-1))) m2))))))) :
    a_Spec G sX6_two [.ref 0, .int x1, .int x2] μ post := a_enter (by decide +kernel) rfl (a_run (S := sX6_two) (pg := pX6_two) (tab := tX6) [] 17 (a_okT_e tX6_ok) pX6_two_ok rfl h)
set_option maxRecDepth 100000 in
set_option maxHeartbeats 4000000 in
theorem w_X6_isNetOfPlaces_0 {G : aG} {μ : aMem} {post : aPost} (x0 : Int32) (h :
    a_Spec G sX6_isWithin [.int x0, .int (nI 0), .int (nI 1023)] μ (fun r1 m1 => ∃ v1 : Int32, r1 = some (.int v1) ∧
    ((v1 = 0 →
      ((nI 0) = 0 ∨ (nI 0) = 1) ∧ post (some (.int (nI 0))) m1) ∧
    (¬ v1 = 0 →
      a_Spec G sJ6_bitCount_0f7a4 [.int x0] m1 (fun r2 m2 => ∃ v2 : Int32, r2 = some (.int v2) ∧
      ((v2 < (nI 2) →
        ((nI 0) = 0 ∨ (nI 0) = 1) ∧ post (some (.int (nI 0))) m2) ∧
      (¬ v2 < (nI 2) →
        ((nI 1) = 0 ∨ (nI 1) = 1) ∧ post (some (.int (nI 1))) m2))))))) :
    a_Spec G sX6_isNetOfPlaces [.int x0] μ post := a_enter (by decide +kernel) rfl (a_run (S := sX6_isNetOfPlaces) (pg := pX6_isNetOfPlaces) (tab := tX6) [] 14 (a_okT_e tX6_ok) pX6_isNetOfPlaces_ok rfl h)
set_option maxRecDepth 100000 in
set_option maxHeartbeats 4000000 in
theorem w_X6_net_0 {G : aG} {μ : aMem} {post : aPost} (x1 : Int32) (h :
    a_Spec G sX6_isNetOfPlaces [.int x1] μ (fun r1 m1 => ∃ v1 : Int32, r1 = some (.int v1) ∧
    ((¬ v1 = 0 →
      a_Spec G sX4_compare [.ref 4, .int x1] m1 (fun r2 m2 => r2 = none ∧
      ((¬ (m2.1 4 3) = (nI 1000000) →
        post (some (.int (m2.1 4 3))) m2) ∧
      ((m2.1 4 3) = (nI 1000000) →
        post (some (.int (-9))) m2)))) ∧
    (v1 = 0 →
      post (some (.int (-2))) m1)))) :
    a_Spec G sX6_net [.ref 0, .int x1] μ post := a_enter (by decide +kernel) rfl (a_run (S := sX6_net) (pg := pX6_net) (tab := tX6) [] 18 (a_okT_e tX6_ok) pX6_net_ok rfl h)
set_option maxRecDepth 100000 in
set_option maxHeartbeats 4000000 in
theorem w_X6_splice_0 {G : aG} {μ : aMem} {post : aPost} (x1 : Int32) (h :
    a_Spec G sX6_isNetOfPlaces [.int x1] μ (fun r1 m1 => ∃ v1 : Int32, r1 = some (.int v1) ∧
    ((¬ v1 = 0 →
      a_Spec G sX4_compare [.ref 4, .int x1] m1 (fun r2 m2 => r2 = none ∧
      a_Spec G sX4_firstNeeded [.ref 4, .int x1] m2 (fun r3 m3 => ∃ v3 : Int32, r3 = some (.int v3) ∧
      post (some (.int v3)) m3))) ∧
    (v1 = 0 →
      post (some (.int (-2))) m1)))) :
    a_Spec G sX6_splice [.ref 0, .int x1] μ post := a_enter (by decide +kernel) rfl (a_run (S := sX6_splice) (pg := pX6_splice) (tab := tX6) [] 14 (a_okT_e tX6_ok) pX6_splice_ok rfl h)
set_option maxRecDepth 100000 in
set_option maxHeartbeats 4000000 in
theorem w_X6_option_0 {G : aG} {μ : aMem} {post : aPost} (x1 : Int32) (x2 : Int32) (h :
    a_Spec G sX6_isWire [.ref 0, .int x1] μ (fun r1 m1 => ∃ v1 : Int32, r1 = some (.int v1) ∧
    ((¬ v1 = 0 →
      a_Spec G sX6_isWithin [.int x2, .int (nI 0), .int (nI 255)] m1 (fun r2 m2 => ∃ v2 : Int32, r2 = some (.int v2) ∧
      ((¬ v2 = 0 →
        vp_in x1 20 ∧
        vp_in x1 20 ∧
        ((nI 1) = 0 ∨ (nI 1) = 1) ∧
        post (some (.int (m2.1 17 x1.toNatClampNeg))) (va_up (va_up m2.1 17 (upd (m2.1 17) x1.toNatClampNeg x2)) 5 (upd (m2.1 5) 2 (nI 1)), m2.2)) ∧
      (v2 = 0 →
        post (some (.int (-2))) m2)))) ∧
    (v1 = 0 →
      post (some (.int (-1))) m1)))) :
    a_Spec G sX6_option [.ref 0, .int x1, .int x2] μ post := a_enter (by decide +kernel) rfl (a_run (S := sX6_option) (pg := pX6_option) (tab := tX6) [] 29 (a_okT_e tX6_ok) pX6_option_ok rfl h)
set_option maxRecDepth 100000 in
set_option maxHeartbeats 4000000 in
theorem w_X6_order_0 {G : aG} {μ : aMem} {post : aPost} (x1 : Int32) (x2 : Int32) (h :
    a_Spec G sX6_isWithin [.int x1, .int (nI 0), .int (nI 255)] μ (fun r1 m1 => ∃ v1 : Int32, r1 = some (.int v1) ∧
    ((v1 = 0 →
      post (some (.int (-2))) m1) ∧
    (¬ v1 = 0 →
      a_Spec G sX6_isWithin [.int x2, .int (nI 1), .int (nI 1000)] m1 (fun r2 m2 => ∃ v2 : Int32, r2 = some (.int v2) ∧
      ((¬ v2 = 0 →
        (((m2.1 5 0) < (nI 8) →
          a_Spec G sX1_add [.ref 5, .int x1, .int x2] m2 (fun r3 m3 => ∃ v3 : Int32, r3 = some (.int v3) ∧
          post (some (.int v3)) m3)) ∧
        (¬ (m2.1 5 0) < (nI 8) →
          post (some (.int (-4))) m2))) ∧
      (v2 = 0 →
        post (some (.int (-2))) m2))))))) :
    a_Spec G sX6_order [.ref 0, .int x1, .int x2] μ post := a_enter (by decide +kernel) rfl (a_run (S := sX6_order) (pg := pX6_order) (tab := tX6) [] 23 (a_okT_e tX6_ok) pX6_order_ok rfl h)
set_option maxRecDepth 100000 in
set_option maxHeartbeats 4000000 in
theorem w_X6_setup_0 {G : aG} {μ : aMem} {post : aPost} (x1 : Int32) (h :
    a_Spec G sX6_isWithin [.int x1, .int (nI 0), .int (nI 100000)] μ (fun r1 m1 => ∃ v1 : Int32, r1 = some (.int v1) ∧
    ((¬ v1 = 0 →
      ((nI 1) = 0 ∨ (nI 1) = 1) ∧
      post (some (.int (m1.1 5 1))) (va_up (va_up m1.1 5 (upd (m1.1 5) 1 x1)) 5 (upd (upd (m1.1 5) 1 x1) 2 (nI 1)), m1.2)) ∧
    (v1 = 0 →
      post (some (.int (-2))) m1)))) :
    a_Spec G sX6_setup [.ref 0, .int x1] μ post := a_enter (by decide +kernel) rfl (a_run (S := sX6_setup) (pg := pX6_setup) (tab := tX6) [] 21 (a_okT_e tX6_ok) pX6_setup_ok rfl h)
set_option maxRecDepth 100000 in
set_option maxHeartbeats 4000000 in
theorem w_X6_weight_0 {G : aG} {μ : aMem} {post : aPost} (x1 : Int32) (h :
    a_Spec G sX1_allBits [.ref 5] μ (fun r1 m1 => ∃ v1 : Int32, r1 = some (.int v1) ∧
    (((x1 &&& (v1 ^^^ (-1))) = 0 →
      a_Spec G sX1_wiresFor [.ref 5, .int x1] m1 (fun r2 m2 => ∃ v2 : Int32, r2 = some (.int v2) ∧
      a_Spec G sX5_weightOf [.ref 2, .int v2] m2 (fun r3 m3 => ∃ v3 : Int32, r3 = some (.int v3) ∧
      post (some (.int v3)) m3))) ∧
    (¬ (x1 &&& (v1 ^^^ (-1))) = 0 →
      post (some (.int (-1))) m1)))) :
    a_Spec G sX6_weight [.ref 0, .int x1] μ post := a_enter (by decide +kernel) rfl (a_run (S := sX6_weight) (pg := pX6_weight) (tab := tX6) [] 18 (a_okT_e tX6_ok) pX6_weight_ok rfl h)
set_option maxRecDepth 100000 in
set_option maxHeartbeats 4000000 in
theorem w_X6_best_0 {G : aG} {μ : aMem} {post : aPost}  (h :
    a_Spec G sX1_bestCost [.ref 5] μ (fun r1 m1 => ∃ v1 : Int64, r1 = some (.long v1) ∧
    post (some (.long v1)) m1)) :
    a_Spec G sX6_best [.ref 0] μ post := a_enter (by decide +kernel) rfl (a_run (S := sX6_best) (pg := pX6_best) (tab := tX6) [] 6 (a_okT_e tX6_ok) pX6_best_ok rfl h)
set_option maxRecDepth 100000 in
set_option maxHeartbeats 4000000 in
theorem w_X6_loom_0 {G : aG} {μ : aMem} {post : aPost} (x1 : Int32) (h :
    a_Spec G sX6_isWithin [.int x1, .int (nI 0), .int ((μ.1 5 0) - (nI 1))] μ (fun r1 m1 => ∃ v1 : Int32, r1 = some (.int v1) ∧
    ((¬ v1 = 0 →
      a_Spec G sX1_loomOf [.ref 5, .int x1] m1 (fun r2 m2 => ∃ v2 : Int32, r2 = some (.int v2) ∧
      post (some (.int v2)) m2)) ∧
    (v1 = 0 →
      post (some (.int (-1))) m1)))) :
    a_Spec G sX6_loom [.ref 0, .int x1] μ post := a_enter (by decide +kernel) rfl (a_run (S := sX6_loom) (pg := pX6_loom) (tab := tX6) [] 16 (a_okT_e tX6_ok) pX6_loom_ok rfl h)
set_option maxRecDepth 100000 in
set_option maxHeartbeats 4000000 in
theorem w_X6_alike_0 {G : aG} {μ : aMem} {post : aPost}  (h :
    a_Runs G sX6_alike 4 [(0, .ref 0), (1, .int (nI 0)), (2, .int (nI 0))] [] μ post) :
    a_Spec G sX6_alike [.ref 0] μ post := a_enter (by decide +kernel) rfl (a_run (S := sX6_alike) (pg := pX6_alike) (tab := tX6) [(4, [0, 1, 2])] 7 (a_okT_e tX6_ok) pX6_alike_ok rfl h)
set_option maxRecDepth 100000 in
set_option maxHeartbeats 4000000 in
theorem w_X6_alike_4 {G : aG} {μ : aMem} {post : aPost} (x1 : Int32) (x2 : Int32) (h :
    (((μ.1 5 0) ≤ x2 →
      post (some (.int x1)) μ) ∧
    (¬ (μ.1 5 0) ≤ x2 →
      a_Spec G sX1_hasTwin [.ref 5, .int x2] μ (fun r1 m1 => ∃ v1 : Int32, r1 = some (.int v1) ∧
      ((v1 = 0 →
        a_Runs G sX6_alike 4 [(0, .ref 0), (1, .int x1), (2, .int (x2 + nI 1))] [] m1 post) ∧
      (¬ v1 = 0 →
        a_Runs G sX6_alike 4 [(0, .ref 0), (1, .int (x1 + nI 1)), (2, .int (x2 + nI 1))] [] m1 post)))))) :
    a_Runs G sX6_alike 4 [(0, .ref 0), (1, .int x1), (2, .int x2)] [] μ post := a_run (S := sX6_alike) (pg := pX6_alike) (tab := tX6) [(4, [0, 1, 2])] 16 (a_okT_e tX6_ok) pX6_alike_ok rfl h
set_option maxRecDepth 100000 in
set_option maxHeartbeats 4000000 in
theorem w_X6_isPin_0 {G : aG} {μ : aMem} {post : aPost} (x0 : Int32) (h :
    a_Spec G sX6_isWithin [.int x0, .int (nI 0), .int (nI 15)] μ (fun r1 m1 => ∃ v1 : Int32, r1 = some (.int v1) ∧
    (v1 = 0 ∨ v1 = 1) ∧ post (some (.int v1)) m1)) :
    a_Spec G sX6_isPin [.int x0] μ post := a_enter (by decide +kernel) rfl (a_run (S := sX6_isPin) (pg := pX6_isPin) (tab := tX6) [] 7 (a_okT_e tX6_ok) pX6_isPin_ok rfl h)
set_option maxRecDepth 100000 in
set_option maxHeartbeats 4000000 in
theorem w_X6_isNet_0 {G : aG} {μ : aMem} {post : aPost} (x0 : Int32) (h :
    a_Spec G sX6_isWithin [.int x0, .int (nI 0), .int (nI 7)] μ (fun r1 m1 => ∃ v1 : Int32, r1 = some (.int v1) ∧
    (v1 = 0 ∨ v1 = 1) ∧ post (some (.int v1)) m1)) :
    a_Spec G sX6_isNet [.int x0] μ post := a_enter (by decide +kernel) rfl (a_run (S := sX6_isNet) (pg := pX6_isNet) (tab := tX6) [] 7 (a_okT_e tX6_ok) pX6_isNet_ok rfl h)
set_option maxRecDepth 100000 in
set_option maxHeartbeats 4000000 in
theorem w_X6_pin_0 {G : aG} {μ : aMem} {post : aPost} (x1 : Int32) (x2 : Int32) (h :
    a_Spec G sX6_isPin [.int x1] μ (fun r1 m1 => ∃ v1 : Int32, r1 = some (.int v1) ∧
    ((v1 = 0 →
      post (some (.int (-1))) m1) ∧
    (¬ v1 = 0 →
      a_Spec G sX6_isNet [.int x2] m1 (fun r2 m2 => ∃ v2 : Int32, r2 = some (.int v2) ∧
      ((¬ v2 = 0 →
        vp_in x1 16 ∧
        vp_in x1 16 ∧
        post (some (.int (m2.1 35 x1.toNatClampNeg))) (va_up m2.1 35 (upd (m2.1 35) x1.toNatClampNeg x2), m2.2)) ∧
      (v2 = 0 →
        post (some (.int (-1))) m2))))))) :
    a_Spec G sX6_pin [.ref 0, .int x1, .int x2] μ post := a_enter (by decide +kernel) rfl (a_run (S := sX6_pin) (pg := pX6_pin) (tab := tX6) [] 22 (a_okT_e tX6_ok) pX6_pin_ok rfl h)
set_option maxRecDepth 100000 in
set_option maxHeartbeats 4000000 in
theorem w_X6_tests_0 {G : aG} {μ : aMem} {post : aPost}  (h :
    a_Spec G sX2_testsNeeded [.ref 6] μ (fun r1 m1 => ∃ v1 : Int32, r1 = some (.int v1) ∧
    post (some (.int v1)) m1)) :
    a_Spec G sX6_tests [.ref 0] μ post := a_enter (by decide +kernel) rfl (a_run (S := sX6_tests) (pg := pX6_tests) (tab := tX6) [] 6 (a_okT_e tX6_ok) pX6_tests_ok rfl h)
set_option maxRecDepth 100000 in
set_option maxHeartbeats 4000000 in
theorem w_X6_side_0 {G : aG} {μ : aMem} {post : aPost} (x1 : Int32) (x2 : Int32) (h :
    a_Spec G sX6_isPin [.int x2] μ (fun r1 m1 => ∃ v1 : Int32, r1 = some (.int v1) ∧
    ((¬ v1 = 0 →
      a_Spec G sX2_testsNeeded [.ref 6] m1 (fun r2 m2 => ∃ v2 : Int32, r2 = some (.int v2) ∧
      a_Spec G sX6_isWithin [.int x1, .int (nI 0), .int (v2 - (nI 1))] m2 (fun r3 m3 => ∃ v3 : Int32, r3 = some (.int v3) ∧
      ((¬ v3 = 0 →
        vp_in x2 16 ∧
        post (some (.int (((m3.1 35 x2.toNatClampNeg) >>> (x1 &&& 31)) &&& (nI 1)))) m3) ∧
      (v3 = 0 →
        post (some (.int (-2))) m3))))) ∧
    (v1 = 0 →
      post (some (.int (-1))) m1)))) :
    a_Spec G sX6_side [.ref 0, .int x1, .int x2] μ post := a_enter (by decide +kernel) rfl (a_run (S := sX6_side) (pg := pX6_side) (tab := tX6) [] 24 (a_okT_e tX6_ok) pX6_side_ok rfl h)
set_option maxRecDepth 100000 in
set_option maxHeartbeats 4000000 in
theorem w_X6_shows_0 {G : aG} {μ : aMem} {post : aPost} (x1 : Int32) (x2 : Int32) (h :
    a_Spec G sX6_isNet [.int x1] μ (fun r1 m1 => ∃ v1 : Int32, r1 = some (.int v1) ∧
    ((v1 = 0 →
      post (some (.int (-1))) m1) ∧
    (¬ v1 = 0 →
      a_Spec G sX6_isNet [.int x2] m1 (fun r2 m2 => ∃ v2 : Int32, r2 = some (.int v2) ∧
      ((¬ v2 = 0 →
        a_Spec G sX2_isUsed [.ref 6, .int x1] m2 (fun r3 m3 => ∃ v3 : Int32, r3 = some (.int v3) ∧
        ((v3 = 0 →
          post (some (.int (-1))) m3) ∧
        (¬ v3 = 0 →
          a_Spec G sX2_isUsed [.ref 6, .int x2] m3 (fun r4 m4 => ∃ v4 : Int32, r4 = some (.int v4) ∧
          ((¬ v4 = 0 →
            ((¬ x1 = x2 →
              post (some (.int (x1 ^^^ x2))) m4) ∧
            (x1 = x2 →
              post (some (.int (-3))) m4))) ∧
          (v4 = 0 →
            post (some (.int (-1))) m4))))))) ∧
      (v2 = 0 →
        post (some (.int (-1))) m2))))))) :
    a_Spec G sX6_shows [.ref 0, .int x1, .int x2] μ post := a_enter (by decide +kernel) rfl (a_run (S := sX6_shows) (pg := pX6_shows) (tab := tX6) [] 25 (a_okT_e tX6_ok) pX6_shows_ok rfl h)
set_option maxRecDepth 100000 in
set_option maxHeartbeats 4000000 in
theorem w_X6_pairs_0 {G : aG} {μ : aMem} {post : aPost} (x1 : Int32) (h :
    a_Spec G sX2_pairsUnlikeJustIn [.ref 6, .int x1] μ (fun r1 m1 => ∃ v1 : Int32, r1 = some (.int v1) ∧
    post (some (.int v1)) m1)) :
    a_Spec G sX6_pairs [.ref 0, .int x1] μ post := a_enter (by decide +kernel) rfl (a_run (S := sX6_pairs) (pg := pX6_pairs) (tab := tX6) [] 7 (a_okT_e tX6_ok) pX6_pairs_ok rfl h)
set_option maxRecDepth 100000 in
set_option maxHeartbeats 4000000 in
theorem w_X6_count_0 {G : aG} {μ : aMem} {post : aPost} (x1 : Int32) (h :
    ((x1.toInt < 0 ∨ 5 < x1.toInt →
      post (some (.int (-2))) μ) ∧
    (x1.toInt = 0 →
      post (some (.int (μ.1 1 0))) μ) ∧
    (x1.toInt = 1 →
      post (some (.int (μ.1 2 0))) μ) ∧
    (x1.toInt = 2 →
      a_Spec G sX5_laid [.ref 2] μ (fun r1 m1 => ∃ v1 : Int32, r1 = some (.int v1) ∧
      post (some (.int v1)) m1)) ∧
    (x1.toInt = 3 →
      post (some (.int (μ.1 5 0))) μ) ∧
    (x1.toInt = 4 →
      a_Spec G sX2_usedNets [.ref 6] μ (fun r2 m2 => ∃ v2 : Int32, r2 = some (.int v2) ∧
      a_Spec G sJ6_bitCount_0f7a4 [.int v2] m2 (fun r3 m3 => ∃ v3 : Int32, r3 = some (.int v3) ∧
      post (some (.int v3)) m3))) ∧
    (x1.toInt = 5 →
      a_Spec G sX5_laidLength [.ref 2] μ (fun r4 m4 => ∃ v4 : Int32, r4 = some (.int v4) ∧
      post (some (.int v4)) m4)) ∧ True)) :
    a_Spec G sX6_count [.ref 0, .int x1] μ post := a_enter (by decide +kernel) rfl (a_run (S := sX6_count) (pg := pX6_count) (tab := tX6) [] 9 (a_okT_e tX6_ok) pX6_count_ok rfl h)
end
section
set_option maxRecDepth 100000 in
set_option maxHeartbeats 4000000 in
theorem w_X7_in_0 {G : aG} {μ : aMem} {post : aPost} (x0 : Int32) (x1 : Int32) (x2 : Int32) (h :
    ((x0 < x1 →
      ((nI 0) = 0 ∨ (nI 0) = 1) ∧ post (some (.int (nI 0))) μ) ∧
    (¬ x0 < x1 →
      ((x2 < x0 →
        ((nI 0) = 0 ∨ (nI 0) = 1) ∧ post (some (.int (nI 0))) μ) ∧
      (¬ x2 < x0 →
        ((nI 1) = 0 ∨ (nI 1) = 1) ∧ post (some (.int (nI 1))) μ))))) :
    a_Spec G sX7_in [.int x0, .int x1, .int x2] μ post := a_enter (by decide +kernel) rfl (a_run (S := sX7_in) (pg := pX7_in) (tab := tX7) [] 11 (a_okT_e tX7_ok) pX7_in_ok rfl h)
set_option maxRecDepth 100000 in
set_option maxHeartbeats 4000000 in
theorem w_X7_isPlace_0 {G : aG} {μ : aMem} {post : aPost} (x0 : Int32) (h :
    a_Spec G sX7_in [.int x0, .int (nI 0), .int (nI 9)] μ (fun r1 m1 => ∃ v1 : Int32, r1 = some (.int v1) ∧
    (v1 = 0 ∨ v1 = 1) ∧ post (some (.int v1)) m1)) :
    a_Spec G sX7_isPlace [.int x0] μ post := a_enter (by decide +kernel) rfl (a_run (S := sX7_isPlace) (pg := pX7_isPlace) (tab := tX7) [] 7 (a_okT_e tX7_ok) pX7_isPlace_ok rfl h)
set_option maxRecDepth 100000 in
set_option maxHeartbeats 4000000 in
theorem w_X7_ones_0 {G : aG} {μ : aMem} {post : aPost} (x0 : Int32) (h :
    a_Runs G sX7_ones 4 [(0, .int x0), (1, .int (nI 0)), (2, .int (nI 0))] [] μ post) :
    a_Spec G sX7_ones [.int x0] μ post := a_enter (by decide +kernel) rfl (a_run (S := sX7_ones) (pg := pX7_ones) (tab := tX7) [(4, [0, 1, 2])] 7 (a_okT_e tX7_ok) pX7_ones_ok rfl h)
set_option maxRecDepth 100000 in
set_option maxHeartbeats 4000000 in
theorem w_X7_ones_4 {G : aG} {μ : aMem} {post : aPost} (x0 : Int32) (x1 : Int32) (x2 : Int32) (h :
    (((nI 20) ≤ x2 →
      post (some (.int x1)) μ) ∧
    (¬ (nI 20) ≤ x2 →
      a_Runs G sX7_ones 4 [(0, .int x0), (1, .int (x1 + ((x0 >>> (x2 &&& 31)) &&& (nI 1)))), (2, .int (x2 + nI 1))] [] μ post))) :
    a_Runs G sX7_ones 4 [(0, .int x0), (1, .int x1), (2, .int x2)] [] μ post := a_run (S := sX7_ones) (pg := pX7_ones) (tab := tX7) [(4, [0, 1, 2])] 16 (a_okT_e tX7_ok) pX7_ones_ok rfl h
set_option maxRecDepth 100000 in
set_option maxHeartbeats 4000000 in
theorem w_X7_isDuct_0 {G : aG} {μ : aMem} {post : aPost} (x1 : Int32) (h :
    a_Spec G sX7_in [.int x1, .int (nI 0), .int ((μ.1 36 0) - (nI 1))] μ (fun r1 m1 => ∃ v1 : Int32, r1 = some (.int v1) ∧
    (v1 = 0 ∨ v1 = 1) ∧ post (some (.int v1)) m1)) :
    a_Spec G sX7_isDuct [.ref 36, .int x1] μ post := a_enter (by decide +kernel) rfl (a_run (S := sX7_isDuct) (pg := pX7_isDuct) (tab := tX7) [] 10 (a_okT_e tX7_ok) pX7_isDuct_ok rfl h)
set_option maxRecDepth 100000 in
set_option maxHeartbeats 4000000 in
theorem w_X7_isWire_0 {G : aG} {μ : aMem} {post : aPost} (x1 : Int32) (h :
    a_Spec G sX7_in [.int x1, .int (nI 0), .int ((μ.1 36 5) - (nI 1))] μ (fun r1 m1 => ∃ v1 : Int32, r1 = some (.int v1) ∧
    (v1 = 0 ∨ v1 = 1) ∧ post (some (.int v1)) m1)) :
    a_Spec G sX7_isWire [.ref 36, .int x1] μ post := a_enter (by decide +kernel) rfl (a_run (S := sX7_isWire) (pg := pX7_isWire) (tab := tX7) [] 10 (a_okT_e tX7_ok) pX7_isWire_ok rfl h)
set_option maxRecDepth 100000 in
set_option maxHeartbeats 4000000 in
theorem w_X7_duct_0 {G : aG} {μ : aMem} {post : aPost} (x1 : Int32) (x2 : Int32) (x3 : Int32) (x4 : Int32) (h :
    a_Spec G sX7_isPlace [.int x1] μ (fun r1 m1 => ∃ v1 : Int32, r1 = some (.int v1) ∧
    ((v1 = 0 →
      post (some (.int (-1))) m1) ∧
    (¬ v1 = 0 →
      a_Spec G sX7_isPlace [.int x2] m1 (fun r2 m2 => ∃ v2 : Int32, r2 = some (.int v2) ∧
      ((¬ v2 = 0 →
        a_Spec G sX7_in [.int x3, .int (nI 1), .int (nI 99)] m2 (fun r3 m3 => ∃ v3 : Int32, r3 = some (.int v3) ∧
        ((v3 = 0 →
          post (some (.int (-2))) m3) ∧
        (¬ v3 = 0 →
          a_Spec G sX7_in [.int x4, .int (nI 1), .int (nI 300)] m3 (fun r4 m4 => ∃ v4 : Int32, r4 = some (.int v4) ∧
          ((¬ v4 = 0 →
            ((¬ x1 = x2 →
              ((¬ (m4.1 36 0) = (nI 16) →
                vp_in (m4.1 36 0) 16 ∧
                vp_in (m4.1 36 0) 16 ∧
                vp_in (m4.1 36 0) 16 ∧
                vp_in (m4.1 36 0) 16 ∧
                post (some (.int (((upd (m4.1 36) 0 ((m4.1 36 0) + (nI 1))) 0) - (nI 1)))) (va_up (va_up (va_up (va_up (va_up m4.1 37 (upd (m4.1 37) ((m4.1 36 0).toNatClampNeg) x1)) 38 (upd (m4.1 38) ((m4.1 36 0).toNatClampNeg) x2)) 39 (upd (m4.1 39) ((m4.1 36 0).toNatClampNeg) x3)) 40 (upd (m4.1 40) ((m4.1 36 0).toNatClampNeg) x4)) 36 (upd (m4.1 36) 0 ((m4.1 36 0) + (nI 1))), m4.2)) ∧
              ((m4.1 36 0) = (nI 16) →
                post (some (.int (-4))) m4))) ∧
            (x1 = x2 →
              post (some (.int (-3))) m4))) ∧
          (v4 = 0 →
            post (some (.int (-2))) m4))))))) ∧
      (v2 = 0 →
        post (some (.int (-1))) m2))))))) :
    a_Spec G sX7_duct [.ref 36, .int x1, .int x2, .int x3, .int x4] μ post := a_enter (by decide +kernel) rfl (a_run (S := sX7_duct) (pg := pX7_duct) (tab := tX7) [] 60 (a_okT_e tX7_ok) pX7_duct_ok rfl h)
set_option maxRecDepth 100000 in
set_option maxHeartbeats 4000000 in
theorem w_X7_wire_0 {G : aG} {μ : aMem} {post : aPost} (x1 : Int32) (x2 : Int32) (x3 : Int32) (x4 : Int32) (h :
    a_Spec G sX7_isPlace [.int x1] μ (fun r1 m1 => ∃ v1 : Int32, r1 = some (.int v1) ∧
    ((v1 = 0 →
      post (some (.int (-1))) m1) ∧
    (¬ v1 = 0 →
      a_Spec G sX7_isPlace [.int x2] m1 (fun r2 m2 => ∃ v2 : Int32, r2 = some (.int v2) ∧
      ((¬ v2 = 0 →
        a_Spec G sX7_in [.int x3, .int (nI 1), .int (nI 50)] m2 (fun r3 m3 => ∃ v3 : Int32, r3 = some (.int v3) ∧
        ((v3 = 0 →
          post (some (.int (-2))) m3) ∧
        (¬ v3 = 0 →
          a_Spec G sX7_in [.int x4, .int (nI 0), .int (nI 3)] m3 (fun r4 m4 => ∃ v4 : Int32, r4 = some (.int v4) ∧
          ((¬ v4 = 0 →
            ((¬ x1 = x2 →
              ((¬ (m4.1 36 5) = (nI 20) →
                vp_in (m4.1 36 5) 20 ∧
                vp_in (m4.1 36 5) 20 ∧
                vp_in (m4.1 36 5) 20 ∧
                vp_in (m4.1 36 5) 20 ∧
                post (some (.int (((upd (m4.1 36) 5 ((m4.1 36 5) + (nI 1))) 5) - (nI 1)))) (va_up (va_up (va_up (va_up (va_up m4.1 41 (upd (m4.1 41) ((m4.1 36 5).toNatClampNeg) x1)) 42 (upd (m4.1 42) ((m4.1 36 5).toNatClampNeg) x2)) 43 (upd (m4.1 43) ((m4.1 36 5).toNatClampNeg) x3)) 44 (upd (m4.1 44) ((m4.1 36 5).toNatClampNeg) x4)) 36 (upd (m4.1 36) 5 ((m4.1 36 5) + (nI 1))), m4.2)) ∧
              ((m4.1 36 5) = (nI 20) →
                post (some (.int (-4))) m4))) ∧
            (x1 = x2 →
              post (some (.int (-3))) m4))) ∧
          (v4 = 0 →
            post (some (.int (-2))) m4))))))) ∧
      (v2 = 0 →
        post (some (.int (-1))) m2))))))) :
    a_Spec G sX7_wire [.ref 36, .int x1, .int x2, .int x3, .int x4] μ post := a_enter (by decide +kernel) rfl (a_run (S := sX7_wire) (pg := pX7_wire) (tab := tX7) [] 60 (a_okT_e tX7_ok) pX7_wire_ok rfl h)
set_option maxRecDepth 100000 in
set_option maxHeartbeats 4000000 in
theorem w_X7_apart_0 {G : aG} {μ : aMem} {post : aPost} (x1 : Int32) (x2 : Int32) (x3 : Int32) (h :
    a_Spec G sX7_in [.int x1, .int (nI 0), .int (nI 3)] μ (fun r1 m1 => ∃ v1 : Int32, r1 = some (.int v1) ∧
    ((v1 = 0 →
      post (some (.int (-2))) m1) ∧
    (¬ v1 = 0 →
      a_Spec G sX7_in [.int x2, .int (nI 0), .int (nI 3)] m1 (fun r2 m2 => ∃ v2 : Int32, r2 = some (.int v2) ∧
      ((¬ v2 = 0 →
        ((¬ x1 = x2 →
          vp_in (((nI 4) * x1) + x2) 16 ∧
          (((m2.1 48 (((nI 4) * x1) + x2).toNatClampNeg) = 0 →
            vp_in (((nI 4) * x1) + x2) 16 ∧
            vp_in (((nI 4) * x2) + x1) 16 ∧
            post (some (.int (nI 0))) (va_up (va_up m2.1 48 (upd (m2.1 48) ((((nI 4) * x1) + x2).toNatClampNeg) (x3 &&& 1))) 48 (upd (upd (m2.1 48) ((((nI 4) * x1) + x2).toNatClampNeg) (x3 &&& 1)) ((((nI 4) * x2) + x1).toNatClampNeg) (x3 &&& 1)), m2.2)) ∧
          (¬ (m2.1 48 (((nI 4) * x1) + x2).toNatClampNeg) = 0 →
            vp_in (((nI 4) * x1) + x2) 16 ∧
            vp_in (((nI 4) * x2) + x1) 16 ∧
            post (some (.int (nI 1))) (va_up (va_up m2.1 48 (upd (m2.1 48) ((((nI 4) * x1) + x2).toNatClampNeg) (x3 &&& 1))) 48 (upd (upd (m2.1 48) ((((nI 4) * x1) + x2).toNatClampNeg) (x3 &&& 1)) ((((nI 4) * x2) + x1).toNatClampNeg) (x3 &&& 1)), m2.2)))) ∧
        (x1 = x2 →
          post (some (.int (-3))) m2))) ∧
      (v2 = 0 →
        post (some (.int (-2))) m2))))))) :
    a_Spec G sX7_apart [.ref 36, .int x1, .int x2, .int x3] μ post := a_enter (by decide +kernel) rfl (a_run (S := sX7_apart) (pg := pX7_apart) (tab := tX7) [] 47 (a_okT_e tX7_ok) pX7_apart_ok rfl h)
set_option maxRecDepth 100000 in
set_option maxHeartbeats 4000000 in
theorem w_X7_goesBy_0 {G : aG} {μ : aMem} {post : aPost} (x1 : Int32) (x2 : Int32) (h :
    a_Runs G sX7_goesBy 5 [(0, .ref 36), (1, .int x1), (2, .int x2), (3, .int (nI 0)), (4, .int (nI 0))] [] μ post) :
    a_Spec G sX7_goesBy [.ref 36, .int x1, .int x2] μ post := a_enter (by decide +kernel) rfl (a_run (S := sX7_goesBy) (pg := pX7_goesBy) (tab := tX7) [(5, [0, 1, 2, 3, 4])] 7 (a_okT_e tX7_ok) pX7_goesBy_ok rfl h)
set_option maxRecDepth 100000 in
set_option maxHeartbeats 4000000 in
theorem w_X7_goesBy_5 {G : aG} {μ : aMem} {post : aPost} (x1 : Int32) (x2 : Int32) (x3 : Int32) (x4 : Int32) (h :
    vp_in x1 20 ∧
    (((μ.1 46 x1.toNatClampNeg) ≤ x4 →
      (x3 = 0 ∨ x3 = 1) ∧ post (some (.int x3)) μ) ∧
    (¬ (μ.1 46 x1.toNatClampNeg) ≤ x4 →
      ((¬ x3 = 0 →
        a_Runs G sX7_goesBy 5 [(0, .ref 36), (1, .int x1), (2, .int x2), (3, .int (nI 1)), (4, .int (x4 + nI 1))] [] μ post) ∧
      (x3 = 0 →
        vp_in (((nI 10) * x1) + x4) 200 ∧
        ((¬ (μ.1 47 (((nI 10) * x1) + x4).toNatClampNeg) = x2 →
          a_Runs G sX7_goesBy 5 [(0, .ref 36), (1, .int x1), (2, .int x2), (3, .int (nI 0)), (4, .int (x4 + nI 1))] [] μ post) ∧
        ((μ.1 47 (((nI 10) * x1) + x4).toNatClampNeg) = x2 →
          a_Runs G sX7_goesBy 5 [(0, .ref 36), (1, .int x1), (2, .int x2), (3, .int (nI 1)), (4, .int (x4 + nI 1))] [] μ post))))))) :
    a_Runs G sX7_goesBy 5 [(0, .ref 36), (1, .int x1), (2, .int x2), (3, .int x3), (4, .int x4)] [] μ post := a_run (S := sX7_goesBy) (pg := pX7_goesBy) (tab := tX7) [(5, [0, 1, 2, 3, 4])] 26 (a_okT_e tX7_ok) pX7_goesBy_ok rfl h
set_option maxRecDepth 100000 in
set_option maxHeartbeats 4000000 in
theorem w_X7_full_0 {G : aG} {μ : aMem} {post : aPost} (x1 : Int32) (h :
    a_Runs G sX7_full 4 [(0, .ref 36), (1, .int x1), (2, .int (nI 0)), (3, .int (nI 0))] [] μ post) :
    a_Spec G sX7_full [.ref 36, .int x1] μ post := a_enter (by decide +kernel) rfl (a_run (S := sX7_full) (pg := pX7_full) (tab := tX7) [(4, [0, 1, 2, 3])] 7 (a_okT_e tX7_ok) pX7_full_ok rfl h)
set_option maxRecDepth 100000 in
set_option maxHeartbeats 4000000 in
theorem w_X7_full_4 {G : aG} {μ : aMem} {post : aPost} (x1 : Int32) (x2 : Int32) (x3 : Int32) (h :
    (((μ.1 36 5) ≤ x3 →
      post (some (.int x2)) μ) ∧
    (¬ (μ.1 36 5) ≤ x3 →
      a_Spec G sX7_goesBy [.ref 36, .int x3, .int x1] μ (fun r1 m1 => ∃ v1 : Int32, r1 = some (.int v1) ∧
      ((v1 = 0 →
        a_Runs G sX7_full 4 [(0, .ref 36), (1, .int x1), (2, .int (x2 + (nI 0))), (3, .int (x3 + nI 1))] [] m1 post) ∧
      (¬ v1 = 0 →
        vp_in x3 20 ∧
        a_Runs G sX7_full 4 [(0, .ref 36), (1, .int x1), (2, .int (x2 + (m1.1 43 x3.toNatClampNeg))), (3, .int (x3 + nI 1))] [] m1 post)))))) :
    a_Runs G sX7_full 4 [(0, .ref 36), (1, .int x1), (2, .int x2), (3, .int x3)] [] μ post := a_run (S := sX7_full) (pg := pX7_full) (tab := tX7) [(4, [0, 1, 2, 3])] 22 (a_okT_e tX7_ok) pX7_full_ok rfl h
set_option maxRecDepth 100000 in
set_option maxHeartbeats 4000000 in
theorem w_X7_mayGo_0 {G : aG} {μ : aMem} {post : aPost} (x1 : Int32) (x2 : Int32) (h :
    a_Spec G sX7_full [.ref 36, .int x2] μ (fun r1 m1 => ∃ v1 : Int32, r1 = some (.int v1) ∧
    vp_in x1 20 ∧
    vp_in x2 16 ∧
    (((m1.1 40 x2.toNatClampNeg) < (v1 + (m1.1 43 x1.toNatClampNeg)) →
      a_Runs G sX7_mayGo 30 [(0, .ref 36), (1, .int x1), (2, .int x2), (3, .int (nI 0)), (4, .int (nI 0))] [] m1 post) ∧
    (¬ (m1.1 40 x2.toNatClampNeg) < (v1 + (m1.1 43 x1.toNatClampNeg)) →
      a_Runs G sX7_mayGo 30 [(0, .ref 36), (1, .int x1), (2, .int x2), (3, .int (nI 1)), (4, .int (nI 0))] [] m1 post)))) :
    a_Spec G sX7_mayGo [.ref 36, .int x1, .int x2] μ post := a_enter (by decide +kernel) rfl (a_run (S := sX7_mayGo) (pg := pX7_mayGo) (tab := tX7) [(30, [0, 1, 2, 3, 4])] 21 (a_okT_e tX7_ok) pX7_mayGo_ok rfl h)
set_option maxRecDepth 100000 in
set_option maxHeartbeats 4000000 in
theorem w_X7_mayGo_30 {G : aG} {μ : aMem} {post : aPost} (x1 : Int32) (x2 : Int32) (x3 : Int32) (x4 : Int32) (h :
    (((μ.1 36 5) ≤ x4 →
      (x3 = 0 ∨ x3 = 1) ∧ post (some (.int x3)) μ) ∧
    (¬ (μ.1 36 5) ≤ x4 →
      ((x3 = 0 →
        (x3 = 0 ∨ x3 = 1) ∧ post (some (.int x3)) μ) ∧
      (¬ x3 = 0 →
        a_Spec G sX7_goesBy [.ref 36, .int x4, .int x2] μ (fun r1 m1 => ∃ v1 : Int32, r1 = some (.int v1) ∧
        ((v1 = 0 →
          a_Runs G sX7_mayGo 30 [(0, .ref 36), (1, .int x1), (2, .int x2), (3, .int (nI 1)), (4, .int (x4 + nI 1))] [] m1 post) ∧
        (¬ v1 = 0 →
          vp_in x4 20 ∧
          vp_in x1 20 ∧
          vp_in (((nI 4) * (m1.1 44 x4.toNatClampNeg)) + (m1.1 44 x1.toNatClampNeg)) 16 ∧
          ((¬ (m1.1 48 (((nI 4) * (m1.1 44 x4.toNatClampNeg)) + (m1.1 44 x1.toNatClampNeg)).toNatClampNeg) = 0 →
            a_Runs G sX7_mayGo 30 [(0, .ref 36), (1, .int x1), (2, .int x2), (3, .int (nI 0)), (4, .int (x4 + nI 1))] [] m1 post) ∧
          ((m1.1 48 (((nI 4) * (m1.1 44 x4.toNatClampNeg)) + (m1.1 44 x1.toNatClampNeg)).toNatClampNeg) = 0 →
            a_Runs G sX7_mayGo 30 [(0, .ref 36), (1, .int x1), (2, .int x2), (3, .int (nI 1)), (4, .int (x4 + nI 1))] [] m1 post)))))))))) :
    a_Runs G sX7_mayGo 30 [(0, .ref 36), (1, .int x1), (2, .int x2), (3, .int x3), (4, .int x4)] [] μ post := a_run (S := sX7_mayGo) (pg := pX7_mayGo) (tab := tX7) [(30, [0, 1, 2, 3, 4])] 34 (a_okT_e tX7_ok) pX7_mayGo_ok rfl h
set_option maxRecDepth 100000 in
set_option maxHeartbeats 4000000 in
theorem w_X7_across_0 {G : aG} {μ : aMem} {post : aPost} (x1 : Int32) (x2 : Int32) (h :
    vp_in x1 16 ∧
    ((¬ (μ.1 37 x1.toNatClampNeg) = x2 →
      vp_in x1 16 ∧
      ((¬ (μ.1 38 x1.toNatClampNeg) = x2 →
        post (some (.int (-9))) μ) ∧
      ((μ.1 38 x1.toNatClampNeg) = x2 →
        vp_in x1 16 ∧
        post (some (.int (μ.1 37 x1.toNatClampNeg))) μ))) ∧
    ((μ.1 37 x1.toNatClampNeg) = x2 →
      vp_in x1 16 ∧
      post (some (.int (μ.1 38 x1.toNatClampNeg))) μ))) :
    a_Spec G sX7_across [.ref 36, .int x1, .int x2] μ post := a_enter (by decide +kernel) rfl (a_run (S := sX7_across) (pg := pX7_across) (tab := tX7) [] 20 (a_okT_e tX7_ok) pX7_across_ok rfl h)
set_option maxRecDepth 100000 in
set_option maxHeartbeats 4000000 in
theorem w_X7_better_0 {G : aG} {μ : aMem} {post : aPost} (x1 : Int32) (x2 : Int32) (x3 : Int32) (h :
    vp_in x2 10 ∧
    vp_in x1 10 ∧
    ((((μ.1 50 x2.toNatClampNeg) + x3) < (μ.1 50 x1.toNatClampNeg) →
      vp_in x1 10 ∧
      vp_in x2 10 ∧
      vp_in x1 10 ∧
      post none (va_up (va_up μ.1 50 (upd (μ.1 50) x1.toNatClampNeg ((μ.1 50 x2.toNatClampNeg) + x3))) 51 (upd (μ.1 51) x1.toNatClampNeg ((μ.1 51 x2.toNatClampNeg) + (nI 1))), μ.2)) ∧
    (¬ ((μ.1 50 x2.toNatClampNeg) + x3) < (μ.1 50 x1.toNatClampNeg) →
      vp_in x1 10 ∧
      ((¬ ((μ.1 50 x2.toNatClampNeg) + x3) = (μ.1 50 x1.toNatClampNeg) →
        post none μ) ∧
      (((μ.1 50 x2.toNatClampNeg) + x3) = (μ.1 50 x1.toNatClampNeg) →
        vp_in x2 10 ∧
        vp_in x1 10 ∧
        (((μ.1 51 x1.toNatClampNeg) ≤ ((μ.1 51 x2.toNatClampNeg) + (nI 1)) →
          post none μ) ∧
        (¬ (μ.1 51 x1.toNatClampNeg) ≤ ((μ.1 51 x2.toNatClampNeg) + (nI 1)) →
          vp_in x1 10 ∧
          vp_in x2 10 ∧
          vp_in x1 10 ∧
          post none (va_up (va_up μ.1 50 (upd (μ.1 50) x1.toNatClampNeg ((μ.1 50 x2.toNatClampNeg) + x3))) 51 (upd (μ.1 51) x1.toNatClampNeg ((μ.1 51 x2.toNatClampNeg) + (nI 1))), μ.2)))))))) :
    a_Spec G sX7_better [.ref 36, .int x1, .int x2, .int x3] μ post := a_enter (by decide +kernel) rfl (a_run (S := sX7_better) (pg := pX7_better) (tab := tX7) [] 48 (a_okT_e tX7_ok) pX7_better_ok rfl h)
set_option maxRecDepth 100000 in
set_option maxHeartbeats 4000000 in
theorem w_X7_measure_0 {G : aG} {μ : aMem} {post : aPost} (x1 : Int32) (h :
    a_Runs G sX7_measure 2 [(0, .ref 36), (1, .int x1), (2, .int (nI 0))] [] μ post) :
    a_Spec G sX7_measure [.ref 36, .int x1] μ post := a_enter (by decide +kernel) rfl (a_run (S := sX7_measure) (pg := pX7_measure) (tab := tX7) [(2, [0, 1, 2]), (50, [0, 2]), (58, [0, 2, 3])] 5 (a_okT_e tX7_ok) pX7_measure_ok rfl h)
set_option maxRecDepth 100000 in
set_option maxHeartbeats 4000000 in
theorem w_X7_measure_2 {G : aG} {μ : aMem} {post : aPost} (x1 : Int32) (x2 : Int32) (h :
    (((nI 10) ≤ x2 →
      a_Runs G sX7_measure 50 [(0, .ref 36), (2, .int (nI 0))] [] μ post) ∧
    (¬ (nI 10) ≤ x2 →
      ((¬ x2 = x1 →
        vp_in x2 10 ∧
        ((¬ x2 = x1 →
          vp_in x2 10 ∧
          a_Runs G sX7_measure 2 [(0, .ref 36), (1, .int x1), (2, .int (x2 + nI 1))] [] (va_up (va_up μ.1 50 (upd (μ.1 50) x2.toNatClampNeg (nI 1000000))) 51 (upd (μ.1 51) x2.toNatClampNeg (nI 1000000)), μ.2) post) ∧
        (x2 = x1 →
          vp_in x2 10 ∧
          a_Runs G sX7_measure 2 [(0, .ref 36), (1, .int x1), (2, .int (x2 + nI 1))] [] (va_up (va_up μ.1 50 (upd (μ.1 50) x2.toNatClampNeg (nI 1000000))) 51 (upd (μ.1 51) x2.toNatClampNeg (nI 0)), μ.2) post))) ∧
      (x2 = x1 →
        vp_in x2 10 ∧
        ((¬ x2 = x1 →
          vp_in x2 10 ∧
          a_Runs G sX7_measure 2 [(0, .ref 36), (1, .int x1), (2, .int (x2 + nI 1))] [] (va_up (va_up μ.1 50 (upd (μ.1 50) x2.toNatClampNeg (nI 0))) 51 (upd (μ.1 51) x2.toNatClampNeg (nI 1000000)), μ.2) post) ∧
        (x2 = x1 →
          vp_in x2 10 ∧
          a_Runs G sX7_measure 2 [(0, .ref 36), (1, .int x1), (2, .int (x2 + nI 1))] [] (va_up (va_up μ.1 50 (upd (μ.1 50) x2.toNatClampNeg (nI 0))) 51 (upd (μ.1 51) x2.toNatClampNeg (nI 0)), μ.2) post))))))) :
    a_Runs G sX7_measure 2 [(0, .ref 36), (1, .int x1), (2, .int x2)] [] μ post := a_run (S := sX7_measure) (pg := pX7_measure) (tab := tX7) [(2, [0, 1, 2]), (50, [0, 2]), (58, [0, 2, 3])] 26 (a_okT_e tX7_ok) pX7_measure_ok rfl h
set_option maxRecDepth 100000 in
set_option maxHeartbeats 4000000 in
theorem w_X7_measure_50 {G : aG} {μ : aMem} {post : aPost} (x2 : Int32) (h :
    (((nI 10) ≤ x2 →
      post none μ) ∧
    (¬ (nI 10) ≤ x2 →
      a_Runs G sX7_measure 58 [(0, .ref 36), (2, .int x2), (3, .int (nI 0))] [] μ post))) :
    a_Runs G sX7_measure 50 [(0, .ref 36), (2, .int x2)] [] μ post := a_run (S := sX7_measure) (pg := pX7_measure) (tab := tX7) [(2, [0, 1, 2]), (50, [0, 2]), (58, [0, 2, 3])] 8 (a_okT_e tX7_ok) pX7_measure_ok rfl h
set_option maxRecDepth 100000 in
set_option maxHeartbeats 4000000 in
theorem w_X7_measure_58 {G : aG} {μ : aMem} {post : aPost} (x2 : Int32) (x3 : Int32) (h :
    (((μ.1 36 0) ≤ x3 →
      a_Runs G sX7_measure 50 [(0, .ref 36), (2, .int (x2 + nI 1))] [] μ post) ∧
    (¬ (μ.1 36 0) ≤ x3 →
      vp_in x3 16 ∧
      (((μ.1 49 x3.toNatClampNeg) = 0 →
        a_Runs G sX7_measure 58 [(0, .ref 36), (2, .int x2), (3, .int (x3 + nI 1))] [] μ post) ∧
      (¬ (μ.1 49 x3.toNatClampNeg) = 0 →
        vp_in x3 16 ∧
        vp_in x3 16 ∧
        vp_in x3 16 ∧
        a_Spec G sX7_better [.ref 36, .int (μ.1 37 x3.toNatClampNeg), .int (μ.1 38 x3.toNatClampNeg), .int (μ.1 39 x3.toNatClampNeg)] μ (fun r1 m1 => r1 = none ∧
        vp_in x3 16 ∧
        vp_in x3 16 ∧
        vp_in x3 16 ∧
        a_Spec G sX7_better [.ref 36, .int (m1.1 38 x3.toNatClampNeg), .int (m1.1 37 x3.toNatClampNeg), .int (m1.1 39 x3.toNatClampNeg)] m1 (fun r2 m2 => r2 = none ∧
        a_Runs G sX7_measure 58 [(0, .ref 36), (2, .int x2), (3, .int (x3 + nI 1))] [] m2 post))))))) :
    a_Runs G sX7_measure 58 [(0, .ref 36), (2, .int x2), (3, .int x3)] [] μ post := a_run (S := sX7_measure) (pg := pX7_measure) (tab := tX7) [(2, [0, 1, 2]), (50, [0, 2]), (58, [0, 2, 3])] 42 (a_okT_e tX7_ok) pX7_measure_ok rfl h
set_option maxRecDepth 100000 in
set_option maxHeartbeats 4000000 in
theorem w_X7_next_0 {G : aG} {μ : aMem} {post : aPost} (x1 : Int32) (h :
    a_Runs G sX7_next 2 [(0, .ref 36), (1, .int x1), (2, .int (nI 0))] [] μ post) :
    a_Spec G sX7_next [.ref 36, .int x1] μ post := a_enter (by decide +kernel) rfl (a_run (S := sX7_next) (pg := pX7_next) (tab := tX7) [(2, [0, 1, 2])] 5 (a_okT_e tX7_ok) pX7_next_ok rfl h)
set_option maxRecDepth 100000 in
set_option maxHeartbeats 4000000 in
theorem w_X7_next_2 {G : aG} {μ : aMem} {post : aPost} (x1 : Int32) (x2 : Int32) (h :
    vp_in x2 16 ∧
    (((μ.1 49 x2.toNatClampNeg) = 0 →
      a_Runs G sX7_next 2 [(0, .ref 36), (1, .int x1), (2, .int (x2 + nI 1))] [] μ post) ∧
    (¬ (μ.1 49 x2.toNatClampNeg) = 0 →
      a_Spec G sX7_across [.ref 36, .int x2, .int x1] μ (fun r1 m1 => ∃ v1 : Int32, r1 = some (.int v1) ∧
      ((v1 = (-9) →
        a_Runs G sX7_next 2 [(0, .ref 36), (1, .int x1), (2, .int (x2 + nI 1))] [] m1 post) ∧
      (¬ v1 = (-9) →
        a_Spec G sX7_across [.ref 36, .int x2, .int x1] m1 (fun r2 m2 => ∃ v2 : Int32, r2 = some (.int v2) ∧
        vp_in v2 10 ∧
        vp_in x2 16 ∧
        vp_in x1 10 ∧
        ((¬ ((m2.1 50 v2.toNatClampNeg) + (m2.1 39 x2.toNatClampNeg)) = (m2.1 50 x1.toNatClampNeg) →
          a_Runs G sX7_next 2 [(0, .ref 36), (1, .int x1), (2, .int (x2 + nI 1))] [] m2 post) ∧
        (((m2.1 50 v2.toNatClampNeg) + (m2.1 39 x2.toNatClampNeg)) = (m2.1 50 x1.toNatClampNeg) →
          a_Spec G sX7_across [.ref 36, .int x2, .int x1] m2 (fun r3 m3 => ∃ v3 : Int32, r3 = some (.int v3) ∧
          vp_in v3 10 ∧
          vp_in x1 10 ∧
          ((((m3.1 51 v3.toNatClampNeg) + (nI 1)) = (m3.1 51 x1.toNatClampNeg) →
            post (some (.int x2)) m3) ∧
          (¬ ((m3.1 51 v3.toNatClampNeg) + (nI 1)) = (m3.1 51 x1.toNatClampNeg) →
            a_Runs G sX7_next 2 [(0, .ref 36), (1, .int x1), (2, .int (x2 + nI 1))] [] m3 post)))))))))))) :
    a_Runs G sX7_next 2 [(0, .ref 36), (1, .int x1), (2, .int x2)] [] μ post := a_run (S := sX7_next) (pg := pX7_next) (tab := tX7) [(2, [0, 1, 2])] 47 (a_okT_e tX7_ok) pX7_next_ok rfl h
set_option maxRecDepth 100000 in
set_option maxHeartbeats 4000000 in
theorem w_X7_lengthOf_0 {G : aG} {μ : aMem} {post : aPost} (x1 : Int32) (h :
    a_Runs G sX7_lengthOf 4 [(0, .ref 36), (1, .int x1), (2, .int (nI 0)), (3, .int (nI 0))] [] μ post) :
    a_Spec G sX7_lengthOf [.ref 36, .int x1] μ post := a_enter (by decide +kernel) rfl (a_run (S := sX7_lengthOf) (pg := pX7_lengthOf) (tab := tX7) [(4, [0, 1, 2, 3])] 7 (a_okT_e tX7_ok) pX7_lengthOf_ok rfl h)
set_option maxRecDepth 100000 in
set_option maxHeartbeats 4000000 in
theorem w_X7_lengthOf_4 {G : aG} {μ : aMem} {post : aPost} (x1 : Int32) (x2 : Int32) (x3 : Int32) (h :
    vp_in x1 20 ∧
    (((μ.1 46 x1.toNatClampNeg) ≤ x3 →
      post (some (.int x2)) μ) ∧
    (¬ (μ.1 46 x1.toNatClampNeg) ≤ x3 →
      vp_in (((nI 10) * x1) + x3) 200 ∧
      vp_in (μ.1 47 (((nI 10) * x1) + x3).toNatClampNeg) 16 ∧
      a_Runs G sX7_lengthOf 4 [(0, .ref 36), (1, .int x1), (2, .int (x2 + (μ.1 39 (μ.1 47 (((nI 10) * x1) + x3).toNatClampNeg).toNatClampNeg))), (3, .int (x3 + nI 1))] [] μ post))) :
    a_Runs G sX7_lengthOf 4 [(0, .ref 36), (1, .int x1), (2, .int x2), (3, .int x3)] [] μ post := a_run (S := sX7_lengthOf) (pg := pX7_lengthOf) (tab := tX7) [(4, [0, 1, 2, 3])] 25 (a_okT_e tX7_ok) pX7_lengthOf_ok rfl h
set_option maxRecDepth 100000 in
set_option maxHeartbeats 4000000 in
theorem w_X7_lay_0 {G : aG} {μ : aMem} {post : aPost} (x1 : Int32) (h :
    a_Spec G sX7_isWire [.ref 36, .int x1] μ (fun r1 m1 => ∃ v1 : Int32, r1 = some (.int v1) ∧
    ((¬ v1 = 0 →
      vp_in x1 20 ∧
      (((m1.1 46 x1.toNatClampNeg) ≤ 0 →
        a_Runs G sX7_lay 24 [(0, .ref 36), (1, .int x1), (2, .int (nI 0))] [] m1 post) ∧
      (¬ (m1.1 46 x1.toNatClampNeg) ≤ 0 →
        post (some (.int (-3))) m1))) ∧
    (v1 = 0 →
      post (some (.int (-1))) m1)))) :
    a_Spec G sX7_lay [.ref 36, .int x1] μ post := a_enter (by decide +kernel) rfl (a_run (S := sX7_lay) (pg := pX7_lay) (tab := tX7) [(24, [0, 1, 2]), (88, [0, 1, 2, 3])] 14 (a_okT_e tX7_ok) pX7_lay_ok rfl h)
set_option maxRecDepth 100000 in
set_option maxHeartbeats 4000000 in
theorem w_X7_lay_24 {G : aG} {μ : aMem} {post : aPost} (x1 : Int32) (x2 : Int32) (h :
    (((μ.1 36 0) ≤ x2 →
      vp_in x1 20 ∧
      a_Spec G sX7_measure [.ref 36, .int (μ.1 42 x1.toNatClampNeg)] μ (fun r1 m1 => r1 = none ∧
      vp_in x1 20 ∧
      vp_in (m1.1 41 x1.toNatClampNeg) 10 ∧
      (((m1.1 50 (m1.1 41 x1.toNatClampNeg).toNatClampNeg) < (nI 1000000) →
        vp_in x1 20 ∧
        a_Runs G sX7_lay 88 [(0, .ref 36), (1, .int x1), (2, .int (m1.1 41 x1.toNatClampNeg)), (3, .int (nI 0))] [] m1 post) ∧
      (¬ (m1.1 50 (m1.1 41 x1.toNatClampNeg).toNatClampNeg) < (nI 1000000) →
        post (some (.int (-9))) m1)))) ∧
    (¬ (μ.1 36 0) ≤ x2 →
      a_Spec G sX7_mayGo [.ref 36, .int x1, .int x2] μ (fun r2 m2 => ∃ v2 : Int32, r2 = some (.int v2) ∧
      vp_in x2 16 ∧
      a_Runs G sX7_lay 24 [(0, .ref 36), (1, .int x1), (2, .int (x2 + nI 1))] [] (va_up m2.1 49 (upd (m2.1 49) x2.toNatClampNeg (v2 &&& 1)), m2.2) post)))) :
    a_Runs G sX7_lay 24 [(0, .ref 36), (1, .int x1), (2, .int x2)] [] μ post := a_run (S := sX7_lay) (pg := pX7_lay) (tab := tX7) [(24, [0, 1, 2]), (88, [0, 1, 2, 3])] 29 (a_okT_e tX7_ok) pX7_lay_ok rfl h
set_option maxRecDepth 100000 in
set_option maxHeartbeats 4000000 in
theorem w_X7_lay_88 {G : aG} {μ : aMem} {post : aPost} (x1 : Int32) (x2 : Int32) (x3 : Int32) (h :
    vp_in x1 20 ∧
    ((x2 = (μ.1 42 x1.toNatClampNeg) →
      vp_in x1 20 ∧
      a_Spec G sX7_lengthOf [.ref 36, .int x1] (va_up μ.1 46 (upd (μ.1 46) x1.toNatClampNeg x3), μ.2) (fun r1 m1 => ∃ v1 : Int32, r1 = some (.int v1) ∧
      post (some (.int v1)) m1)) ∧
    (¬ x2 = (μ.1 42 x1.toNatClampNeg) →
      a_Spec G sX7_next [.ref 36, .int x2] μ (fun r2 m2 => ∃ v2 : Int32, r2 = some (.int v2) ∧
      vp_in (((nI 10) * x1) + x3) 200 ∧
      a_Spec G sX7_across [.ref 36, .int v2, .int x2] (va_up m2.1 47 (upd (m2.1 47) ((((nI 10) * x1) + x3).toNatClampNeg) v2), m2.2) (fun r3 m3 => ∃ v3 : Int32, r3 = some (.int v3) ∧
      a_Runs G sX7_lay 88 [(0, .ref 36), (1, .int x1), (2, .int v3), (3, .int (x3 + nI 1))] [] m3 post))))) :
    a_Runs G sX7_lay 88 [(0, .ref 36), (1, .int x1), (2, .int x2), (3, .int x3)] [] μ post := a_run (S := sX7_lay) (pg := pX7_lay) (tab := tX7) [(24, [0, 1, 2]), (88, [0, 1, 2, 3])] 29 (a_okT_e tX7_ok) pX7_lay_ok rfl h
set_option maxRecDepth 100000 in
set_option maxHeartbeats 4000000 in
theorem w_X7_lift_0 {G : aG} {μ : aMem} {post : aPost} (x1 : Int32) (h :
    a_Spec G sX7_isWire [.ref 36, .int x1] μ (fun r1 m1 => ∃ v1 : Int32, r1 = some (.int v1) ∧
    ((¬ v1 = 0 →
      vp_in x1 20 ∧
      ((¬ (m1.1 46 x1.toNatClampNeg) = 0 →
        a_Spec G sX7_lengthOf [.ref 36, .int x1] m1 (fun r2 m2 => ∃ v2 : Int32, r2 = some (.int v2) ∧
        vp_in x1 20 ∧
        post (some (.int v2)) (va_up m2.1 46 (upd (m2.1 46) x1.toNatClampNeg (nI 0)), m2.2))) ∧
      ((m1.1 46 x1.toNatClampNeg) = 0 →
        post (some (.int (-3))) m1))) ∧
    (v1 = 0 →
      post (some (.int (-1))) m1)))) :
    a_Spec G sX7_lift [.ref 36, .int x1] μ post := a_enter (by decide +kernel) rfl (a_run (S := sX7_lift) (pg := pX7_lift) (tab := tX7) [] 22 (a_okT_e tX7_ok) pX7_lift_ok rfl h)
set_option maxRecDepth 100000 in
set_option maxHeartbeats 4000000 in
theorem w_X7_way_0 {G : aG} {μ : aMem} {post : aPost} (x1 : Int32) (x2 : Int32) (h :
    a_Spec G sX7_isWire [.ref 36, .int x1] μ (fun r1 m1 => ∃ v1 : Int32, r1 = some (.int v1) ∧
    ((¬ v1 = 0 →
      vp_in x1 20 ∧
      a_Spec G sX7_in [.int x2, .int (nI 0), .int ((m1.1 46 x1.toNatClampNeg) - (nI 1))] m1 (fun r2 m2 => ∃ v2 : Int32, r2 = some (.int v2) ∧
      ((v2 = 0 →
        post (some (.int (-9))) m2) ∧
      (¬ v2 = 0 →
        vp_in (((nI 10) * x1) + x2) 200 ∧
        post (some (.int (m2.1 47 (((nI 10) * x1) + x2).toNatClampNeg))) m2)))) ∧
    (v1 = 0 →
      post (some (.int (-1))) m1)))) :
    a_Spec G sX7_way [.ref 36, .int x1, .int x2] μ post := a_enter (by decide +kernel) rfl (a_run (S := sX7_way) (pg := pX7_way) (tab := tX7) [] 26 (a_okT_e tX7_ok) pX7_way_ok rfl h)
set_option maxRecDepth 100000 in
set_option maxHeartbeats 4000000 in
theorem w_X7_length_0 {G : aG} {μ : aMem} {post : aPost} (x1 : Int32) (h :
    a_Spec G sX7_isWire [.ref 36, .int x1] μ (fun r1 m1 => ∃ v1 : Int32, r1 = some (.int v1) ∧
    ((¬ v1 = 0 →
      vp_in x1 20 ∧
      ((¬ (m1.1 46 x1.toNatClampNeg) = 0 →
        a_Spec G sX7_lengthOf [.ref 36, .int x1] m1 (fun r2 m2 => ∃ v2 : Int32, r2 = some (.int v2) ∧
        post (some (.int v2)) m2)) ∧
      ((m1.1 46 x1.toNatClampNeg) = 0 →
        post (some (.int (-9))) m1))) ∧
    (v1 = 0 →
      post (some (.int (-1))) m1)))) :
    a_Spec G sX7_length [.ref 36, .int x1] μ post := a_enter (by decide +kernel) rfl (a_run (S := sX7_length) (pg := pX7_length) (tab := tX7) [] 15 (a_okT_e tX7_ok) pX7_length_ok rfl h)
set_option maxRecDepth 100000 in
set_option maxHeartbeats 4000000 in
theorem w_X7_left_0 {G : aG} {μ : aMem} {post : aPost} (x1 : Int32) (x2 : Int32) (h :
    a_Spec G sX7_isDuct [.ref 36, .int x1] μ (fun r1 m1 => ∃ v1 : Int32, r1 = some (.int v1) ∧
    ((¬ v1 = 0 →
      a_Runs G sX7_left 15 [(0, .ref 36), (1, .int x1), (2, .int x2), (3, .int (nI 0)), (4, .int (nI 0))] [] m1 post) ∧
    (v1 = 0 →
      post (some (.int (-1))) m1)))) :
    a_Spec G sX7_left [.ref 36, .int x1, .int x2] μ post := a_enter (by decide +kernel) rfl (a_run (S := sX7_left) (pg := pX7_left) (tab := tX7) [(15, [0, 1, 2, 3, 4])] 11 (a_okT_e tX7_ok) pX7_left_ok rfl h)
set_option maxRecDepth 100000 in
set_option maxHeartbeats 4000000 in
theorem w_X7_left_15 {G : aG} {μ : aMem} {post : aPost} (x1 : Int32) (x2 : Int32) (x3 : Int32) (x4 : Int32) (h :
    (((μ.1 36 5) ≤ x4 →
      ((x2 = 0 →
        vp_in x1 16 ∧
        a_Spec G sX7_full [.ref 36, .int x1] μ (fun r1 m1 => ∃ v1 : Int32, r1 = some (.int v1) ∧
        post (some (.int ((μ.1 40 x1.toNatClampNeg) - v1))) m1)) ∧
      (¬ x2 = 0 →
        post (some (.int x3)) μ))) ∧
    (¬ (μ.1 36 5) ≤ x4 →
      a_Spec G sX7_goesBy [.ref 36, .int x4, .int x1] μ (fun r2 m2 => ∃ v2 : Int32, r2 = some (.int v2) ∧
      ((v2 = 0 →
        a_Runs G sX7_left 15 [(0, .ref 36), (1, .int x1), (2, .int x2), (3, .int (x3 + (nI 0))), (4, .int (x4 + nI 1))] [] m2 post) ∧
      (¬ v2 = 0 →
        a_Runs G sX7_left 15 [(0, .ref 36), (1, .int x1), (2, .int x2), (3, .int (x3 + (nI 1))), (4, .int (x4 + nI 1))] [] m2 post)))))) :
    a_Runs G sX7_left 15 [(0, .ref 36), (1, .int x1), (2, .int x2), (3, .int x3), (4, .int x4)] [] μ post := a_run (S := sX7_left) (pg := pX7_left) (tab := tX7) [(15, [0, 1, 2, 3, 4])] 19 (a_okT_e tX7_ok) pX7_left_ok rfl h
set_option maxRecDepth 100000 in
set_option maxHeartbeats 4000000 in
theorem w_X7_loss_0 {G : aG} {μ : aMem} {post : aPost} (x1 : Int32) (x2 : Int32) (h :
    a_Spec G sX7_isWire [.ref 36, .int x1] μ (fun r1 m1 => ∃ v1 : Int32, r1 = some (.int v1) ∧
    ((¬ v1 = 0 →
      a_Spec G sX7_in [.int x2, .int (nI 1), .int (nI 100)] m1 (fun r2 m2 => ∃ v2 : Int32, r2 = some (.int v2) ∧
      ((¬ v2 = 0 →
        vp_in x1 20 ∧
        ((¬ (m2.1 46 x1.toNatClampNeg) = 0 →
          a_Spec G sX7_lengthOf [.ref 36, .int x1] m2 (fun r3 m3 => ∃ v3 : Int32, r3 = some (.int v3) ∧
          vp_in x1 20 ∧
          vp_in x1 20 ∧
          ¬ (m3.1 43 x1.toNatClampNeg) = 0 ∧
          post (some (.int ((((((nI 20) * x2) * v3) + (m3.1 43 x1.toNatClampNeg)) - (nI 1)) / (m3.1 43 x1.toNatClampNeg)))) m3)) ∧
        ((m2.1 46 x1.toNatClampNeg) = 0 →
          post (some (.int (-3))) m2))) ∧
      (v2 = 0 →
        post (some (.int (-2))) m2)))) ∧
    (v1 = 0 →
      post (some (.int (-1))) m1)))) :
    a_Spec G sX7_loss [.ref 36, .int x1, .int x2] μ post := a_enter (by decide +kernel) rfl (a_run (S := sX7_loss) (pg := pX7_loss) (tab := tX7) [] 36 (a_okT_e tX7_ok) pX7_loss_ok rfl h)
set_option maxRecDepth 100000 in
set_option maxHeartbeats 4000000 in
theorem w_X7_isClash_0 {G : aG} {μ : aMem} {post : aPost} (x1 : Int32) (h :
    a_Runs G sX7_isClash 4 [(0, .ref 36), (1, .int x1), (2, .int (nI 0)), (3, .int (nI 0))] [] μ post) :
    a_Spec G sX7_isClash [.ref 36, .int x1] μ post := a_enter (by decide +kernel) rfl (a_run (S := sX7_isClash) (pg := pX7_isClash) (tab := tX7) [(4, [0, 1, 2, 3]), (17, [0, 1, 2, 3, 4])] 7 (a_okT_e tX7_ok) pX7_isClash_ok rfl h)
set_option maxRecDepth 100000 in
set_option maxHeartbeats 4000000 in
theorem w_X7_isClash_4 {G : aG} {μ : aMem} {post : aPost} (x1 : Int32) (x2 : Int32) (x3 : Int32) (h :
    vp_in x1 20 ∧
    (((μ.1 46 x1.toNatClampNeg) ≤ x3 →
      (x2 = 0 ∨ x2 = 1) ∧ post (some (.int x2)) μ) ∧
    (¬ (μ.1 46 x1.toNatClampNeg) ≤ x3 →
      a_Runs G sX7_isClash 17 [(0, .ref 36), (1, .int x1), (2, .int x2), (3, .int x3), (4, .int (nI 0))] [] μ post))) :
    a_Runs G sX7_isClash 4 [(0, .ref 36), (1, .int x1), (2, .int x2), (3, .int x3)] [] μ post := a_run (S := sX7_isClash) (pg := pX7_isClash) (tab := tX7) [(4, [0, 1, 2, 3]), (17, [0, 1, 2, 3, 4])] 11 (a_okT_e tX7_ok) pX7_isClash_ok rfl h
set_option maxRecDepth 100000 in
set_option maxHeartbeats 4000000 in
theorem w_X7_isClash_17 {G : aG} {μ : aMem} {post : aPost} (x1 : Int32) (x2 : Int32) (x3 : Int32) (x4 : Int32) (h :
    (((μ.1 36 5) ≤ x4 →
      a_Runs G sX7_isClash 4 [(0, .ref 36), (1, .int x1), (2, .int x2), (3, .int (x3 + nI 1))] [] μ post) ∧
    (¬ (μ.1 36 5) ≤ x4 →
      ((¬ x2 = 0 →
        a_Runs G sX7_isClash 17 [(0, .ref 36), (1, .int x1), (2, .int (nI 1)), (3, .int x3), (4, .int (x4 + nI 1))] [] μ post) ∧
      (x2 = 0 →
        vp_in (((nI 10) * x1) + x3) 200 ∧
        a_Spec G sX7_goesBy [.ref 36, .int x4, .int (μ.1 47 (((nI 10) * x1) + x3).toNatClampNeg)] μ (fun r1 m1 => ∃ v1 : Int32, r1 = some (.int v1) ∧
        ((v1 = 0 →
          a_Runs G sX7_isClash 17 [(0, .ref 36), (1, .int x1), (2, .int (nI 0)), (3, .int x3), (4, .int (x4 + nI 1))] [] m1 post) ∧
        (¬ v1 = 0 →
          vp_in x4 20 ∧
          vp_in x1 20 ∧
          vp_in (((nI 4) * (m1.1 44 x4.toNatClampNeg)) + (m1.1 44 x1.toNatClampNeg)) 16 ∧
          (((m1.1 48 (((nI 4) * (m1.1 44 x4.toNatClampNeg)) + (m1.1 44 x1.toNatClampNeg)).toNatClampNeg) = 0 →
            a_Runs G sX7_isClash 17 [(0, .ref 36), (1, .int x1), (2, .int (nI 0)), (3, .int x3), (4, .int (x4 + nI 1))] [] m1 post) ∧
          (¬ (m1.1 48 (((nI 4) * (m1.1 44 x4.toNatClampNeg)) + (m1.1 44 x1.toNatClampNeg)).toNatClampNeg) = 0 →
            a_Runs G sX7_isClash 17 [(0, .ref 36), (1, .int x1), (2, .int (nI 1)), (3, .int x3), (4, .int (x4 + nI 1))] [] m1 post)))))))))) :
    a_Runs G sX7_isClash 17 [(0, .ref 36), (1, .int x1), (2, .int x2), (3, .int x3), (4, .int x4)] [] μ post := a_run (S := sX7_isClash) (pg := pX7_isClash) (tab := tX7) [(4, [0, 1, 2, 3]), (17, [0, 1, 2, 3, 4])] 41 (a_okT_e tX7_ok) pX7_isClash_ok rfl h
set_option maxRecDepth 100000 in
set_option maxHeartbeats 4000000 in
theorem w_X7_clashes_0 {G : aG} {μ : aMem} {post : aPost}  (h :
    a_Runs G sX7_clashes 4 [(0, .ref 36), (1, .int (nI 0)), (2, .int (nI 0))] [] μ post) :
    a_Spec G sX7_clashes [.ref 36] μ post := a_enter (by decide +kernel) rfl (a_run (S := sX7_clashes) (pg := pX7_clashes) (tab := tX7) [(4, [0, 1, 2])] 7 (a_okT_e tX7_ok) pX7_clashes_ok rfl h)
set_option maxRecDepth 100000 in
set_option maxHeartbeats 4000000 in
theorem w_X7_clashes_4 {G : aG} {μ : aMem} {post : aPost} (x1 : Int32) (x2 : Int32) (h :
    (((μ.1 36 5) ≤ x2 →
      post (some (.int x1)) μ) ∧
    (¬ (μ.1 36 5) ≤ x2 →
      a_Spec G sX7_isClash [.ref 36, .int x2] μ (fun r1 m1 => ∃ v1 : Int32, r1 = some (.int v1) ∧
      ((v1 = 0 →
        a_Runs G sX7_clashes 4 [(0, .ref 36), (1, .int (x1 + (nI 0))), (2, .int (x2 + nI 1))] [] m1 post) ∧
      (¬ v1 = 0 →
        a_Runs G sX7_clashes 4 [(0, .ref 36), (1, .int (x1 + (nI 1))), (2, .int (x2 + nI 1))] [] m1 post)))))) :
    a_Runs G sX7_clashes 4 [(0, .ref 36), (1, .int x1), (2, .int x2)] [] μ post := a_run (S := sX7_clashes) (pg := pX7_clashes) (tab := tX7) [(4, [0, 1, 2])] 18 (a_okT_e tX7_ok) pX7_clashes_ok rfl h
set_option maxRecDepth 100000 in
set_option maxHeartbeats 4000000 in
theorem w_X7_openAll_0 {G : aG} {μ : aMem} {post : aPost}  (h :
    a_Runs G sX7_openAll 2 [(0, .ref 36), (1, .int (nI 0))] [] μ post) :
    a_Spec G sX7_openAll [.ref 36] μ post := a_enter (by decide +kernel) rfl (a_run (S := sX7_openAll) (pg := pX7_openAll) (tab := tX7) [(2, [0, 1])] 5 (a_okT_e tX7_ok) pX7_openAll_ok rfl h)
set_option maxRecDepth 100000 in
set_option maxHeartbeats 4000000 in
theorem w_X7_openAll_2 {G : aG} {μ : aMem} {post : aPost} (x1 : Int32) (h :
    (((μ.1 36 0) ≤ x1 →
      post none μ) ∧
    (¬ (μ.1 36 0) ≤ x1 →
      vp_in x1 16 ∧
      a_Runs G sX7_openAll 2 [(0, .ref 36), (1, .int (x1 + nI 1))] [] (va_up μ.1 49 (upd (μ.1 49) x1.toNatClampNeg ((nI 1) &&& 1)), μ.2) post))) :
    a_Runs G sX7_openAll 2 [(0, .ref 36), (1, .int x1)] [] μ post := a_run (S := sX7_openAll) (pg := pX7_openAll) (tab := tX7) [(2, [0, 1])] 14 (a_okT_e tX7_ok) pX7_openAll_ok rfl h
set_option maxRecDepth 100000 in
set_option maxHeartbeats 4000000 in
theorem w_X7_far_0 {G : aG} {μ : aMem} {post : aPost} (x1 : Int32) (x2 : Int32) (h :
    a_Spec G sX7_isPlace [.int x1] μ (fun r1 m1 => ∃ v1 : Int32, r1 = some (.int v1) ∧
    ((v1 = 0 →
      post (some (.int (-1))) m1) ∧
    (¬ v1 = 0 →
      a_Spec G sX7_isPlace [.int x2] m1 (fun r2 m2 => ∃ v2 : Int32, r2 = some (.int v2) ∧
      ((¬ v2 = 0 →
        ((¬ x1 = x2 →
          a_Spec G sX7_openAll [.ref 36] m2 (fun r3 m3 => r3 = none ∧
          a_Spec G sX7_measure [.ref 36, .int x2] m3 (fun r4 m4 => r4 = none ∧
          vp_in x1 10 ∧
          (((m4.1 50 x1.toNatClampNeg) < (nI 1000000) →
            vp_in x1 10 ∧
            post (some (.int (m4.1 50 x1.toNatClampNeg))) m4) ∧
          (¬ (m4.1 50 x1.toNatClampNeg) < (nI 1000000) →
            post (some (.int (-9))) m4))))) ∧
        (x1 = x2 →
          post (some (.int (-3))) m2))) ∧
      (v2 = 0 →
        post (some (.int (-1))) m2))))))) :
    a_Spec G sX7_far [.ref 36, .int x1, .int x2] μ post := a_enter (by decide +kernel) rfl (a_run (S := sX7_far) (pg := pX7_far) (tab := tX7) [] 27 (a_okT_e tX7_ok) pX7_far_ok rfl h)
set_option maxRecDepth 100000 in
set_option maxHeartbeats 4000000 in
theorem w_X7_tryStep_0 {G : aG} {μ : aMem} {post : aPost} (x1 : Int32) (x2 : Int32) (x3 : Int32) (x4 : Int32) (h :
    vp_in x2 10 ∧
    (((nI 1000000) ≤ (μ.1 50 x2.toNatClampNeg) →
      post none μ) ∧
    (¬ (nI 1000000) ≤ (μ.1 50 x2.toNatClampNeg) →
      vp_in x2 10 ∧
      vp_in x3 10 ∧
      (((μ.1 50 x3.toNatClampNeg) ≤ ((μ.1 50 x2.toNatClampNeg) + x4) →
        post none μ) ∧
      (¬ (μ.1 50 x3.toNatClampNeg) ≤ ((μ.1 50 x2.toNatClampNeg) + x4) →
        vp_in x2 10 ∧
        vp_in x3 10 ∧
        vp_in x3 10 ∧
        post none (va_up (va_up μ.1 50 (upd (μ.1 50) x3.toNatClampNeg ((μ.1 50 x2.toNatClampNeg) + x4))) 53 (upd (μ.1 53) x3.toNatClampNeg x1), μ.2)))))) :
    a_Spec G sX7_tryStep [.ref 36, .int x1, .int x2, .int x3, .int x4] μ post := a_enter (by decide +kernel) rfl (a_run (S := sX7_tryStep) (pg := pX7_tryStep) (tab := tX7) [] 35 (a_okT_e tX7_ok) pX7_tryStep_ok rfl h)
set_option maxRecDepth 100000 in
set_option maxHeartbeats 4000000 in
theorem w_X7_addWay_0 {G : aG} {μ : aMem} {post : aPost} (x1 : Int32) (x2 : Int32) (h :
    a_Runs G sX7_addWay 2 [(0, .ref 36), (1, .int x1), (2, .int x2), (3, .int (nI 0))] [] μ post) :
    a_Spec G sX7_addWay [.ref 36, .int x1, .int x2] μ post := a_enter (by decide +kernel) rfl (a_run (S := sX7_addWay) (pg := pX7_addWay) (tab := tX7) [(2, [0, 1, 2, 3]), (33, [0, 1, 2, 3]), (42, [0, 1, 2, 3, 4]), (198, [0, 1, 3])] 5 (a_okT_e tX7_ok) pX7_addWay_ok rfl h)
set_option maxRecDepth 100000 in
set_option maxHeartbeats 4000000 in
theorem w_X7_addWay_2 {G : aG} {μ : aMem} {post : aPost} (x1 : Int32) (x2 : Int32) (x3 : Int32) (h :
    (((nI 10) ≤ x3 →
      a_Runs G sX7_addWay 33 [(0, .ref 36), (1, .int x1), (2, .int x2), (3, .int (nI 0))] [] μ post) ∧
    (¬ (nI 10) ≤ x3 →
      ((¬ x3 = x1 →
        vp_in x3 10 ∧
        a_Runs G sX7_addWay 2 [(0, .ref 36), (1, .int x1), (2, .int x2), (3, .int (x3 + nI 1))] [] (va_up μ.1 50 (upd (μ.1 50) x3.toNatClampNeg (nI 1000000)), μ.2) post) ∧
      (x3 = x1 →
        vp_in x3 10 ∧
        a_Runs G sX7_addWay 2 [(0, .ref 36), (1, .int x1), (2, .int x2), (3, .int (x3 + nI 1))] [] (va_up μ.1 50 (upd (μ.1 50) x3.toNatClampNeg (nI 0)), μ.2) post))))) :
    a_Runs G sX7_addWay 2 [(0, .ref 36), (1, .int x1), (2, .int x2), (3, .int x3)] [] μ post := a_run (S := sX7_addWay) (pg := pX7_addWay) (tab := tX7) [(2, [0, 1, 2, 3]), (33, [0, 1, 2, 3]), (42, [0, 1, 2, 3, 4]), (198, [0, 1, 3])] 17 (a_okT_e tX7_ok) pX7_addWay_ok rfl h
set_option maxRecDepth 100000 in
set_option maxHeartbeats 4000000 in
theorem w_X7_addWay_33 {G : aG} {μ : aMem} {post : aPost} (x1 : Int32) (x2 : Int32) (x3 : Int32) (h :
    (((nI 10) ≤ x3 →
      vp_in x2 10 ∧
      (((μ.1 50 x2.toNatClampNeg) < (nI 1000000) →
        a_Runs G sX7_addWay 198 [(0, .ref 36), (1, .int x1), (3, .int x2)] [] μ post) ∧
      (¬ (μ.1 50 x2.toNatClampNeg) < (nI 1000000) →
        ((nI 0) = 0 ∨ (nI 0) = 1) ∧ post (some (.int (nI 0))) μ))) ∧
    (¬ (nI 10) ≤ x3 →
      a_Runs G sX7_addWay 42 [(0, .ref 36), (1, .int x1), (2, .int x2), (3, .int x3), (4, .int (nI 0))] [] μ post))) :
    a_Runs G sX7_addWay 33 [(0, .ref 36), (1, .int x1), (2, .int x2), (3, .int x3)] [] μ post := a_run (S := sX7_addWay) (pg := pX7_addWay) (tab := tX7) [(2, [0, 1, 2, 3]), (33, [0, 1, 2, 3]), (42, [0, 1, 2, 3, 4]), (198, [0, 1, 3])] 14 (a_okT_e tX7_ok) pX7_addWay_ok rfl h
set_option maxRecDepth 100000 in
set_option maxHeartbeats 4000000 in
theorem w_X7_addWay_198 {G : aG} {μ : aMem} {post : aPost} (x1 : Int32) (x3 : Int32) (h :
    ((x3 = x1 →
      ((nI 1) = 0 ∨ (nI 1) = 1) ∧ post (some (.int (nI 1))) μ) ∧
    (¬ x3 = x1 →
      vp_in x3 10 ∧
      a_Spec G sX7_across [.ref 36, .int (μ.1 53 x3.toNatClampNeg), .int x3] μ (fun r1 m1 => ∃ v1 : Int32, r1 = some (.int v1) ∧
      vp_in (μ.1 53 x3.toNatClampNeg) 16 ∧
      (((m1.1 52 (μ.1 53 x3.toNatClampNeg).toNatClampNeg) ≤ 0 →
        vp_in (μ.1 53 x3.toNatClampNeg) 16 ∧
        ((¬ v1 = (m1.1 37 (μ.1 53 x3.toNatClampNeg).toNatClampNeg) →
          vp_in (μ.1 53 x3.toNatClampNeg) 16 ∧
          a_Runs G sX7_addWay 198 [(0, .ref 36), (1, .int x1), (3, .int v1)] [] (va_up m1.1 52 (upd (m1.1 52) ((μ.1 53 x3.toNatClampNeg).toNatClampNeg) (nI 2)), m1.2) post) ∧
        (v1 = (m1.1 37 (μ.1 53 x3.toNatClampNeg).toNatClampNeg) →
          vp_in (μ.1 53 x3.toNatClampNeg) 16 ∧
          a_Runs G sX7_addWay 198 [(0, .ref 36), (1, .int x1), (3, .int v1)] [] (va_up m1.1 52 (upd (m1.1 52) ((μ.1 53 x3.toNatClampNeg).toNatClampNeg) (nI 1)), m1.2) post))) ∧
      (¬ (m1.1 52 (μ.1 53 x3.toNatClampNeg).toNatClampNeg) ≤ 0 →
        vp_in (μ.1 53 x3.toNatClampNeg) 16 ∧
        a_Runs G sX7_addWay 198 [(0, .ref 36), (1, .int x1), (3, .int v1)] [] (va_up m1.1 52 (upd (m1.1 52) ((μ.1 53 x3.toNatClampNeg).toNatClampNeg) (nI 0)), m1.2) post)))))) :
    a_Runs G sX7_addWay 198 [(0, .ref 36), (1, .int x1), (3, .int x3)] [] μ post := a_run (S := sX7_addWay) (pg := pX7_addWay) (tab := tX7) [(2, [0, 1, 2, 3]), (33, [0, 1, 2, 3]), (42, [0, 1, 2, 3, 4]), (198, [0, 1, 3])] 36 (a_okT_e tX7_ok) pX7_addWay_ok rfl h
set_option maxRecDepth 100000 in
set_option maxHeartbeats 4000000 in
theorem w_X7_addWay_42 {G : aG} {μ : aMem} {post : aPost} (x1 : Int32) (x2 : Int32) (x3 : Int32) (x4 : Int32) (h :
    (((μ.1 36 0) ≤ x4 →
      a_Runs G sX7_addWay 33 [(0, .ref 36), (1, .int x1), (2, .int x2), (3, .int (x3 + nI 1))] [] μ post) ∧
    (¬ (μ.1 36 0) ≤ x4 →
      vp_in x4 16 ∧
      (((μ.1 52 x4.toNatClampNeg) = (nI 1) →
        vp_in x4 16 ∧
        (((μ.1 52 x4.toNatClampNeg) = (nI 2) →
          a_Runs G sX7_addWay 42 [(0, .ref 36), (1, .int x1), (2, .int x2), (3, .int x3), (4, .int (x4 + nI 1))] [] μ post) ∧
        (¬ (μ.1 52 x4.toNatClampNeg) = (nI 2) →
          vp_in x4 16 ∧
          vp_in x4 16 ∧
          vp_in x4 16 ∧
          ((¬ (μ.1 52 x4.toNatClampNeg) = (nI 1) →
            vp_in x4 16 ∧
            a_Spec G sX7_tryStep [.ref 36, .int x4, .int (μ.1 38 x4.toNatClampNeg), .int (μ.1 37 x4.toNatClampNeg), .int (μ.1 39 x4.toNatClampNeg)] μ (fun r1 m1 => r1 = none ∧
            a_Runs G sX7_addWay 42 [(0, .ref 36), (1, .int x1), (2, .int x2), (3, .int x3), (4, .int (x4 + nI 1))] [] m1 post)) ∧
          ((μ.1 52 x4.toNatClampNeg) = (nI 1) →
            vp_in x4 16 ∧
            a_Spec G sX7_tryStep [.ref 36, .int x4, .int (μ.1 38 x4.toNatClampNeg), .int (μ.1 37 x4.toNatClampNeg), .int (-(μ.1 39 x4.toNatClampNeg))] μ (fun r2 m2 => r2 = none ∧
            a_Runs G sX7_addWay 42 [(0, .ref 36), (1, .int x1), (2, .int x2), (3, .int x3), (4, .int (x4 + nI 1))] [] m2 post)))))) ∧
      (¬ (μ.1 52 x4.toNatClampNeg) = (nI 1) →
        vp_in x4 16 ∧
        vp_in x4 16 ∧
        vp_in x4 16 ∧
        ((¬ (μ.1 52 x4.toNatClampNeg) = (nI 2) →
          vp_in x4 16 ∧
          a_Spec G sX7_tryStep [.ref 36, .int x4, .int (μ.1 37 x4.toNatClampNeg), .int (μ.1 38 x4.toNatClampNeg), .int (μ.1 39 x4.toNatClampNeg)] μ (fun r3 m3 => r3 = none ∧
          vp_in x4 16 ∧
          (((m3.1 52 x4.toNatClampNeg) = (nI 2) →
            a_Runs G sX7_addWay 42 [(0, .ref 36), (1, .int x1), (2, .int x2), (3, .int x3), (4, .int (x4 + nI 1))] [] m3 post) ∧
          (¬ (m3.1 52 x4.toNatClampNeg) = (nI 2) →
            vp_in x4 16 ∧
            vp_in x4 16 ∧
            vp_in x4 16 ∧
            ((¬ (m3.1 52 x4.toNatClampNeg) = (nI 1) →
              vp_in x4 16 ∧
              a_Spec G sX7_tryStep [.ref 36, .int x4, .int (m3.1 38 x4.toNatClampNeg), .int (m3.1 37 x4.toNatClampNeg), .int (m3.1 39 x4.toNatClampNeg)] m3 (fun r4 m4 => r4 = none ∧
              a_Runs G sX7_addWay 42 [(0, .ref 36), (1, .int x1), (2, .int x2), (3, .int x3), (4, .int (x4 + nI 1))] [] m4 post)) ∧
            ((m3.1 52 x4.toNatClampNeg) = (nI 1) →
              vp_in x4 16 ∧
              a_Spec G sX7_tryStep [.ref 36, .int x4, .int (m3.1 38 x4.toNatClampNeg), .int (m3.1 37 x4.toNatClampNeg), .int (-(m3.1 39 x4.toNatClampNeg))] m3 (fun r5 m5 => r5 = none ∧
              a_Runs G sX7_addWay 42 [(0, .ref 36), (1, .int x1), (2, .int x2), (3, .int x3), (4, .int (x4 + nI 1))] [] m5 post))))))) ∧
        ((μ.1 52 x4.toNatClampNeg) = (nI 2) →
          vp_in x4 16 ∧
          a_Spec G sX7_tryStep [.ref 36, .int x4, .int (μ.1 37 x4.toNatClampNeg), .int (μ.1 38 x4.toNatClampNeg), .int (-(μ.1 39 x4.toNatClampNeg))] μ (fun r6 m6 => r6 = none ∧
          vp_in x4 16 ∧
          (((m6.1 52 x4.toNatClampNeg) = (nI 2) →
            a_Runs G sX7_addWay 42 [(0, .ref 36), (1, .int x1), (2, .int x2), (3, .int x3), (4, .int (x4 + nI 1))] [] m6 post) ∧
          (¬ (m6.1 52 x4.toNatClampNeg) = (nI 2) →
            vp_in x4 16 ∧
            vp_in x4 16 ∧
            vp_in x4 16 ∧
            ((¬ (m6.1 52 x4.toNatClampNeg) = (nI 1) →
              vp_in x4 16 ∧
              a_Spec G sX7_tryStep [.ref 36, .int x4, .int (m6.1 38 x4.toNatClampNeg), .int (m6.1 37 x4.toNatClampNeg), .int (m6.1 39 x4.toNatClampNeg)] m6 (fun r7 m7 => r7 = none ∧
              a_Runs G sX7_addWay 42 [(0, .ref 36), (1, .int x1), (2, .int x2), (3, .int x3), (4, .int (x4 + nI 1))] [] m7 post)) ∧
            ((m6.1 52 x4.toNatClampNeg) = (nI 1) →
              vp_in x4 16 ∧
              a_Spec G sX7_tryStep [.ref 36, .int x4, .int (m6.1 38 x4.toNatClampNeg), .int (m6.1 37 x4.toNatClampNeg), .int (-(m6.1 39 x4.toNatClampNeg))] m6 (fun r8 m8 => r8 = none ∧
              a_Runs G sX7_addWay 42 [(0, .ref 36), (1, .int x1), (2, .int x2), (3, .int x3), (4, .int (x4 + nI 1))] [] m8 post))))))))))))) :
    a_Runs G sX7_addWay 42 [(0, .ref 36), (1, .int x1), (2, .int x2), (3, .int x3), (4, .int x4)] [] μ post := a_run (S := sX7_addWay) (pg := pX7_addWay) (tab := tX7) [(2, [0, 1, 2, 3]), (33, [0, 1, 2, 3]), (42, [0, 1, 2, 3, 4]), (198, [0, 1, 3])] 67 (a_okT_e tX7_ok) pX7_addWay_ok rfl h
set_option maxRecDepth 100000 in
set_option maxHeartbeats 4000000 in
theorem w_X7_two_0 {G : aG} {μ : aMem} {post : aPost} (x1 : Int32) (x2 : Int32) (h :
    a_Spec G sX7_isPlace [.int x1] μ (fun r1 m1 => ∃ v1 : Int32, r1 = some (.int v1) ∧
    ((v1 = 0 →
      post (some (.int (-1))) m1) ∧
    (¬ v1 = 0 →
      a_Spec G sX7_isPlace [.int x2] m1 (fun r2 m2 => ∃ v2 : Int32, r2 = some (.int v2) ∧
      ((¬ v2 = 0 →
        ((¬ x1 = x2 →
          a_Runs G sX7_two 26 [(0, .ref 36), (1, .int x1), (2, .int x2), (3, .int (nI 0))] [] m2 post) ∧
        (x1 = x2 →
          post (some (.int (-3))) m2))) ∧
      (v2 = 0 →
        post (some (.int (-1))) m2))))))) :
    a_Spec G sX7_two [.ref 36, .int x1, .int x2] μ post := a_enter (by decide +kernel) rfl (a_run (S := sX7_two) (pg := pX7_two) (tab := tX7) [(26, [0, 1, 2, 3]), (71, [0, 3, 4])] 14 (a_okT_e tX7_ok) pX7_two_ok rfl h)
set_option maxRecDepth 100000 in
set_option maxHeartbeats 4000000 in
theorem w_X7_two_26 {G : aG} {μ : aMem} {post : aPost} (x1 : Int32) (x2 : Int32) (x3 : Int32) (h :
    (((nI 16) ≤ x3 →
      a_Spec G sX7_addWay [.ref 36, .int x1, .int x2] μ (fun r1 m1 => ∃ v1 : Int32, r1 = some (.int v1) ∧
      ((v1 = 0 →
        post (some (.int (-9))) m1) ∧
      (¬ v1 = 0 →
        a_Spec G sX7_addWay [.ref 36, .int x1, .int x2] m1 (fun r2 m2 => ∃ v2 : Int32, r2 = some (.int v2) ∧
        ((¬ v2 = 0 →
          a_Runs G sX7_two 71 [(0, .ref 36), (3, .int (nI 0)), (4, .int (nI 0))] [] m2 post) ∧
        (v2 = 0 →
          post (some (.int (-9))) m2))))))) ∧
    (¬ (nI 16) ≤ x3 →
      vp_in x3 16 ∧
      a_Runs G sX7_two 26 [(0, .ref 36), (1, .int x1), (2, .int x2), (3, .int (x3 + nI 1))] [] (va_up μ.1 52 (upd (μ.1 52) x3.toNatClampNeg (nI 0)), μ.2) post))) :
    a_Runs G sX7_two 26 [(0, .ref 36), (1, .int x1), (2, .int x2), (3, .int x3)] [] μ post := a_run (S := sX7_two) (pg := pX7_two) (tab := tX7) [(26, [0, 1, 2, 3]), (71, [0, 3, 4])] 20 (a_okT_e tX7_ok) pX7_two_ok rfl h
set_option maxRecDepth 100000 in
set_option maxHeartbeats 4000000 in
theorem w_X7_two_71 {G : aG} {μ : aMem} {post : aPost} (x3 : Int32) (x4 : Int32) (h :
    (((μ.1 36 0) ≤ x4 →
      post (some (.int x3)) μ) ∧
    (¬ (μ.1 36 0) ≤ x4 →
      vp_in x4 16 ∧
      (((μ.1 52 x4.toNatClampNeg) ≤ 0 →
        a_Runs G sX7_two 71 [(0, .ref 36), (3, .int (x3 + (nI 0))), (4, .int (x4 + nI 1))] [] μ post) ∧
      (¬ (μ.1 52 x4.toNatClampNeg) ≤ 0 →
        vp_in x4 16 ∧
        a_Runs G sX7_two 71 [(0, .ref 36), (3, .int (x3 + (μ.1 39 x4.toNatClampNeg))), (4, .int (x4 + nI 1))] [] μ post))))) :
    a_Runs G sX7_two 71 [(0, .ref 36), (3, .int x3), (4, .int x4)] [] μ post := a_run (S := sX7_two) (pg := pX7_two) (tab := tX7) [(26, [0, 1, 2, 3]), (71, [0, 3, 4])] 22 (a_okT_e tX7_ok) pX7_two_ok rfl h
set_option maxRecDepth 100000 in
set_option maxHeartbeats 4000000 in
theorem w_X7_treeOf_0 {G : aG} {μ : aMem} {post : aPost} (x1 : Int32) (h :
    a_Spec G sX7_ones [.int x1] μ (fun r1 m1 => ∃ v1 : Int32, r1 = some (.int v1) ∧
    a_Runs G sX7_treeOf 12 [(0, .ref 36), (1, .int x1), (2, .int (v1 - (nI 1))), (3, .int (nI 0)), (4, .int (nI 0))] [] m1 post)) :
    a_Spec G sX7_treeOf [.ref 36, .int x1] μ post := a_enter (by decide +kernel) rfl (a_run (S := sX7_treeOf) (pg := pX7_treeOf) (tab := tX7) [(12, [0, 1, 2, 3, 4]), (37, [0, 1, 2, 3, 4]), (122, [0, 1, 2, 3, 4, 5, 6, 7, 8])] 12 (a_okT_e tX7_ok) pX7_treeOf_ok rfl h)
set_option maxRecDepth 100000 in
set_option maxHeartbeats 4000000 in
theorem w_X7_treeOf_12 {G : aG} {μ : aMem} {post : aPost} (x1 : Int32) (x2 : Int32) (x3 : Int32) (x4 : Int32) (h :
    (((nI 10) ≤ x4 →
      a_Runs G sX7_treeOf 37 [(0, .ref 36), (1, .int x1), (2, .int x2), (3, .int x3), (4, .int (nI 0))] [] μ post) ∧
    (¬ (nI 10) ≤ x4 →
      vp_in x4 10 ∧
      a_Runs G sX7_treeOf 12 [(0, .ref 36), (1, .int x1), (2, .int x2), (3, .int x3), (4, .int (x4 + nI 1))] [] (va_up μ.1 56 (upd (μ.1 56) x4.toNatClampNeg x4), μ.2) post))) :
    a_Runs G sX7_treeOf 12 [(0, .ref 36), (1, .int x1), (2, .int x2), (3, .int x3), (4, .int x4)] [] μ post := a_run (S := sX7_treeOf) (pg := pX7_treeOf) (tab := tX7) [(12, [0, 1, 2, 3, 4]), (37, [0, 1, 2, 3, 4]), (122, [0, 1, 2, 3, 4, 5, 6, 7, 8])] 13 (a_okT_e tX7_ok) pX7_treeOf_ok rfl h
set_option maxRecDepth 100000 in
set_option maxHeartbeats 4000000 in
theorem w_X7_treeOf_37 {G : aG} {μ : aMem} {post : aPost} (x1 : Int32) (x2 : Int32) (x3 : Int32) (x4 : Int32) (h :
    (((μ.1 36 0) ≤ x4 →
      ((x2 ≤ 0 →
        post (some (.int x3)) μ) ∧
      (¬ x2 ≤ 0 →
        post (some (.int (nI 1000000))) μ))) ∧
    (¬ (μ.1 36 0) ≤ x4 →
      ((x2 ≤ 0 →
        ((x2 ≤ 0 →
          post (some (.int x3)) μ) ∧
        (¬ x2 ≤ 0 →
          post (some (.int (nI 1000000))) μ))) ∧
      (¬ x2 ≤ 0 →
        vp_in x4 16 ∧
        vp_in (μ.1 55 x4.toNatClampNeg) 16 ∧
        vp_in (μ.1 37 (μ.1 55 x4.toNatClampNeg).toNatClampNeg) 10 ∧
        vp_in (μ.1 55 x4.toNatClampNeg) 16 ∧
        vp_in (μ.1 38 (μ.1 55 x4.toNatClampNeg).toNatClampNeg) 10 ∧
        vp_in (μ.1 55 x4.toNatClampNeg) 16 ∧
        vp_in (μ.1 55 x4.toNatClampNeg) 16 ∧
        ((¬ (((x1 >>> ((μ.1 37 (μ.1 55 x4.toNatClampNeg).toNatClampNeg) &&& 31)) &&& (x1 >>> ((μ.1 38 (μ.1 55 x4.toNatClampNeg).toNatClampNeg) &&& 31))) &&& (nI 1)) = (nI 1) →
          a_Runs G sX7_treeOf 37 [(0, .ref 36), (1, .int x1), (2, .int x2), (3, .int x3), (4, .int (x4 + nI 1))] [] μ post) ∧
        ((((x1 >>> ((μ.1 37 (μ.1 55 x4.toNatClampNeg).toNatClampNeg) &&& 31)) &&& (x1 >>> ((μ.1 38 (μ.1 55 x4.toNatClampNeg).toNatClampNeg) &&& 31))) &&& (nI 1)) = (nI 1) →
          (((μ.1 56 (μ.1 37 (μ.1 55 x4.toNatClampNeg).toNatClampNeg).toNatClampNeg) = (μ.1 56 (μ.1 38 (μ.1 55 x4.toNatClampNeg).toNatClampNeg).toNatClampNeg) →
            a_Runs G sX7_treeOf 37 [(0, .ref 36), (1, .int x1), (2, .int x2), (3, .int x3), (4, .int (x4 + nI 1))] [] μ post) ∧
          (¬ (μ.1 56 (μ.1 37 (μ.1 55 x4.toNatClampNeg).toNatClampNeg).toNatClampNeg) = (μ.1 56 (μ.1 38 (μ.1 55 x4.toNatClampNeg).toNatClampNeg).toNatClampNeg) →
            a_Runs G sX7_treeOf 122 [(0, .ref 36), (1, .int x1), (2, .int x2), (3, .int x3), (4, .int x4), (5, .int (μ.1 55 x4.toNatClampNeg)), (6, .int (μ.1 56 (μ.1 37 (μ.1 55 x4.toNatClampNeg).toNatClampNeg).toNatClampNeg)), (7, .int (μ.1 56 (μ.1 38 (μ.1 55 x4.toNatClampNeg).toNatClampNeg).toNatClampNeg)), (8, .int (nI 0))] [] μ post))))))))) :
    a_Runs G sX7_treeOf 37 [(0, .ref 36), (1, .int x1), (2, .int x2), (3, .int x3), (4, .int x4)] [] μ post := a_run (S := sX7_treeOf) (pg := pX7_treeOf) (tab := tX7) [(12, [0, 1, 2, 3, 4]), (37, [0, 1, 2, 3, 4]), (122, [0, 1, 2, 3, 4, 5, 6, 7, 8])] 52 (a_okT_e tX7_ok) pX7_treeOf_ok rfl h
set_option maxRecDepth 100000 in
set_option maxHeartbeats 4000000 in
theorem w_X7_treeOf_122 {G : aG} {μ : aMem} {post : aPost} (x1 : Int32) (x2 : Int32) (x3 : Int32) (x4 : Int32) (x5 : Int32) (x6 : Int32) (x7 : Int32) (x8 : Int32) (h :
    (((nI 10) ≤ x8 →
      vp_in x5 16 ∧
      a_Runs G sX7_treeOf 37 [(0, .ref 36), (1, .int x1), (2, .int (x2 + (-1))), (3, .int (x3 + (μ.1 39 x5.toNatClampNeg))), (4, .int (x4 + nI 1))] [] μ post) ∧
    (¬ (nI 10) ≤ x8 →
      vp_in x8 10 ∧
      ((¬ (μ.1 56 x8.toNatClampNeg) = x6 →
        vp_in x8 10 ∧
        vp_in x8 10 ∧
        a_Runs G sX7_treeOf 122 [(0, .ref 36), (1, .int x1), (2, .int x2), (3, .int x3), (4, .int x4), (5, .int x5), (6, .int x6), (7, .int x7), (8, .int (x8 + nI 1))] [] (va_up μ.1 56 (upd (μ.1 56) x8.toNatClampNeg (μ.1 56 x8.toNatClampNeg)), μ.2) post) ∧
      ((μ.1 56 x8.toNatClampNeg) = x6 →
        vp_in x8 10 ∧
        a_Runs G sX7_treeOf 122 [(0, .ref 36), (1, .int x1), (2, .int x2), (3, .int x3), (4, .int x4), (5, .int x5), (6, .int x6), (7, .int x7), (8, .int (x8 + nI 1))] [] (va_up μ.1 56 (upd (μ.1 56) x8.toNatClampNeg x7), μ.2) post))))) :
    a_Runs G sX7_treeOf 122 [(0, .ref 36), (1, .int x1), (2, .int x2), (3, .int x3), (4, .int x4), (5, .int x5), (6, .int x6), (7, .int x7), (8, .int x8)] [] μ post := a_run (S := sX7_treeOf) (pg := pX7_treeOf) (tab := tX7) [(12, [0, 1, 2, 3, 4]), (37, [0, 1, 2, 3, 4]), (122, [0, 1, 2, 3, 4, 5, 6, 7, 8])] 22 (a_okT_e tX7_ok) pX7_treeOf_ok rfl h
set_option maxRecDepth 100000 in
set_option maxHeartbeats 4000000 in
theorem w_X7_layTrees_0 {G : aG} {μ : aMem} {post : aPost}  (h :
    a_Runs G sX7_layTrees 2 [(0, .ref 36), (1, .int (nI 0))] [] μ post) :
    a_Spec G sX7_layTrees [.ref 36] μ post := a_enter (by decide +kernel) rfl (a_run (S := sX7_layTrees) (pg := pX7_layTrees) (tab := tX7) [(2, [0, 1]), (12, [0, 1, 2]), (73, [0, 1])] 5 (a_okT_e tX7_ok) pX7_layTrees_ok rfl h)
set_option maxRecDepth 100000 in
set_option maxHeartbeats 4000000 in
theorem w_X7_layTrees_2 {G : aG} {μ : aMem} {post : aPost} (x1 : Int32) (h :
    (((μ.1 36 0) ≤ x1 →
      a_Runs G sX7_layTrees 73 [(0, .ref 36), (1, .int (nI 1))] [] μ post) ∧
    (¬ (μ.1 36 0) ≤ x1 →
      a_Runs G sX7_layTrees 12 [(0, .ref 36), (1, .int x1), (2, .int x1)] [] μ post))) :
    a_Runs G sX7_layTrees 2 [(0, .ref 36), (1, .int x1)] [] μ post := a_run (S := sX7_layTrees) (pg := pX7_layTrees) (tab := tX7) [(2, [0, 1]), (12, [0, 1, 2]), (73, [0, 1])] 9 (a_okT_e tX7_ok) pX7_layTrees_ok rfl h
set_option maxRecDepth 100000 in
set_option maxHeartbeats 4000000 in
theorem w_X7_layTrees_73 {G : aG} {μ : aMem} {post : aPost} (x1 : Int32) (h :
    (((nI 1024) ≤ x1 →
      post none μ) ∧
    (¬ (nI 1024) ≤ x1 →
      a_Spec G sX7_treeOf [.ref 36, .int x1] μ (fun r1 m1 => ∃ v1 : Int32, r1 = some (.int v1) ∧
      vp_in x1 1024 ∧
      a_Runs G sX7_layTrees 73 [(0, .ref 36), (1, .int (x1 + nI 1))] [] (va_up m1.1 54 (upd (m1.1 54) x1.toNatClampNeg v1), m1.2) post)))) :
    a_Runs G sX7_layTrees 73 [(0, .ref 36), (1, .int x1)] [] μ post := a_run (S := sX7_layTrees) (pg := pX7_layTrees) (tab := tX7) [(2, [0, 1]), (12, [0, 1, 2]), (73, [0, 1])] 15 (a_okT_e tX7_ok) pX7_layTrees_ok rfl h
set_option maxRecDepth 100000 in
set_option maxHeartbeats 4000000 in
theorem w_X7_layTrees_12 {G : aG} {μ : aMem} {post : aPost} (x1 : Int32) (x2 : Int32) (h :
    ((x2 ≤ 0 →
      vp_in x2 16 ∧
      a_Runs G sX7_layTrees 2 [(0, .ref 36), (1, .int (x1 + nI 1))] [] (va_up μ.1 55 (upd (μ.1 55) x2.toNatClampNeg x1), μ.2) post) ∧
    (¬ x2 ≤ 0 →
      vp_in (x2 - (nI 1)) 16 ∧
      vp_in (μ.1 55 (x2 - (nI 1)).toNatClampNeg) 16 ∧
      vp_in x1 16 ∧
      (((μ.1 39 (μ.1 55 (x2 - (nI 1)).toNatClampNeg).toNatClampNeg) ≤ (μ.1 39 x1.toNatClampNeg) →
        vp_in x2 16 ∧
        a_Runs G sX7_layTrees 2 [(0, .ref 36), (1, .int (x1 + nI 1))] [] (va_up μ.1 55 (upd (μ.1 55) x2.toNatClampNeg x1), μ.2) post) ∧
      (¬ (μ.1 39 (μ.1 55 (x2 - (nI 1)).toNatClampNeg).toNatClampNeg) ≤ (μ.1 39 x1.toNatClampNeg) →
        vp_in (x2 - (nI 1)) 16 ∧
        vp_in x2 16 ∧
        a_Runs G sX7_layTrees 12 [(0, .ref 36), (1, .int x1), (2, .int (x2 + (-1)))] [] (va_up μ.1 55 (upd (μ.1 55) x2.toNatClampNeg (μ.1 55 (x2 - (nI 1)).toNatClampNeg)), μ.2) post))))) :
    a_Runs G sX7_layTrees 12 [(0, .ref 36), (1, .int x1), (2, .int x2)] [] μ post := a_run (S := sX7_layTrees) (pg := pX7_layTrees) (tab := tX7) [(2, [0, 1]), (12, [0, 1, 2]), (73, [0, 1])] 31 (a_okT_e tX7_ok) pX7_layTrees_ok rfl h
set_option maxRecDepth 100000 in
set_option maxHeartbeats 4000000 in
theorem w_X7_leastNet_0 {G : aG} {μ : aMem} {post : aPost} (x1 : Int32) (x2 : Int32) (h :
    a_Runs G sX7_leastNet 6 [(0, .ref 36), (1, .int x1), (2, .int x2), (3, .int (nI 1000000)), (4, .int x1)] [] μ post) :
    a_Spec G sX7_leastNet [.ref 36, .int x1, .int x2] μ post := a_enter (by decide +kernel) rfl (a_run (S := sX7_leastNet) (pg := pX7_leastNet) (tab := tX7) [(6, [0, 1, 2, 3, 4])] 7 (a_okT_e tX7_ok) pX7_leastNet_ok rfl h)
set_option maxRecDepth 100000 in
set_option maxHeartbeats 4000000 in
theorem w_X7_leastNet_6 {G : aG} {μ : aMem} {post : aPost} (x1 : Int32) (x2 : Int32) (x3 : Int32) (x4 : Int32) (h :
    (((nI 1024) ≤ x4 →
      post (some (.int x3)) μ) ∧
    (¬ (nI 1024) ≤ x4 →
      ((¬ (x4 &&& x1) = x1 →
        (((nI 0) = 0 →
          a_Runs G sX7_leastNet 6 [(0, .ref 36), (1, .int x1), (2, .int x2), (3, .int x3), (4, .int (x4 + nI 1))] [] μ post) ∧
        (¬ (nI 0) = 0 →
          vp_in x4 1024 ∧
          ((x3 ≤ (μ.1 54 x4.toNatClampNeg) →
            a_Runs G sX7_leastNet 6 [(0, .ref 36), (1, .int x1), (2, .int x2), (3, .int x3), (4, .int (x4 + nI 1))] [] μ post) ∧
          (¬ x3 ≤ (μ.1 54 x4.toNatClampNeg) →
            vp_in x4 1024 ∧
            a_Runs G sX7_leastNet 6 [(0, .ref 36), (1, .int x1), (2, .int x2), (3, .int (μ.1 54 x4.toNatClampNeg)), (4, .int (x4 + nI 1))] [] μ post))))) ∧
      ((x4 &&& x1) = x1 →
        ((x2 = (-9) →
          (((nI 1) = 0 →
            a_Runs G sX7_leastNet 6 [(0, .ref 36), (1, .int x1), (2, .int x2), (3, .int x3), (4, .int (x4 + nI 1))] [] μ post) ∧
          (¬ (nI 1) = 0 →
            vp_in x4 1024 ∧
            ((x3 ≤ (μ.1 54 x4.toNatClampNeg) →
              a_Runs G sX7_leastNet 6 [(0, .ref 36), (1, .int x1), (2, .int x2), (3, .int x3), (4, .int (x4 + nI 1))] [] μ post) ∧
            (¬ x3 ≤ (μ.1 54 x4.toNatClampNeg) →
              vp_in x4 1024 ∧
              a_Runs G sX7_leastNet 6 [(0, .ref 36), (1, .int x1), (2, .int x2), (3, .int (μ.1 54 x4.toNatClampNeg)), (4, .int (x4 + nI 1))] [] μ post))))) ∧
        (¬ x2 = (-9) →
          ((¬ ((x4 >>> (x2 &&& 31)) &&& (nI 1)) = 0 →
            (((nI 0) = 0 →
              a_Runs G sX7_leastNet 6 [(0, .ref 36), (1, .int x1), (2, .int x2), (3, .int x3), (4, .int (x4 + nI 1))] [] μ post) ∧
            (¬ (nI 0) = 0 →
              vp_in x4 1024 ∧
              ((x3 ≤ (μ.1 54 x4.toNatClampNeg) →
                a_Runs G sX7_leastNet 6 [(0, .ref 36), (1, .int x1), (2, .int x2), (3, .int x3), (4, .int (x4 + nI 1))] [] μ post) ∧
              (¬ x3 ≤ (μ.1 54 x4.toNatClampNeg) →
                vp_in x4 1024 ∧
                a_Runs G sX7_leastNet 6 [(0, .ref 36), (1, .int x1), (2, .int x2), (3, .int (μ.1 54 x4.toNatClampNeg)), (4, .int (x4 + nI 1))] [] μ post))))) ∧
          (((x4 >>> (x2 &&& 31)) &&& (nI 1)) = 0 →
            (((nI 1) = 0 →
              a_Runs G sX7_leastNet 6 [(0, .ref 36), (1, .int x1), (2, .int x2), (3, .int x3), (4, .int (x4 + nI 1))] [] μ post) ∧
            (¬ (nI 1) = 0 →
              vp_in x4 1024 ∧
              ((x3 ≤ (μ.1 54 x4.toNatClampNeg) →
                a_Runs G sX7_leastNet 6 [(0, .ref 36), (1, .int x1), (2, .int x2), (3, .int x3), (4, .int (x4 + nI 1))] [] μ post) ∧
              (¬ x3 ≤ (μ.1 54 x4.toNatClampNeg) →
                vp_in x4 1024 ∧
                a_Runs G sX7_leastNet 6 [(0, .ref 36), (1, .int x1), (2, .int x2), (3, .int (μ.1 54 x4.toNatClampNeg)), (4, .int (x4 + nI 1))] [] μ post))))))))))))) :
    a_Runs G sX7_leastNet 6 [(0, .ref 36), (1, .int x1), (2, .int x2), (3, .int x3), (4, .int x4)] [] μ post := a_run (S := sX7_leastNet) (pg := pX7_leastNet) (tab := tX7) [(6, [0, 1, 2, 3, 4])] 39 (a_okT_e tX7_ok) pX7_leastNet_ok rfl h
set_option maxRecDepth 100000 in
set_option maxHeartbeats 4000000 in
theorem w_X7_isNet_0 {G : aG} {μ : aMem} {post : aPost} (x0 : Int32) (h :
    a_Spec G sX7_in [.int x0, .int (nI 1), .int (nI 1023)] μ (fun r1 m1 => ∃ v1 : Int32, r1 = some (.int v1) ∧
    ((v1 = 0 →
      ((nI 0) = 0 ∨ (nI 0) = 1) ∧ post (some (.int (nI 0))) m1) ∧
    (¬ v1 = 0 →
      a_Spec G sX7_ones [.int x0] m1 (fun r2 m2 => ∃ v2 : Int32, r2 = some (.int v2) ∧
      ((v2 ≤ (nI 1) →
        ((nI 0) = 0 ∨ (nI 0) = 1) ∧ post (some (.int (nI 0))) m2) ∧
      (¬ v2 ≤ (nI 1) →
        ((nI 1) = 0 ∨ (nI 1) = 1) ∧ post (some (.int (nI 1))) m2))))))) :
    a_Spec G sX7_isNet [.int x0] μ post := a_enter (by decide +kernel) rfl (a_run (S := sX7_isNet) (pg := pX7_isNet) (tab := tX7) [] 14 (a_okT_e tX7_ok) pX7_isNet_ok rfl h)
set_option maxRecDepth 100000 in
set_option maxHeartbeats 4000000 in
theorem w_X7_net_0 {G : aG} {μ : aMem} {post : aPost} (x1 : Int32) (h :
    a_Spec G sX7_isNet [.int x1] μ (fun r1 m1 => ∃ v1 : Int32, r1 = some (.int v1) ∧
    ((¬ v1 = 0 →
      a_Spec G sX7_layTrees [.ref 36] m1 (fun r2 m2 => r2 = none ∧
      a_Spec G sX7_leastNet [.ref 36, .int x1, .int (-9)] m2 (fun r3 m3 => ∃ v3 : Int32, r3 = some (.int v3) ∧
      ((¬ v3 = (nI 1000000) →
        post (some (.int v3)) m3) ∧
      (v3 = (nI 1000000) →
        post (some (.int (-9))) m3))))) ∧
    (v1 = 0 →
      post (some (.int (-2))) m1)))) :
    a_Spec G sX7_net [.ref 36, .int x1] μ post := a_enter (by decide +kernel) rfl (a_run (S := sX7_net) (pg := pX7_net) (tab := tX7) [] 18 (a_okT_e tX7_ok) pX7_net_ok rfl h)
set_option maxRecDepth 100000 in
set_option maxHeartbeats 4000000 in
theorem w_X7_splice_0 {G : aG} {μ : aMem} {post : aPost} (x1 : Int32) (h :
    a_Spec G sX7_isNet [.int x1] μ (fun r1 m1 => ∃ v1 : Int32, r1 = some (.int v1) ∧
    ((¬ v1 = 0 →
      a_Spec G sX7_layTrees [.ref 36] m1 (fun r2 m2 => r2 = none ∧
      a_Spec G sX7_leastNet [.ref 36, .int x1, .int (-9)] m2 (fun r3 m3 => ∃ v3 : Int32, r3 = some (.int v3) ∧
      a_Runs G sX7_splice 24 [(0, .ref 36), (1, .int x1), (2, .int v3), (3, .int (nI 0))] [] m3 post))) ∧
    (v1 = 0 →
      post (some (.int (-2))) m1)))) :
    a_Spec G sX7_splice [.ref 36, .int x1] μ post := a_enter (by decide +kernel) rfl (a_run (S := sX7_splice) (pg := pX7_splice) (tab := tX7) [(24, [0, 1, 2, 3])] 15 (a_okT_e tX7_ok) pX7_splice_ok rfl h)
set_option maxRecDepth 100000 in
set_option maxHeartbeats 4000000 in
theorem w_X7_splice_24 {G : aG} {μ : aMem} {post : aPost} (x1 : Int32) (x2 : Int32) (x3 : Int32) (h :
    (((nI 10) ≤ x3 →
      post (some (.int (-9))) μ) ∧
    (¬ (nI 10) ≤ x3 →
      (((nI 1000000) ≤ x2 →
        post (some (.int (-9))) μ) ∧
      (¬ (nI 1000000) ≤ x2 →
        ((¬ ((x1 >>> (x3 &&& 31)) &&& (nI 1)) = 0 →
          a_Runs G sX7_splice 24 [(0, .ref 36), (1, .int x1), (2, .int x2), (3, .int (x3 + nI 1))] [] μ post) ∧
        (((x1 >>> (x3 &&& 31)) &&& (nI 1)) = 0 →
          a_Spec G sX7_leastNet [.ref 36, .int x1, .int x3] μ (fun r1 m1 => ∃ v1 : Int32, r1 = some (.int v1) ∧
          ((v1 ≤ x2 →
            a_Runs G sX7_splice 24 [(0, .ref 36), (1, .int x1), (2, .int x2), (3, .int (x3 + nI 1))] [] m1 post) ∧
          (¬ v1 ≤ x2 →
            post (some (.int x3)) m1)))))))))) :
    a_Runs G sX7_splice 24 [(0, .ref 36), (1, .int x1), (2, .int x2), (3, .int x3)] [] μ post := a_run (S := sX7_splice) (pg := pX7_splice) (tab := tX7) [(24, [0, 1, 2, 3])] 23 (a_okT_e tX7_ok) pX7_splice_ok rfl h
set_option maxRecDepth 100000 in
set_option maxHeartbeats 4000000 in
theorem w_X7_option_0 {G : aG} {μ : aMem} {post : aPost} (x1 : Int32) (x2 : Int32) (h :
    a_Spec G sX7_isWire [.ref 36, .int x1] μ (fun r1 m1 => ∃ v1 : Int32, r1 = some (.int v1) ∧
    ((¬ v1 = 0 →
      a_Spec G sX7_in [.int x2, .int (nI 0), .int (nI 255)] m1 (fun r2 m2 => ∃ v2 : Int32, r2 = some (.int v2) ∧
      ((¬ v2 = 0 →
        vp_in x1 20 ∧
        vp_in x1 20 ∧
        post (some (.int (m2.1 45 x1.toNatClampNeg))) (va_up m2.1 45 (upd (m2.1 45) x1.toNatClampNeg x2), m2.2)) ∧
      (v2 = 0 →
        post (some (.int (-2))) m2)))) ∧
    (v1 = 0 →
      post (some (.int (-1))) m1)))) :
    a_Spec G sX7_option [.ref 36, .int x1, .int x2] μ post := a_enter (by decide +kernel) rfl (a_run (S := sX7_option) (pg := pX7_option) (tab := tX7) [] 23 (a_okT_e tX7_ok) pX7_option_ok rfl h)
set_option maxRecDepth 100000 in
set_option maxHeartbeats 4000000 in
theorem w_X7_order_0 {G : aG} {μ : aMem} {post : aPost} (x1 : Int32) (x2 : Int32) (h :
    a_Spec G sX7_in [.int x1, .int (nI 0), .int (nI 255)] μ (fun r1 m1 => ∃ v1 : Int32, r1 = some (.int v1) ∧
    ((v1 = 0 →
      post (some (.int (-2))) m1) ∧
    (¬ v1 = 0 →
      a_Spec G sX7_in [.int x2, .int (nI 1), .int (nI 1000)] m1 (fun r2 m2 => ∃ v2 : Int32, r2 = some (.int v2) ∧
      ((¬ v2 = 0 →
        ((¬ (m2.1 36 22) = (nI 8) →
          vp_in (m2.1 36 22) 8 ∧
          vp_in (m2.1 36 22) 8 ∧
          post (some (.int (((upd (m2.1 36) 22 ((m2.1 36 22) + (nI 1))) 22) - (nI 1)))) (va_up (va_up (va_up m2.1 57 (upd (m2.1 57) ((m2.1 36 22).toNatClampNeg) x1)) 58 (upd (m2.1 58) ((m2.1 36 22).toNatClampNeg) x2)) 36 (upd (m2.1 36) 22 ((m2.1 36 22) + (nI 1))), m2.2)) ∧
        ((m2.1 36 22) = (nI 8) →
          post (some (.int (-4))) m2))) ∧
      (v2 = 0 →
        post (some (.int (-2))) m2))))))) :
    a_Spec G sX7_order [.ref 36, .int x1, .int x2] μ post := a_enter (by decide +kernel) rfl (a_run (S := sX7_order) (pg := pX7_order) (tab := tX7) [] 39 (a_okT_e tX7_ok) pX7_order_ok rfl h)
set_option maxRecDepth 100000 in
set_option maxHeartbeats 4000000 in
theorem w_X7_setup_0 {G : aG} {μ : aMem} {post : aPost} (x1 : Int32) (h :
    a_Spec G sX7_in [.int x1, .int (nI 0), .int (nI 100000)] μ (fun r1 m1 => ∃ v1 : Int32, r1 = some (.int v1) ∧
    ((¬ v1 = 0 →
      post (some (.int (m1.1 36 25))) (va_up m1.1 36 (upd (m1.1 36) 25 x1), m1.2)) ∧
    (v1 = 0 →
      post (some (.int (-2))) m1)))) :
    a_Spec G sX7_setup [.ref 36, .int x1] μ post := a_enter (by decide +kernel) rfl (a_run (S := sX7_setup) (pg := pX7_setup) (tab := tX7) [] 15 (a_okT_e tX7_ok) pX7_setup_ok rfl h)
set_option maxRecDepth 100000 in
set_option maxHeartbeats 4000000 in
theorem w_X7_needs_0 {G : aG} {μ : aMem} {post : aPost} (x1 : Int32) (x2 : Int32) (h :
    vp_in x2 20 ∧
    vp_in x1 8 ∧
    ((¬ ((μ.1 45 x2.toNatClampNeg) &&& ((μ.1 57 x1.toNatClampNeg) ^^^ (-1))) = 0 →
      ((nI 0) = 0 ∨ (nI 0) = 1) ∧ post (some (.int (nI 0))) μ) ∧
    (((μ.1 45 x2.toNatClampNeg) &&& ((μ.1 57 x1.toNatClampNeg) ^^^ (-1))) = 0 →
      ((nI 1) = 0 ∨ (nI 1) = 1) ∧ post (some (.int (nI 1))) μ))) :
    a_Spec G sX7_needs [.ref 36, .int x1, .int x2] μ post := a_enter (by decide +kernel) rfl (a_run (S := sX7_needs) (pg := pX7_needs) (tab := tX7) [] 17 (a_okT_e tX7_ok) pX7_needs_ok rfl h)
set_option maxRecDepth 100000 in
set_option maxHeartbeats 4000000 in
theorem w_X7_weightOf_0 {G : aG} {μ : aMem} {post : aPost} (x1 : Int32) (h :
    a_Runs G sX7_weightOf 4 [(0, .ref 36), (1, .int x1), (2, .int (nI 0)), (3, .int (nI 0))] [] μ post) :
    a_Spec G sX7_weightOf [.ref 36, .int x1] μ post := a_enter (by decide +kernel) rfl (a_run (S := sX7_weightOf) (pg := pX7_weightOf) (tab := tX7) [(4, [0, 1, 2, 3]), (18, [0, 1, 2, 3, 4, 5])] 7 (a_okT_e tX7_ok) pX7_weightOf_ok rfl h)
set_option maxRecDepth 100000 in
set_option maxHeartbeats 4000000 in
theorem w_X7_weightOf_4 {G : aG} {μ : aMem} {post : aPost} (x1 : Int32) (x2 : Int32) (x3 : Int32) (h :
    (((μ.1 36 5) ≤ x3 →
      post (some (.int x2)) μ) ∧
    (¬ (μ.1 36 5) ≤ x3 →
      a_Runs G sX7_weightOf 18 [(0, .ref 36), (1, .int x1), (2, .int x2), (3, .int x3), (4, .int (nI 0)), (5, .int (nI 0))] [] μ post))) :
    a_Runs G sX7_weightOf 4 [(0, .ref 36), (1, .int x1), (2, .int x2), (3, .int x3)] [] μ post := a_run (S := sX7_weightOf) (pg := pX7_weightOf) (tab := tX7) [(4, [0, 1, 2, 3]), (18, [0, 1, 2, 3, 4, 5])] 11 (a_okT_e tX7_ok) pX7_weightOf_ok rfl h
set_option maxRecDepth 100000 in
set_option maxHeartbeats 4000000 in
theorem w_X7_weightOf_18 {G : aG} {μ : aMem} {post : aPost} (x1 : Int32) (x2 : Int32) (x3 : Int32) (x4 : Int32) (x5 : Int32) (h :
    (((μ.1 36 22) ≤ x5 →
      ((x4 = 0 →
        a_Runs G sX7_weightOf 4 [(0, .ref 36), (1, .int x1), (2, .int (x2 + (nI 0))), (3, .int (x3 + nI 1))] [] μ post) ∧
      (¬ x4 = 0 →
        vp_in x3 20 ∧
        a_Runs G sX7_weightOf 4 [(0, .ref 36), (1, .int x1), (2, .int (x2 + (μ.1 43 x3.toNatClampNeg))), (3, .int (x3 + nI 1))] [] μ post))) ∧
    (¬ (μ.1 36 22) ≤ x5 →
      ((¬ x4 = 0 →
        a_Runs G sX7_weightOf 18 [(0, .ref 36), (1, .int x1), (2, .int x2), (3, .int x3), (4, .int (nI 1)), (5, .int (x5 + nI 1))] [] μ post) ∧
      (x4 = 0 →
        ((¬ ((x1 >>> (x5 &&& 31)) &&& (nI 1)) = (nI 1) →
          a_Runs G sX7_weightOf 18 [(0, .ref 36), (1, .int x1), (2, .int x2), (3, .int x3), (4, .int (nI 0)), (5, .int (x5 + nI 1))] [] μ post) ∧
        (((x1 >>> (x5 &&& 31)) &&& (nI 1)) = (nI 1) →
          a_Spec G sX7_needs [.ref 36, .int x5, .int x3] μ (fun r1 m1 => ∃ v1 : Int32, r1 = some (.int v1) ∧
          ((v1 = 0 →
            a_Runs G sX7_weightOf 18 [(0, .ref 36), (1, .int x1), (2, .int x2), (3, .int x3), (4, .int (nI 0)), (5, .int (x5 + nI 1))] [] m1 post) ∧
          (¬ v1 = 0 →
            a_Runs G sX7_weightOf 18 [(0, .ref 36), (1, .int x1), (2, .int x2), (3, .int x3), (4, .int (nI 1)), (5, .int (x5 + nI 1))] [] m1 post)))))))))) :
    a_Runs G sX7_weightOf 18 [(0, .ref 36), (1, .int x1), (2, .int x2), (3, .int x3), (4, .int x4), (5, .int x5)] [] μ post := a_run (S := sX7_weightOf) (pg := pX7_weightOf) (tab := tX7) [(4, [0, 1, 2, 3]), (18, [0, 1, 2, 3, 4, 5])] 26 (a_okT_e tX7_ok) pX7_weightOf_ok rfl h
set_option maxRecDepth 100000 in
set_option maxHeartbeats 4000000 in
theorem w_X7_weight_0 {G : aG} {μ : aMem} {post : aPost} (x1 : Int32) (h :
    a_Spec G sX7_in [.int x1, .int (nI 0), .int (((nI 1) <<< ((μ.1 36 22) &&& 31)) - (nI 1))] μ (fun r1 m1 => ∃ v1 : Int32, r1 = some (.int v1) ∧
    ((v1 = 0 →
      post (some (.int (-1))) m1) ∧
    (¬ v1 = 0 →
      a_Spec G sX7_weightOf [.ref 36, .int x1] m1 (fun r2 m2 => ∃ v2 : Int32, r2 = some (.int v2) ∧
      post (some (.int v2)) m2))))) :
    a_Spec G sX7_weight [.ref 36, .int x1] μ post := a_enter (by decide +kernel) rfl (a_run (S := sX7_weight) (pg := pX7_weight) (tab := tX7) [] 17 (a_okT_e tX7_ok) pX7_weight_ok rfl h)
set_option maxRecDepth 100000 in
set_option maxHeartbeats 4000000 in
theorem w_X7_mostAhead_0 {G : aG} {μ : aMem} {post : aPost} (x1 : Int32) (h :
    a_Runs G sX7_mostAhead 4 [(0, .ref 36), (1, .int x1), (2, .int (-1)), (3, .int (nI 0))] [] μ post) :
    a_Spec G sX7_mostAhead [.ref 36, .int x1] μ post := a_enter (by decide +kernel) rfl (a_run (S := sX7_mostAhead) (pg := pX7_mostAhead) (tab := tX7) [(4, [0, 1, 2, 3])] 7 (a_okT_e tX7_ok) pX7_mostAhead_ok rfl h)
set_option maxRecDepth 100000 in
set_option maxHeartbeats 4000000 in
theorem w_X7_mostAhead_4 {G : aG} {μ : aMem} {post : aPost} (x1 : Int32) (x2 : Int32) (x3 : Int32) (h :
    ((x1 ≤ x3 →
      post (some (.int x2)) μ) ∧
    (¬ x1 ≤ x3 →
      vp_in x3 8 ∧
      (((μ.1 59 x3.toNatClampNeg) ≤ x2 →
        a_Runs G sX7_mostAhead 4 [(0, .ref 36), (1, .int x1), (2, .int x2), (3, .int (x3 + nI 1))] [] μ post) ∧
      (¬ (μ.1 59 x3.toNatClampNeg) ≤ x2 →
        vp_in x3 8 ∧
        a_Runs G sX7_mostAhead 4 [(0, .ref 36), (1, .int x1), (2, .int (μ.1 59 x3.toNatClampNeg)), (3, .int (x3 + nI 1))] [] μ post))))) :
    a_Runs G sX7_mostAhead 4 [(0, .ref 36), (1, .int x1), (2, .int x2), (3, .int x3)] [] μ post := a_run (S := sX7_mostAhead) (pg := pX7_mostAhead) (tab := tX7) [(4, [0, 1, 2, 3])] 20 (a_okT_e tX7_ok) pX7_mostAhead_ok rfl h
set_option maxRecDepth 100000 in
set_option maxHeartbeats 4000000 in
theorem w_X7_nextRow_0 {G : aG} {μ : aMem} {post : aPost}  (h :
    a_Runs G sX7_nextRow 7 [(0, .ref 36), (1, .int ((μ.1 36 22) - (nI 1)))] [] μ post) :
    a_Spec G sX7_nextRow [.ref 36] μ post := a_enter (by decide +kernel) rfl (a_run (S := sX7_nextRow) (pg := pX7_nextRow) (tab := tX7) [(7, [0, 1]), (51, [0, 2])] 8 (a_okT_e tX7_ok) pX7_nextRow_ok rfl h)
set_option maxRecDepth 100000 in
set_option maxHeartbeats 4000000 in
theorem w_X7_nextRow_7 {G : aG} {μ : aMem} {post : aPost} (x1 : Int32) (h :
    ((x1 ≤ 0 →
      ((0 < x1 →
        vp_in x1 8 ∧
        vp_in x1 8 ∧
        a_Runs G sX7_nextRow 51 [(0, .ref 36), (2, .int (x1 + (nI 1)))] [] (va_up μ.1 59 (upd (μ.1 59) x1.toNatClampNeg ((μ.1 59 x1.toNatClampNeg) + (nI 1))), μ.2) post) ∧
      (¬ 0 < x1 →
        ((nI 0) = 0 ∨ (nI 0) = 1) ∧ post (some (.int (nI 0))) μ))) ∧
    (¬ x1 ≤ 0 →
      vp_in x1 8 ∧
      a_Spec G sX7_mostAhead [.ref 36, .int x1] μ (fun r1 m1 => ∃ v1 : Int32, r1 = some (.int v1) ∧
      (((μ.1 59 x1.toNatClampNeg) ≤ v1 →
        ((0 < x1 →
          vp_in x1 8 ∧
          vp_in x1 8 ∧
          a_Runs G sX7_nextRow 51 [(0, .ref 36), (2, .int (x1 + (nI 1)))] [] (va_up m1.1 59 (upd (m1.1 59) x1.toNatClampNeg ((m1.1 59 x1.toNatClampNeg) + (nI 1))), m1.2) post) ∧
        (¬ 0 < x1 →
          ((nI 0) = 0 ∨ (nI 0) = 1) ∧ post (some (.int (nI 0))) m1))) ∧
      (¬ (μ.1 59 x1.toNatClampNeg) ≤ v1 →
        a_Runs G sX7_nextRow 7 [(0, .ref 36), (1, .int (x1 + (-1)))] [] m1 post)))))) :
    a_Runs G sX7_nextRow 7 [(0, .ref 36), (1, .int x1)] [] μ post := a_run (S := sX7_nextRow) (pg := pX7_nextRow) (tab := tX7) [(7, [0, 1]), (51, [0, 2])] 27 (a_okT_e tX7_ok) pX7_nextRow_ok rfl h
set_option maxRecDepth 100000 in
set_option maxHeartbeats 4000000 in
theorem w_X7_nextRow_51 {G : aG} {μ : aMem} {post : aPost} (x2 : Int32) (h :
    (((μ.1 36 22) ≤ x2 →
      ((nI 1) = 0 ∨ (nI 1) = 1) ∧ post (some (.int (nI 1))) μ) ∧
    (¬ (μ.1 36 22) ≤ x2 →
      vp_in x2 8 ∧
      a_Runs G sX7_nextRow 51 [(0, .ref 36), (2, .int (x2 + nI 1))] [] (va_up μ.1 59 (upd (μ.1 59) x2.toNatClampNeg (nI 0)), μ.2) post))) :
    a_Runs G sX7_nextRow 51 [(0, .ref 36), (2, .int x2)] [] μ post := a_run (S := sX7_nextRow) (pg := pX7_nextRow) (tab := tX7) [(7, [0, 1]), (51, [0, 2])] 14 (a_okT_e tX7_ok) pX7_nextRow_ok rfl h
set_option maxRecDepth 100000 in
set_option maxHeartbeats 4000000 in
theorem w_X7_layPlan_0 {G : aG} {μ : aMem} {post : aPost}  (h :
    a_Runs G sX7_layPlan 2 [(0, .ref 36), (1, .int (nI 1))] [] μ post) :
    a_Spec G sX7_layPlan [.ref 36] μ post := a_enter (by decide +kernel) rfl (a_run (S := sX7_layPlan) (pg := pX7_layPlan) (tab := tX7) [(2, [0, 1]), (17, [0, 1, 2, 4]), (78, [0, 1]), (120, [0, 1, 2]), (141, [0, 1, 3, 4, 6]), (153, [0, 1, 3, 4, 6, 7, 8]), (256, [0, 1, 6])] 5 (a_okT_e tX7_ok) pX7_layPlan_ok rfl h)
set_option maxRecDepth 100000 in
set_option maxHeartbeats 4000000 in
theorem w_X7_layPlan_2 {G : aG} {μ : aMem} {post : aPost} (x1 : Int32) (h :
    ((((nI 1) <<< ((μ.1 36 22) &&& 31)) ≤ x1 →
      a_Runs G sX7_layPlan 78 [(0, .ref 36), (1, .int (nI 0))] [] μ post) ∧
    (¬ ((nI 1) <<< ((μ.1 36 22) &&& 31)) ≤ x1 →
      a_Runs G sX7_layPlan 17 [(0, .ref 36), (1, .int x1), (2, .long (0 : Int64)), (4, .int (nI 0))] [] μ post))) :
    a_Runs G sX7_layPlan 2 [(0, .ref 36), (1, .int x1)] [] μ post := a_run (S := sX7_layPlan) (pg := pX7_layPlan) (tab := tX7) [(2, [0, 1]), (17, [0, 1, 2, 4]), (78, [0, 1]), (120, [0, 1, 2]), (141, [0, 1, 3, 4, 6]), (153, [0, 1, 3, 4, 6, 7, 8]), (256, [0, 1, 6])] 13 (a_okT_e tX7_ok) pX7_layPlan_ok rfl h
set_option maxRecDepth 100000 in
set_option maxHeartbeats 4000000 in
theorem w_X7_layPlan_78 {G : aG} {μ : aMem} {post : aPost} (x1 : Int32) (h :
    (((nI 8) ≤ x1 →
      (((μ.1 36 22) ≤ 0 →
        a_Runs G sX7_layPlan 120 [(0, .ref 36), (1, .int (nI 9)), (2, .int (nI 0))] [] (μ.1, va_up μ.2 36 (vp_updL (μ.2 36) 29 (-1 : Int64))) post) ∧
      (¬ (μ.1 36 22) ≤ 0 →
        a_Runs G sX7_layPlan 120 [(0, .ref 36), (1, .int (nI 9)), (2, .int (nI 1))] [] (μ.1, va_up μ.2 36 (vp_updL (μ.2 36) 29 (-1 : Int64))) post))) ∧
    (¬ (nI 8) ≤ x1 →
      vp_in x1 8 ∧
      a_Runs G sX7_layPlan 78 [(0, .ref 36), (1, .int (x1 + nI 1))] [] (va_up μ.1 59 (upd (μ.1 59) x1.toNatClampNeg (nI 0)), μ.2) post))) :
    a_Runs G sX7_layPlan 78 [(0, .ref 36), (1, .int x1)] [] μ post := a_run (S := sX7_layPlan) (pg := pX7_layPlan) (tab := tX7) [(2, [0, 1]), (17, [0, 1, 2, 4]), (78, [0, 1]), (120, [0, 1, 2]), (141, [0, 1, 3, 4, 6]), (153, [0, 1, 3, 4, 6, 7, 8]), (256, [0, 1, 6])] 17 (a_okT_e tX7_ok) pX7_layPlan_ok rfl h
set_option maxRecDepth 100000 in
set_option maxHeartbeats 4000000 in
theorem w_X7_layPlan_17 {G : aG} {μ : aMem} {post : aPost} (x1 : Int32) (x2 : Int64) (x4 : Int32) (h :
    (((μ.1 36 22) ≤ x4 →
      a_Spec G sX7_weightOf [.ref 36, .int x1] μ (fun r1 m1 => ∃ v1 : Int32, r1 = some (.int v1) ∧
      vp_in x1 256 ∧
      a_Runs G sX7_layPlan 2 [(0, .ref 36), (1, .int (x1 + nI 1))] [] (m1.1, va_up m1.2 61 (vp_updL (m1.2 61) x1.toNatClampNeg (((μ.1 36 25).toInt64) + (x2 * v1.toInt64)))) post)) ∧
    (¬ (μ.1 36 22) ≤ x4 →
      vp_in x4 8 ∧
      a_Runs G sX7_layPlan 17 [(0, .ref 36), (1, .int x1), (2, .long (x2 + ((((x1 >>> (x4 &&& 31)) &&& (nI 1)) * (μ.1 58 x4.toNatClampNeg)).toInt64))), (4, .int (x4 + nI 1))] [] μ post))) :
    a_Runs G sX7_layPlan 17 [(0, .ref 36), (1, .int x1), (2, .long x2), (4, .int x4)] [] μ post := a_run (S := sX7_layPlan) (pg := pX7_layPlan) (tab := tX7) [(2, [0, 1]), (17, [0, 1, 2, 4]), (78, [0, 1]), (120, [0, 1, 2]), (141, [0, 1, 3, 4, 6]), (153, [0, 1, 3, 4, 6, 7, 8]), (256, [0, 1, 6])] 23 (a_okT_e tX7_ok) pX7_layPlan_ok rfl h
set_option maxRecDepth 100000 in
set_option maxHeartbeats 4000000 in
theorem w_X7_layPlan_120 {G : aG} {μ : aMem} {post : aPost} (x1 : Int32) (x2 : Int32) (h :
    ((x2 = 0 →
      post none μ) ∧
    (¬ x2 = 0 →
      a_Spec G sX7_mostAhead [.ref 36, .int (μ.1 36 22)] μ (fun r1 m1 => ∃ v1 : Int32, r1 = some (.int v1) ∧
      a_Runs G sX7_layPlan 141 [(0, .ref 36), (1, .int x1), (3, .int (v1 + (nI 1))), (4, .long (0 : Int64)), (6, .int (nI 0))] [] m1 post)))) :
    a_Runs G sX7_layPlan 120 [(0, .ref 36), (1, .int x1), (2, .int x2)] [] μ post := a_run (S := sX7_layPlan) (pg := pX7_layPlan) (tab := tX7) [(2, [0, 1]), (17, [0, 1, 2, 4]), (78, [0, 1]), (120, [0, 1, 2]), (141, [0, 1, 3, 4, 6]), (153, [0, 1, 3, 4, 6, 7, 8]), (256, [0, 1, 6])] 16 (a_okT_e tX7_ok) pX7_layPlan_ok rfl h
set_option maxRecDepth 100000 in
set_option maxHeartbeats 4000000 in
theorem w_X7_layPlan_141 {G : aG} {μ : aMem} {post : aPost} (x1 : Int32) (x3 : Int32) (x4 : Int64) (x6 : Int32) (h :
    ((x3 ≤ x6 →
      (((lg_cmp (μ.2 36 29) (0 : Int64)) < 0 →
        a_Runs G sX7_layPlan 256 [(0, .ref 36), (1, .int x3), (6, .int (nI 0))] [] (μ.1, va_up μ.2 36 (vp_updL (μ.2 36) 29 x4)) post) ∧
      (¬ (lg_cmp (μ.2 36 29) (0 : Int64)) < 0 →
        (((lg_cmp x4 (μ.2 36 29)) < 0 →
          a_Runs G sX7_layPlan 256 [(0, .ref 36), (1, .int x3), (6, .int (nI 0))] [] (μ.1, va_up μ.2 36 (vp_updL (μ.2 36) 29 x4)) post) ∧
        (¬ (lg_cmp x4 (μ.2 36 29)) < 0 →
          ((¬ (lg_cmp x4 (μ.2 36 29)) = 0 →
            a_Spec G sX7_nextRow [.ref 36] μ (fun r1 m1 => ∃ v1 : Int32, r1 = some (.int v1) ∧
            a_Runs G sX7_layPlan 120 [(0, .ref 36), (1, .int x1), (2, .int v1)] [] m1 post)) ∧
          ((lg_cmp x4 (μ.2 36 29)) = 0 →
            ((x1 ≤ x3 →
              a_Spec G sX7_nextRow [.ref 36] μ (fun r2 m2 => ∃ v2 : Int32, r2 = some (.int v2) ∧
              a_Runs G sX7_layPlan 120 [(0, .ref 36), (1, .int x1), (2, .int v2)] [] m2 post)) ∧
            (¬ x1 ≤ x3 →
              a_Runs G sX7_layPlan 256 [(0, .ref 36), (1, .int x3), (6, .int (nI 0))] [] (μ.1, va_up μ.2 36 (vp_updL (μ.2 36) 29 x4)) post))))))))) ∧
    (¬ x3 ≤ x6 →
      a_Runs G sX7_layPlan 153 [(0, .ref 36), (1, .int x1), (3, .int x3), (4, .long x4), (6, .int x6), (7, .int (nI 0)), (8, .int (nI 0))] [] μ post))) :
    a_Runs G sX7_layPlan 141 [(0, .ref 36), (1, .int x1), (3, .int x3), (4, .long x4), (6, .int x6)] [] μ post := a_run (S := sX7_layPlan) (pg := pX7_layPlan) (tab := tX7) [(2, [0, 1]), (17, [0, 1, 2, 4]), (78, [0, 1]), (120, [0, 1, 2]), (141, [0, 1, 3, 4, 6]), (153, [0, 1, 3, 4, 6, 7, 8]), (256, [0, 1, 6])] 31 (a_okT_e tX7_ok) pX7_layPlan_ok rfl h
set_option maxRecDepth 100000 in
set_option maxHeartbeats 4000000 in
theorem w_X7_layPlan_256 {G : aG} {μ : aMem} {post : aPost} (x1 : Int32) (x6 : Int32) (h :
    (((μ.1 36 22) ≤ x6 →
      a_Spec G sX7_nextRow [.ref 36] μ (fun r1 m1 => ∃ v1 : Int32, r1 = some (.int v1) ∧
      a_Runs G sX7_layPlan 120 [(0, .ref 36), (1, .int x1), (2, .int v1)] [] m1 post)) ∧
    (¬ (μ.1 36 22) ≤ x6 →
      vp_in x6 8 ∧
      vp_in x6 8 ∧
      a_Runs G sX7_layPlan 256 [(0, .ref 36), (1, .int x1), (6, .int (x6 + nI 1))] [] (va_up μ.1 60 (upd (μ.1 60) x6.toNatClampNeg (μ.1 59 x6.toNatClampNeg)), μ.2) post))) :
    a_Runs G sX7_layPlan 256 [(0, .ref 36), (1, .int x1), (6, .int x6)] [] μ post := a_run (S := sX7_layPlan) (pg := pX7_layPlan) (tab := tX7) [(2, [0, 1]), (17, [0, 1, 2, 4]), (78, [0, 1]), (120, [0, 1, 2]), (141, [0, 1, 3, 4, 6]), (153, [0, 1, 3, 4, 6, 7, 8]), (256, [0, 1, 6])] 17 (a_okT_e tX7_ok) pX7_layPlan_ok rfl h
set_option maxRecDepth 100000 in
set_option maxHeartbeats 4000000 in
theorem w_X7_layPlan_153 {G : aG} {μ : aMem} {post : aPost} (x1 : Int32) (x3 : Int32) (x4 : Int64) (x6 : Int32) (x7 : Int32) (x8 : Int32) (h :
    (((μ.1 36 22) ≤ x8 →
      vp_in x7 256 ∧
      a_Runs G sX7_layPlan 141 [(0, .ref 36), (1, .int x1), (3, .int x3), (4, .long (x4 + (μ.2 61 x7.toNatClampNeg))), (6, .int (x6 + nI 1))] [] μ post) ∧
    (¬ (μ.1 36 22) ≤ x8 →
      vp_in x8 8 ∧
      ((¬ (μ.1 59 x8.toNatClampNeg) = x6 →
        a_Runs G sX7_layPlan 153 [(0, .ref 36), (1, .int x1), (3, .int x3), (4, .long x4), (6, .int x6), (7, .int (x7 ||| (nI 0))), (8, .int (x8 + nI 1))] [] μ post) ∧
      ((μ.1 59 x8.toNatClampNeg) = x6 →
        a_Runs G sX7_layPlan 153 [(0, .ref 36), (1, .int x1), (3, .int x3), (4, .long x4), (6, .int x6), (7, .int (x7 ||| ((nI 1) <<< (x8 &&& 31)))), (8, .int (x8 + nI 1))] [] μ post))))) :
    a_Runs G sX7_layPlan 153 [(0, .ref 36), (1, .int x1), (3, .int x3), (4, .long x4), (6, .int x6), (7, .int x7), (8, .int x8)] [] μ post := a_run (S := sX7_layPlan) (pg := pX7_layPlan) (tab := tX7) [(2, [0, 1]), (17, [0, 1, 2, 4]), (78, [0, 1]), (120, [0, 1, 2]), (141, [0, 1, 3, 4, 6]), (153, [0, 1, 3, 4, 6, 7, 8]), (256, [0, 1, 6])] 22 (a_okT_e tX7_ok) pX7_layPlan_ok rfl h
set_option maxRecDepth 100000 in
set_option maxHeartbeats 4000000 in
theorem w_X7_best_0 {G : aG} {μ : aMem} {post : aPost}  (h :
    a_Spec G sX7_layPlan [.ref 36] μ (fun r1 m1 => r1 = none ∧
    ((¬ (m1.1 36 22) = 0 →
      post (some (.long (m1.2 36 29))) m1) ∧
    ((m1.1 36 22) = 0 →
      post (some (.long (0 : Int64))) m1)))) :
    a_Spec G sX7_best [.ref 36] μ post := a_enter (by decide +kernel) rfl (a_run (S := sX7_best) (pg := pX7_best) (tab := tX7) [] 10 (a_okT_e tX7_ok) pX7_best_ok rfl h)
set_option maxRecDepth 100000 in
set_option maxHeartbeats 4000000 in
theorem w_X7_loom_0 {G : aG} {μ : aMem} {post : aPost} (x1 : Int32) (h :
    a_Spec G sX7_in [.int x1, .int (nI 0), .int ((μ.1 36 22) - (nI 1))] μ (fun r1 m1 => ∃ v1 : Int32, r1 = some (.int v1) ∧
    ((¬ v1 = 0 →
      a_Spec G sX7_layPlan [.ref 36] m1 (fun r2 m2 => r2 = none ∧
      vp_in x1 8 ∧
      post (some (.int (m2.1 60 x1.toNatClampNeg))) m2)) ∧
    (v1 = 0 →
      post (some (.int (-1))) m1)))) :
    a_Spec G sX7_loom [.ref 36, .int x1] μ post := a_enter (by decide +kernel) rfl (a_run (S := sX7_loom) (pg := pX7_loom) (tab := tX7) [] 17 (a_okT_e tX7_ok) pX7_loom_ok rfl h)
set_option maxRecDepth 100000 in
set_option maxHeartbeats 4000000 in
theorem w_X7_areAlike_0 {G : aG} {μ : aMem} {post : aPost} (x1 : Int32) (x2 : Int32) (h :
    a_Runs G sX7_areAlike 5 [(0, .ref 36), (1, .int x1), (2, .int x2), (3, .int (nI 1)), (4, .int (nI 0))] [] μ post) :
    a_Spec G sX7_areAlike [.ref 36, .int x1, .int x2] μ post := a_enter (by decide +kernel) rfl (a_run (S := sX7_areAlike) (pg := pX7_areAlike) (tab := tX7) [(5, [0, 1, 2, 3, 4])] 7 (a_okT_e tX7_ok) pX7_areAlike_ok rfl h)
set_option maxRecDepth 100000 in
set_option maxHeartbeats 4000000 in
theorem w_X7_areAlike_5 {G : aG} {μ : aMem} {post : aPost} (x1 : Int32) (x2 : Int32) (x3 : Int32) (x4 : Int32) (h :
    (((μ.1 36 5) ≤ x4 →
      (x3 = 0 ∨ x3 = 1) ∧ post (some (.int x3)) μ) ∧
    (¬ (μ.1 36 5) ≤ x4 →
      ((x3 = 0 →
        a_Runs G sX7_areAlike 5 [(0, .ref 36), (1, .int x1), (2, .int x2), (3, .int (nI 0)), (4, .int (x4 + nI 1))] [] μ post) ∧
      (¬ x3 = 0 →
        a_Spec G sX7_needs [.ref 36, .int x1, .int x4] μ (fun r1 m1 => ∃ v1 : Int32, r1 = some (.int v1) ∧
        a_Spec G sX7_needs [.ref 36, .int x2, .int x4] m1 (fun r2 m2 => ∃ v2 : Int32, r2 = some (.int v2) ∧
        ((¬ v1 = v2 →
          a_Runs G sX7_areAlike 5 [(0, .ref 36), (1, .int x1), (2, .int x2), (3, .int (nI 0)), (4, .int (x4 + nI 1))] [] m2 post) ∧
        (v1 = v2 →
          a_Runs G sX7_areAlike 5 [(0, .ref 36), (1, .int x1), (2, .int x2), (3, .int (nI 1)), (4, .int (x4 + nI 1))] [] m2 post))))))))) :
    a_Runs G sX7_areAlike 5 [(0, .ref 36), (1, .int x1), (2, .int x2), (3, .int x3), (4, .int x4)] [] μ post := a_run (S := sX7_areAlike) (pg := pX7_areAlike) (tab := tX7) [(5, [0, 1, 2, 3, 4])] 23 (a_okT_e tX7_ok) pX7_areAlike_ok rfl h
set_option maxRecDepth 100000 in
set_option maxHeartbeats 4000000 in
theorem w_X7_alike_0 {G : aG} {μ : aMem} {post : aPost}  (h :
    a_Runs G sX7_alike 4 [(0, .ref 36), (1, .int (nI 0)), (2, .int (nI 0))] [] μ post) :
    a_Spec G sX7_alike [.ref 36] μ post := a_enter (by decide +kernel) rfl (a_run (S := sX7_alike) (pg := pX7_alike) (tab := tX7) [(4, [0, 1, 2]), (17, [0, 1, 2, 3, 4])] 7 (a_okT_e tX7_ok) pX7_alike_ok rfl h)
set_option maxRecDepth 100000 in
set_option maxHeartbeats 4000000 in
theorem w_X7_alike_4 {G : aG} {μ : aMem} {post : aPost} (x1 : Int32) (x2 : Int32) (h :
    (((μ.1 36 22) ≤ x2 →
      post (some (.int x1)) μ) ∧
    (¬ (μ.1 36 22) ≤ x2 →
      a_Runs G sX7_alike 17 [(0, .ref 36), (1, .int x1), (2, .int x2), (3, .int (nI 0)), (4, .int (nI 0))] [] μ post))) :
    a_Runs G sX7_alike 4 [(0, .ref 36), (1, .int x1), (2, .int x2)] [] μ post := a_run (S := sX7_alike) (pg := pX7_alike) (tab := tX7) [(4, [0, 1, 2]), (17, [0, 1, 2, 3, 4])] 11 (a_okT_e tX7_ok) pX7_alike_ok rfl h
set_option maxRecDepth 100000 in
set_option maxHeartbeats 4000000 in
theorem w_X7_alike_17 {G : aG} {μ : aMem} {post : aPost} (x1 : Int32) (x2 : Int32) (x3 : Int32) (x4 : Int32) (h :
    (((μ.1 36 22) ≤ x4 →
      ((x3 = 0 →
        a_Runs G sX7_alike 4 [(0, .ref 36), (1, .int (x1 + (nI 0))), (2, .int (x2 + nI 1))] [] μ post) ∧
      (¬ x3 = 0 →
        a_Runs G sX7_alike 4 [(0, .ref 36), (1, .int (x1 + (nI 1))), (2, .int (x2 + nI 1))] [] μ post))) ∧
    (¬ (μ.1 36 22) ≤ x4 →
      ((¬ x3 = 0 →
        a_Runs G sX7_alike 17 [(0, .ref 36), (1, .int x1), (2, .int x2), (3, .int (nI 1)), (4, .int (x4 + nI 1))] [] μ post) ∧
      (x3 = 0 →
        ((x2 = x4 →
          a_Runs G sX7_alike 17 [(0, .ref 36), (1, .int x1), (2, .int x2), (3, .int (nI 0)), (4, .int (x4 + nI 1))] [] μ post) ∧
        (¬ x2 = x4 →
          a_Spec G sX7_areAlike [.ref 36, .int x2, .int x4] μ (fun r1 m1 => ∃ v1 : Int32, r1 = some (.int v1) ∧
          ((v1 = 0 →
            a_Runs G sX7_alike 17 [(0, .ref 36), (1, .int x1), (2, .int x2), (3, .int (nI 0)), (4, .int (x4 + nI 1))] [] m1 post) ∧
          (¬ v1 = 0 →
            a_Runs G sX7_alike 17 [(0, .ref 36), (1, .int x1), (2, .int x2), (3, .int (nI 1)), (4, .int (x4 + nI 1))] [] m1 post)))))))))) :
    a_Runs G sX7_alike 17 [(0, .ref 36), (1, .int x1), (2, .int x2), (3, .int x3), (4, .int x4)] [] μ post := a_run (S := sX7_alike) (pg := pX7_alike) (tab := tX7) [(4, [0, 1, 2]), (17, [0, 1, 2, 3, 4])] 22 (a_okT_e tX7_ok) pX7_alike_ok rfl h
set_option maxRecDepth 100000 in
set_option maxHeartbeats 4000000 in
theorem w_X7_isPin_0 {G : aG} {μ : aMem} {post : aPost} (x0 : Int32) (h :
    a_Spec G sX7_in [.int x0, .int (nI 0), .int (nI 15)] μ (fun r1 m1 => ∃ v1 : Int32, r1 = some (.int v1) ∧
    (v1 = 0 ∨ v1 = 1) ∧ post (some (.int v1)) m1)) :
    a_Spec G sX7_isPin [.int x0] μ post := a_enter (by decide +kernel) rfl (a_run (S := sX7_isPin) (pg := pX7_isPin) (tab := tX7) [] 7 (a_okT_e tX7_ok) pX7_isPin_ok rfl h)
set_option maxRecDepth 100000 in
set_option maxHeartbeats 4000000 in
theorem w_X7_pin_0 {G : aG} {μ : aMem} {post : aPost} (x1 : Int32) (x2 : Int32) (h :
    a_Spec G sX7_isPin [.int x1] μ (fun r1 m1 => ∃ v1 : Int32, r1 = some (.int v1) ∧
    ((v1 = 0 →
      post (some (.int (-1))) m1) ∧
    (¬ v1 = 0 →
      a_Spec G sX7_in [.int x2, .int (nI 0), .int (nI 7)] m1 (fun r2 m2 => ∃ v2 : Int32, r2 = some (.int v2) ∧
      ((¬ v2 = 0 →
        vp_in x1 16 ∧
        vp_in x1 16 ∧
        post (some (.int (m2.1 62 x1.toNatClampNeg))) (va_up m2.1 62 (upd (m2.1 62) x1.toNatClampNeg x2), m2.2)) ∧
      (v2 = 0 →
        post (some (.int (-1))) m2))))))) :
    a_Spec G sX7_pin [.ref 36, .int x1, .int x2] μ post := a_enter (by decide +kernel) rfl (a_run (S := sX7_pin) (pg := pX7_pin) (tab := tX7) [] 22 (a_okT_e tX7_ok) pX7_pin_ok rfl h)
set_option maxRecDepth 100000 in
set_option maxHeartbeats 4000000 in
theorem w_X7_nets_0 {G : aG} {μ : aMem} {post : aPost}  (h :
    a_Runs G sX7_nets 4 [(0, .ref 36), (1, .int (nI 0)), (2, .int (nI 0))] [] μ post) :
    a_Spec G sX7_nets [.ref 36] μ post := a_enter (by decide +kernel) rfl (a_run (S := sX7_nets) (pg := pX7_nets) (tab := tX7) [(4, [0, 1, 2])] 7 (a_okT_e tX7_ok) pX7_nets_ok rfl h)
set_option maxRecDepth 100000 in
set_option maxHeartbeats 4000000 in
theorem w_X7_nets_4 {G : aG} {μ : aMem} {post : aPost} (x1 : Int32) (x2 : Int32) (h :
    (((nI 16) ≤ x2 →
      post (some (.int x1)) μ) ∧
    (¬ (nI 16) ≤ x2 →
      vp_in x2 16 ∧
      a_Runs G sX7_nets 4 [(0, .ref 36), (1, .int (x1 ||| ((nI 1) <<< ((μ.1 62 x2.toNatClampNeg) &&& 31)))), (2, .int (x2 + nI 1))] [] μ post))) :
    a_Runs G sX7_nets 4 [(0, .ref 36), (1, .int x1), (2, .int x2)] [] μ post := a_run (S := sX7_nets) (pg := pX7_nets) (tab := tX7) [(4, [0, 1, 2])] 17 (a_okT_e tX7_ok) pX7_nets_ok rfl h
set_option maxRecDepth 100000 in
set_option maxHeartbeats 4000000 in
theorem w_X7_testMany_0 {G : aG} {μ : aMem} {post : aPost}  (h :
    a_Runs G sX7_testMany 4 [(0, .ref 36), (1, .int (nI 0)), (2, .int (nI 0))] [] μ post) :
    a_Spec G sX7_testMany [.ref 36] μ post := a_enter (by decide +kernel) rfl (a_run (S := sX7_testMany) (pg := pX7_testMany) (tab := tX7) [(4, [0, 1, 2])] 7 (a_okT_e tX7_ok) pX7_testMany_ok rfl h)
set_option maxRecDepth 100000 in
set_option maxHeartbeats 4000000 in
theorem w_X7_testMany_4 {G : aG} {μ : aMem} {post : aPost} (x1 : Int32) (x2 : Int32) (h :
    (((nI 16) ≤ x2 →
      ((x1 ≤ (nI 3) →
        ((x1 ≤ (nI 1) →
          post (some (.int x1)) μ) ∧
        (¬ x1 ≤ (nI 1) →
          post (some (.int (nI 2))) μ))) ∧
      (¬ x1 ≤ (nI 3) →
        post (some (.int (nI 3))) μ))) ∧
    (¬ (nI 16) ≤ x2 →
      vp_in x2 16 ∧
      vp_in (nI 0) 16 ∧
      a_Runs G sX7_testMany 4 [(0, .ref 36), (1, .int (x1 ||| ((μ.1 62 x2.toNatClampNeg) ^^^ (μ.1 62 (nI 0).toNatClampNeg)))), (2, .int (x2 + nI 1))] [] μ post))) :
    a_Runs G sX7_testMany 4 [(0, .ref 36), (1, .int x1), (2, .int x2)] [] μ post := a_run (S := sX7_testMany) (pg := pX7_testMany) (tab := tX7) [(4, [0, 1, 2])] 20 (a_okT_e tX7_ok) pX7_testMany_ok rfl h
set_option maxRecDepth 100000 in
set_option maxHeartbeats 4000000 in
theorem w_X7_tests_0 {G : aG} {μ : aMem} {post : aPost}  (h :
    a_Spec G sX7_testMany [.ref 36] μ (fun r1 m1 => ∃ v1 : Int32, r1 = some (.int v1) ∧
    post (some (.int v1)) m1)) :
    a_Spec G sX7_tests [.ref 36] μ post := a_enter (by decide +kernel) rfl (a_run (S := sX7_tests) (pg := pX7_tests) (tab := tX7) [] 5 (a_okT_e tX7_ok) pX7_tests_ok rfl h)
set_option maxRecDepth 100000 in
set_option maxHeartbeats 4000000 in
theorem w_X7_side_0 {G : aG} {μ : aMem} {post : aPost} (x1 : Int32) (x2 : Int32) (h :
    a_Spec G sX7_isPin [.int x2] μ (fun r1 m1 => ∃ v1 : Int32, r1 = some (.int v1) ∧
    ((¬ v1 = 0 →
      a_Spec G sX7_testMany [.ref 36] m1 (fun r2 m2 => ∃ v2 : Int32, r2 = some (.int v2) ∧
      a_Spec G sX7_in [.int x1, .int (nI 0), .int (v2 - (nI 1))] m2 (fun r3 m3 => ∃ v3 : Int32, r3 = some (.int v3) ∧
      ((v3 = 0 →
        post (some (.int (-2))) m3) ∧
      (¬ v3 = 0 →
        vp_in x2 16 ∧
        post (some (.int (((m3.1 62 x2.toNatClampNeg) >>> (x1 &&& 31)) &&& (nI 1)))) m3))))) ∧
    (v1 = 0 →
      post (some (.int (-1))) m1)))) :
    a_Spec G sX7_side [.ref 36, .int x1, .int x2] μ post := a_enter (by decide +kernel) rfl (a_run (S := sX7_side) (pg := pX7_side) (tab := tX7) [] 23 (a_okT_e tX7_ok) pX7_side_ok rfl h)
set_option maxRecDepth 100000 in
set_option maxHeartbeats 4000000 in
theorem w_X7_hasPins_0 {G : aG} {μ : aMem} {post : aPost} (x1 : Int32) (h :
    a_Spec G sX7_in [.int x1, .int (nI 0), .int (nI 7)] μ (fun r1 m1 => ∃ v1 : Int32, r1 = some (.int v1) ∧
    ((v1 = 0 →
      ((nI 0) = 0 ∨ (nI 0) = 1) ∧ post (some (.int (nI 0))) m1) ∧
    (¬ v1 = 0 →
      a_Spec G sX7_nets [.ref 36] m1 (fun r2 m2 => ∃ v2 : Int32, r2 = some (.int v2) ∧
      ((¬ ((v2 >>> (x1 &&& 31)) &&& (nI 1)) = (nI 1) →
        ((nI 0) = 0 ∨ (nI 0) = 1) ∧ post (some (.int (nI 0))) m2) ∧
      (((v2 >>> (x1 &&& 31)) &&& (nI 1)) = (nI 1) →
        ((nI 1) = 0 ∨ (nI 1) = 1) ∧ post (some (.int (nI 1))) m2))))))) :
    a_Spec G sX7_hasPins [.ref 36, .int x1] μ post := a_enter (by decide +kernel) rfl (a_run (S := sX7_hasPins) (pg := pX7_hasPins) (tab := tX7) [] 18 (a_okT_e tX7_ok) pX7_hasPins_ok rfl h)
set_option maxRecDepth 100000 in
set_option maxHeartbeats 4000000 in
theorem w_X7_shows_0 {G : aG} {μ : aMem} {post : aPost} (x1 : Int32) (x2 : Int32) (h :
    a_Spec G sX7_hasPins [.ref 36, .int x1] μ (fun r1 m1 => ∃ v1 : Int32, r1 = some (.int v1) ∧
    ((v1 = 0 →
      post (some (.int (-1))) m1) ∧
    (¬ v1 = 0 →
      a_Spec G sX7_hasPins [.ref 36, .int x2] m1 (fun r2 m2 => ∃ v2 : Int32, r2 = some (.int v2) ∧
      ((¬ v2 = 0 →
        ((¬ x1 = x2 →
          post (some (.int (x1 ^^^ x2))) m2) ∧
        (x1 = x2 →
          post (some (.int (-3))) m2))) ∧
      (v2 = 0 →
        post (some (.int (-1))) m2))))))) :
    a_Spec G sX7_shows [.ref 36, .int x1, .int x2] μ post := a_enter (by decide +kernel) rfl (a_run (S := sX7_shows) (pg := pX7_shows) (tab := tX7) [] 17 (a_okT_e tX7_ok) pX7_shows_ok rfl h)
set_option maxRecDepth 100000 in
set_option maxHeartbeats 4000000 in
theorem w_X7_pairs_0 {G : aG} {μ : aMem} {post : aPost} (x1 : Int32) (h :
    a_Runs G sX7_pairs 4 [(0, .ref 36), (1, .int x1), (2, .int (nI 0)), (3, .int (nI 0))] [] μ post) :
    a_Spec G sX7_pairs [.ref 36, .int x1] μ post := a_enter (by decide +kernel) rfl (a_run (S := sX7_pairs) (pg := pX7_pairs) (tab := tX7) [(4, [0, 1, 2, 3]), (15, [0, 1, 2, 3, 4])] 7 (a_okT_e tX7_ok) pX7_pairs_ok rfl h)
set_option maxRecDepth 100000 in
set_option maxHeartbeats 4000000 in
theorem w_X7_pairs_4 {G : aG} {μ : aMem} {post : aPost} (x1 : Int32) (x2 : Int32) (x3 : Int32) (h :
    (((nI 8) ≤ x3 →
      post (some (.int x2)) μ) ∧
    (¬ (nI 8) ≤ x3 →
      a_Runs G sX7_pairs 15 [(0, .ref 36), (1, .int x1), (2, .int x2), (3, .int x3), (4, .int (x3 + (nI 1)))] [] μ post))) :
    a_Runs G sX7_pairs 4 [(0, .ref 36), (1, .int x1), (2, .int x2), (3, .int x3)] [] μ post := a_run (S := sX7_pairs) (pg := pX7_pairs) (tab := tX7) [(4, [0, 1, 2, 3]), (15, [0, 1, 2, 3, 4])] 10 (a_okT_e tX7_ok) pX7_pairs_ok rfl h
set_option maxRecDepth 100000 in
set_option maxHeartbeats 4000000 in
theorem w_X7_pairs_15 {G : aG} {μ : aMem} {post : aPost} (x1 : Int32) (x2 : Int32) (x3 : Int32) (x4 : Int32) (h :
    (((nI 8) ≤ x4 →
      a_Runs G sX7_pairs 4 [(0, .ref 36), (1, .int x1), (2, .int x2), (3, .int (x3 + nI 1))] [] μ post) ∧
    (¬ (nI 8) ≤ x4 →
      a_Spec G sX7_hasPins [.ref 36, .int x3] μ (fun r1 m1 => ∃ v1 : Int32, r1 = some (.int v1) ∧
      ((v1 = 0 →
        a_Runs G sX7_pairs 15 [(0, .ref 36), (1, .int x1), (2, .int (x2 + (nI 0))), (3, .int x3), (4, .int (x4 + nI 1))] [] m1 post) ∧
      (¬ v1 = 0 →
        a_Spec G sX7_hasPins [.ref 36, .int x4] m1 (fun r2 m2 => ∃ v2 : Int32, r2 = some (.int v2) ∧
        ((v2 = 0 →
          a_Runs G sX7_pairs 15 [(0, .ref 36), (1, .int x1), (2, .int (x2 + (nI 0))), (3, .int x3), (4, .int (x4 + nI 1))] [] m2 post) ∧
        (¬ v2 = 0 →
          ((¬ (x3 ^^^ x4) = x1 →
            a_Runs G sX7_pairs 15 [(0, .ref 36), (1, .int x1), (2, .int (x2 + (nI 0))), (3, .int x3), (4, .int (x4 + nI 1))] [] m2 post) ∧
          ((x3 ^^^ x4) = x1 →
            a_Runs G sX7_pairs 15 [(0, .ref 36), (1, .int x1), (2, .int (x2 + (nI 1))), (3, .int x3), (4, .int (x4 + nI 1))] [] m2 post))))))))))) :
    a_Runs G sX7_pairs 15 [(0, .ref 36), (1, .int x1), (2, .int x2), (3, .int x3), (4, .int x4)] [] μ post := a_run (S := sX7_pairs) (pg := pX7_pairs) (tab := tX7) [(4, [0, 1, 2, 3]), (15, [0, 1, 2, 3, 4])] 26 (a_okT_e tX7_ok) pX7_pairs_ok rfl h
set_option maxRecDepth 100000 in
set_option maxHeartbeats 4000000 in
theorem w_X7_count_0 {G : aG} {μ : aMem} {post : aPost} (x1 : Int32) (h :
    a_Runs G sX7_count 7 [(0, .ref 36), (1, .int x1), (2, .int (nI 0)), (3, .int (nI 0)), (4, .int (nI 0))] [] μ post) :
    a_Spec G sX7_count [.ref 36, .int x1] μ post := a_enter (by decide +kernel) rfl (a_run (S := sX7_count) (pg := pX7_count) (tab := tX7) [(7, [0, 1, 2, 3, 4])] 9 (a_okT_e tX7_ok) pX7_count_ok rfl h)
set_option maxRecDepth 100000 in
set_option maxHeartbeats 4000000 in
theorem w_X7_count_7 {G : aG} {μ : aMem} {post : aPost} (x1 : Int32) (x2 : Int32) (x3 : Int32) (x4 : Int32) (h :
    (((μ.1 36 5) ≤ x4 →
      ((x1.toInt < 0 ∨ 5 < x1.toInt →
        post (some (.int (-2))) μ) ∧
      (x1.toInt = 0 →
        post (some (.int (μ.1 36 0))) μ) ∧
      (x1.toInt = 1 →
        post (some (.int (μ.1 36 5))) μ) ∧
      (x1.toInt = 2 →
        post (some (.int x2)) μ) ∧
      (x1.toInt = 3 →
        post (some (.int (μ.1 36 22))) μ) ∧
      (x1.toInt = 4 →
        a_Spec G sX7_nets [.ref 36] μ (fun r1 m1 => ∃ v1 : Int32, r1 = some (.int v1) ∧
        a_Spec G sX7_ones [.int v1] m1 (fun r2 m2 => ∃ v2 : Int32, r2 = some (.int v2) ∧
        post (some (.int v2)) m2))) ∧
      (x1.toInt = 5 →
        post (some (.int x3)) μ) ∧ True)) ∧
    (¬ (μ.1 36 5) ≤ x4 →
      vp_in x4 20 ∧
      (((μ.1 46 x4.toNatClampNeg) ≤ 0 →
        a_Spec G sX7_lengthOf [.ref 36, .int x4] μ (fun r3 m3 => ∃ v3 : Int32, r3 = some (.int v3) ∧
        a_Runs G sX7_count 7 [(0, .ref 36), (1, .int x1), (2, .int (x2 + (nI 0))), (3, .int (x3 + v3)), (4, .int (x4 + nI 1))] [] m3 post)) ∧
      (¬ (μ.1 46 x4.toNatClampNeg) ≤ 0 →
        a_Spec G sX7_lengthOf [.ref 36, .int x4] μ (fun r4 m4 => ∃ v4 : Int32, r4 = some (.int v4) ∧
        a_Runs G sX7_count 7 [(0, .ref 36), (1, .int x1), (2, .int (x2 + (nI 1))), (3, .int (x3 + v4)), (4, .int (x4 + nI 1))] [] m4 post)))))) :
    a_Runs G sX7_count 7 [(0, .ref 36), (1, .int x1), (2, .int x2), (3, .int x3), (4, .int x4)] [] μ post := a_run (S := sX7_count) (pg := pX7_count) (tab := tX7) [(7, [0, 1, 2, 3, 4])] 25 (a_okT_e tX7_ok) pX7_count_ok rfl h
end
section
/-! rows on bits, shifts and unsigned numbers, to paste: each family out of a closed proof of our own, whole with what it rests on; each by itself clean at Lean in its own claim (generation 39, form 5). Take a family whole -/
/-! ===== Int32 by its bits: bt x i ===== -/
def bt (x : Int32) (i : Nat) : Bool := x.toBitVec.getLsbD i
theorem b_ext {x y : Int32} (h : ∀ i, i < 32 → bt x i = bt y i) : x = y := Int32.toBitVec_inj.mp (BitVec.eq_of_getLsbD_eq (fun i hi => h i hi))
theorem b_or (x y : Int32) (i : Nat) : bt (x ||| y) i = (bt x i || bt y i) := by unfold bt; rw [Int32.toBitVec_or, BitVec.getLsbD_or]
theorem b_and (x y : Int32) (i : Nat) : bt (x &&& y) i = (bt x i && bt y i) := by unfold bt; rw [Int32.toBitVec_and, BitVec.getLsbD_and]
theorem b_xor (x y : Int32) (i : Nat) : bt (x ^^^ y) i = (bt x i ^^ bt y i) := by unfold bt; rw [Int32.toBitVec_xor, BitVec.getLsbD_xor]
theorem b_big {x : Int32} {i : Nat} (h : 32 ≤ i) : bt x i = false := BitVec.getLsbD_of_ge _ _ h
theorem b_255 (i : Nat) : bt 255 i = decide (i < 8) := by
  rcases Nat.lt_or_ge i 32 with h | h
  · exact (by decide +kernel : ∀ i, i < 32 → bt 255 i = decide (i < 8)) i h
  · rw [b_big h, decide_eq_false (by omega)]
theorem b_65535 (i : Nat) : bt 65535 i = decide (i < 16) := by
  rcases Nat.lt_or_ge i 32 with h | h
  · exact (by decide +kernel : ∀ i, i < 32 → bt 65535 i = decide (i < 16)) i h
  · rw [b_big h, decide_eq_false (by omega)]
theorem b_m1 : ∀ i, i < 32 → bt (-1) i = true := by decide +kernel
theorem b_0 (i : Nat) : bt 0 i = false := BitVec.getLsbD_zero
theorem s_l : ∀ n, n < 32 → ((nI n &&& 31).toBitVec.smod 32).toNat = n := by decide +kernel
theorem s_u : ∀ n, n < 32 → (((nI n).toUInt32 &&& Int32.toUInt32 31).toBitVec % 32).toNat = n := by decide +kernel
theorem b_shl (n : Nat) (hn : n < 32) (x : Int32) {i : Nat} (hi : i < 32) : bt (x <<< (nI n &&& 31)) i = (decide (n ≤ i) && bt x (i - n)) := by
  unfold bt
  rw [Int32.toBitVec_shiftLeft]
  show (x.toBitVec <<< ((nI n &&& 31).toBitVec.smod 32).toNat).getLsbD i = _
  rw [s_l n hn, BitVec.getLsbD_shiftLeft]
  rcases Nat.lt_or_ge i n with h | h
  · simp [h, Nat.not_le.mpr h]
  · simp [hi, h, Nat.not_lt.mpr h]
theorem b_ushr (n : Nat) (hn : n < 32) (x : Int32) (i : Nat) : bt ((x.toUInt32 >>> ((nI n).toUInt32 &&& Int32.toUInt32 31)).toInt32) i = bt x (n + i) := by
  show (x.toUInt32 >>> ((nI n).toUInt32 &&& Int32.toUInt32 31)).toBitVec.getLsbD i = x.toUInt32.toBitVec.getLsbD (n + i)
  rw [UInt32.toBitVec_shiftRight]
  show (x.toUInt32.toBitVec >>> (((nI n).toUInt32 &&& Int32.toUInt32 31).toBitVec % 32).toNat).getLsbD i = _
  rw [s_u n hn, BitVec.getLsbD_ushiftRight]
theorem b_sshr (n : Nat) (hn : n < 32) (x : Int32) {i : Nat} (hi : i < 32) : bt (x >>> (nI n &&& 31)) i = if n + i < 32 then bt x (n + i) else bt x 31 := by
  unfold bt
  rw [Int32.toBitVec_shiftRight]
  show (x.toBitVec.sshiftRight ((nI n &&& 31).toBitVec.smod 32).toNat).getLsbD i = _
  rw [s_l n hn, BitVec.getLsbD_sshiftRight, BitVec.msb_eq_getLsbD_last]
  simp [hi]
theorem b_shl8 (x : Int32) {i : Nat} (hi : i < 32) : bt (x <<< ((8 : Int32) &&& 31)) i = (decide (8 ≤ i) && bt x (i - 8)) := b_shl 8 (by omega) x hi
theorem b_shl16 (x : Int32) {i : Nat} (hi : i < 32) : bt (x <<< ((16 : Int32) &&& 31)) i = (decide (16 ≤ i) && bt x (i - 16)) := b_shl 16 (by omega) x hi
theorem b_shl24 (x : Int32) {i : Nat} (hi : i < 32) : bt (x <<< ((24 : Int32) &&& 31)) i = (decide (24 ≤ i) && bt x (i - 24)) := b_shl 24 (by omega) x hi
theorem b_sshr8 (x : Int32) {i : Nat} (hi : i < 32) : bt (x >>> ((8 : Int32) &&& 31)) i = if 8 + i < 32 then bt x (8 + i) else bt x 31 := b_sshr 8 (by omega) x hi
/-! ===== nI under and, xor, >>>, one bit, 65535 ===== -/
theorem nx_and (a b : Nat) : nI a &&& nI b = nI (a &&& b) := by
  apply Int32.toBitVec_inj.1
  show BitVec.ofNat 32 a &&& BitVec.ofNat 32 b = BitVec.ofNat 32 (a &&& b)
  apply BitVec.eq_of_getLsbD_eq
  intro i hi
  simp [hi]
theorem nx_xor (a b : Nat) : nI a ^^^ nI b = nI (a ^^^ b) := by
  apply Int32.toBitVec_inj.1
  show BitVec.ofNat 32 a ^^^ BitVec.ofNat 32 b = BitVec.ofNat 32 (a ^^^ b)
  apply BitVec.eq_of_getLsbD_eq
  intro i hi
  simp [hi]
theorem nx_cnt : ∀ j : Fin 32, (UInt32.ofNat j.val &&& Int32.toUInt32 31).toNat % 32 = j.val := by decide +kernel
theorem nx_ush {k j : Nat} (hk : k < 65536) (hj : j < 32) : ((nI k).toUInt32 >>> ((nI j).toUInt32 &&& Int32.toUInt32 31)).toInt32 = nI (k >>> j) := by
  have hs : k >>> j ≤ k := by
    rw [Nat.shiftRight_eq_div_pow]
    exact Nat.div_le_self _ _
  have e2 : UInt32.ofNat k >>> (UInt32.ofNat j &&& Int32.toUInt32 31) = UInt32.ofNat (k >>> j) := by
    apply UInt32.toNat_inj.1
    have h1 : (UInt32.ofNat k).toNat = k := Nat.mod_eq_of_lt (by omega)
    have h2 : (UInt32.ofNat (k >>> j)).toNat = k >>> j := Nat.mod_eq_of_lt (by omega)
    rw [UInt32.toNat_shiftRight, nx_cnt ⟨j, hj⟩, h1, h2]
  show (UInt32.ofNat k >>> (UInt32.ofNat j &&& Int32.toUInt32 31)).toInt32 = _
  rw [e2]
  rfl
theorem nx_bit {k j : Nat} (hk : k < 65536) (hj : j < 16) : (((nI k).toUInt32 >>> ((nI j).toUInt32 &&& Int32.toUInt32 31)).toInt32 &&& 1) = 0 ↔ k.testBit j = false := by
  rw [nx_ush hk (by omega)]
  show nI (k >>> j) &&& nI 1 = 0 ↔ _
  rw [nx_and, Nat.and_one_is_mod, ← nI_0, nI_eq (by omega) (by omega), Nat.testBit_eq_decide_div_mod_eq, Nat.shiftRight_eq_div_pow, decide_eq_false_iff_not]
  generalize k / 2 ^ j = z
  omega
theorem nx_mod (k : Nat) : nI k &&& 65535 = nI (k % 65536) := by
  show nI k &&& nI 65535 = _
  rw [nx_and, show (65535 : Nat) = 2 ^ 16 - 1 from rfl, Nat.and_two_pow_sub_one_eq_mod]
theorem nx_m16 {k : Nat} (h : k < 65536) : nI k &&& 65535 = nI k := by rw [nx_mod, Nat.mod_eq_of_lt h]
theorem nx_mask (x : Int32) : ∃ k, k < 65536 ∧ x &&& 65535 = nI k := by
  have e : x = nI x.toBitVec.toNat := by
    apply Int32.toBitVec_inj.1
    show x.toBitVec = BitVec.ofNat 32 x.toBitVec.toNat
    simp
  refine ⟨x.toBitVec.toNat % 65536, Nat.mod_lt _ (by omega), ?_⟩
  rw [← nx_mod, ← e]
/-! ===== lN n to 2^64: shifts, and, or, masks, one bit ===== -/
theorem wb_tb (n : Nat) : (lN n).toBitVec = BitVec.ofNat 64 n := rfl
theorem wb_inj {a b : Int64} (h : a.toBitVec = b.toBitVec) : a = b := Int64.toBitVec_inj.mp h
theorem wb_tn {n : Nat} (h : n < 2 ^ 64) : (lN n).toBitVec.toNat = n := by rw [wb_tb, BitVec.toNat_ofNat, Nat.mod_eq_of_lt h]
theorem wb_of (x : Int64) : ∃ n, n < 2 ^ 64 ∧ x = lN n := ⟨x.toBitVec.toNat, x.toBitVec.isLt, wb_inj (by rw [wb_tb]; simp)⟩
theorem wb_of32 (x : Int32) : ∃ n, n < 2 ^ 32 ∧ x = nI n := ⟨x.toBitVec.toNat, x.toBitVec.isLt, Int32.toBitVec_inj.mp (by show _ = BitVec.ofNat 32 _; simp)⟩
theorem wb_c : ∀ k, k < 64 → ((nI k).toInt64 &&& 63) = lN k := by decide +kernel
theorem wb_cu : ∀ k, k < 64 → ((nI k).toInt64.toUInt64 &&& Int64.toUInt64 63) = UInt64.ofNat k := by decide +kernel
theorem wb_sm : ∀ k, k < 64 → (BitVec.ofNat 64 k).smod 64 = BitVec.ofNat 64 k := by decide +kernel
theorem wb_pw {a b : Nat} (h : a ≤ b) : 2 ^ b = 2 ^ a * 2 ^ (b - a) := by rw [← Nat.pow_add]; congr 1; omega
theorem wb_lt2 {a b : Nat} (h : a < b) : 2 ^ a < 2 ^ b := Nat.pow_lt_pow_right (by decide) h
theorem wb_mod (n : Nat) : lN n = lN (n % 2 ^ 64) := wb_inj (by rw [wb_tb, wb_tb]; apply BitVec.eq_of_toNat_eq; rw [BitVec.toNat_ofNat, BitVec.toNat_ofNat, Nat.mod_mod])
theorem wb_shr {n k : Nat} (hn : n < 2 ^ 64) (hk : k < 64) : ((lN n).toUInt64 >>> ((nI k).toInt64.toUInt64 &&& Int64.toUInt64 63)).toInt64 = lN (n / 2 ^ k) := by
  rw [wb_cu k hk]
  apply wb_inj
  apply BitVec.eq_of_toNat_eq
  show ((lN n).toUInt64 >>> UInt64.ofNat k).toNat = (BitVec.ofNat 64 _).toNat
  have h1 : (UInt64.ofNat k).toNat = k := by
    show (BitVec.ofNat 64 k).toNat = k
    rw [BitVec.toNat_ofNat, Nat.mod_eq_of_lt (by omega)]
  have h2 : (lN n).toUInt64.toNat = n := wb_tn hn
  rw [UInt64.toNat_shiftRight, h1, h2, Nat.mod_eq_of_lt hk, Nat.shiftRight_eq_div_pow, BitVec.toNat_ofNat, Nat.mod_eq_of_lt (Nat.lt_of_le_of_lt (Nat.div_le_self _ _) hn)]
theorem wb_shl (n : Nat) {k : Nat} (hk : k < 64) : lN n <<< ((nI k).toInt64 &&& 63) = lN (n * 2 ^ k) := by
  rw [wb_c k hk]
  apply wb_inj
  rw [Int64.toBitVec_shiftLeft, wb_tb, wb_tb, wb_tb, wb_sm k hk]
  apply BitVec.eq_of_toNat_eq
  rw [BitVec.shiftLeft_eq', BitVec.toNat_shiftLeft, BitVec.toNat_ofNat, BitVec.toNat_ofNat, BitVec.toNat_ofNat, Nat.mod_eq_of_lt (show k < 2 ^ 64 by omega), Nat.shiftLeft_eq, Nat.mul_mod, Nat.mod_mod, ← Nat.mul_mod]
theorem wb_and {a b : Nat} (ha : a < 2 ^ 64) (hb : b < 2 ^ 64) : lN a &&& lN b = lN (a &&& b) := by
  apply wb_inj
  rw [Int64.toBitVec_and, wb_tb, wb_tb, wb_tb]
  apply BitVec.eq_of_toNat_eq
  rw [BitVec.toNat_and, BitVec.toNat_ofNat, BitVec.toNat_ofNat, BitVec.toNat_ofNat, Nat.mod_eq_of_lt ha, Nat.mod_eq_of_lt hb, Nat.mod_eq_of_lt (Nat.and_lt_two_pow _ hb)]
theorem wb_or {a b : Nat} (ha : a < 2 ^ 64) (hb : b < 2 ^ 64) : lN a ||| lN b = lN (a ||| b) := by
  apply wb_inj
  rw [Int64.toBitVec_or, wb_tb, wb_tb, wb_tb]
  apply BitVec.eq_of_toNat_eq
  rw [BitVec.toNat_or, BitVec.toNat_ofNat, BitVec.toNat_ofNat, BitVec.toNat_ofNat, Nat.mod_eq_of_lt ha, Nat.mod_eq_of_lt hb, Nat.mod_eq_of_lt (Nat.or_lt_two_pow ha hb)]
theorem wb_mask {n k : Nat} (hn : n < 2 ^ 64) (hk : k < 64) : lN n &&& lN (2 ^ k - 1) = lN (n % 2 ^ k) := by
  rw [wb_and hn (by have := wb_lt2 hk; omega), Nat.and_two_pow_sub_one_eq_mod]
theorem wb_a1 {n : Nat} (hn : n < 2 ^ 64) : lN n &&& 1 = lN (n % 2) := wb_mask (k := 1) hn (by decide)
theorem wb_bit {n k : Nat} (hn : n < 2 ^ 64) (hk : k < 64) : ((lN n).toUInt64 >>> ((nI k).toInt64.toUInt64 &&& Int64.toUInt64 63)).toInt64 &&& 1 = lN (n / 2 ^ k % 2) := by
  rw [wb_shr hn hk, wb_a1 (Nat.lt_of_le_of_lt (Nat.div_le_self _ _) hn)]
theorem wb_xor {q k : Nat} (hk : k < 63) (h : 2 ^ k ≤ q) (h2 : q < 2 ^ (k + 1)) : lN q ^^^ lN (2 ^ k) = lN (q - 2 ^ k) := by
  obtain ⟨r, rfl⟩ : ∃ r, q = 2 ^ k + r := ⟨q - 2 ^ k, by omega⟩
  have hr : r < 2 ^ k := by rw [Nat.pow_succ] at h2; omega
  have hx : (2 ^ k + r) ^^^ 2 ^ k = r := by
    apply Nat.eq_of_testBit_eq
    intro i
    rw [Nat.testBit_xor, Nat.testBit_two_pow]
    rcases Nat.lt_trichotomy i k with h | h | h
    · rw [Nat.testBit_two_pow_add_gt h]
      simp [show ¬ k = i by omega]
    · subst h
      rw [Nat.testBit_two_pow_add_eq]
      simp
    · have a1 : 2 ^ (k + 1) ≤ 2 ^ i := Nat.pow_le_pow_right (by decide) h
      rw [Nat.testBit_lt_two_pow (show 2 ^ k + r < 2 ^ i by omega), Nat.testBit_lt_two_pow (show r < 2 ^ i by omega)]
      simp [show ¬ k = i by omega]
  have b1 := wb_lt2 (show k + 1 < 64 by omega)
  have b2 := wb_lt2 (show k < 64 by omega)
  apply wb_inj
  rw [Int64.toBitVec_xor, wb_tb, wb_tb, wb_tb]
  apply BitVec.eq_of_toNat_eq
  rw [BitVec.toNat_xor, BitVec.toNat_ofNat, BitVec.toNat_ofNat, BitVec.toNat_ofNat, Nat.mod_eq_of_lt (by omega : 2 ^ k + r < 2 ^ 64), Nat.mod_eq_of_lt b2, hx, Nat.add_sub_cancel_left, Nat.mod_eq_of_lt (by omega)]
/-! plain facts on numbers and arrays, to paste: each family by itself; over the kit's rows on nI and upd -/
/-! ===== order of ints, in all its forms, and through longs ===== -/
theorem fa_lt (a b : Int32) : a < b ↔ a.toInt < b.toInt := Int32.lt_iff_toInt_lt
theorem fa_le (a b : Int32) : a ≤ b ↔ a.toInt ≤ b.toInt := Int32.le_iff_toInt_le
theorem fa_eq (a b : Int32) : a = b ↔ a.toInt = b.toInt := Int32.toInt_inj.symm
theorem fa_lt64 (a b : Int64) : a < b ↔ a.toInt < b.toInt := Int64.lt_iff_toInt_lt
theorem fa_le64 (a b : Int64) : a ≤ b ↔ a.toInt ≤ b.toInt := Int64.le_iff_toInt_le
theorem fa_eq64 (a b : Int64) : a = b ↔ a.toInt = b.toInt := Int64.toInt_inj.symm
/-- a comparison of two ints taken as longs -/
theorem fa_wide_lt (a b : Int32) : a.toInt64 < b.toInt64 ↔ a < b := by rw [fa_lt64, fa_lt, Int32.toInt_toInt64, Int32.toInt_toInt64]
theorem fa_wide_le (a b : Int32) : a.toInt64 ≤ b.toInt64 ↔ a ≤ b := by rw [fa_le64, fa_le, Int32.toInt_toInt64, Int32.toInt_toInt64]
theorem fa_wide_eq (a b : Int32) : a.toInt64 = b.toInt64 ↔ a = b := by rw [fa_eq64, fa_eq, Int32.toInt_toInt64, Int32.toInt_toInt64]
/-- one strict comparison gives all the others -/
theorem fa_of_lt {a b : Int32} (h : a < b) : a ≤ b ∧ ¬ b ≤ a ∧ ¬ b < a ∧ a ≠ b ∧ b ≠ a := by
  rw [fa_lt] at h
  refine ⟨?_, ?_, ?_, ?_, ?_⟩
  · rw [fa_le]; omega
  · rw [fa_le]; omega
  · rw [fa_lt]; omega
  · intro e; rw [fa_eq] at e; omega
  · intro e; rw [fa_eq] at e; omega
theorem fa_of_nlt {a b : Int32} (h : ¬ a < b) : b ≤ a := by
  rw [fa_lt] at h
  rw [fa_le]
  omega
theorem fa_of_nle {a b : Int32} (h : ¬ a ≤ b) : b < a := by
  rw [fa_le] at h
  rw [fa_lt]
  omega
theorem fa_le_ne {a b : Int32} (h : a ≤ b) (h2 : a ≠ b) : a < b := by
  rw [fa_le] at h
  rw [fa_lt]
  have h3 : a.toInt ≠ b.toInt := fun e => h2 ((fa_eq a b).mpr e)
  omega
theorem fa_three (a b : Int32) : a < b ∨ a = b ∨ b < a := by
  rw [fa_lt, fa_lt, fa_eq]
  omega
theorem fa_trans {a b c : Int32} (h : a < b) (h2 : b ≤ c) : a < c := by
  rw [fa_lt] at *
  rw [fa_le] at h2
  omega
/-! ===== small literals as numbers ===== -/
theorem fa_lit (n : Nat) : (OfNat.ofNat n : Int32) = nI n := rfl
theorem fa_litL (n : Nat) : (OfNat.ofNat n : Int64) = lN n := rfl
/-! ===== bits of a number: 'or', masks, one bit ===== -/
theorem fa_and (a b : Nat) : nI a &&& nI b = nI (a &&& b) := by
  apply Int32.toBitVec_inj.1
  show BitVec.ofNat 32 a &&& BitVec.ofNat 32 b = BitVec.ofNat 32 (a &&& b)
  apply BitVec.eq_of_getLsbD_eq
  intro i hi
  simp [hi]
theorem fa_or (a b : Nat) : nI a ||| nI b = nI (a ||| b) := by
  apply Int32.toBitVec_inj.1
  show BitVec.ofNat 32 a ||| BitVec.ofNat 32 b = BitVec.ofNat 32 (a ||| b)
  apply BitVec.eq_of_getLsbD_eq
  intro i hi
  simp [hi]
/-- a remainder by a power of two, as a mask -/
theorem fa_mask (n k : Nat) : nI n &&& nI (2 ^ k - 1) = nI (n % 2 ^ k) := by rw [fa_and, Nat.and_two_pow_sub_one_eq_mod]
/-- 'or' of a high part and a low one that don't meet is their sum -/
theorem fa_or_sum {a k : Nat} (b : Nat) (h : a < 2 ^ k) : nI (2 ^ k * b) ||| nI a = nI (2 ^ k * b + a) := by rw [fa_or, Nat.two_pow_add_eq_or_of_lt h]
/-- one bit, by 'and' with a power of two -/
theorem fa_bit {n j : Nat} (hj : j < 31) : nI n &&& nI (2 ^ j) = 0 ↔ n.testBit j = false := by
  have h2 : (2 : Nat) ^ j < 2 ^ 31 := Nat.pow_lt_pow_right (by decide) hj
  have hle : n &&& 2 ^ j ≤ 2 ^ j := Nat.and_le_right
  have e : n &&& 2 ^ j = 0 ↔ n.testBit j = false := by
    constructor
    · intro h
      have h1 : (n &&& 2 ^ j).testBit j = false := by rw [h]; simp
      rw [Nat.testBit_and] at h1
      first | simpa using h1 | simpa [Nat.testBit_two_pow_self] using h1 | simpa [Nat.testBit_two_pow] using h1
    · intro h
      apply Nat.eq_of_testBit_eq
      intro i
      rw [Nat.testBit_and]
      by_cases hi : j = i
      · subst hi; simp [h]
      · first | (simp [Nat.testBit_two_pow, hi]; done) | (simp [Nat.testBit_two_pow_of_ne hi]; done)
  rw [fa_and]
  constructor
  · intro h
    apply e.mp
    rcases Nat.eq_zero_or_pos (n &&& 2 ^ j) with z | z
    · exact z
    · exact absurd h (nI_ne0 z (Nat.lt_of_le_of_lt hle h2))
  · intro h
    rw [e.mpr h]; exact nI_0
/-- a remainder by a power of two of a number that isn't negative, as Java divides -/
theorem fa_rem {a k : Nat} (ha : a < 2 ^ 31) (hk : k < 31) : nI a - nI a / nI (2 ^ k) * nI (2 ^ k) = nI (a % 2 ^ k) := pk_rem ha (Nat.two_pow_pos k) (Nat.pow_lt_pow_right (by decide) hk)
/-! ===== cuts to a byte, a short ===== -/
theorem fa_byte_xor (x y : Int32) : (x ^^^ y).toInt8 = x.toInt8 ^^^ y.toInt8 := by
  apply Int8.toBitVec_inj.1
  apply BitVec.eq_of_getLsbD_eq
  intro i hi
  first | (simp [hi]; done) | (simp [hi, BitVec.getLsbD_setWidth, BitVec.getLsbD_signExtend]; done)
theorem fa_short_xor (x y : Int32) : (x ^^^ y).toInt16 = x.toInt16 ^^^ y.toInt16 := by
  apply Int16.toBitVec_inj.1
  apply BitVec.eq_of_getLsbD_eq
  intro i hi
  first | (simp [hi]; done) | (simp [hi, BitVec.getLsbD_setWidth, BitVec.getLsbD_signExtend]; done)
/-- the cut to a byte sees the low byte alone -/
theorem fa_byte_low (x : Int32) : (x &&& 255).toInt8 = x.toInt8 := by
  apply Int8.toBitVec_inj.1
  apply BitVec.eq_of_getLsbD_eq
  intro i hi
  have h2 : (255 : Int32).toBitVec.getLsbD i = true := by
    have : ∀ j : Fin 8, (255 : Int32).toBitVec.getLsbD j.val = true := by decide +kernel
    exact this ⟨i, hi⟩
  have h4 : (x &&& 255).toBitVec.getLsbD i = x.toBitVec.getLsbD i := by
    show (x.toBitVec &&& (255 : Int32).toBitVec).getLsbD i = _
    rw [BitVec.getLsbD_and, h2, Bool.and_true]
  have h3 : i < 32 := by omega
  first
    | (show (((x &&& 255).toBitVec).signExtend 8).getLsbD i = (x.toBitVec.signExtend 8).getLsbD i; rw [BitVec.getLsbD_signExtend, BitVec.getLsbD_signExtend, if_pos h3, if_pos h3, h4])
    | (show (((x &&& 255).toBitVec).setWidth 8).getLsbD i = (x.toBitVec.setWidth 8).getLsbD i; rw [BitVec.getLsbD_setWidth, BitVec.getLsbD_setWidth, h4])
    | (simp [hi, h3, h4]; done)
theorem fa_short_low (x : Int32) : (x &&& 65535).toInt16 = x.toInt16 := by
  apply Int16.toBitVec_inj.1
  apply BitVec.eq_of_getLsbD_eq
  intro i hi
  have h2 : (65535 : Int32).toBitVec.getLsbD i = true := by
    have : ∀ j : Fin 16, (65535 : Int32).toBitVec.getLsbD j.val = true := by decide +kernel
    exact this ⟨i, hi⟩
  have h4 : (x &&& 65535).toBitVec.getLsbD i = x.toBitVec.getLsbD i := by
    show (x.toBitVec &&& (65535 : Int32).toBitVec).getLsbD i = _
    rw [BitVec.getLsbD_and, h2, Bool.and_true]
  have h3 : i < 32 := by omega
  first
    | (show (((x &&& 65535).toBitVec).signExtend 16).getLsbD i = (x.toBitVec.signExtend 16).getLsbD i; rw [BitVec.getLsbD_signExtend, BitVec.getLsbD_signExtend, if_pos h3, if_pos h3, h4])
    | (show (((x &&& 65535).toBitVec).setWidth 16).getLsbD i = (x.toBitVec.setWidth 16).getLsbD i; rw [BitVec.getLsbD_setWidth, BitVec.getLsbD_setWidth, h4])
    | (simp [hi, h3, h4]; done)
/-- a small number is its own byte, its own short -/
theorem fa_byte_small {n : Nat} (h : n < 128) : (nI n).toInt8.toInt32 = nI n := by
  have : ∀ j : Fin 128, (nI j.val).toInt8.toInt32 = nI j.val := by decide +kernel
  exact this ⟨n, h⟩
/-! ===== absolute difference ===== -/
theorem fa_absdiff {a b : Nat} (ha : a < 2 ^ 31) (hb : b < 2 ^ 31) : (if nI a < nI b then nI b - nI a else nI a - nI b) = nI (if a < b then b - a else a - b) := by
  by_cases h : a < b
  · rw [if_pos (nI_lt h hb), if_pos h]
    exact pk_sub (Nat.le_of_lt h)
  · rw [if_neg (nI_nlt (Nat.le_of_not_lt h) ha), if_neg h]
    exact pk_sub (Nat.le_of_not_lt h)
/-! ===== an array behind i stores, a conditional store, a row copied ===== -/
/-- f where k < i, what stood there else -/
def fa_fill {α : Type} (f g : Nat → α) (i : Nat) : Nat → α := fun k => if k < i then f k else g k
theorem fa_fill_0 {α : Type} (f g : Nat → α) : fa_fill f g 0 = g := funext fun k => if_neg (Nat.not_lt_zero k)
theorem fa_fill_in {α : Type} {f g : Nat → α} {i k : Nat} (h : k < i) : fa_fill f g i k = f k := if_pos h
theorem fa_fill_out {α : Type} {f g : Nat → α} {i k : Nat} (h : i ≤ k) : fa_fill f g i k = g k := if_neg (Nat.not_lt.mpr h)
theorem fa_fill_succ (f g : Nat → Int32) (i : Nat) : upd (fa_fill f g i) i (f i) = fa_fill f g (i + 1) := by
  funext k
  by_cases e : k = i
  · subst e
    rw [pk_us]
    exact (if_pos (Nat.lt_succ_self k)).symm
  · rw [pk_un e]
    by_cases h : k < i
    · rw [fa_fill_in h, fa_fill_in (Nat.lt_succ_of_lt h)]
    · rw [fa_fill_out (Nat.le_of_not_lt h), fa_fill_out (by omega)]
/-- a store that changes nothing -/
theorem fa_upd_same {f : Nat → Int32} {i : Nat} {x : Int32} (h : f i = x) : upd f i x = f := by
  funext k
  by_cases e : k = i
  · subst e
    rw [pk_us, h]
  · rw [pk_un e]
/-- a store under a condition, told as one -/
theorem fa_upd_if (c : Prop) [Decidable c] (f : Nat → Int32) (i : Nat) (x : Int32) : (if c then upd f i x else f) = upd f i (if c then x else f i) := by
  by_cases h : c
  · rw [if_pos h, if_pos h]
  · rw [if_neg h, if_neg h, fa_upd_same rfl]
/-- two stores at one place, at two -/
theorem fa_upd_twice (f : Nat → Int32) (i : Nat) (x y : Int32) : upd (upd f i x) i y = upd f i y := by
  funext k
  by_cases e : k = i
  · subst e
    rw [pk_us, pk_us]
  · rw [pk_un e, pk_un e, pk_un e]
theorem fa_upd_swap (f : Nat → Int32) {i j : Nat} (h : i ≠ j) (x y : Int32) : upd (upd f i x) j y = upd (upd f j y) i x := by
  funext k
  by_cases e : k = i
  · subst e
    rw [pk_un h, pk_us, pk_us]
  · by_cases e2 : k = j
    · subst e2
      rw [pk_us, pk_un e, pk_us]
    · rw [pk_un e2, pk_un e, pk_un e, pk_un e2]
/-! ===== the first index with a property; a count ===== -/
/-- the first k < n with p k, n if there is none -/
def fa_first (p : Nat → Bool) : Nat → Nat
  | 0 => 0
  | n + 1 => if fa_first p n < n then fa_first p n else if p n then n else n + 1
theorem fa_first_le (p : Nat → Bool) : ∀ n, fa_first p n ≤ n
  | 0 => Nat.le_refl 0
  | n + 1 => by
    have ih := fa_first_le p n
    unfold fa_first
    split
    · omega
    · split
      · omega
      · omega
theorem fa_first_no (p : Nat → Bool) : ∀ n k, k < fa_first p n → p k = false
  | 0, k, h => absurd h (Nat.not_lt_zero k)
  | n + 1, k, h => by
    have ih := fa_first_no p n
    have hl := fa_first_le p n
    unfold fa_first at h
    split at h
    · exact ih k h
    · rename_i h1
      split at h
      · exact ih k (by omega)
      · rename_i h2
        by_cases e : k = n
        · subst e
          exact Bool.eq_false_iff.mpr h2
        · exact ih k (by omega)
theorem fa_first_yes (p : Nat → Bool) : ∀ n, fa_first p n < n → p (fa_first p n) = true
  | 0, h => absurd h (Nat.not_lt_zero _)
  | n + 1, h => by
    have ih := fa_first_yes p n
    have hl := fa_first_le p n
    unfold fa_first at h ⊢
    split at h
    · rename_i h1
      rw [if_pos h1]
      exact ih h1
    · rename_i h1
      rw [if_neg h1]
      split at h
      · rename_i h2
        rw [if_pos h2]
        exact h2
      · omega
/-- how many k < n have p k -/
def fa_cnt (p : Nat → Bool) : Nat → Nat
  | 0 => 0
  | n + 1 => fa_cnt p n + if p n then 1 else 0
theorem fa_cnt_le (p : Nat → Bool) : ∀ n, fa_cnt p n ≤ n
  | 0 => Nat.le_refl 0
  | n + 1 => by
    have ih := fa_cnt_le p n
    unfold fa_cnt
    split
    · omega
    · omega
theorem fa_cnt_yes {p : Nat → Bool} {n : Nat} (h : p n = true) : fa_cnt p (n + 1) = fa_cnt p n + 1 := by rw [fa_cnt, if_pos h]
theorem fa_cnt_no {p : Nat → Bool} {n : Nat} (h : p n = false) : fa_cnt p (n + 1) = fa_cnt p n := by rw [fa_cnt, if_neg (by rw [h]; decide)]; rfl
theorem fa_cnt_cong {p q : Nat → Bool} : ∀ {n : Nat}, (∀ k, k < n → p k = q k) → fa_cnt p n = fa_cnt q n
  | 0, _ => rfl
  | n + 1, h => by rw [fa_cnt, fa_cnt, fa_cnt_cong (fun k hk => h k (Nat.lt_succ_of_lt hk)), h n (Nat.lt_succ_self n)]
/-! ===== an answer carried into a post; a branch on a boolean answer ===== -/
theorem fa_post {α : Type} {P : α → Prop} {x y : α} (h : x = y) (hp : P y) : P x := h ▸ hp
theorem fa_post2 {α β : Type} {P : α → β → Prop} {x y : α} {u v : β} (h : x = y) (h2 : u = v) (hp : P y v) : P x u := h ▸ h2 ▸ hp
theorem fa_bool {r : Int32} {b : Bool} (h : r = if b then 1 else 0) : (r = 0 ↔ b = false) ∧ (¬ r = 0 ↔ b = true) := by
  subst h
  cases b
  · exact ⟨⟨fun _ => rfl, fun _ => rfl⟩, ⟨fun h => absurd rfl h, fun h => absurd h (by decide)⟩⟩
  · exact ⟨⟨fun h => absurd h (by decide), fun h => absurd h (by decide)⟩, ⟨fun _ => rfl, fun _ => by decide⟩⟩
/-- a boolean's narrowing changes nothing -/
theorem fa_bool_and {r : Int32} (h : r = 0 ∨ r = 1) : r &&& 1 = r := by
  rcases h with rfl | rfl
  · decide
  · decide
theorem fa_bool_prop {c : Prop} [Decidable c] {r : Int32} (h : r = if c then 1 else 0) : (r = 0 ↔ ¬ c) ∧ (¬ r = 0 ↔ c) := by
  subst h
  by_cases hc : c
  · rw [if_pos hc]
    exact ⟨⟨fun h => absurd h (by decide), fun h => absurd hc h⟩, ⟨fun _ => hc, fun _ => by decide⟩⟩
  · rw [if_neg hc]
    exact ⟨⟨fun _ => hc, fun _ => rfl⟩, ⟨fun h => absurd rfl h, fun h => absurd h hc⟩⟩
/-! plain facts to paste, each family by itself; over the kit's nI, lN and upd -/
/-! ===== drawers: more things than places ===== -/
theorem fb_holes : ∀ (m n : Nat) (f : Nat → Nat), (∀ i, i < n → f i < m) → (∀ i j, i < j → j < n → f i ≠ f j) → n ≤ m := by
  intro m
  induction m with
  | zero =>
    intro n f h1 _
    rcases Nat.eq_zero_or_pos n with h | h
    · omega
    · exact absurd (h1 0 h) (Nat.not_lt_zero _)
  | succ m ih =>
    intro n f h1 h2
    by_cases hx : ∃ i, i < n ∧ f i = m
    · obtain ⟨a, ha, hfa⟩ := hx
      have hg := ih (n - 1) (fun i => if i < a then f i else f (i + 1)) (by
        intro i hi
        by_cases q : i < a
        · simp only [if_pos q]
          have b1 := h1 i (by omega)
          have b2 := h2 i a q ha
          omega
        · simp only [if_neg q]
          have b1 := h1 (i + 1) (by omega)
          have b2 := h2 a (i + 1) (by omega) (by omega)
          omega) (by
        intro i j hij hj
        by_cases q : i < a
        · by_cases r : j < a
          · simp only [if_pos q, if_pos r]
            exact h2 i j hij (by omega)
          · simp only [if_pos q, if_neg r]
            exact h2 i (j + 1) (by omega) (by omega)
        · have r : ¬ j < a := by omega
          simp only [if_neg q, if_neg r]
          exact h2 (i + 1) (j + 1) (by omega) (by omega))
      omega
    · have hg := ih n f (fun i hi => by
        have b1 := h1 i hi
        have b2 : f i ≠ m := fun e => hx ⟨i, hi, e⟩
        omega) h2
      omega
/-- two of them in one place -/
theorem fb_twice {m n : Nat} {f : Nat → Nat} (h : ∀ i, i < n → f i < m) (hm : m < n) : ∃ i j, i < j ∧ j < n ∧ f i = f j := by
  refine Classical.byContradiction fun hx => ?_
  have := fb_holes m n f h (fun i j hij hj e => hx ⟨i, j, hij, hj, e⟩)
  omega
/-- as many as places, none twice: each place is taken -/
theorem fb_onto {n : Nat} {f : Nat → Nat} (h : ∀ i, i < n → f i < n) (h2 : ∀ i j, i < j → j < n → f i ≠ f j) {y : Nat} (hy : y < n) : ∃ i, i < n ∧ f i = y := by
  refine Classical.byContradiction fun hx => ?_
  have hne : ∀ i, i < n → f i ≠ y := fun i hi e => hx ⟨i, hi, e⟩
  have := fb_holes (n - 1) n (fun i => if f i < y then f i else f i - 1) (by
    intro i hi
    have b1 := h i hi
    have b2 := hne i hi
    by_cases q : f i < y
    · simp only [if_pos q]; omega
    · simp only [if_neg q]; omega) (by
    intro i j hij hj
    have b1 := hne i (by omega)
    have b2 := hne j hj
    have b3 := h2 i j hij hj
    by_cases q : f i < y
    · by_cases r : f j < y
      · simp only [if_pos q, if_pos r]; exact b3
      · simp only [if_pos q, if_neg r]; omega
    · by_cases r : f j < y
      · simp only [if_neg q, if_pos r]; omega
      · simp only [if_neg q, if_neg r]; omega)
  omega
/-! ===== how many places have a property ===== -/
def fb_ct (p : Nat → Bool) : Nat → Nat
  | 0 => 0
  | n + 1 => fb_ct p n + (if p n then 1 else 0)
theorem fb_ct_succ (p : Nat → Bool) (n : Nat) : fb_ct p (n + 1) = fb_ct p n + (if p n then 1 else 0) := rfl
theorem fb_ct_le (p : Nat → Bool) : ∀ n, fb_ct p n ≤ n
  | 0 => Nat.le_refl _
  | n + 1 => by
    have h := fb_ct_le p n
    rw [fb_ct_succ]
    split <;> omega
theorem fb_ct_step (p : Nat → Bool) (m : Nat) : ∀ n, fb_ct p m ≤ fb_ct p (m + n)
  | 0 => Nat.le_refl _
  | n + 1 => by
    have h := fb_ct_step p m n
    show fb_ct p m ≤ fb_ct p (m + n + 1)
    rw [fb_ct_succ]
    omega
theorem fb_ct_mono (p : Nat → Bool) {m n : Nat} (h : m ≤ n) : fb_ct p m ≤ fb_ct p n := by
  have := fb_ct_step p m (n - m)
  rwa [Nat.add_sub_cancel' h] at this
theorem fb_ct_cong {p q : Nat → Bool} : ∀ {n : Nat}, (∀ k, k < n → p k = q k) → fb_ct p n = fb_ct q n
  | 0, _ => rfl
  | n + 1, h => by
    rw [fb_ct_succ, fb_ct_succ, fb_ct_cong (fun k hk => h k (by omega)), h n (by omega)]
/-- one place changed -/
theorem fb_ct_out (p : Nat → Bool) (b : Bool) {i n : Nat} (h : n ≤ i) : fb_ct (fun k => if k = i then b else p k) n = fb_ct p n :=
  fb_ct_cong fun k hk => if_neg (by omega)
theorem fb_ct_upd (p : Nat → Bool) (b : Bool) {i : Nat} : ∀ {n : Nat}, i < n → fb_ct (fun k => if k = i then b else p k) n + (if p i then 1 else 0) = fb_ct p n + (if b then 1 else 0)
  | 0, h => absurd h (Nat.not_lt_zero i)
  | n + 1, h => by
    rw [fb_ct_succ, fb_ct_succ]
    rcases Nat.lt_or_ge i n with q | q
    · have := fb_ct_upd p b q
      have e : (if n = i then b else p n) = p n := if_neg (by omega)
      rw [e]
      omega
    · have e : i = n := by omega
      subst e
      rw [fb_ct_out p b (Nat.le_refl _)]
      simp only [if_true]
      omega
theorem fb_ct_sub {p q : Nat → Bool} : ∀ {n : Nat}, (∀ k, k < n → p k = true → q k = true) → fb_ct p n ≤ fb_ct q n
  | 0, _ => Nat.le_refl _
  | n + 1, h => by
    have h1 := fb_ct_sub (n := n) (p := p) (q := q) (fun k hk => h k (by omega))
    have h2 := h n (by omega)
    rw [fb_ct_succ, fb_ct_succ]
    cases hp : p n <;> cases hq : q n <;> simp_all <;> omega
theorem fb_ct_or {p q : Nat → Bool} : ∀ {n : Nat}, (∀ k, k < n → ¬ (p k = true ∧ q k = true)) → fb_ct (fun k => p k || q k) n = fb_ct p n + fb_ct q n
  | 0, _ => rfl
  | n + 1, h => by
    have h1 := fb_ct_or (n := n) (p := p) (q := q) (fun k hk => h k (by omega))
    have h2 := h n (by omega)
    rw [fb_ct_succ, fb_ct_succ, fb_ct_succ, h1]
    cases hp : p n <;> cases hq : q n <;> simp_all <;> omega
theorem fb_ct_not (p : Nat → Bool) : ∀ n, fb_ct p n + fb_ct (fun k => !p k) n = n
  | 0 => rfl
  | n + 1 => by
    have h := fb_ct_not p n
    rw [fb_ct_succ, fb_ct_succ]
    cases p n <;> simp <;> omega
theorem fb_ct_split (p : Nat → Bool) (m : Nat) : ∀ n, fb_ct p (m + n) = fb_ct p m + fb_ct (fun k => p (m + k)) n
  | 0 => rfl
  | n + 1 => by
    have h := fb_ct_split p m n
    show fb_ct p (m + n + 1) = _
    rw [fb_ct_succ, fb_ct_succ, h, Nat.add_assoc]
theorem fb_ct_zero {p : Nat → Bool} : ∀ {n : Nat}, fb_ct p n = 0 ↔ ∀ k, k < n → p k = false
  | 0 => ⟨fun _ k hk => absurd hk (Nat.not_lt_zero k), fun _ => rfl⟩
  | n + 1 => by
    have h := fb_ct_zero (p := p) (n := n)
    rw [fb_ct_succ]
    constructor
    · intro e k hk
      have e1 : fb_ct p n = 0 := by omega
      rcases Nat.lt_or_ge k n with q | q
      · exact h.mp e1 k q
      · have ek : k = n := by omega
        subst ek
        cases hp : p k
        · rfl
        · simp [hp] at e
    · intro a
      rw [h.mpr (fun k hk => a k (by omega)), a n (by omega)]
      rfl
theorem fb_ct_pos {p : Nat → Bool} {n : Nat} : 0 < fb_ct p n ↔ ∃ k, k < n ∧ p k = true := by
  constructor
  · intro h
    refine Classical.byContradiction fun hx => ?_
    have := fb_ct_zero.mpr (fun k hk => by
      cases hp : p k
      · rfl
      · exact absurd ⟨k, hk, hp⟩ hx : ∀ k, k < n → p k = false)
    omega
  · rintro ⟨k, hk, hp⟩
    rcases Nat.eq_zero_or_pos (fb_ct p n) with e | e
    · have := fb_ct_zero.mp e k hk
      rw [this] at hp
      cases hp
    · exact e
theorem fb_ct_all {p : Nat → Bool} {n : Nat} : fb_ct p n = n ↔ ∀ k, k < n → p k = true := by
  have h := fb_ct_not p n
  constructor
  · intro e k hk
    have z : fb_ct (fun k => !p k) n = 0 := by omega
    have := fb_ct_zero.mp z k hk
    cases hp : p k
    · simp [hp] at this
    · rfl
  · intro a
    have z : fb_ct (fun k => !p k) n = 0 := fb_ct_zero.mpr (fun k hk => by simp [a k hk])
    omega
/-- the k-th place with the property -/
theorem fb_ct_kth {p : Nat → Bool} {k : Nat} : ∀ {n : Nat}, k < fb_ct p n → ∃ i, i < n ∧ p i = true ∧ fb_ct p i = k
  | 0, h => absurd h (Nat.not_lt_zero k)
  | n + 1, h => by
    rcases Nat.lt_or_ge k (fb_ct p n) with q | q
    · obtain ⟨i, h1, h2⟩ := fb_ct_kth q
      exact ⟨i, by omega, h2⟩
    · rw [fb_ct_succ] at h
      cases hp : p n
      · simp [hp] at h; omega
      · simp [hp] at h
        exact ⟨n, by omega, hp, by omega⟩
theorem fb_ct_kth_one {p : Nat → Bool} {i j : Nat} (hi : p i = true) (hj : p j = true) (e : fb_ct p i = fb_ct p j) : i = j := by
  have key : ∀ a b : Nat, a < b → p a = true → fb_ct p a < fb_ct p b := by
    intro a b hab ha
    have h := fb_ct_mono p (show a + 1 ≤ b from hab)
    rw [fb_ct_succ, ha] at h
    simp at h
    omega
  rcases Nat.lt_trichotomy i j with q | q | q
  · have := key i j q hi; omega
  · exact q
  · have := key j i q hj; omega
/-! ===== sums over a range: one place changed, parts, bounds ===== -/
def fb_sm (f : Nat → Nat) : Nat → Nat
  | 0 => 0
  | n + 1 => fb_sm f n + f n
theorem fb_sm_succ (f : Nat → Nat) (n : Nat) : fb_sm f (n + 1) = fb_sm f n + f n := rfl
theorem fb_sm_cong {f g : Nat → Nat} : ∀ {n : Nat}, (∀ k, k < n → f k = g k) → fb_sm f n = fb_sm g n
  | 0, _ => rfl
  | n + 1, h => by rw [fb_sm_succ, fb_sm_succ, fb_sm_cong (fun k hk => h k (by omega)), h n (by omega)]
theorem fb_sm_out (f : Nat → Nat) (v : Nat) {i n : Nat} (h : n ≤ i) : fb_sm (fun k => if k = i then v else f k) n = fb_sm f n :=
  fb_sm_cong fun k hk => if_neg (by omega)
theorem fb_sm_upd (f : Nat → Nat) (v : Nat) {i : Nat} : ∀ {n : Nat}, i < n → fb_sm (fun k => if k = i then v else f k) n + f i = fb_sm f n + v
  | 0, h => absurd h (Nat.not_lt_zero i)
  | n + 1, h => by
    rw [fb_sm_succ, fb_sm_succ]
    rcases Nat.lt_or_ge i n with q | q
    · have := fb_sm_upd f v q
      have e : (if n = i then v else f n) = f n := if_neg (by omega)
      rw [e]
      omega
    · have e : i = n := by omega
      subst e
      rw [fb_sm_out f v (Nat.le_refl _)]
      simp only [if_true]
      omega
theorem fb_sm_add (f g : Nat → Nat) : ∀ n, fb_sm (fun k => f k + g k) n = fb_sm f n + fb_sm g n
  | 0 => rfl
  | n + 1 => by
    have h := fb_sm_add f g n
    rw [fb_sm_succ, fb_sm_succ, fb_sm_succ, h]
    omega
theorem fb_sm_le {f g : Nat → Nat} : ∀ {n : Nat}, (∀ k, k < n → f k ≤ g k) → fb_sm f n ≤ fb_sm g n
  | 0, _ => Nat.le_refl _
  | n + 1, h => by
    have h1 := fb_sm_le (n := n) (f := f) (g := g) (fun k hk => h k (by omega))
    have h2 := h n (by omega)
    rw [fb_sm_succ, fb_sm_succ]
    omega
theorem fb_sm_const (c : Nat) : ∀ n, fb_sm (fun _ => c) n = n * c
  | 0 => by rw [Nat.zero_mul]; rfl
  | n + 1 => by rw [fb_sm_succ, fb_sm_const c n, Nat.succ_mul]
theorem fb_sm_bound {f : Nat → Nat} {c n : Nat} (h : ∀ k, k < n → f k ≤ c) : fb_sm f n ≤ n * c := by
  rw [← fb_sm_const c n]
  exact fb_sm_le h
theorem fb_sm_mono (f : Nat → Nat) (m : Nat) : ∀ n, fb_sm f m ≤ fb_sm f (m + n)
  | 0 => Nat.le_refl _
  | n + 1 => by
    have h := fb_sm_mono f m n
    show fb_sm f m ≤ fb_sm f (m + n + 1)
    rw [fb_sm_succ]
    omega
theorem fb_sm_part (f : Nat → Nat) {i n : Nat} (h : i < n) : fb_sm f i + f i ≤ fb_sm f n := by
  have := fb_sm_mono f (i + 1) (n - (i + 1))
  rw [fb_sm_succ, show i + 1 + (n - (i + 1)) = n by omega] at this
  exact this
theorem fb_sm_split (f : Nat → Nat) (m : Nat) : ∀ n, fb_sm f (m + n) = fb_sm f m + fb_sm (fun k => f (m + k)) n
  | 0 => rfl
  | n + 1 => by
    have h := fb_sm_split f m n
    show fb_sm f (m + n + 1) = _
    rw [fb_sm_succ, fb_sm_succ, h, Nat.add_assoc]
theorem fb_sm_zero {f : Nat → Nat} {n : Nat} (h : fb_sm f n = 0) : ∀ k, k < n → f k = 0 := fun k hk => by
  have := fb_sm_part f hk
  omega
/-- the same over whole numbers -/
def fb_si (f : Nat → Int) : Nat → Int
  | 0 => 0
  | n + 1 => fb_si f n + f n
theorem fb_si_succ (f : Nat → Int) (n : Nat) : fb_si f (n + 1) = fb_si f n + f n := rfl
theorem fb_si_cong {f g : Nat → Int} : ∀ {n : Nat}, (∀ k, k < n → f k = g k) → fb_si f n = fb_si g n
  | 0, _ => rfl
  | n + 1, h => by rw [fb_si_succ, fb_si_succ, fb_si_cong (fun k hk => h k (by omega)), h n (by omega)]
theorem fb_si_out (f : Nat → Int) (v : Int) {i n : Nat} (h : n ≤ i) : fb_si (fun k => if k = i then v else f k) n = fb_si f n :=
  fb_si_cong fun k hk => if_neg (by omega)
theorem fb_si_upd (f : Nat → Int) (v : Int) {i : Nat} : ∀ {n : Nat}, i < n → fb_si (fun k => if k = i then v else f k) n = fb_si f n - f i + v
  | 0, h => absurd h (Nat.not_lt_zero i)
  | n + 1, h => by
    rw [fb_si_succ, fb_si_succ]
    rcases Nat.lt_or_ge i n with q | q
    · have := fb_si_upd f v q
      have e : (if n = i then v else f n) = f n := if_neg (by omega)
      rw [e]
      omega
    · have e : i = n := by omega
      subst e
      rw [fb_si_out f v (Nat.le_refl _)]
      simp only [if_true]
      omega
theorem fb_si_add (f g : Nat → Int) : ∀ n, fb_si (fun k => f k + g k) n = fb_si f n + fb_si g n
  | 0 => rfl
  | n + 1 => by
    have h := fb_si_add f g n
    rw [fb_si_succ, fb_si_succ, fb_si_succ, h]
    omega
theorem fb_si_sub (f g : Nat → Int) : ∀ n, fb_si (fun k => f k - g k) n = fb_si f n - fb_si g n
  | 0 => rfl
  | n + 1 => by
    have h := fb_si_sub f g n
    rw [fb_si_succ, fb_si_succ, fb_si_succ, h]
    omega
theorem fb_si_mul (c : Int) (f : Nat → Int) : ∀ n, fb_si (fun k => c * f k) n = c * fb_si f n
  | 0 => (Int.mul_zero c).symm
  | n + 1 => by
    have h := fb_si_mul c f n
    rw [fb_si_succ, fb_si_succ, h, Int.mul_add]
theorem fb_si_split (f : Nat → Int) (m : Nat) : ∀ n, fb_si f (m + n) = fb_si f m + fb_si (fun k => f (m + k)) n
  | 0 => (Int.add_zero _).symm
  | n + 1 => by
    have h := fb_si_split f m n
    show fb_si f (m + n + 1) = _
    rw [fb_si_succ, fb_si_succ, h, Int.add_assoc]
theorem fb_si_nat (f : Nat → Nat) : ∀ n, fb_si (fun k => (f k : Int)) n = (fb_sm f n : Int)
  | 0 => rfl
  | n + 1 => by
    have h := fb_si_nat f n
    rw [fb_si_succ, fb_sm_succ, h]
    omega
theorem fb_si_bound {f : Nat → Int} {c : Int} (hc : 0 ≤ c) : ∀ {n : Nat}, (∀ k, k < n → -c ≤ f k ∧ f k ≤ c) → -(n * c) ≤ fb_si f n ∧ fb_si f n ≤ n * c
  | 0, _ => by simp [fb_si]
  | n + 1, h => by
    have h1 := fb_si_bound (n := n) (f := f) hc (fun k hk => h k (by omega))
    have h2 := h n (by omega)
    have e : ((n + 1 : Nat) : Int) * c = n * c + c := by rw [Int.natCast_add, Int.add_mul]; simp
    rw [fb_si_succ, e]
    omega
/-! ===== bits of a long that isn't negative ===== -/
theorem fb_andL (a b : Nat) : lN a &&& lN b = lN (a &&& b) := by
  apply Int64.toBitVec_inj.1
  show BitVec.ofNat 64 a &&& BitVec.ofNat 64 b = BitVec.ofNat 64 (a &&& b)
  apply BitVec.eq_of_getLsbD_eq
  intro i hi
  simp [hi]
theorem fb_orL (a b : Nat) : lN a ||| lN b = lN (a ||| b) := by
  apply Int64.toBitVec_inj.1
  show BitVec.ofNat 64 a ||| BitVec.ofNat 64 b = BitVec.ofNat 64 (a ||| b)
  apply BitVec.eq_of_getLsbD_eq
  intro i hi
  simp [hi]
theorem fb_xorL (a b : Nat) : lN a ^^^ lN b = lN (a ^^^ b) := by
  apply Int64.toBitVec_inj.1
  show BitVec.ofNat 64 a ^^^ BitVec.ofNat 64 b = BitVec.ofNat 64 (a ^^^ b)
  apply BitVec.eq_of_getLsbD_eq
  intro i hi
  simp [hi]
theorem fb_xorI (a b : Nat) : nI a ^^^ nI b = nI (a ^^^ b) := by
  apply Int32.toBitVec_inj.1
  show BitVec.ofNat 32 a ^^^ BitVec.ofNat 32 b = BitVec.ofNat 32 (a ^^^ b)
  apply BitVec.eq_of_getLsbD_eq
  intro i hi
  simp [hi]
theorem fb_maskL (n k : Nat) : lN n &&& lN (2 ^ k - 1) = lN (n % 2 ^ k) := by rw [fb_andL, Nat.and_two_pow_sub_one_eq_mod]
theorem fb_or_sumL {a k : Nat} (b : Nat) (h : a < 2 ^ k) : lN (2 ^ k * b) ||| lN a = lN (2 ^ k * b + a) := by rw [fb_orL, Nat.two_pow_add_eq_or_of_lt h]
theorem fb_lN_inj {a b : Nat} (ha : a < 2 ^ 63) (hb : b < 2 ^ 63) : lN a = lN b ↔ a = b := by
  constructor
  · intro h
    have h1 : (BitVec.ofNat 64 a).toNat = (BitVec.ofNat 64 b).toNat := congrArg (fun x : Int64 => x.toBitVec.toNat) h
    rw [BitVec.toNat_ofNat, BitVec.toNat_ofNat, Nat.mod_eq_of_lt (by omega), Nat.mod_eq_of_lt (by omega)] at h1
    exact h1
  · rintro rfl; rfl
theorem fb_bit_nat (n j : Nat) : n &&& 2 ^ j = 0 ↔ n.testBit j = false := by
  constructor
  · intro h
    have h1 : (n &&& 2 ^ j).testBit j = false := by rw [h]; simp
    rw [Nat.testBit_and] at h1
    simpa using h1
  · intro h
    apply Nat.eq_of_testBit_eq
    intro i
    rw [Nat.testBit_and]
    by_cases hi : j = i
    · subst hi; simp [h]
    · first | (simp [Nat.testBit_two_pow, hi]; done) | (simp [Nat.testBit_two_pow_of_ne hi]; done)
/-- one bit of a long -/
theorem fb_bitL {n j : Nat} (hj : j < 63) : lN n &&& lN (2 ^ j) = 0 ↔ n.testBit j = false := by
  have h2 : (2 : Nat) ^ j < 2 ^ 63 := Nat.pow_lt_pow_right (by decide) hj
  have hle : n &&& 2 ^ j ≤ 2 ^ j := Nat.and_le_right
  rw [fb_andL, ← fb_bit_nat, show (0 : Int64) = lN 0 from rfl]
  exact fb_lN_inj (by omega) (by decide)
/-- a bit set, a bit taken off -/
theorem fb_bit_set (n j i : Nat) : (n ||| 2 ^ j).testBit i = (n.testBit i || decide (i = j)) := by
  rw [Nat.testBit_or]
  by_cases h : j = i
  · subst h; simp
  · have h2 : ¬ i = j := fun e => h e.symm
    first | (simp [Nat.testBit_two_pow, h, h2]; done) | (simp [Nat.testBit_two_pow_of_ne h, h2]; done)
theorem fb_bit_flip (n j i : Nat) : (n ^^^ 2 ^ j).testBit i = (n.testBit i ^^ decide (i = j)) := by
  rw [Nat.testBit_xor]
  by_cases h : j = i
  · subst h; simp
  · have h2 : ¬ i = j := fun e => h e.symm
    first | (simp [Nat.testBit_two_pow, h, h2]; done) | (simp [Nat.testBit_two_pow_of_ne h, h2]; done)
/-! ===== a stretch of an array written over by a function ===== -/
def fb_put {α : Type} (f g : Nat → α) (a n : Nat) : Nat → α := fun k => if a ≤ k ∧ k < a + n then g (k - a) else f k
theorem fb_put_0 {α : Type} (f g : Nat → α) (a : Nat) : fb_put f g a 0 = f := funext fun k => if_neg (by omega)
theorem fb_put_in {α : Type} {f g : Nat → α} {a n k : Nat} (h1 : a ≤ k) (h2 : k < a + n) : fb_put f g a n k = g (k - a) := if_pos ⟨h1, h2⟩
theorem fb_put_out {α : Type} {f g : Nat → α} {a n k : Nat} (h : k < a ∨ a + n ≤ k) : fb_put f g a n k = f k := if_neg (by omega)
theorem fb_put_succ (f g : Nat → Int32) (a n : Nat) : upd (fb_put f g a n) (a + n) (g n) = fb_put f g a (n + 1) := by
  funext k
  by_cases h : k = a + n
  · subst h
    simp [upd, fb_put]
  · by_cases h1 : a ≤ k ∧ k < a + n
    · have h2 : a ≤ k ∧ k < a + (n + 1) := by omega
      simp only [upd, fb_put, if_neg h, if_pos h1, if_pos h2]
    · have h2 : ¬ (a ≤ k ∧ k < a + (n + 1)) := by omega
      simp only [upd, fb_put, if_neg h, if_neg h1, if_neg h2]
/-- .. from the far end down -/
theorem fb_put_down (f g : Nat → Int32) {a n m : Nat} (h : m < n) : upd (fb_put f (fun k => g (k + (m + 1))) (a + (m + 1)) (n - (m + 1))) (a + m) (g m) = fb_put f (fun k => g (k + m)) (a + m) (n - m) := by
  funext k
  by_cases h0 : k = a + m
  · subst h0
    simp only [upd, if_true]
    rw [fb_put_in (by omega) (by omega)]
    exact congrArg g (by omega)
  · simp only [upd, if_neg h0]
    by_cases h1 : a + (m + 1) ≤ k ∧ k < a + (m + 1) + (n - (m + 1))
    · rw [fb_put_in h1.1 h1.2, fb_put_in (by omega) (by omega)]
      exact congrArg g (by omega)
    · rw [fb_put_out (by omega), fb_put_out (by omega)]
theorem fb_put_cong {α : Type} {f f2 g g2 : Nat → α} {a n : Nat} (hf : ∀ k, (k < a ∨ a + n ≤ k) → f k = f2 k) (hg : ∀ k, k < n → g k = g2 k) : fb_put f g a n = fb_put f2 g2 a n := by
  funext k
  by_cases h : a ≤ k ∧ k < a + n
  · rw [fb_put_in h.1 h.2, fb_put_in h.1 h.2, hg _ (by omega)]
  · rw [fb_put_out (by omega), fb_put_out (by omega), hf _ (by omega)]
/-! ===== the least, the first, the best so far; that there is one alone ===== -/
theorem fb_first {p : Nat → Prop} [DecidablePred p] : ∀ {n : Nat}, (∃ i, i < n ∧ p i) → ∃ i, i < n ∧ p i ∧ ∀ j, j < i → ¬ p j
  | 0, h => by obtain ⟨i, hi, -⟩ := h; exact absurd hi (Nat.not_lt_zero i)
  | n + 1, h => by
    by_cases q : ∃ i, i < n ∧ p i
    · obtain ⟨i, h1, h2⟩ := fb_first q
      exact ⟨i, by omega, h2⟩
    · obtain ⟨i, h1, h2⟩ := h
      have e : i = n := by
        rcases Nat.lt_or_ge i n with r | r
        · exact absurd ⟨i, r, h2⟩ q
        · omega
      subst e
      exact ⟨i, by omega, h2, fun j hj hp => q ⟨j, hj, hp⟩⟩
theorem fb_first_one {p : Nat → Prop} {i j : Nat} (hi : p i) (hi2 : ∀ k, k < i → ¬ p k) (hj : p j) (hj2 : ∀ k, k < j → ¬ p k) : i = j := by
  rcases Nat.lt_trichotomy i j with q | q | q
  · exact absurd hi (hj2 i q)
  · exact q
  · exact absurd hj (hi2 j q)
theorem fb_last {p : Nat → Prop} [DecidablePred p] : ∀ {n : Nat}, (∃ i, i < n ∧ p i) → ∃ i, i < n ∧ p i ∧ ∀ j, i < j → j < n → ¬ p j
  | 0, h => by obtain ⟨i, hi, -⟩ := h; exact absurd hi (Nat.not_lt_zero i)
  | n + 1, h => by
    by_cases q : p n
    · exact ⟨n, by omega, q, fun j h1 h2 => by omega⟩
    · obtain ⟨i, h1, h2⟩ := h
      have hi : i < n := by
        rcases Nat.lt_or_ge i n with r | r
        · exact r
        · have e : i = n := by omega
          subst e
          exact absurd h2 q
      obtain ⟨i2, a1, a2, a3⟩ := fb_last (n := n) ⟨i, hi, h2⟩
      refine ⟨i2, by omega, a2, fun j b1 b2 => ?_⟩
      rcases Nat.lt_or_ge j n with r | r
      · exact a3 j b1 r
      · have e : j = n := by omega
        subst e
        exact q
/-- the first greatest -/
theorem fb_best (f : Nat → Int) : ∀ {n : Nat}, 0 < n → ∃ i, i < n ∧ (∀ j, j < n → f j ≤ f i) ∧ ∀ j, j < i → f j < f i
  | 0, h => absurd h (Nat.lt_irrefl 0)
  | 1, _ => ⟨0, by omega, fun j hj => by have e : j = 0 := by omega
                                         subst e; exact Int.le_refl _, fun j hj => absurd hj (Nat.not_lt_zero j)⟩
  | n + 2, _ => by
    obtain ⟨i, h1, h2, h3⟩ := fb_best f (n := n + 1) (by omega)
    by_cases q : f i < f (n + 1)
    · refine ⟨n + 1, by omega, fun j hj => ?_, fun j hj => ?_⟩
      · rcases Nat.lt_or_ge j (n + 1) with r | r
        · have := h2 j r; omega
        · have e : j = n + 1 := by omega
          subst e; exact Int.le_refl _
      · have := h2 j hj; omega
    · refine ⟨i, by omega, fun j hj => ?_, h3⟩
      rcases Nat.lt_or_ge j (n + 1) with r | r
      · exact h2 j r
      · have e : j = n + 1 := by omega
        subst e; omega
theorem fb_best_one {f : Nat → Int} {n i j : Nat} (hi : i < n) (hi2 : ∀ k, k < n → f k ≤ f i) (hi3 : ∀ k, k < i → f k < f i) (hj : j < n) (hj2 : ∀ k, k < n → f k ≤ f j) (hj3 : ∀ k, k < j → f k < f j) : i = j := by
  rcases Nat.lt_trichotomy i j with q | q | q
  · have a := hj3 i q
    have b := hi2 j hj
    omega
  · exact q
  · have a := hi3 j q
    have b := hj2 i hi
    omega
/-- the first least -/
theorem fb_low (f : Nat → Int) {n : Nat} (h : 0 < n) : ∃ i, i < n ∧ (∀ j, j < n → f i ≤ f j) ∧ ∀ j, j < i → f i < f j := by
  obtain ⟨i, h1, h2, h3⟩ := fb_best (fun k => -f k) h
  exact ⟨i, h1, fun j hj => by have := h2 j hj; omega, fun j hj => by have := h3 j hj; omega⟩
/-! ===== signed ints as whole numbers, within bounds ===== -/
theorem fb_rng (x : Int32) : -2147483648 ≤ x.toInt ∧ x.toInt < 2147483648 := by
  have h1 := Int32.le_toInt x
  have h2 := Int32.toInt_lt x
  omega
theorem fb_bmod {z : Int} (h1 : -2147483648 ≤ z) (h2 : z < 2147483648) : z.bmod (2 ^ 32) = z := by
  rw [Int.bmod_eq_of_le (by omega) (by omega)]
theorem fb_addI {x y : Int32} (h1 : -2147483648 ≤ x.toInt + y.toInt) (h2 : x.toInt + y.toInt < 2147483648) : (x + y).toInt = x.toInt + y.toInt := by
  rw [Int32.toInt_add, fb_bmod h1 h2]
theorem fb_subI {x y : Int32} (h1 : -2147483648 ≤ x.toInt - y.toInt) (h2 : x.toInt - y.toInt < 2147483648) : (x - y).toInt = x.toInt - y.toInt := by
  rw [Int32.toInt_sub, fb_bmod h1 h2]
theorem fb_mulI {x y : Int32} (h1 : -2147483648 ≤ x.toInt * y.toInt) (h2 : x.toInt * y.toInt < 2147483648) : (x * y).toInt = x.toInt * y.toInt := by
  rw [Int32.toInt_mul, fb_bmod h1 h2]
theorem fb_negI {x : Int32} (h : x.toInt ≠ -2147483648) : (-x).toInt = -x.toInt := by
  have := fb_rng x
  rw [Int32.toInt_neg, fb_bmod (by omega) (by omega)]
theorem fb_ofI {z : Int} (h1 : -2147483648 ≤ z) (h2 : z < 2147483648) : (Int32.ofInt z).toInt = z := by
  rw [Int32.toInt_ofInt, fb_bmod h1 h2]
theorem fb_asI (x : Int32) : Int32.ofInt x.toInt = x := Int32.ofInt_toInt x
theorem fb_rngL (x : Int64) : -9223372036854775808 ≤ x.toInt ∧ x.toInt < 9223372036854775808 := by
  have h1 := Int64.le_toInt x
  have h2 := Int64.toInt_lt x
  omega
theorem fb_bmodL {z : Int} (h1 : -9223372036854775808 ≤ z) (h2 : z < 9223372036854775808) : z.bmod (2 ^ 64) = z := by
  rw [Int.bmod_eq_of_le (by omega) (by omega)]
theorem fb_addL {x y : Int64} (h1 : -9223372036854775808 ≤ x.toInt + y.toInt) (h2 : x.toInt + y.toInt < 9223372036854775808) : (x + y).toInt = x.toInt + y.toInt := by
  rw [Int64.toInt_add, fb_bmodL h1 h2]
theorem fb_subL {x y : Int64} (h1 : -9223372036854775808 ≤ x.toInt - y.toInt) (h2 : x.toInt - y.toInt < 9223372036854775808) : (x - y).toInt = x.toInt - y.toInt := by
  rw [Int64.toInt_sub, fb_bmodL h1 h2]
theorem fb_mulL {x y : Int64} (h1 : -9223372036854775808 ≤ x.toInt * y.toInt) (h2 : x.toInt * y.toInt < 9223372036854775808) : (x * y).toInt = x.toInt * y.toInt := by
  rw [Int64.toInt_mul, fb_bmodL h1 h2]
/-! ===== cuts of what is narrow already ===== -/
theorem fb_byte {x : Int32} (h1 : -128 ≤ x.toInt) (h2 : x.toInt < 128) : x.toInt8.toInt32 = x := by
  apply Int32.toInt_inj.1
  rw [Int8.toInt_toInt32, Int32.toInt_toInt8, Int.bmod_eq_of_le (by omega) (by omega)]
theorem fb_short {x : Int32} (h1 : -32768 ≤ x.toInt) (h2 : x.toInt < 32768) : x.toInt16.toInt32 = x := by
  apply Int32.toInt_inj.1
  rw [Int16.toInt_toInt32, Int32.toInt_toInt16, Int.bmod_eq_of_le (by omega) (by omega)]
theorem fb_byte_rng (x : Int32) : -128 ≤ x.toInt8.toInt32.toInt ∧ x.toInt8.toInt32.toInt < 128 := by
  rw [Int8.toInt_toInt32]
  have h1 := Int8.le_toInt x.toInt8
  have h2 := Int8.toInt_lt x.toInt8
  omega
theorem fb_short_rng (x : Int32) : -32768 ≤ x.toInt16.toInt32.toInt ∧ x.toInt16.toInt32.toInt < 32768 := by
  rw [Int16.toInt_toInt32]
  have h1 := Int16.le_toInt x.toInt16
  have h2 := Int16.toInt_lt x.toInt16
  omega
theorem fb_byte_twice (x : Int32) : x.toInt8.toInt32.toInt8.toInt32 = x.toInt8.toInt32 := fb_byte (fb_byte_rng x).1 (fb_byte_rng x).2
theorem fb_short_twice (x : Int32) : x.toInt16.toInt32.toInt16.toInt32 = x.toInt16.toInt32 := fb_short (fb_short_rng x).1 (fb_short_rng x).2
theorem fb_char {n : Nat} (h : n < 65536) : (nI n).toUInt32.toUInt16.toUInt32.toInt32 = nI n := by
  apply Int32.toBitVec_inj.1
  apply BitVec.eq_of_toNat_eq
  have e1 : (nI n).toBitVec.toNat = n := by
    show (BitVec.ofNat 32 n).toNat = n
    rw [BitVec.toNat_ofNat, Nat.mod_eq_of_lt (by omega)]
  have e2 : ((nI n).toUInt32.toUInt16.toUInt32).toNat = n := by
    rw [UInt16.toNat_toUInt32, UInt32.toNat_toUInt16]
    show (nI n).toBitVec.toNat % 2 ^ 16 = n
    rw [e1, Nat.mod_eq_of_lt (by omega)]
  rw [e1]
  exact e2
end
section
/-! ===== numbers: the forms that the propositions have ===== -/
def bI (b : Bool) : Int32 := nI b.toNat
theorem bI_0 (b : Bool) : bI b = 0 ↔ b = false := by cases b <;> decide
theorem bI_n0 (b : Bool) : (¬ bI b = 0) ↔ b = true := by cases b <;> decide
theorem bI_01 (b : Bool) : bI b = 0 ∨ bI b = 1 := by cases b <;> decide
theorem nI_00 : nI 0 = 0 ∨ nI 0 = 1 := by decide
theorem nI_11 : nI 1 = 0 ∨ nI 1 = 1 := by decide
theorem q_le {a b : Nat} (ha : a < 2 ^ 31) (hb : b < 2 ^ 31) : (nI a ≤ nI b) = (a ≤ b) := propext (nI_leI ha hb)
theorem q_lt {a b : Nat} (ha : a < 2 ^ 31) (hb : b < 2 ^ 31) : (nI a < nI b) = (a < b) := propext (nI_ltI ha hb)
theorem q_eq {a b : Nat} (ha : a < 2 ^ 31) (hb : b < 2 ^ 31) : (nI a = nI b) = (a = b) := propext (nI_eq ha hb)
theorem q_e0 {a : Nat} (ha : a < 2 ^ 31) : (nI a = 0) = (a = 0) := by rw [← nI_0]; exact q_eq ha (by decide)
theorem q_le0 {a : Nat} (ha : a < 2 ^ 31) : (nI a ≤ 0) = (a = 0) := by
  rw [← nI_0, q_le ha (by decide)]; exact propext ⟨Nat.le_zero.mp, fun h => by omega⟩
theorem q_lt0 {a : Nat} (ha : a < 2 ^ 31) : (0 < nI a) = (0 < a) := by rw [← nI_0]; exact q_lt (by decide) ha
theorem q_n0 {a : Nat} (ha : a < 2 ^ 31) : (nI a < 0) = False := by rw [← nI_0, q_lt ha (by decide)]; exact propext ⟨fun h => by omega, False.elim⟩
theorem q_in {a n : Nat} (ha : a < 2 ^ 31) : vp_in (nI a) n = (a < n) := propext (by rw [vp_in_iff, nI_toInt ha]; omega)
theorem q_cl {a : Nat} (ha : a < 2 ^ 31) : (nI a).toNatClampNeg = a := nI_clamp ha
theorem q_sub {a b : Nat} (h : b ≤ a) : nI a - nI b = nI (a - b) := pk_sub h
theorem q_m1 {a : Nat} (h : 0 < a) : nI a + (-1) = nI (a - 1) := by obtain ⟨k, rfl⟩ : ∃ k, a = k + 1 := ⟨a - 1, by omega⟩; exact pk_m1 k
theorem q_shl {k : Nat} (a : Nat) (hk : k < 31) (h : a * 2 ^ k < 2 ^ 32) : nI a <<< (nI k &&& 31) = nI (a * 2 ^ k) := pk_shlN _ k (s_l k (by omega)) h
theorem q_pow {k : Nat} (hk : k < 31) : nI 1 <<< (nI k &&& 31) = nI (2 ^ k) := by
  rw [q_shl 1 hk (by rw [Nat.one_mul]; exact Nat.pow_lt_pow_right (by decide) (by omega)), Nat.one_mul]
theorem q_shr {a k : Nat} (ha : a < 2 ^ 31) (hk : k < 32) : nI a >>> (nI k &&& 31) = nI (a >>> k) := by
  rw [pk_shrN ha _ k (s_l k hk), Nat.shiftRight_eq_div_pow]
theorem q_bit {a k : Nat} (ha : a < 2 ^ 31) (hk : k < 32) : (nI a >>> (nI k &&& 31)) &&& nI 1 = bI (a.testBit k) := by
  rw [q_shr ha hk, fa_and]
  unfold bI
  congr 1
  rw [Nat.testBit_eq_decide_div_mod_eq, Nat.shiftRight_eq_div_pow, Nat.and_one_is_mod]
  rcases Nat.mod_two_eq_zero_or_one (a / 2 ^ k) with h | h <;> simp [h]
theorem bI_1 (b : Bool) : (bI b = nI 1) = (b = true) := by cases b <;> simp [bI] <;> decide
theorem bI_t : bI true = nI 1 := rfl
theorem bI_f : bI false = nI 0 := rfl
/-- a loop that counts up -/
theorem a_for {σ : Type} (W : Nat → σ → Prop) (I : Nat → σ → Prop) (e : Nat) (hx : ∀ s, I e s → W e s) (hs : ∀ i s, i < e → I i s → (∀ s', I (i + 1) s' → W (i + 1) s') → W i s) : ∀ i s, i ≤ e → I i s → W i s := by
  have key : ∀ n i s, i + n = e → I i s → W i s := by
    intro n
    induction n with
    | zero => intro i s h hI; have : i = e := by omega
              subst this; exact hx s hI
    | succ n ih => intro i s h hI; exact hs i s (by omega) hI (fun s' h' => ih (i + 1) s' (by omega) h')
  exact fun i s h hI => key (e - i) i s (by omega) hI
/-- what is the same but for some cells -/
def a_eqx (ks : List Nat) (μ ν : aMem) : Prop := ∀ k, k ∉ ks → ν.1 k = μ.1 k ∧ ν.2 k = μ.2 k
theorem a_eqx.rf (ks : List Nat) (μ : aMem) : a_eqx ks μ μ := fun _ _ => ⟨rfl, rfl⟩
theorem a_eqx.tr {ks js : List Nat} {μ ν ξ : aMem} (h : a_eqx ks μ ν) (h2 : a_eqx js ν ξ) : a_eqx (ks ++ js) μ ξ := fun k hk => by
  have h1 := h k (fun q => hk (List.mem_append_left _ q))
  have h3 := h2 k (fun q => hk (List.mem_append_right _ q))
  exact ⟨h3.1.trans h1.1, h3.2.trans h1.2⟩
theorem a_eqx.sub {ks js : List Nat} {μ ν : aMem} (h : a_eqx ks μ ν) (hs : ∀ k ∈ ks, k ∈ js) : a_eqx js μ ν := fun k hk => h k (fun q => hk (hs k q))
theorem a_eqx.up (μ : aMem) (k : Nat) (f : Nat → Int32) : a_eqx [k] μ (va_up μ.1 k f, μ.2) := fun j hj => ⟨va_up_ne _ _ (fun e => hj (by simp [e])), rfl⟩
theorem a_eqx.upl (μ : aMem) (k : Nat) (f : Nat → Int64) : a_eqx [k] μ (μ.1, va_up μ.2 k f) := fun j hj => ⟨rfl, va_up_ne _ _ (fun e => hj (by simp [e]))⟩
theorem a_Ret.sp {G : aG} {S : aMS} {as : List Value} {μ : aMem} {v : Option Value} {ν : aMem} (h : a_Ret G S as μ v ν) {post : aPost} (hp : post v ν) : a_Spec G S as μ post := h post hp
end
section
/-! ===== the small methods ===== -/
def inB (x a b : Int32) : Bool := decide (a ≤ x) && decide (x ≤ b)
theorem inB_e {x : Int32} {a b : Nat} (hb : b < 2 ^ 31) (h : inB x (nI a) (nI b) = true) (ha : a < 2 ^ 31) : ∃ j, a ≤ j ∧ j ≤ b ∧ x = nI j := by
  unfold inB at h
  simp only [Bool.and_eq_true, decide_eq_true_eq, Int32.le_iff_toInt_le, nI_toInt ha, nI_toInt hb] at h
  refine ⟨x.toInt.toNat, by omega, by omega, ?_⟩
  rw [← Int32.toInt_inj, nI_toInt (by omega)]
  omega
theorem inB_nI {j a b : Nat} (hj : j < 2 ^ 31) (ha : a < 2 ^ 31) (hb : b < 2 ^ 31) : inB (nI j) (nI a) (nI b) = (decide (a ≤ j) && decide (j ≤ b)) := by
  unfold inB
  rw [decide_eq_decide.mpr (nI_leI ha hj), decide_eq_decide.mpr (nI_leI hj hb)]
theorem inB_m1 {x : Int32} {n : Nat} (hn : n < 2 ^ 30) : inB x (nI 0) (nI n - nI 1) = true ↔ ∃ j, j < n ∧ x = nI j := by
  have h1 : (nI n - nI 1).toInt = (n : Int) - 1 := pk_sub_toInt hn (by decide)
  unfold inB
  simp only [Bool.and_eq_true, decide_eq_true_eq, Int32.le_iff_toInt_le, h1, nI_toInt (show 0 < 2 ^ 31 by decide)]
  constructor
  · intro h
    refine ⟨x.toInt.toNat, by omega, ?_⟩
    rw [← Int32.toInt_inj, nI_toInt (by omega)]
    omega
  · rintro ⟨j, hj, rfl⟩
    rw [nI_toInt (by omega)]
    omega
theorem inB_post {P : Int32 → Prop} {x a b : Int32} (hp : P (bI (inB x a b))) : ((x < a → P (nI 0)) ∧ (¬ x < a → ((b < x → P (nI 0)) ∧ (¬ b < x → P (nI 1))))) := by
  unfold inB at hp
  refine ⟨fun h => ?_, fun h => ⟨fun h2 => ?_, fun h2 => ?_⟩⟩
  · have e : decide (a ≤ x) = false := decide_eq_false (by rw [Int32.le_iff_toInt_le]; rw [Int32.lt_iff_toInt_lt] at h; omega)
    rw [e] at hp; exact hp
  · have e : decide (x ≤ b) = false := decide_eq_false (by rw [Int32.le_iff_toInt_le]; rw [Int32.lt_iff_toInt_lt] at h2; omega)
    rw [e, Bool.and_false] at hp; exact hp
  · have e : decide (a ≤ x) = true := decide_eq_true (by rw [Int32.le_iff_toInt_le]; rw [Int32.lt_iff_toInt_lt] at h; omega)
    have e2 : decide (x ≤ b) = true := decide_eq_true (by rw [Int32.le_iff_toInt_le]; rw [Int32.lt_iff_toInt_lt] at h2; omega)
    rw [e, e2] at hp; exact hp
section LEAF
variable {G : aG} {μ : aMem}
theorem r_X6_isWithin (x a b : Int32) : a_Ret G sX6_isWithin [.int x, .int a, .int b] μ (some (.int (bI (inB x a b)))) μ := by
  intro post hp
  obtain ⟨h1, h2⟩ := inB_post (P := fun z => post (some (.int z)) μ) hp
  exact w_X6_isWithin_0 _ _ _ ⟨fun h => ⟨nI_00, h1 h⟩, fun h => ⟨fun h' => ⟨nI_00, (h2 h).1 h'⟩, fun h' => ⟨nI_11, (h2 h).2 h'⟩⟩⟩
theorem r_X7_in (x a b : Int32) : a_Ret G sX7_in [.int x, .int a, .int b] μ (some (.int (bI (inB x a b)))) μ := by
  intro post hp
  obtain ⟨h1, h2⟩ := inB_post (P := fun z => post (some (.int z)) μ) hp
  exact w_X7_in_0 _ _ _ ⟨fun h => ⟨nI_00, h1 h⟩, fun h => ⟨fun h' => ⟨nI_00, (h2 h).1 h'⟩, fun h' => ⟨nI_11, (h2 h).2 h'⟩⟩⟩
theorem r_X6_isPlace (x : Int32) : a_Ret G sX6_isPlace [.int x] μ (some (.int (bI (inB x (nI 0) (nI 9))))) μ := fun _ hp => w_X6_isPlace_0 _ (r_X6_isWithin _ _ _ _ ⟨_, rfl, bI_01 _, hp⟩)
theorem r_X6_isKind (x : Int32) : a_Ret G sX6_isKind [.int x] μ (some (.int (bI (inB x (nI 0) (nI 3))))) μ := fun _ hp => w_X6_isKind_0 _ (r_X6_isWithin _ _ _ _ ⟨_, rfl, bI_01 _, hp⟩)
theorem r_X6_isPin (x : Int32) : a_Ret G sX6_isPin [.int x] μ (some (.int (bI (inB x (nI 0) (nI 15))))) μ := fun _ hp => w_X6_isPin_0 _ (r_X6_isWithin _ _ _ _ ⟨_, rfl, bI_01 _, hp⟩)
theorem r_X6_isNet (x : Int32) : a_Ret G sX6_isNet [.int x] μ (some (.int (bI (inB x (nI 0) (nI 7))))) μ := fun _ hp => w_X6_isNet_0 _ (r_X6_isWithin _ _ _ _ ⟨_, rfl, bI_01 _, hp⟩)
theorem r_X6_isWire (x : Int32) : a_Ret G sX6_isWire [.ref 0, .int x] μ (some (.int (bI (inB x (nI 0) (μ.1 2 0 - nI 1))))) μ := fun _ hp => w_X6_isWire_0 _ (r_X6_isWithin _ _ _ _ ⟨_, rfl, bI_01 _, hp⟩)
theorem r_X7_isPlace (x : Int32) : a_Ret G sX7_isPlace [.int x] μ (some (.int (bI (inB x (nI 0) (nI 9))))) μ := fun _ hp => w_X7_isPlace_0 _ (r_X7_in _ _ _ _ ⟨_, rfl, bI_01 _, hp⟩)
theorem r_X7_isPin (x : Int32) : a_Ret G sX7_isPin [.int x] μ (some (.int (bI (inB x (nI 0) (nI 15))))) μ := fun _ hp => w_X7_isPin_0 _ (r_X7_in _ _ _ _ ⟨_, rfl, bI_01 _, hp⟩)
theorem r_X7_isDuct (x : Int32) : a_Ret G sX7_isDuct [.ref 36, .int x] μ (some (.int (bI (inB x (nI 0) (μ.1 36 0 - nI 1))))) μ := fun _ hp => w_X7_isDuct_0 _ (r_X7_in _ _ _ _ ⟨_, rfl, bI_01 _, hp⟩)
theorem r_X7_isWire (x : Int32) : a_Ret G sX7_isWire [.ref 36, .int x] μ (some (.int (bI (inB x (nI 0) (μ.1 36 5 - nI 1))))) μ := fun _ hp => w_X7_isWire_0 _ (r_X7_in _ _ _ _ ⟨_, rfl, bI_01 _, hp⟩)
theorem r_X6_has {s k : Nat} (hs : s < 2 ^ 31) (hk : k < 32) : a_Ret G sX6_has [.int (nI s), .int (nI k)] μ (some (.int (bI (s.testBit k)))) μ := by
  intro post hp
  refine w_X6_has_0 _ _ ?_
  rw [q_bit hs hk, bI_1]
  refine ⟨fun h => ⟨nI_00, ?_⟩, fun h => ⟨nI_11, ?_⟩⟩
  · rw [Bool.eq_false_iff.mpr h] at hp; exact hp
  · rw [h] at hp; exact hp
end LEAF
end
section
/-! ===== pins: nets used, tests, pairs; ones of a set ===== -/
def rp (c : Nat → Int32) (f : Nat → Nat) (N : Nat) : Prop := ∀ i, i < N → c i = nI (f i)
theorem rp.upd {c : Nat → Int32} {f : Nat → Nat} {N : Nat} (h : rp c f N) (k v : Nat) : rp (upd c k (nI v)) (fun i => if i = k then v else f i) N := by
  intro i hi
  by_cases e : i = k
  · subst e; rw [pk_us]; show nI v = nI (if i = i then v else f i); rw [if_pos rfl]
  · rw [pk_un e]; show c i = nI (if i = k then v else f i); rw [if_neg e]; exact h i hi
theorem br_b {b : Bool} {A B : Prop} (h0 : b = false → A) (h1 : b = true → B) : (bI b = 0 → A) ∧ (¬ bI b = 0 → B) := ⟨fun h => h0 ((bI_0 b).mp h), fun h => h1 ((bI_n0 b).mp h)⟩
theorem br_n {b : Bool} {A B : Prop} (h1 : b = true → B) (h0 : b = false → A) : (¬ bI b = 0 → B) ∧ (bI b = 0 → A) := ⟨fun h => h1 ((bI_n0 b).mp h), fun h => h0 ((bI_0 b).mp h)⟩
theorem br_d {c : Prop} {A B : Prop} (h1 : ¬ c → A) (h0 : c → B) : (¬ c → A) ∧ (c → B) := ⟨h1, h0⟩
/-- 'or' over a row -/
def orF (f : Nat → Nat) : Nat → Nat
  | 0 => 0
  | k + 1 => orF f k ||| f k
theorem orF_lt {f : Nat → Nat} {b : Nat} : ∀ {k : Nat}, (∀ i, i < k → f i < 2 ^ b) → orF f k < 2 ^ b
  | 0, _ => Nat.two_pow_pos b
  | k + 1, h => Nat.or_lt_two_pow (orF_lt (fun i hi => h i (by omega))) (h k (by omega))
theorem orF_bit {f : Nat → Nat} {i : Nat} : ∀ {k : Nat}, (orF f k).testBit i = true ↔ ∃ j, j < k ∧ (f j).testBit i = true
  | 0 => by simp [orF]
  | k + 1 => by
    rw [orF, Nat.testBit_or, Bool.or_eq_true, orF_bit]
    constructor
    · rintro (⟨j, h1, h2⟩ | h)
      · exact ⟨j, by omega, h2⟩
      · exact ⟨k, by omega, h⟩
    · rintro ⟨j, h1, h2⟩
      by_cases e : j = k
      · subst e; exact Or.inr h2
      · exact Or.inl ⟨j, by omega, h2⟩
theorem orF_cong {f g : Nat → Nat} : ∀ {k : Nat}, (∀ i, i < k → f i = g i) → orF f k = orF g k
  | 0, _ => rfl
  | k + 1, h => by rw [orF, orF, orF_cong (fun i hi => h i (by omega)), h k (by omega)]
/-- how many ones a set has -/
def pop (s : Nat) : Nat := fb_ct (fun k => s.testBit k) 20
theorem pop_le (s : Nat) : pop s ≤ 20 := fb_ct_le _ _
section PINS
variable {G : aG} {μ : aMem}
theorem r_X7_ones {s : Nat} (hs : s < 2 ^ 31) : a_Ret G sX7_ones [.int (nI s)] μ (some (.int (nI (pop s)))) μ := by
  intro post hp
  refine w_X7_ones_0 _ ?_
  refine a_for (fun i (x : Int32) => a_Runs G sX7_ones 4 [(0, .int (nI s)), (1, .int x), (2, .int (nI i))] [] μ post) (fun i x => x = nI (fb_ct (fun k => s.testBit k) i)) 20 ?_ ?_ 0 (nI 0) (by omega) rfl
  · rintro x rfl
    exact w_X7_ones_4 _ _ _ ⟨fun _ => hp, fun h => absurd (by rw [q_le] <;> omega) h⟩
  · rintro i x hi rfl ih
    refine w_X7_ones_4 _ _ _ ⟨fun h => ?_, fun h => ?_⟩
    · rw [q_le (by omega) (by omega)] at h; omega
    · rw [q_bit hs (by omega), nI_add]
      refine ih _ ?_
      rw [bI, nI_add, fb_ct_succ]
      cases s.testBit i <;> rfl
/-- the JDK's bitCount, on numbers -/
def swA (n : Nat) : Nat := n - ((n / 2 ^ 1) &&& 1431655765)
def swB (x : Nat) : Nat := (x &&& 858993459) + ((x / 2 ^ 2) &&& 858993459)
def swC (x : Nat) : Nat := (x + x / 2 ^ 4) &&& 252645135
def swD (x : Nat) : Nat := x + x / 2 ^ 8
def swE (x : Nat) : Nat := (x + x / 2 ^ 16) &&& 63
theorem and16 (a b c d : Nat) (hb : b < 16) (hd : d < 16) : (16 * a + b) &&& (16 * c + d) = 16 * (a &&& c) + (b &&& d) := by
  have hbd : b &&& d < 2 ^ 4 := Nat.and_lt_two_pow b hd
  apply Nat.eq_of_testBit_eq
  intro i
  have e : (16 : Nat) = 2 ^ 4 := rfl
  rw [e, Nat.testBit_and, Nat.testBit_two_pow_mul_add a hb, Nat.testBit_two_pow_mul_add c hd, Nat.testBit_two_pow_mul_add (a &&& c) hbd]
  split
  · rw [Nat.testBit_and]
  · rw [Nat.testBit_and]
theorem nibA : ∀ k, k < 2 → ∀ r, r < 16 → (8 * k + r / 2) &&& 5 = (r / 2) &&& 5 := by decide
theorem nibB : ∀ k, k < 4 → ∀ r, r < 16 → (4 * k + r / 4) &&& 3 = (r / 4) &&& 3 := by decide
theorem stA (m r M : Nat) (hr : r < 16) : ((16 * m + r) / 2) &&& (16 * M + 5) = 16 * ((m / 2) &&& M) + ((r / 2) &&& 5) := by
  have e : (16 * m + r) / 2 = 16 * (m / 2) + (8 * (m % 2) + r / 2) := by omega
  rw [e, and16 _ _ _ _ (by omega) (by decide), nibA _ (by omega) _ hr]
theorem stB (m r M : Nat) (hr : r < 16) : ((16 * m + r) / 4) &&& (16 * M + 3) = 16 * ((m / 4) &&& M) + ((r / 4) &&& 3) := by
  have e : (16 * m + r) / 4 = 16 * (m / 4) + (4 * (m % 4) + r / 4) := by omega
  rw [e, and16 _ _ _ _ (by omega) (by decide), nibB _ (by omega) _ hr]
theorem nib_lastA : ∀ r, r < 16 → (r / 2) &&& 349525 = (r / 2) &&& 5 := by decide +kernel
theorem nib_lastB : ∀ r, r < 16 → (r / 4) &&& 209715 = (r / 4) &&& 3 := by decide +kernel
theorem nib_lastM : ∀ r, r < 16 → r &&& 209715 = r &&& 3 := by decide +kernel
def nal (r : Nat) : Nat := r - ((r / 2) &&& 5)
def nbe (a : Nat) : Nat := (a &&& 3) + ((a / 4) &&& 3)
theorem nal_ok : ∀ r, r < 16 → (r / 2) &&& 5 ≤ r ∧ nal r < 16 ∧ nbe (nal r) ≤ 4 ∧ nbe (nal r) = fb_ct (fun k => r.testBit k) 4 := by decide +kernel
theorem swA_n {a b c d : Nat} (ha : a < 16) (hb : b < 16) (hc : c < 16) (hd : d < 16) : swA (16 * (16 * (16 * a + b) + c) + d) = 16 * (16 * (16 * nal a + nal b) + nal c) + nal d := by
  unfold swA
  have e1 : (1431655765 : Nat) = 16 * 89478485 + 5 := rfl
  have e2 : (89478485 : Nat) = 16 * 5592405 + 5 := rfl
  have e3 : (5592405 : Nat) = 16 * 349525 + 5 := rfl
  rw [Nat.pow_one, e1, stA _ _ _ hd, e2, stA _ _ _ hc, e3, stA _ _ _ hb, nib_lastA a ha]
  have h1 := (nal_ok a ha).1
  have h2 := (nal_ok b hb).1
  have h3 := (nal_ok c hc).1
  have h4 := (nal_ok d hd).1
  unfold nal
  omega
theorem swB_n {a b c d : Nat} (ha : a < 16) (hb : b < 16) (hc : c < 16) (hd : d < 16) : swB (16 * (16 * (16 * a + b) + c) + d) = 16 * (16 * (16 * nbe a + nbe b) + nbe c) + nbe d := by
  unfold swB
  have e1 : (858993459 : Nat) = 16 * 53687091 + 3 := rfl
  have e2 : (53687091 : Nat) = 16 * 3355443 + 3 := rfl
  have e3 : (3355443 : Nat) = 16 * 209715 + 3 := rfl
  have e4 : (2 ^ 2 : Nat) = 4 := rfl
  rw [e4, e1, stB _ _ _ hd, and16 _ _ _ _ hd (by decide), e2, stB _ _ _ hc, and16 _ _ _ _ hc (by decide), e3, stB _ _ _ hb, and16 _ _ _ _ hb (by decide), nib_lastB a ha, nib_lastM a ha]
  unfold nbe
  omega
theorem nib15 : ∀ r, r < 16 → r &&& 15 = r ∧ r &&& 0 = 0 := by decide
theorem swC_n {a b c d : Nat} (ha : a ≤ 4) (hb : b ≤ 4) (hc : c ≤ 4) (hd : d ≤ 4) : swC (16 * (16 * (16 * a + b) + c) + d) = 16 * (16 * (b + a)) + (d + c) := by
  unfold swC
  have e : 16 * (16 * (16 * a + b) + c) + d + (16 * (16 * (16 * a + b) + c) + d) / 2 ^ 4 = 16 * (16 * (16 * a + (b + a)) + (c + b)) + (d + c) := by
    have : (2 ^ 4 : Nat) = 16 := rfl
    rw [this]; omega
  have e1 : (252645135 : Nat) = 16 * (16 * (16 * (16 * 3855) + 15) + 0) + 15 := rfl
  rw [e, e1, and16 _ _ _ _ (by omega) (by decide), and16 _ _ _ _ (by omega) (by decide), and16 _ _ _ _ (by omega) (by decide), (nib15 (d + c) (by omega)).1, (nib15 (c + b) (by omega)).2, (nib15 (b + a) (by omega)).1]
  have e5 : a &&& 16 * 3855 = 0 := by
    have h5 := and16 0 a 3855 0 (by omega) (by decide)
    rw [(nib15 a (by omega)).2, Nat.zero_and] at h5
    simpa using h5
  rw [e5]
  omega
theorem fb_nib (m r k : Nat) (hr : r < 16) : fb_ct (fun i => (16 * m + r).testBit i) (4 + k) = fb_ct (fun i => r.testBit i) 4 + fb_ct (fun i => m.testBit i) k := by
  have key : ∀ i, (16 * m + r).testBit i = if i < 4 then r.testBit i else m.testBit (i - 4) := fun i => Nat.testBit_two_pow_mul_add (i := 4) m hr i
  rw [fb_ct_split]
  congr 1
  · exact fb_ct_cong (fun k hk => by rw [key, if_pos hk])
  · exact fb_ct_cong (fun k _ => by rw [key, if_neg (by omega), Nat.add_sub_cancel_left])
theorem fb_nib4 : ∀ r, r < 16 → fb_ct (fun i => r.testBit i) 8 = fb_ct (fun i => r.testBit i) 4 := by decide +kernel
theorem pop_n {a b c d : Nat} (ha : a < 16) (hb : b < 16) (hc : c < 16) (hd : d < 16) : pop (16 * (16 * (16 * a + b) + c) + d) = nbe (nal d) + (nbe (nal c) + (nbe (nal b) + nbe (nal a))) := by
  unfold pop
  rw [show (20 : Nat) = 4 + 16 from rfl, fb_nib _ _ _ hd, show (16 : Nat) = 4 + 12 from rfl]
  rw [show (4 + 12 : Nat) = 16 from rfl]
  have h1 := fb_nib (16 * a + b) c 12 hc
  have h2 := fb_nib a b 8 hb
  rw [show (4 + 12 : Nat) = 16 from rfl] at h1
  rw [show (4 + 8 : Nat) = 12 from rfl] at h2
  rw [h1, h2, fb_nib4 a ha, (nal_ok a ha).2.2.2, (nal_ok b hb).2.2.2, (nal_ok c hc).2.2.2, (nal_ok d hd).2.2.2]
theorem sw_all {n : Nat} (h : n < 65536) : ((n / 2 ^ 1) &&& 1431655765) ≤ n ∧ swA n < 65536 ∧ swB (swA n) < 65536 ∧ swC (swB (swA n)) < 65536 ∧ swD (swC (swB (swA n))) < 65536 ∧ swE (swD (swC (swB (swA n)))) = pop n := by
  have hle : ((n / 2 ^ 1) &&& 1431655765) ≤ n := Nat.le_trans Nat.and_le_left (Nat.div_le_self _ _)
  obtain ⟨a, b, c, d, ha, hb, hc, hd, rfl⟩ : ∃ a b c d, a < 16 ∧ b < 16 ∧ c < 16 ∧ d < 16 ∧ n = 16 * (16 * (16 * a + b) + c) + d := ⟨n / 4096, n / 256 % 16, n / 16 % 16, n % 16, by omega, by omega, by omega, by omega, by omega⟩
  obtain ⟨-, a1, a2, -⟩ := nal_ok a ha
  obtain ⟨-, b1, b2, -⟩ := nal_ok b hb
  obtain ⟨-, c1, c2, -⟩ := nal_ok c hc
  obtain ⟨-, d1, d2, -⟩ := nal_ok d hd
  refine ⟨hle, ?_⟩
  rw [swA_n ha hb hc hd, swB_n a1 b1 c1 d1, swC_n a2 b2 c2 d2, pop_n ha hb hc hd]
  have eD : swD (16 * (16 * (nbe (nal b) + nbe (nal a))) + (nbe (nal d) + nbe (nal c))) = 256 * (nbe (nal b) + nbe (nal a)) + (nbe (nal d) + nbe (nal c) + (nbe (nal b) + nbe (nal a))) := by
    unfold swD
    have : (2 ^ 8 : Nat) = 256 := rfl
    rw [this]; omega
  rw [eD]
  have eE : swE (256 * (nbe (nal b) + nbe (nal a)) + (nbe (nal d) + nbe (nal c) + (nbe (nal b) + nbe (nal a)))) = nbe (nal d) + (nbe (nal c) + (nbe (nal b) + nbe (nal a))) := by
    unfold swE
    have e1 : (63 : Nat) = 2 ^ 6 - 1 := rfl
    have e2 : (2 ^ 16 : Nat) = 65536 := rfl
    have e3 : (2 ^ 6 : Nat) = 64 := rfl
    rw [e1, Nat.and_two_pow_sub_one_eq_mod, e2, e3]
    clear eD hle
    generalize nbe (nal a) = A at *
    generalize nbe (nal b) = B at *
    generalize nbe (nal c) = C at *
    generalize nbe (nal d) = D at *
    have h0 : (256 * (B + A) + (D + C + (B + A))) / 65536 = 0 := Nat.div_eq_of_lt (by omega)
    rw [h0]
    omega
  rw [eE]
  exact ⟨by omega, by omega, by omega, by omega, rfl⟩
theorem q_ush {n k : Nat} (hn : n < 2 ^ 32) (hk : k < 32) : ((nI n).toUInt32 >>> ((nI k).toUInt32 &&& Int32.toUInt32 31)).toInt32 = nI (n / 2 ^ k) := pk_ushrN hn _ k (s_u k hk)
theorem r_J6_bitCount {n : Nat} (hn : n < 65536) : a_Ret G sJ6_bitCount_0f7a4 [.int (nI n)] μ (some (.int (nI (pop n)))) μ := by
  intro post hp
  refine w_J6_bitCount_0 _ ?_
  obtain ⟨h0, h1, h2, h3, h4, h5⟩ := sw_all hn
  have eA : nI n - (((nI n).toUInt32 >>> ((nI 1).toUInt32 &&& Int32.toUInt32 31)).toInt32 &&& nI 1431655765) = nI (swA n) := by
    rw [q_ush (by omega) (by omega), fa_and, q_sub h0]; rfl
  rw [eA]
  have eB : (nI (swA n) &&& nI 858993459) + (((nI (swA n)).toUInt32 >>> ((nI 2).toUInt32 &&& Int32.toUInt32 31)).toInt32 &&& nI 858993459) = nI (swB (swA n)) := by
    rw [q_ush (by omega) (by omega), fa_and, fa_and, nI_add]; rfl
  rw [eB]
  have eC : (nI (swB (swA n)) + ((nI (swB (swA n))).toUInt32 >>> ((nI 4).toUInt32 &&& Int32.toUInt32 31)).toInt32) &&& nI 252645135 = nI (swC (swB (swA n))) := by
    rw [q_ush (by omega) (by omega), nI_add, fa_and]; rfl
  rw [eC]
  have eD : nI (swC (swB (swA n))) + ((nI (swC (swB (swA n)))).toUInt32 >>> ((nI 8).toUInt32 &&& Int32.toUInt32 31)).toInt32 = nI (swD (swC (swB (swA n)))) := by
    rw [q_ush (by omega) (by omega), nI_add]; rfl
  rw [eD]
  have eE : (nI (swD (swC (swB (swA n)))) + ((nI (swD (swC (swB (swA n))))).toUInt32 >>> ((nI 16).toUInt32 &&& Int32.toUInt32 31)).toInt32) &&& nI 63 = nI (pop n) := by
    rw [q_ush (by omega) (by omega), nI_add, fa_and, ← h5]; rfl
  rw [eE]
  exact hp
def usedN (n : Nat → Nat) : Nat := orF (fun p => 2 ^ n p) 16
theorem usedN_lt {n : Nat → Nat} (h8 : ∀ p, p < 16 → n p < 8) : usedN n < 2 ^ 8 := orF_lt (fun i hi => Nat.pow_lt_pow_right (by decide) (h8 i hi))
theorem r_X2_usedNets {n : Nat → Nat} (hn : rp (μ.1 35) n 16) (h8 : ∀ p, p < 16 → n p < 8) : a_Ret G sX2_usedNets [.ref 6] μ (some (.int (nI (usedN n)))) μ := by
  intro post hp
  refine w_X2_usedNets_0 ?_
  refine a_for (fun i (x : Int32) => a_Runs G sX2_usedNets 4 [(0, .ref 6), (1, .int x), (2, .int (nI i))] [] μ post) (fun i x => x = nI (orF (fun p => 2 ^ n p) i)) 16 ?_ ?_ 0 (nI 0) (by omega) rfl
  · rintro x rfl
    exact w_X2_usedNets_4 _ _ ⟨fun _ => hp, fun h => absurd (by rw [q_le] <;> omega) h⟩
  · rintro i x hi rfl ih
    refine w_X2_usedNets_4 _ _ ⟨fun h => ?_, fun h => ?_⟩
    · rw [q_le (by omega) (by omega)] at h; omega
    · have := h8 i hi
      rw [q_in (by omega), q_cl (by omega), hn i hi, q_pow (by omega), fa_or, nI_add]
      exact ⟨hi, ih _ rfl⟩
theorem r_X7_nets {n : Nat → Nat} (hn : rp (μ.1 62) n 16) (h8 : ∀ p, p < 16 → n p < 8) : a_Ret G sX7_nets [.ref 36] μ (some (.int (nI (usedN n)))) μ := by
  intro post hp
  refine w_X7_nets_0 ?_
  refine a_for (fun i (x : Int32) => a_Runs G sX7_nets 4 [(0, .ref 36), (1, .int x), (2, .int (nI i))] [] μ post) (fun i x => x = nI (orF (fun p => 2 ^ n p) i)) 16 ?_ ?_ 0 (nI 0) (by omega) rfl
  · rintro x rfl
    exact w_X7_nets_4 _ _ ⟨fun _ => hp, fun h => absurd (by rw [q_le] <;> omega) h⟩
  · rintro i x hi rfl ih
    refine w_X7_nets_4 _ _ ⟨fun h => ?_, fun h => ?_⟩
    · rw [q_le (by omega) (by omega)] at h; omega
    · have := h8 i hi
      rw [q_in (by omega), q_cl (by omega), hn i hi, q_pow (by omega), fa_or, nI_add]
      exact ⟨hi, ih _ rfl⟩
/-- tests that part all nets in use -/
def unl (n : Nat → Nat) : Nat := orF (fun p => n p ^^^ n 0) 16
def tsts (n : Nat → Nat) : Nat := if unl n ≤ 3 then if unl n ≤ 1 then unl n else 2 else 3
theorem unl_lt {n : Nat → Nat} (h8 : ∀ p, p < 16 → n p < 8) : unl n < 2 ^ 3 := orF_lt (fun i hi => Nat.xor_lt_two_pow (h8 i hi) (h8 0 (by omega)))
theorem tsts_le (n : Nat → Nat) : tsts n ≤ 3 := by unfold tsts; split <;> (try split) <;> omega
theorem r_X7_testMany {n : Nat → Nat} (hn : rp (μ.1 62) n 16) (h8 : ∀ p, p < 16 → n p < 8) : a_Ret G sX7_testMany [.ref 36] μ (some (.int (nI (tsts n)))) μ := by
  intro post hp
  refine w_X7_testMany_0 ?_
  refine a_for (fun i (x : Int32) => a_Runs G sX7_testMany 4 [(0, .ref 36), (1, .int x), (2, .int (nI i))] [] μ post) (fun i x => x = nI (orF (fun p => n p ^^^ n 0) i)) 16 ?_ ?_ 0 (nI 0) (by omega) rfl
  · rintro x rfl
    have hu := unl_lt h8
    have e : orF (fun p => n p ^^^ n 0) 16 = unl n := rfl
    rw [e]
    refine w_X7_testMany_4 _ _ ⟨fun _ => ?_, fun h => absurd (by rw [q_le] <;> omega) h⟩
    rw [q_le (by omega) (by omega), q_le (by omega) (by omega)]
    unfold tsts at hp
    refine ⟨fun h => ⟨fun h2 => ?_, fun h2 => ?_⟩, fun h => ?_⟩
    · rw [if_pos h, if_pos h2] at hp; exact hp
    · rw [if_pos h, if_neg h2] at hp; exact hp
    · rw [if_neg h] at hp; exact hp
  · rintro i x hi rfl ih
    refine w_X7_testMany_4 _ _ ⟨fun h => ?_, fun h => ?_⟩
    · rw [q_le (by omega) (by omega)] at h; omega
    · rw [q_in (by omega), q_in (by omega), q_cl (by omega), q_cl (by omega), hn i hi, hn 0 (by omega), fb_xorI, fa_or, nI_add]
      exact ⟨hi, by omega, ih _ rfl⟩
theorem tsts_of : ∀ u, u < 8 → (if u ≤ 3 then if u ≤ 1 then u else 2 else 3) = (if u.testBit 2 then 3 else if u.testBit 1 then 2 else if u.testBit 0 then 1 else 0) := by decide +kernel
theorem r_X2_testsNeeded {n : Nat → Nat} (hn : rp (μ.1 35) n 16) (h8 : ∀ p, p < 16 → n p < 8) : a_Ret G sX2_testsNeeded [.ref 6] μ (some (.int (nI (tsts n)))) μ := by
  intro post hp
  refine w_X2_testsNeeded_0 ?_
  have hu := unl_lt h8
  have e0 : orF (fun p => n p ^^^ n 0) 1 = 0 := by simp [orF]
  refine a_for (fun i (x : Int32) => a_Runs G sX2_testsNeeded 4 [(0, .ref 6), (1, .int x), (2, .int (nI i))] [] μ post) (fun i x => x = nI (orF (fun p => n p ^^^ n 0) i)) 16 ?_ ?_ 1 (nI 0) (by omega) (by rw [e0])
  · rintro x rfl
    have e : orF (fun p => n p ^^^ n 0) 16 = unl n := rfl
    rw [e]
    refine w_X2_testsNeeded_4 _ _ ⟨fun _ => ?_, fun h => absurd (by rw [q_le] <;> omega) h⟩
    have hp2 : post (some (.int (nI (if (unl n).testBit 2 then 3 else if (unl n).testBit 1 then 2 else if (unl n).testBit 0 then 1 else 0)))) μ := by
      rw [← tsts_of _ hu]; exact hp
    have step : ∀ (i : Nat) (v : Nat), i < 3 → a_Runs G sX2_testsNeeded 36 [(1, .int (nI (unl n))), (2, .int (nI (if (unl n).testBit i then i + 1 else v))), (3, .int (nI (i + 1)))] [] μ post → a_Runs G sX2_testsNeeded 36 [(1, .int (nI (unl n))), (2, .int (nI v)), (3, .int (nI i))] [] μ post := by
      intro i v hi hr
      refine w_X2_testsNeeded_36 _ _ _ ⟨fun h => ?_, fun h => ?_⟩
      · rw [q_le (by omega) (by omega)] at h; omega
      · refine r_X6_has (by omega) (by omega) _ ⟨_, rfl, br_b (fun hb => ?_) (fun hb => ?_)⟩
        · rw [hb, if_neg (by decide)] at hr; rw [nI_add]; exact hr
        · rw [hb, if_pos rfl] at hr; rw [nI_add]; exact hr
    refine step 0 0 (by omega) (step 1 _ (by omega) (step 2 _ (by omega) ?_))
    exact w_X2_testsNeeded_36 _ _ _ ⟨fun _ => hp2, fun h => absurd (by rw [q_le] <;> omega) h⟩
  · rintro i x hi rfl ih
    refine w_X2_testsNeeded_4 _ _ ⟨fun h => ?_, fun h => ?_⟩
    · rw [q_le (by omega) (by omega)] at h; omega
    · rw [q_in (by omega), q_in (by omega), q_cl (by omega), q_cl (by omega), hn i hi, hn 0 (by omega), fb_xorI, fa_or, nI_add]
      exact ⟨hi, by omega, ih _ rfl⟩
end PINS
end
section
/-! ===== the pins' own calls, on both sides ===== -/
def aSide (n : Nat → Nat) (x1 x2 : Int32) : Int32 := if inB x2 (nI 0) (nI 15) then if inB x1 (nI 0) (nI (tsts n) - nI 1) then (nI (n x2.toNatClampNeg) >>> (x1 &&& 31)) &&& nI 1 else -2 else -1
def aUsed (n : Nat → Nat) (x : Int32) : Bool := inB x (nI 0) (nI 7) && (usedN n).testBit x.toNatClampNeg
def aShows (n : Nat → Nat) (x1 x2 : Int32) : Int32 := if aUsed n x1 && aUsed n x2 then if x1 = x2 then -3 else x1 ^^^ x2 else -1
def prB (u : Nat) (t : Int32) (a b : Nat) : Bool := decide (a < b) && (u.testBit a && (u.testBit b && decide (nI a ^^^ nI b = t)))
def prs (u : Nat) (t : Int32) (k : Nat) : Nat := fb_sm (fun a => fb_ct (prB u t a) 8) k
theorem prB_0 (u : Nat) (t : Int32) (a : Nat) : fb_ct (prB u t a) (a + 1) = 0 := fb_ct_zero.mpr (fun k hk => by unfold prB; rw [decide_eq_false (by omega), Bool.false_and])
theorem prs_le (u : Nat) (t : Int32) (k : Nat) (hk : k ≤ 8) : prs u t k ≤ 64 := by
  have := fb_sm_bound (f := fun a => fb_ct (prB u t a) 8) (c := 8) (n := k) (fun i _ => fb_ct_le _ _)
  unfold prs; omega
section PINOPS
variable {G : aG} {μ : aMem} {n : Nat → Nat}
theorem r_X6_pin (hn : rp (μ.1 35) n 16) (x1 x2 : Int32) : a_Spec G sX6_pin [.ref 0, .int x1, .int x2] μ (fun v ν => (inB x1 (nI 0) (nI 15) = true ∧ inB x2 (nI 0) (nI 7) = true ∧ v = some (.int (nI (n x1.toNatClampNeg))) ∧ ν = (va_up μ.1 35 (upd (μ.1 35) x1.toNatClampNeg x2), μ.2)) ∨ ((inB x1 (nI 0) (nI 15) && inB x2 (nI 0) (nI 7)) = false ∧ v = some (.int (-1)) ∧ ν = μ)) := by
  refine w_X6_pin_0 _ _ (r_X6_isPin _ _ ⟨_, rfl, br_b (fun h => Or.inr ⟨by rw [h]; rfl, rfl, rfl⟩) (fun h => r_X6_isNet _ _ ⟨_, rfl, br_n (fun h2 => ?_) (fun h2 => Or.inr ⟨by rw [h, h2]; rfl, rfl, rfl⟩)⟩)⟩)
  obtain ⟨j, -, hj, rfl⟩ := inB_e (by decide) h (by decide)
  rw [q_in (by omega), q_cl (by omega), hn j (by omega)]
  exact ⟨by omega, by omega, Or.inl ⟨h, h2, rfl, rfl⟩⟩
theorem r_X7_pin (hn : rp (μ.1 62) n 16) (x1 x2 : Int32) : a_Spec G sX7_pin [.ref 36, .int x1, .int x2] μ (fun v ν => (inB x1 (nI 0) (nI 15) = true ∧ inB x2 (nI 0) (nI 7) = true ∧ v = some (.int (nI (n x1.toNatClampNeg))) ∧ ν = (va_up μ.1 62 (upd (μ.1 62) x1.toNatClampNeg x2), μ.2)) ∨ ((inB x1 (nI 0) (nI 15) && inB x2 (nI 0) (nI 7)) = false ∧ v = some (.int (-1)) ∧ ν = μ)) := by
  refine w_X7_pin_0 _ _ (r_X7_isPin _ _ ⟨_, rfl, br_b (fun h => Or.inr ⟨by rw [h]; rfl, rfl, rfl⟩) (fun h => r_X7_in _ _ _ _ ⟨_, rfl, br_n (fun h2 => ?_) (fun h2 => Or.inr ⟨by rw [h, h2]; rfl, rfl, rfl⟩)⟩)⟩)
  obtain ⟨j, -, hj, rfl⟩ := inB_e (by decide) h (by decide)
  rw [q_in (by omega), q_cl (by omega), hn j (by omega)]
  exact ⟨by omega, by omega, Or.inl ⟨h, h2, rfl, rfl⟩⟩
theorem r_X6_tests (hn : rp (μ.1 35) n 16) (h8 : ∀ p, p < 16 → n p < 8) : a_Ret G sX6_tests [.ref 0] μ (some (.int (nI (tsts n)))) μ := fun _ hp => w_X6_tests_0 (r_X2_testsNeeded hn h8 _ ⟨_, rfl, hp⟩)
theorem r_X7_tests (hn : rp (μ.1 62) n 16) (h8 : ∀ p, p < 16 → n p < 8) : a_Ret G sX7_tests [.ref 36] μ (some (.int (nI (tsts n)))) μ := fun _ hp => w_X7_tests_0 (r_X7_testMany hn h8 _ ⟨_, rfl, hp⟩)
theorem r_X6_side (hn : rp (μ.1 35) n 16) (h8 : ∀ p, p < 16 → n p < 8) (x1 x2 : Int32) : a_Ret G sX6_side [.ref 0, .int x1, .int x2] μ (some (.int (aSide n x1 x2))) μ := by
  intro post hp
  unfold aSide at hp
  refine w_X6_side_0 _ _ (r_X6_isPin _ _ ⟨_, rfl, br_n (fun h => r_X2_testsNeeded hn h8 _ ⟨_, rfl, r_X6_isWithin _ _ _ _ ⟨_, rfl, br_n (fun h2 => ?_) (fun h2 => ?_)⟩⟩) (fun h => ?_)⟩)
  · obtain ⟨j, -, hj, rfl⟩ := inB_e (by decide) h (by decide)
    rw [h, if_pos rfl, h2, if_pos rfl, q_cl (by omega)] at hp
    rw [q_in (by omega), q_cl (by omega), hn j (by omega)]
    exact ⟨by omega, hp⟩
  · rw [h, if_pos rfl, h2, if_neg (by decide)] at hp; exact hp
  · rw [h, if_neg (by decide)] at hp; exact hp
theorem r_X7_side (hn : rp (μ.1 62) n 16) (h8 : ∀ p, p < 16 → n p < 8) (x1 x2 : Int32) : a_Ret G sX7_side [.ref 36, .int x1, .int x2] μ (some (.int (aSide n x1 x2))) μ := by
  intro post hp
  unfold aSide at hp
  refine w_X7_side_0 _ _ (r_X7_isPin _ _ ⟨_, rfl, br_n (fun h => r_X7_testMany hn h8 _ ⟨_, rfl, r_X7_in _ _ _ _ ⟨_, rfl, br_b (fun h2 => ?_) (fun h2 => ?_)⟩⟩) (fun h => ?_)⟩)
  · rw [h, if_pos rfl, h2, if_neg (by decide)] at hp; exact hp
  · obtain ⟨j, -, hj, rfl⟩ := inB_e (by decide) h (by decide)
    rw [h, if_pos rfl, h2, if_pos rfl, q_cl (by omega)] at hp
    rw [q_in (by omega), q_cl (by omega), hn j (by omega)]
    exact ⟨by omega, hp⟩
  · rw [h, if_neg (by decide)] at hp; exact hp
theorem r_X2_isUsed (hn : rp (μ.1 35) n 16) (h8 : ∀ p, p < 16 → n p < 8) {j : Nat} (hj : j < 32) : a_Ret G sX2_isUsed [.ref 6, .int (nI j)] μ (some (.int (bI ((usedN n).testBit j)))) μ := by
  intro post hp
  have := usedN_lt h8
  exact w_X2_isUsed_0 _ (r_X2_usedNets hn h8 _ ⟨_, rfl, r_X6_has (by omega) hj _ ⟨_, rfl, bI_01 _, hp⟩⟩)
theorem r_X6_shows (hn : rp (μ.1 35) n 16) (h8 : ∀ p, p < 16 → n p < 8) (x1 x2 : Int32) : a_Ret G sX6_shows [.ref 0, .int x1, .int x2] μ (some (.int (aShows n x1 x2))) μ := by
  intro post hp
  unfold aShows aUsed at hp
  refine w_X6_shows_0 _ _ (r_X6_isNet _ _ ⟨_, rfl, br_b (fun h => ?_) (fun h => r_X6_isNet _ _ ⟨_, rfl, br_n (fun h2 => ?_) (fun h2 => ?_)⟩)⟩)
  · rw [h] at hp; simpa using hp
  · obtain ⟨j, -, hj, rfl⟩ := inB_e (by decide) h (by decide)
    obtain ⟨k, -, hk, rfl⟩ := inB_e (by decide) h2 (by decide)
    rw [h, h2, Bool.true_and, Bool.true_and, q_cl (by omega), q_cl (by omega)] at hp
    refine r_X2_isUsed hn h8 (by omega) _ ⟨_, rfl, br_b (fun h3 => ?_) (fun h3 => r_X2_isUsed hn h8 (by omega) _ ⟨_, rfl, br_n (fun h4 => br_d (fun h5 => ?_) (fun h5 => ?_)) (fun h4 => ?_)⟩)⟩
    · rw [h3] at hp; simpa using hp
    · rw [h3, h4, Bool.and_self, if_pos rfl, if_neg h5] at hp; exact hp
    · rw [h3, h4, Bool.and_self, if_pos rfl, if_pos h5] at hp; exact hp
    · rw [h4, Bool.and_false] at hp; simpa using hp
  · rw [h2] at hp; simpa using hp
theorem r_X7_hasPins (hn : rp (μ.1 62) n 16) (h8 : ∀ p, p < 16 → n p < 8) (x : Int32) : a_Ret G sX7_hasPins [.ref 36, .int x] μ (some (.int (bI (aUsed n x)))) μ := by
  intro post hp
  unfold aUsed at hp
  have := usedN_lt h8
  refine w_X7_hasPins_0 _ (r_X7_in _ _ _ _ ⟨_, rfl, br_b (fun h => ?_) (fun h => r_X7_nets hn h8 _ ⟨_, rfl, ?_⟩)⟩)
  · rw [h, Bool.false_and] at hp; exact ⟨nI_00, hp⟩
  · obtain ⟨j, -, hj, rfl⟩ := inB_e (by decide) h (by decide)
    rw [h, Bool.true_and, q_cl (by omega)] at hp
    rw [q_bit (by omega) (by omega), bI_1]
    refine br_d (fun h2 => ?_) (fun h2 => ?_)
    · rw [Bool.eq_false_iff.mpr h2] at hp; exact ⟨nI_00, hp⟩
    · rw [h2] at hp; exact ⟨nI_11, hp⟩
theorem r_X7_shows (hn : rp (μ.1 62) n 16) (h8 : ∀ p, p < 16 → n p < 8) (x1 x2 : Int32) : a_Ret G sX7_shows [.ref 36, .int x1, .int x2] μ (some (.int (aShows n x1 x2))) μ := by
  intro post hp
  unfold aShows at hp
  refine w_X7_shows_0 _ _ (r_X7_hasPins hn h8 _ _ ⟨_, rfl, br_b (fun h => ?_) (fun h => r_X7_hasPins hn h8 _ _ ⟨_, rfl, br_n (fun h2 => br_d (fun h5 => ?_) (fun h5 => ?_)) (fun h2 => ?_)⟩)⟩)
  · rw [h] at hp; simpa using hp
  · rw [h, h2, Bool.and_self, if_pos rfl, if_neg h5] at hp; exact hp
  · rw [h, h2, Bool.and_self, if_pos rfl, if_pos h5] at hp; exact hp
  · rw [h2, Bool.and_false] at hp; simpa using hp
theorem r_X2_pairs (hn : rp (μ.1 35) n 16) (h8 : ∀ p, p < 16 → n p < 8) (t : Int32) : a_Ret G sX2_pairsUnlikeJustIn [.ref 6, .int t] μ (some (.int (nI (prs (usedN n) t 8)))) μ := by
  intro post hp
  have hu := usedN_lt h8
  refine w_X2_pairsUnlikeJustIn_0 _ (r_X2_usedNets hn h8 _ ⟨_, rfl, ?_⟩)
  refine a_for (fun i (x : Int32) => a_Runs G sX2_pairsUnlikeJustIn 10 [(1, .int t), (2, .int (nI (usedN n))), (3, .int x), (4, .int (nI i))] [] μ post) (fun i x => x = nI (prs (usedN n) t i)) 8 ?_ ?_ 0 (nI 0) (by omega) rfl
  · rintro x rfl
    exact w_X2_pairsUnlikeJustIn_10 _ _ _ _ ⟨fun _ => hp, fun h => absurd (by rw [q_le] <;> omega) h⟩
  · rintro a x ha rfl ih
    refine w_X2_pairsUnlikeJustIn_10 _ _ _ _ ⟨fun h => ?_, fun h => ?_⟩
    · rw [q_le (by omega) (by omega)] at h; omega
    rw [nI_add]
    have hb0 : prs (usedN n) t a + fb_ct (prB (usedN n) t a) (a + 1) = prs (usedN n) t a := by rw [prB_0]; rfl
    refine a_for (fun i (x : Int32) => a_Runs G sX2_pairsUnlikeJustIn 23 [(1, .int t), (2, .int (nI (usedN n))), (3, .int x), (4, .int (nI a)), (5, .int (nI i))] [] μ post) (fun i x => a < i ∧ x = nI (prs (usedN n) t a + fb_ct (prB (usedN n) t a) i)) 8 ?_ ?_ (a + 1) _ (by omega) ⟨by omega, by rw [hb0]⟩
    · rintro x ⟨-, rfl⟩
      refine w_X2_pairsUnlikeJustIn_23 _ _ _ _ _ ⟨fun _ => ?_, fun h => absurd (by rw [q_le] <;> omega) h⟩
      rw [nI_add]; exact ih _ rfl
    · rintro b x hb ⟨hab, rfl⟩ ih2
      refine w_X2_pairsUnlikeJustIn_23 _ _ _ _ _ ⟨fun h => ?_, fun h => ?_⟩
      · rw [q_le (by omega) (by omega)] at h; omega
      rw [nI_add, nI_add]
      have e0 : prB (usedN n) t a b = ((usedN n).testBit a && ((usedN n).testBit b && decide (nI a ^^^ nI b = t))) := by unfold prB; rw [decide_eq_true hab, Bool.true_and]
      refine r_X6_has (by omega) (by omega) _ ⟨_, rfl, br_b (fun h1 => ih2 _ ⟨by omega, ?_⟩) (fun h1 => r_X6_has (by omega) (by omega) _ ⟨_, rfl, br_b (fun h2 => ih2 _ ⟨by omega, ?_⟩) (fun h2 => br_d (fun h3 => ih2 _ ⟨by omega, ?_⟩) (fun h3 => ih2 _ ⟨by omega, ?_⟩))⟩)⟩
      · rw [fb_ct_succ, e0, h1, Bool.false_and]; rfl
      · rw [fb_ct_succ, e0, h1, h2, Bool.false_and, Bool.and_false]; rfl
      · rw [fb_ct_succ, e0, h1, h2, decide_eq_false h3]; rfl
      · rw [fb_ct_succ, e0, h1, h2, decide_eq_true h3]; rfl
theorem r_X7_pairs (hn : rp (μ.1 62) n 16) (h8 : ∀ p, p < 16 → n p < 8) (t : Int32) : a_Ret G sX7_pairs [.ref 36, .int t] μ (some (.int (nI (prs (usedN n) t 8)))) μ := by
  intro post hp
  have hu := usedN_lt h8
  refine w_X7_pairs_0 _ ?_
  have hus : ∀ j, j < 8 → aUsed n (nI j) = (usedN n).testBit j := fun j hj => by
    unfold aUsed; rw [inB_nI (by omega) (by omega) (by omega), decide_eq_true (by omega), decide_eq_true (by omega), q_cl (by omega)]; rfl
  refine a_for (fun i (x : Int32) => a_Runs G sX7_pairs 4 [(0, .ref 36), (1, .int t), (2, .int x), (3, .int (nI i))] [] μ post) (fun i x => x = nI (prs (usedN n) t i)) 8 ?_ ?_ 0 (nI 0) (by omega) rfl
  · rintro x rfl
    exact w_X7_pairs_4 _ _ _ ⟨fun _ => hp, fun h => absurd (by rw [q_le] <;> omega) h⟩
  · rintro a x ha rfl ih
    refine w_X7_pairs_4 _ _ _ ⟨fun h => ?_, fun h => ?_⟩
    · rw [q_le (by omega) (by omega)] at h; omega
    rw [nI_add]
    have hb0 : prs (usedN n) t a + fb_ct (prB (usedN n) t a) (a + 1) = prs (usedN n) t a := by rw [prB_0]; rfl
    refine a_for (fun i (x : Int32) => a_Runs G sX7_pairs 15 [(0, .ref 36), (1, .int t), (2, .int x), (3, .int (nI a)), (4, .int (nI i))] [] μ post) (fun i x => a < i ∧ x = nI (prs (usedN n) t a + fb_ct (prB (usedN n) t a) i)) 8 ?_ ?_ (a + 1) _ (by omega) ⟨by omega, by rw [hb0]⟩
    · rintro x ⟨-, rfl⟩
      refine w_X7_pairs_15 _ _ _ _ ⟨fun _ => ?_, fun h => absurd (by rw [q_le] <;> omega) h⟩
      rw [nI_add]; exact ih _ rfl
    · rintro b x hb ⟨hab, rfl⟩ ih2
      refine w_X7_pairs_15 _ _ _ _ ⟨fun h => ?_, fun h => ?_⟩
      · rw [q_le (by omega) (by omega)] at h; omega
      rw [nI_add, nI_add, nI_add]
      have e0 : prB (usedN n) t a b = ((usedN n).testBit a && ((usedN n).testBit b && decide (nI a ^^^ nI b = t))) := by unfold prB; rw [decide_eq_true hab, Bool.true_and]
      refine r_X7_hasPins hn h8 _ _ ⟨_, rfl, br_b (fun h1 => ih2 _ ⟨by omega, ?_⟩) (fun h1 => r_X7_hasPins hn h8 _ _ ⟨_, rfl, br_b (fun h2 => ih2 _ ⟨by omega, ?_⟩) (fun h2 => br_d (fun h3 => ih2 _ ⟨by omega, ?_⟩) (fun h3 => ih2 _ ⟨by omega, ?_⟩))⟩)⟩
      · rw [hus a (by omega)] at h1; rw [fb_ct_succ, e0, h1, Bool.false_and]; rfl
      · rw [hus a (by omega)] at h1; rw [hus b (by omega)] at h2; rw [fb_ct_succ, e0, h1, h2, Bool.false_and, Bool.and_false]; rfl
      · rw [hus a (by omega)] at h1; rw [hus b (by omega)] at h2; rw [fb_ct_succ, e0, h1, h2, decide_eq_false h3]; rfl
      · rw [hus a (by omega)] at h1; rw [hus b (by omega)] at h2; rw [fb_ct_succ, e0, h1, h2, decide_eq_true h3]; rfl
theorem r_X6_pairs (hn : rp (μ.1 35) n 16) (h8 : ∀ p, p < 16 → n p < 8) (t : Int32) : a_Ret G sX6_pairs [.ref 0, .int t] μ (some (.int (nI (prs (usedN n) t 8)))) μ := fun _ hp => w_X6_pairs_0 _ (r_X2_pairs hn h8 _ _ ⟨_, rfl, hp⟩)
end PINOPS
end
section
/-! ===== the abstract state: rows of numbers =====
 0 ducts (at 0), 1 one, 2 other, 3 length, 4 room, 5 wires (at 0), 6 from, 7 to, 8 thickness, 9 class, 10 options, 11 steps, 12 way (10 w + i), 13 apart (4 a + b), 14 orders (at 0), 15 wanted, 16 pieces, 17 setup (at 0), 18 net of a pin -/
abbrev aX : Type := Nat → Nat → Nat
def upN (f : Nat → Nat) (k v : Nat) : Nat → Nat := fun i => if i = k then v else f i
theorem upN_s (f : Nat → Nat) (k v : Nat) : upN f k v k = v := by simp [upN]
theorem upN_n (f : Nat → Nat) {k i : Nat} (v : Nat) (h : i ≠ k) : upN f k v i = f i := by simp [upN, h]
/-- a duct put into a row that is sorted by length -/
def insS (l : Nat → Nat) (d : Nat) : Nat → (Nat → Nat) → (Nat → Nat)
  | 0, f => upN f 0 d
  | s + 1, f => if l d < l (f s) then insS l d s (upN f (s + 1) (f s)) else upN f (s + 1) d
def srt (l : Nat → Nat) : Nat → (Nat → Nat)
  | 0 => fun _ => 0
  | n + 1 => insS l n n (srt l n)
theorem insS_lt {l : Nat → Nat} {d n : Nat} (hd : d < n) : ∀ {s : Nat} {f : Nat → Nat}, (∀ i, f i < n) → ∀ i, insS l d s f i < n
  | 0, f, h, i => by unfold insS upN; split; exact hd; exact h i
  | s + 1, f, h, i => by
    unfold insS
    split
    · refine insS_lt hd (fun j => ?_) i
      unfold upN; split; exact h s; exact h j
    · unfold upN; split; exact hd; exact h i
theorem srt_lt (l : Nat → Nat) : ∀ n i, srt l n i < n + 1
  | 0, i => by unfold srt; omega
  | n + 1, i => insS_lt (by omega) (fun j => by have := srt_lt l n j; omega) i
theorem insS_keep {l : Nat → Nat} {d : Nat} : ∀ {s : Nat} {f : Nat → Nat} {i : Nat}, s < i → insS l d s f i = f i
  | 0, f, i, h => by unfold insS; exact upN_n _ _ (by omega)
  | s + 1, f, i, h => by
    unfold insS
    split
    · rw [insS_keep (by omega), upN_n _ _ (by omega)]
    · exact upN_n _ _ (by omega)
/-- rows in range of the real entries -/
theorem insS_lt' {l : Nat → Nat} {d n m : Nat} (hd : d < n) : ∀ {s : Nat} {f : Nat → Nat}, s ≤ m → (∀ i, i ≤ m → i ≠ s → f i < n) → ∀ i, i ≤ m → insS l d s f i < n
  | 0, f, hs, h, i, hi => by unfold insS upN; split; exact hd; exact h i hi (by omega)
  | s + 1, f, hs, h, i, hi => by
    unfold insS
    split
    · refine insS_lt' hd (by omega) (fun j hj hjs => ?_) i hi
      unfold upN; split; exact h s (by omega) (by omega); exact h j hj (by omega)
    · unfold upN; split; exact hd; exact h i hi (by omega)
theorem srt_in (l : Nat → Nat) : ∀ n i, i < n → srt l n i < n
  | 0, i, h => by omega
  | n + 1, i, h => insS_lt' (m := n) (by omega) (by omega) (fun j hj hjn => by have := srt_in l n j (by omega); omega) i (by omega)
theorem insS_cong {l l' : Nat → Nat} {d n : Nat} (hl : ∀ i, i < n → l i = l' i) (hd : d < n) : ∀ {s : Nat} {f : Nat → Nat}, (∀ i, i < s → f i < n) → insS l d s f = insS l' d s f
  | 0, f, h => rfl
  | s + 1, f, h => by
    unfold insS
    rw [hl d hd, hl (f s) (h s (by omega))]
    split
    · exact insS_cong hl hd (fun i hi => by rw [upN_n _ _ (by omega)]; exact h i (by omega))
    · rfl
theorem srt_cong {l l' : Nat → Nat} : ∀ {n : Nat}, (∀ i, i < n → l i = l' i) → srt l n = srt l' n
  | 0, _ => rfl
  | n + 1, h => by
    unfold srt
    rw [srt_cong (fun i hi => h i (by omega))]
    exact insS_cong (n := n + 1) h (by omega) (fun i hi => by have := srt_in l' n i hi; omega)
/-- the ducts of a way as a set; its length -/
def wyB (X : aX) (w : Nat) : Nat := orF (fun i => 2 ^ X 12 (10 * w + i)) (X 11 w)
def wyL (X : aX) (w : Nat) : Nat := fb_sm (fun i => X 3 (X 12 (10 * w + i))) (X 11 w)
def apM (X : aX) (a : Nat) : Nat := orF (fun b => X 13 (4 * a + b) * 2 ^ b) 4
-- ranges
def xD (X : aX) : Prop := X 0 0 ≤ 16 ∧ ∀ d, d < X 0 0 → X 1 d < 10 ∧ X 2 d < 10 ∧ X 1 d ≠ X 2 d ∧ 1 ≤ X 3 d ∧ X 3 d ≤ 99 ∧ 1 ≤ X 4 d ∧ X 4 d ≤ 300
def xW (X : aX) : Prop := X 5 0 ≤ 20 ∧ (∀ w, w < X 5 0 → X 6 w < 10 ∧ X 7 w < 10 ∧ X 6 w ≠ X 7 w ∧ 1 ≤ X 8 w ∧ X 8 w ≤ 50 ∧ X 9 w < 4) ∧ ∀ w, w < 20 → X 10 w < 256
def xY (X : aX) : Prop := ∀ w, w < 20 → X 11 w ≤ 9 ∧ (X 5 0 ≤ w → X 11 w = 0) ∧ (∀ i, i < X 11 w → X 12 (10 * w + i) < X 0 0) ∧ ∀ i j, i < j → j < X 11 w → X 12 (10 * w + i) ≠ X 12 (10 * w + j)
def xA (X : aX) : Prop := ∀ a b, a < 4 → b < 4 → X 13 (4 * a + b) ≤ 1 ∧ X 13 (4 * a + b) = X 13 (4 * b + a)
def xO (X : aX) : Prop := X 14 0 ≤ 8 ∧ (∀ o, o < X 14 0 → X 15 o < 256 ∧ 1 ≤ X 16 o ∧ X 16 o ≤ 1000) ∧ X 17 0 ≤ 100000
def xN (X : aX) : Prop := ∀ p, p < 16 → X 18 p < 8
def xOK (X : aX) : Prop := xD X ∧ xW X ∧ xY X ∧ xA X ∧ xO X ∧ xN X
-- the class's cells
def cD (μ : aMem) (X : aX) : Prop := μ.1 1 0 = nI (X 0 0) ∧ rp (μ.1 7) (X 1) (X 0 0) ∧ rp (μ.1 8) (X 2) (X 0 0) ∧ rp (μ.1 9) (fun d => 2 ^ X 1 d ||| 2 ^ X 2 d) (X 0 0) ∧ rp (μ.1 10) (X 3) (X 0 0) ∧ rp (μ.1 11) (X 4) (X 0 0) ∧ rp (μ.1 12) (srt (X 3) (X 0 0)) (X 0 0)
def cW (μ : aMem) (X : aX) : Prop := μ.1 2 0 = nI (X 5 0) ∧ rp (μ.1 13) (X 6) (X 5 0) ∧ rp (μ.1 14) (X 7) (X 5 0) ∧ rp (μ.1 15) (X 8) (X 5 0) ∧ rp (μ.1 16) (X 9) (X 5 0) ∧ rp (μ.1 17) (X 10) 20
def cY (μ : aMem) (X : aX) : Prop := rp (μ.1 18) (wyB X) 20 ∧ rp (μ.1 19) (wyL X) 20 ∧ ∀ w, w < 20 → ∀ i, i < X 11 w → μ.1 20 (9 * w + i) = nI (X 12 (10 * w + i))
def cA (μ : aMem) (X : aX) : Prop := rp (μ.1 21) (apM X) 4
def cO (μ : aMem) (X : aX) : Prop := μ.1 5 0 = nI (X 14 0) ∧ μ.1 5 1 = nI (X 17 0) ∧ rp (μ.1 28) (X 15) (X 14 0) ∧ rp (μ.1 29) (X 16) (X 14 0)
def cN (μ : aMem) (X : aX) : Prop := rp (μ.1 35) (X 18) 16
-- the reference's cells
def mD (μ : aMem) (X : aX) : Prop := μ.1 36 0 = nI (X 0 0) ∧ rp (μ.1 37) (X 1) (X 0 0) ∧ rp (μ.1 38) (X 2) (X 0 0) ∧ rp (μ.1 39) (X 3) (X 0 0) ∧ rp (μ.1 40) (X 4) (X 0 0)
def mW (μ : aMem) (X : aX) : Prop := μ.1 36 5 = nI (X 5 0) ∧ rp (μ.1 41) (X 6) (X 5 0) ∧ rp (μ.1 42) (X 7) (X 5 0) ∧ rp (μ.1 43) (X 8) (X 5 0) ∧ rp (μ.1 44) (X 9) (X 5 0) ∧ rp (μ.1 45) (X 10) 20
def mY (μ : aMem) (X : aX) : Prop := rp (μ.1 46) (X 11) 20 ∧ ∀ w, w < 20 → ∀ i, i < X 11 w → μ.1 47 (10 * w + i) = nI (X 12 (10 * w + i))
def mA (μ : aMem) (X : aX) : Prop := rp (μ.1 48) (X 13) 16
def mO (μ : aMem) (X : aX) : Prop := μ.1 36 22 = nI (X 14 0) ∧ μ.1 36 25 = nI (X 17 0) ∧ rp (μ.1 57) (X 15) (X 14 0) ∧ rp (μ.1 58) (X 16) (X 14 0)
def mN (μ : aMem) (X : aX) : Prop := rp (μ.1 62) (X 18) 16
def mR (μ : aMem) (X : aX) : Prop := mD μ X ∧ mW μ X ∧ mY μ X ∧ mA μ X ∧ mO μ X ∧ mN μ X
-- what other cells do to them
theorem cD.kept {μ ν : aMem} {X : aX} (h : cD μ X) (hk : ∀ k, k = 1 ∨ (7 ≤ k ∧ k ≤ 12) → ν.1 k = μ.1 k) : cD ν X := by
  unfold cD; rw [hk 1 (by omega), hk 7 (by omega), hk 8 (by omega), hk 9 (by omega), hk 10 (by omega), hk 11 (by omega), hk 12 (by omega)]; exact h
theorem cW.kept {μ ν : aMem} {X : aX} (h : cW μ X) (hk : ∀ k, k = 2 ∨ (13 ≤ k ∧ k ≤ 17) → ν.1 k = μ.1 k) : cW ν X := by
  unfold cW; rw [hk 2 (by omega), hk 13 (by omega), hk 14 (by omega), hk 15 (by omega), hk 16 (by omega), hk 17 (by omega)]; exact h
theorem cY.kept {μ ν : aMem} {X : aX} (h : cY μ X) (hk : ∀ k, 18 ≤ k ∧ k ≤ 20 → ν.1 k = μ.1 k) : cY ν X := by
  unfold cY; rw [hk 18 (by omega), hk 19 (by omega), hk 20 (by omega)]; exact h
theorem cA.kept {μ ν : aMem} {X : aX} (h : cA μ X) (hk : ν.1 21 = μ.1 21) : cA ν X := by unfold cA; rw [hk]; exact h
theorem cN.kept {μ ν : aMem} {X : aX} (h : cN μ X) (hk : ν.1 35 = μ.1 35) : cN ν X := by unfold cN; rw [hk]; exact h
theorem mR.kept {μ ν : aMem} {X : aX} (h : mR μ X) (hk : ∀ k, 36 ≤ k → ν.1 k = μ.1 k) : mR ν X := by
  unfold mR mD mW mY mA mO mN
  rw [hk 36 (by omega), hk 37 (by omega), hk 38 (by omega), hk 39 (by omega), hk 40 (by omega), hk 41 (by omega), hk 42 (by omega), hk 43 (by omega), hk 44 (by omega), hk 45 (by omega), hk 46 (by omega), hk 47 (by omega), hk 48 (by omega), hk 57 (by omega), hk 58 (by omega), hk 62 (by omega)]
  exact h
/-- cells that reference calls leave; that class calls leave -/
def loS (μ ν : aMem) : Prop := ∀ k, k < 36 → ν.1 k = μ.1 k ∧ ν.2 k = μ.2 k
def hiS (μ ν : aMem) : Prop := ∀ k, 36 ≤ k → ν.1 k = μ.1 k ∧ ν.2 k = μ.2 k
theorem a_self1 (f : Nat → Nat → Int32) (k : Nat) : va_up f k (f k) = f := by
  funext j
  by_cases e : j = k
  · rw [e, va_up_self]
  · rw [va_up_ne _ _ e]
theorem a_self (μ : aMem) (k : Nat) : μ = (va_up μ.1 k (μ.1 k), μ.2) := by rw [a_self1]
section SORT
variable {G : aG} {μ : aMem}
theorem r_X0_sortIn {l f : Nat → Nat} {d : Nat} (hd : d < 16) (hl : rp (μ.1 10) l (d + 1)) (hf : ∀ i, i < d → μ.1 12 i = nI (f i)) (hfl : ∀ i, i < d → f i < d) (hlb : ∀ i, i ≤ d → l i < 2 ^ 31) :
    a_Spec G sX0_sortIn [.ref 1, .int (nI d)] μ (fun v ν => v = none ∧ ∃ g, ν = (va_up μ.1 12 g, μ.2) ∧ rp g (insS l d d f) (d + 1)) := by
  refine w_X0_sortIn_0 _ ?_
  have key : ∀ (s : Nat) (f : Nat → Nat) (c : Nat → Int32), s ≤ d → (∀ i, i ≤ d → i ≠ s → c i = nI (f i)) → (∀ i, i ≤ d → i ≠ s → f i < d) → ∀ (post : aPost), (∀ g, rp g (insS l d s f) (d + 1) → post none (va_up μ.1 12 g, μ.2)) → a_Runs G sX0_sortIn 2 [(0, .ref 1), (1, .int (nI d)), (2, .int (nI s))] [] (va_up μ.1 12 c, μ.2) post := by
    intro s
    induction s with
    | zero =>
      intro f c _ hc hfl post hp
      refine w_X0_sortIn_2 _ _ ⟨fun _ => ?_, fun h => absurd (by rw [q_le0] <;> omega) h⟩
      rw [q_in (by omega), q_cl (by omega)]
      refine ⟨by omega, ?_⟩
      have e : (va_up (va_up μ.1 12 c) 12 (upd ((va_up μ.1 12 c) 12) 0 (nI d)), μ.2) = ((va_up μ.1 12 (upd c 0 (nI d)), μ.2) : aMem) := by rw [bx_uu, va_up_self]
      rw [e]
      refine hp _ (fun i hi => ?_)
      unfold insS
      by_cases ei : i = 0
      · subst ei; rw [pk_us, upN_s]
      · rw [pk_un ei, upN_n _ _ ei]; exact hc i (by omega) ei
    | succ s ih =>
      intro f c hs hc hfl post hp
      have e10 : (va_up μ.1 12 c) 10 = μ.1 10 := va_up_ne _ _ (by omega)
      have e12 : (va_up μ.1 12 c) 12 = c := va_up_self _ _ _
      have hfs := hfl s (by omega) (by omega)
      refine w_X0_sortIn_2 _ _ ⟨fun h => ?_, fun _ => ?_⟩
      · rw [q_le0 (by omega)] at h; omega
      show _ ∧ _
      simp only [e10, e12]
      rw [q_sub (by omega), Nat.add_sub_cancel, q_in (by omega), q_cl (by omega), hc s (by omega) (by omega), q_in (by omega), q_in (by omega), q_cl (by omega), q_cl (by omega), hl _ (by omega), hl d (by omega), q_le (hlb _ (by omega)) (hlb _ (by omega)), q_in (by omega), q_cl (by omega), q_m1 (by omega), Nat.add_sub_cancel]
      refine ⟨by omega, by omega, by omega, fun h => ⟨by omega, ?_⟩, fun h => ⟨by omega, by omega, ?_⟩⟩
      · have e : (va_up (va_up μ.1 12 c) 12 (upd c (s + 1) (nI d)), μ.2) = ((va_up μ.1 12 (upd c (s + 1) (nI d)), μ.2) : aMem) := by rw [bx_uu]
        rw [e]
        refine hp _ (fun i hi => ?_)
        unfold insS
        rw [if_neg (by omega)]
        by_cases ei : i = s + 1
        · subst ei; rw [pk_us, upN_s]
        · rw [pk_un ei, upN_n _ _ ei]; exact hc i (by omega) ei
      · have e : (va_up (va_up μ.1 12 c) 12 (upd c (s + 1) (nI (f s))), μ.2) = ((va_up μ.1 12 (upd c (s + 1) (nI (f s))), μ.2) : aMem) := by rw [bx_uu]
        rw [e]
        refine ih (upN f (s + 1) (f s)) _ (by omega) (fun i hi his => ?_) (fun i hi his => ?_) post (fun g hg => hp g ?_)
        · by_cases ei : i = s + 1
          · subst ei; rw [pk_us, upN_s]
          · rw [pk_un ei, upN_n _ _ ei]; exact hc i hi ei
        · by_cases ei : i = s + 1
          · subst ei; rw [upN_s]; exact hfs
          · rw [upN_n _ _ ei]; exact hfl i hi ei
        · unfold insS; rw [if_pos (by omega)]; exact hg
  have e0 : μ = (va_up μ.1 12 (μ.1 12), μ.2) := a_self μ 12
  rw [e0]
  exact key d f (μ.1 12) (by omega) (fun i hi his => hf i (by omega)) (fun i hi his => hfl i (by omega)) _ (fun g hg => ⟨rfl, g, by rw [← e0], hg⟩)
end SORT
end
section
/-! ===== duct, wire, option, order, setup: one function for both sides ===== -/
theorem inB_cl {x : Int32} {a b : Nat} (hb : b < 2 ^ 31) (ha : a < 2 ^ 31) (h : inB x (nI a) (nI b) = true) : x = nI x.toNatClampNeg ∧ a ≤ x.toNatClampNeg ∧ x.toNatClampNeg ≤ b := by
  obtain ⟨j, h1, h2, rfl⟩ := inB_e hb h ha
  rw [q_cl (by omega)]; exact ⟨rfl, h1, h2⟩
theorem inB_wi {x : Int32} {n : Nat} (hn : n < 2 ^ 30) (h : inB x (nI 0) (nI n - nI 1) = true) : x = nI x.toNatClampNeg ∧ x.toNatClampNeg < n := by
  obtain ⟨j, h1, rfl⟩ := (inB_m1 hn).mp h
  rw [q_cl (by omega)]; exact ⟨rfl, h1⟩
theorem rp_at {c : Nat → Int32} {f : Nat → Nat} {N v k : Nat} {x : Int32} (h : rp c f N) (hx : x = nI v) : rp (upd c k x) (upN f k v) N := by
  intro i hi
  by_cases e : i = k
  · subst e; rw [pk_us, upN_s, hx]
  · rw [pk_un e, upN_n _ _ e]; exact h i hi
theorem rp_push {c : Nat → Int32} {f : Nat → Nat} {N v : Nat} {x : Int32} (h : rp c f N) (hx : x = nI v) : rp (upd c N x) (upN f N v) (N + 1) := by
  intro i hi
  by_cases e : i = N
  · subst e; rw [pk_us, upN_s, hx]
  · rw [pk_un e, upN_n _ _ e]; exact h i (by omega)
theorem rp_cong {c : Nat → Int32} {f g : Nat → Nat} {N : Nat} (h : rp c f N) (e : ∀ i, i < N → f i = g i) : rp c g N := fun i hi => by rw [← e i hi]; exact h i hi
theorem rp_le {c : Nat → Int32} {f : Nat → Nat} {N M : Nat} (h : rp c f N) (e : M ≤ N) : rp c f M := fun i hi => h i (by omega)
def dX (X : aX) (a b l r : Nat) : aX := va_up (va_up (va_up (va_up (va_up X 1 (upN (X 1) (X 0 0) a)) 2 (upN (X 2) (X 0 0) b)) 3 (upN (X 3) (X 0 0) l)) 4 (upN (X 4) (X 0 0) r)) 0 (upN (X 0) 0 (X 0 0 + 1))
def fDuct (X : aX) (x1 x2 x3 x4 : Int32) : Int32 × aX :=
  if inB x1 (nI 0) (nI 9) && inB x2 (nI 0) (nI 9) then
    if inB x3 (nI 1) (nI 99) && inB x4 (nI 1) (nI 300) then
      if x1 = x2 then (-3, X) else
        if X 0 0 < 16 then (nI (X 0 0), dX X x1.toNatClampNeg x2.toNatClampNeg x3.toNatClampNeg x4.toNatClampNeg) else (-4, X)
    else (-2, X)
  else (-1, X)
def wX (X : aX) (a b t k : Nat) : aX := va_up (va_up (va_up (va_up (va_up X 6 (upN (X 6) (X 5 0) a)) 7 (upN (X 7) (X 5 0) b)) 8 (upN (X 8) (X 5 0) t)) 9 (upN (X 9) (X 5 0) k)) 5 (upN (X 5) 0 (X 5 0 + 1))
def fWire (X : aX) (x1 x2 x3 x4 : Int32) : Int32 × aX :=
  if inB x1 (nI 0) (nI 9) && inB x2 (nI 0) (nI 9) then
    if inB x3 (nI 1) (nI 50) && inB x4 (nI 0) (nI 3) then
      if x1 = x2 then (-3, X) else
        if X 5 0 < 20 then (nI (X 5 0), wX X x1.toNatClampNeg x2.toNatClampNeg x3.toNatClampNeg x4.toNatClampNeg) else (-4, X)
    else (-2, X)
  else (-1, X)
def fOption (X : aX) (x1 x2 : Int32) : Int32 × aX :=
  if inB x1 (nI 0) (nI (X 5 0) - nI 1) then
    if inB x2 (nI 0) (nI 255) then (nI (X 10 x1.toNatClampNeg), va_up X 10 (upN (X 10) x1.toNatClampNeg x2.toNatClampNeg)) else (-2, X)
  else (-1, X)
def oX (X : aX) (s p : Nat) : aX := va_up (va_up (va_up X 15 (upN (X 15) (X 14 0) s)) 16 (upN (X 16) (X 14 0) p)) 14 (upN (X 14) 0 (X 14 0 + 1))
def fOrder (X : aX) (x1 x2 : Int32) : Int32 × aX :=
  if inB x1 (nI 0) (nI 255) && inB x2 (nI 1) (nI 1000) then
    if X 14 0 < 8 then (nI (X 14 0), oX X x1.toNatClampNeg x2.toNatClampNeg) else (-4, X)
  else (-2, X)
def fSetup (X : aX) (x : Int32) : Int32 × aX := if inB x (nI 0) (nI 100000) then (nI (X 17 0), va_up X 17 (upN (X 17) 0 x.toNatClampNeg)) else (-2, X)
section OPS
variable {G : aG} {μ : aMem} {X : aX}
theorem c_add (hx : xD X) (hc : cD μ X) (hn : X 0 0 < 16) {a b l r : Nat} (hl : l ≤ 99) (ha : a < 10) (hb : b < 10) : a_Spec G sX0_add [.ref 1, .int (nI a), .int (nI b), .int (nI l), .int (nI r)] μ (fun v ν => v = some (.int (nI (X 0 0))) ∧ cD ν (dX X a b l r) ∧ a_eqx [1, 7, 8, 9, 10, 11, 12] μ ν) := by
  obtain ⟨c0, c1, c2, c3, c4, c5, c6⟩ := hc
  have hsc : srt (upN (X 3) (X 0 0) l) (X 0 0) = srt (X 3) (X 0 0) := srt_cong (fun i hi => upN_n _ _ (by omega))
  refine w_X0_add_0 _ _ _ _ ?_
  rw [c0, q_in (by omega), q_cl (by omega), q_pow (by omega), q_pow (by omega), fa_or, nI_add]
  refine ⟨hn, hn, hn, hn, hn, (r_X0_sortIn (l := upN (X 3) (X 0 0) l) (f := srt (X 3) (X 0 0)) hn ?_ ?_ ?_ ?_).mono ?_⟩
  · exact rp_push c4 rfl
  · exact fun i hi => c6 i hi
  · exact fun i hi => srt_in _ _ i hi
  · intro i hi
    by_cases e : i = X 0 0
    · rw [e, upN_s]; omega
    · rw [upN_n _ _ e]; have := (hx.2 i (by omega)); omega
  · rintro v ν ⟨rfl, g, rfl, hg⟩
    refine ⟨rfl, rfl, ⟨?_, ?_, ?_, ?_, ?_, ?_, ?_⟩, ?_⟩
    · show upd (μ.1 1) 0 (nI (X 0 0 + 1)) 0 = nI (upN (X 0) 0 (X 0 0 + 1) 0)
      rw [pk_us, upN_s]
    · show rp (upd (μ.1 7) (X 0 0) (nI a)) (upN (X 1) (X 0 0) a) (upN (X 0) 0 (X 0 0 + 1) 0)
      rw [upN_s]; exact rp_push c1 rfl
    · show rp (upd (μ.1 8) (X 0 0) (nI b)) (upN (X 2) (X 0 0) b) (upN (X 0) 0 (X 0 0 + 1) 0)
      rw [upN_s]; exact rp_push c2 rfl
    · show rp (upd (μ.1 9) (X 0 0) (nI (2 ^ a ||| 2 ^ b))) (fun d => 2 ^ upN (X 1) (X 0 0) a d ||| 2 ^ upN (X 2) (X 0 0) b d) (upN (X 0) 0 (X 0 0 + 1) 0)
      rw [upN_s]
      refine rp_cong (rp_push c3 rfl) (fun i hi => ?_)
      by_cases e : i = X 0 0
      · rw [e, upN_s, upN_s, upN_s]
      · rw [upN_n _ _ e, upN_n _ _ e, upN_n _ _ e]
    · show rp (upd (μ.1 10) (X 0 0) (nI l)) (upN (X 3) (X 0 0) l) (upN (X 0) 0 (X 0 0 + 1) 0)
      rw [upN_s]; exact rp_push c4 rfl
    · show rp (upd (μ.1 11) (X 0 0) (nI r)) (upN (X 4) (X 0 0) r) (upN (X 0) 0 (X 0 0 + 1) 0)
      rw [upN_s]; exact rp_push c5 rfl
    · show rp g (srt (upN (X 3) (X 0 0) l) (upN (X 0) 0 (X 0 0 + 1) 0)) (upN (X 0) 0 (X 0 0 + 1) 0)
      rw [upN_s]
      show rp g (insS (upN (X 3) (X 0 0) l) (X 0 0) (X 0 0) (srt (upN (X 3) (X 0 0) l) (X 0 0))) (X 0 0 + 1)
      rw [hsc]; exact hg
    · intro k hk
      simp only [List.mem_cons, List.not_mem_nil, or_false, not_or] at hk
      obtain ⟨k1, k7, k8, k9, k10, k11, k12⟩ := hk
      refine ⟨?_, rfl⟩
      show va_up (va_up (va_up (va_up (va_up (va_up (va_up μ.1 7 _) 8 _) 9 _) 10 _) 11 _) 12 _) 1 _ k = _
      rw [va_up_ne _ _ k1, va_up_ne _ _ k12, va_up_ne _ _ k11, va_up_ne _ _ k10, va_up_ne _ _ k9, va_up_ne _ _ k8, va_up_ne _ _ k7]
theorem c_duct (hx : xD X) (hc : cD μ X) (x1 x2 x3 x4 : Int32) : a_Spec G sX6_duct [.ref 0, .int x1, .int x2, .int x3, .int x4] μ (fun v ν => v = some (.int (fDuct X x1 x2 x3 x4).1) ∧ cD ν (fDuct X x1 x2 x3 x4).2 ∧ a_eqx [1, 7, 8, 9, 10, 11, 12] μ ν) := by
  have hn := hx.1
  refine w_X6_duct_0 _ _ _ _ (r_X6_isPlace _ _ ⟨_, rfl, br_b (fun h1 => ?_) (fun h1 => r_X6_isPlace _ _ ⟨_, rfl, br_n (fun h2 => r_X6_isWithin _ _ _ _ ⟨_, rfl, br_b (fun h3 => ?_) (fun h3 => r_X6_isWithin _ _ _ _ ⟨_, rfl, br_n (fun h4 => br_d (fun h5 => ⟨fun h6 => ?_, fun h6 => ?_⟩) (fun h5 => ?_)) (fun h4 => ?_)⟩)⟩) (fun h2 => ?_)⟩)⟩)
  · have e : fDuct X x1 x2 x3 x4 = (-1, X) := by simp [fDuct, h1]
    rw [e]; exact ⟨rfl, hc, a_eqx.rf _ _⟩
  · have e : fDuct X x1 x2 x3 x4 = (-2, X) := by simp [fDuct, h1, h2, h3]
    rw [e]; exact ⟨rfl, hc, a_eqx.rf _ _⟩
  · rw [hc.1, q_lt (by omega) (by omega)] at h6
    have e : fDuct X x1 x2 x3 x4 = (nI (X 0 0), dX X x1.toNatClampNeg x2.toNatClampNeg x3.toNatClampNeg x4.toNatClampNeg) := by simp [fDuct, h1, h2, h3, h4, h5, h6]
    rw [e]
    obtain ⟨e1, -, b1⟩ := inB_cl (by decide) (by decide) h1
    obtain ⟨e2, -, b2⟩ := inB_cl (by decide) (by decide) h2
    obtain ⟨e3, -, b3⟩ := inB_cl (by decide) (by decide) h3
    obtain ⟨e4, -, b4⟩ := inB_cl (by decide) (by decide) h4
    have key := c_add (G := G) hx hc h6 (a := x1.toNatClampNeg) (b := x2.toNatClampNeg) (l := x3.toNatClampNeg) (r := x4.toNatClampNeg) b3 (by omega) (by omega)
    rw [← e1, ← e2, ← e3, ← e4] at key
    exact key.mono (fun v ν h => ⟨_, h.1, rfl, h.2⟩)
  · rw [hc.1, q_lt (by omega) (by omega)] at h6
    have e : fDuct X x1 x2 x3 x4 = (-4, X) := by simp [fDuct, h1, h2, h3, h4, h5, h6]
    rw [e]; exact ⟨rfl, hc, a_eqx.rf _ _⟩
  · have e : fDuct X x1 x2 x3 x4 = (-3, X) := by subst h5; simp [fDuct, h1, h3, h4]
    rw [e]; exact ⟨rfl, hc, a_eqx.rf _ _⟩
  · have e : fDuct X x1 x2 x3 x4 = (-2, X) := by simp [fDuct, h1, h2, h3, h4]
    rw [e]; exact ⟨rfl, hc, a_eqx.rf _ _⟩
  · have e : fDuct X x1 x2 x3 x4 = (-1, X) := by simp [fDuct, h1, h2]
    rw [e]; exact ⟨rfl, hc, a_eqx.rf _ _⟩
theorem m_duct (hx : xD X) (hm : mD μ X) (x1 x2 x3 x4 : Int32) : a_Spec G sX7_duct [.ref 36, .int x1, .int x2, .int x3, .int x4] μ (fun v ν => v = some (.int (fDuct X x1 x2 x3 x4).1) ∧ mD ν (fDuct X x1 x2 x3 x4).2 ∧ a_eqx [36, 37, 38, 39, 40] μ ν ∧ ∀ j, j ≠ 0 → ν.1 36 j = μ.1 36 j) := by
  have hn := hx.1
  refine w_X7_duct_0 _ _ _ _ (r_X7_isPlace _ _ ⟨_, rfl, br_b (fun h1 => ?_) (fun h1 => r_X7_isPlace _ _ ⟨_, rfl, br_n (fun h2 => r_X7_in _ _ _ _ ⟨_, rfl, br_b (fun h3 => ?_) (fun h3 => r_X7_in _ _ _ _ ⟨_, rfl, br_n (fun h4 => br_d (fun h5 => br_d (fun h6 => ?_) (fun h6 => ?_)) (fun h5 => ?_)) (fun h4 => ?_)⟩)⟩) (fun h2 => ?_)⟩)⟩)
  · have e : fDuct X x1 x2 x3 x4 = (-1, X) := by simp [fDuct, h1]
    rw [e]; exact ⟨rfl, hm, a_eqx.rf _ _, fun _ _ => rfl⟩
  · have e : fDuct X x1 x2 x3 x4 = (-2, X) := by simp [fDuct, h1, h2, h3]
    rw [e]; exact ⟨rfl, hm, a_eqx.rf _ _, fun _ _ => rfl⟩
  · obtain ⟨c0, c1, c2, c3, c4⟩ := hm
    rw [c0, q_eq (by omega) (by omega)] at h6
    have h7 : X 0 0 < 16 := by omega
    have e : fDuct X x1 x2 x3 x4 = (nI (X 0 0), dX X x1.toNatClampNeg x2.toNatClampNeg x3.toNatClampNeg x4.toNatClampNeg) := by simp [fDuct, h1, h2, h3, h4, h5, h7]
    rw [e, c0, q_in (by omega), q_cl (by omega), pk_us, nI_add, q_sub (by omega), Nat.add_sub_cancel]
    obtain ⟨e1, -, b1⟩ := inB_cl (by decide) (by decide) h1
    obtain ⟨e2, -, b2⟩ := inB_cl (by decide) (by decide) h2
    obtain ⟨e3, -, b3⟩ := inB_cl (by decide) (by decide) h3
    obtain ⟨e4, -, b4⟩ := inB_cl (by decide) (by decide) h4
    refine ⟨h7, h7, h7, h7, rfl, ⟨?_, ?_, ?_, ?_, ?_⟩, ?_, ?_⟩
    · show upd (μ.1 36) 0 (nI (X 0 0 + 1)) 0 = nI (upN (X 0) 0 (X 0 0 + 1) 0)
      rw [pk_us, upN_s]
    · show rp (upd (μ.1 37) (X 0 0) x1) (upN (X 1) (X 0 0) x1.toNatClampNeg) (upN (X 0) 0 (X 0 0 + 1) 0)
      rw [upN_s]; exact rp_push c1 e1
    · show rp (upd (μ.1 38) (X 0 0) x2) (upN (X 2) (X 0 0) x2.toNatClampNeg) (upN (X 0) 0 (X 0 0 + 1) 0)
      rw [upN_s]; exact rp_push c2 e2
    · show rp (upd (μ.1 39) (X 0 0) x3) (upN (X 3) (X 0 0) x3.toNatClampNeg) (upN (X 0) 0 (X 0 0 + 1) 0)
      rw [upN_s]; exact rp_push c3 e3
    · show rp (upd (μ.1 40) (X 0 0) x4) (upN (X 4) (X 0 0) x4.toNatClampNeg) (upN (X 0) 0 (X 0 0 + 1) 0)
      rw [upN_s]; exact rp_push c4 e4
    · intro k hk
      simp only [List.mem_cons, List.not_mem_nil, or_false, not_or] at hk
      obtain ⟨k1, k7, k8, k9, k10⟩ := hk
      refine ⟨?_, rfl⟩
      show va_up (va_up (va_up (va_up (va_up μ.1 37 _) 38 _) 39 _) 40 _) 36 _ k = _
      rw [va_up_ne _ _ k1, va_up_ne _ _ k10, va_up_ne _ _ k9, va_up_ne _ _ k8, va_up_ne _ _ k7]
    · intro j hj
      show upd (μ.1 36) 0 _ j = _
      exact pk_un hj
  · rw [hm.1, q_eq (by omega) (by omega)] at h6
    have e : fDuct X x1 x2 x3 x4 = (-4, X) := by simp [fDuct, h1, h2, h3, h4, h5, h6]
    rw [e]; exact ⟨rfl, hm, a_eqx.rf _ _, fun _ _ => rfl⟩
  · have e : fDuct X x1 x2 x3 x4 = (-3, X) := by subst h5; simp [fDuct, h1, h3, h4]
    rw [e]; exact ⟨rfl, hm, a_eqx.rf _ _, fun _ _ => rfl⟩
  · have e : fDuct X x1 x2 x3 x4 = (-2, X) := by simp [fDuct, h1, h2, h3, h4]
    rw [e]; exact ⟨rfl, hm, a_eqx.rf _ _, fun _ _ => rfl⟩
  · have e : fDuct X x1 x2 x3 x4 = (-1, X) := by simp [fDuct, h1, h2]
    rw [e]; exact ⟨rfl, hm, a_eqx.rf _ _, fun _ _ => rfl⟩
end OPS
end
section
section OPS2
variable {G : aG} {μ : aMem} {X : aX}
theorem c_wire (hx : xW X) (hc : cW μ X) (x1 x2 x3 x4 : Int32) : a_Spec G sX6_wire [.ref 0, .int x1, .int x2, .int x3, .int x4] μ (fun v ν => v = some (.int (fWire X x1 x2 x3 x4).1) ∧ cW ν (fWire X x1 x2 x3 x4).2 ∧ a_eqx [2, 5, 13, 14, 15, 16] μ ν ∧ (∀ j, j ≠ 2 → ν.1 5 j = μ.1 5 j) ∧ (ν = μ ∧ (fWire X x1 x2 x3 x4).2 = X ∨ ν.1 5 2 = nI 1)) := by
  have hn := hx.1
  refine w_X6_wire_0 _ _ _ _ (r_X6_isPlace _ _ ⟨_, rfl, br_b (fun h1 => ?_) (fun h1 => r_X6_isPlace _ _ ⟨_, rfl, br_n (fun h2 => r_X6_isWithin _ _ _ _ ⟨_, rfl, br_b (fun h3 => ?_) (fun h3 => r_X6_isKind _ _ ⟨_, rfl, br_n (fun h4 => br_d (fun h5 => ⟨fun h6 => ⟨nI_11, ?_⟩, fun h6 => ?_⟩) (fun h5 => ?_)) (fun h4 => ?_)⟩)⟩) (fun h2 => ?_)⟩)⟩)
  · have e : fWire X x1 x2 x3 x4 = (-1, X) := by simp [fWire, h1]
    rw [e]; exact ⟨rfl, hc, a_eqx.rf _ _, fun _ _ => rfl, Or.inl ⟨rfl, rfl⟩⟩
  · have e : fWire X x1 x2 x3 x4 = (-2, X) := by simp [fWire, h1, h2, h3]
    rw [e]; exact ⟨rfl, hc, a_eqx.rf _ _, fun _ _ => rfl, Or.inl ⟨rfl, rfl⟩⟩
  · obtain ⟨c0, c1, c2, c3, c4, c5⟩ := hc
    rw [c0, q_lt (by omega) (by omega)] at h6
    have e : fWire X x1 x2 x3 x4 = (nI (X 5 0), wX X x1.toNatClampNeg x2.toNatClampNeg x3.toNatClampNeg x4.toNatClampNeg) := by simp [fWire, h1, h2, h3, h4, h5, h6]
    rw [e]
    obtain ⟨e1, -, b1⟩ := inB_cl (by decide) (by decide) h1
    obtain ⟨e2, -, b2⟩ := inB_cl (by decide) (by decide) h2
    obtain ⟨e3, -, b3⟩ := inB_cl (by decide) (by decide) h3
    obtain ⟨e4, -, b4⟩ := inB_cl (by decide) (by decide) h4
    refine w_X5_add_0 _ _ _ _ ?_
    have f2 : ((va_up μ.1 5 (upd (μ.1 5) 2 (nI 1)), μ.2) : aMem).1 2 = μ.1 2 := rfl
    rw [f2, c0, q_in (by omega), q_cl (by omega), nI_add]
    refine ⟨h6, h6, h6, h6, _, rfl, rfl, ⟨?_, ?_, ?_, ?_, ?_, ?_⟩, ?_, ?_, Or.inr ?_⟩
    · show upd (μ.1 2) 0 (nI (X 5 0 + 1)) 0 = nI (upN (X 5) 0 (X 5 0 + 1) 0)
      rw [pk_us, upN_s]
    · show rp (upd (μ.1 13) (X 5 0) x1) (upN (X 6) (X 5 0) x1.toNatClampNeg) (upN (X 5) 0 (X 5 0 + 1) 0)
      rw [upN_s]; exact rp_push c1 e1
    · show rp (upd (μ.1 14) (X 5 0) x2) (upN (X 7) (X 5 0) x2.toNatClampNeg) (upN (X 5) 0 (X 5 0 + 1) 0)
      rw [upN_s]; exact rp_push c2 e2
    · show rp (upd (μ.1 15) (X 5 0) x3) (upN (X 8) (X 5 0) x3.toNatClampNeg) (upN (X 5) 0 (X 5 0 + 1) 0)
      rw [upN_s]; exact rp_push c3 e3
    · show rp (upd (μ.1 16) (X 5 0) x4) (upN (X 9) (X 5 0) x4.toNatClampNeg) (upN (X 5) 0 (X 5 0 + 1) 0)
      rw [upN_s]; exact rp_push c4 e4
    · exact c5
    · intro k hk
      simp only [List.mem_cons, List.not_mem_nil, or_false, not_or] at hk
      obtain ⟨k1, k5, k7, k8, k9, k10⟩ := hk
      refine ⟨?_, rfl⟩
      show va_up (va_up (va_up (va_up (va_up (va_up μ.1 5 _) 13 _) 14 _) 15 _) 16 _) 2 _ k = _
      rw [va_up_ne _ _ k1, va_up_ne _ _ k10, va_up_ne _ _ k9, va_up_ne _ _ k8, va_up_ne _ _ k7, va_up_ne _ _ k5]
    · intro j hj
      show upd (μ.1 5) 2 _ j = _
      exact pk_un hj
    · exact pk_us (f := μ.1 5) (k := 2) (x := nI 1)
  · rw [hc.1, q_lt (by omega) (by omega)] at h6
    have e : fWire X x1 x2 x3 x4 = (-4, X) := by simp [fWire, h1, h2, h3, h4, h5, h6]
    rw [e]; exact ⟨rfl, hc, a_eqx.rf _ _, fun _ _ => rfl, Or.inl ⟨rfl, rfl⟩⟩
  · have e : fWire X x1 x2 x3 x4 = (-3, X) := by subst h5; simp [fWire, h1, h3, h4]
    rw [e]; exact ⟨rfl, hc, a_eqx.rf _ _, fun _ _ => rfl, Or.inl ⟨rfl, rfl⟩⟩
  · have e : fWire X x1 x2 x3 x4 = (-2, X) := by simp [fWire, h1, h2, h3, h4]
    rw [e]; exact ⟨rfl, hc, a_eqx.rf _ _, fun _ _ => rfl, Or.inl ⟨rfl, rfl⟩⟩
  · have e : fWire X x1 x2 x3 x4 = (-1, X) := by simp [fWire, h1, h2]
    rw [e]; exact ⟨rfl, hc, a_eqx.rf _ _, fun _ _ => rfl, Or.inl ⟨rfl, rfl⟩⟩
theorem m_wire (hx : xW X) (hm : mW μ X) (x1 x2 x3 x4 : Int32) : a_Spec G sX7_wire [.ref 36, .int x1, .int x2, .int x3, .int x4] μ (fun v ν => v = some (.int (fWire X x1 x2 x3 x4).1) ∧ mW ν (fWire X x1 x2 x3 x4).2 ∧ a_eqx [36, 41, 42, 43, 44] μ ν ∧ ∀ j, j ≠ 5 → ν.1 36 j = μ.1 36 j) := by
  have hn := hx.1
  refine w_X7_wire_0 _ _ _ _ (r_X7_isPlace _ _ ⟨_, rfl, br_b (fun h1 => ?_) (fun h1 => r_X7_isPlace _ _ ⟨_, rfl, br_n (fun h2 => r_X7_in _ _ _ _ ⟨_, rfl, br_b (fun h3 => ?_) (fun h3 => r_X7_in _ _ _ _ ⟨_, rfl, br_n (fun h4 => br_d (fun h5 => br_d (fun h6 => ?_) (fun h6 => ?_)) (fun h5 => ?_)) (fun h4 => ?_)⟩)⟩) (fun h2 => ?_)⟩)⟩)
  · have e : fWire X x1 x2 x3 x4 = (-1, X) := by simp [fWire, h1]
    rw [e]; exact ⟨rfl, hm, a_eqx.rf _ _, fun _ _ => rfl⟩
  · have e : fWire X x1 x2 x3 x4 = (-2, X) := by simp [fWire, h1, h2, h3]
    rw [e]; exact ⟨rfl, hm, a_eqx.rf _ _, fun _ _ => rfl⟩
  · obtain ⟨c0, c1, c2, c3, c4, c5⟩ := hm
    rw [c0, q_eq (by omega) (by omega)] at h6
    have h7 : X 5 0 < 20 := by omega
    have e : fWire X x1 x2 x3 x4 = (nI (X 5 0), wX X x1.toNatClampNeg x2.toNatClampNeg x3.toNatClampNeg x4.toNatClampNeg) := by simp [fWire, h1, h2, h3, h4, h5, h7]
    rw [e, c0, q_in (by omega), q_cl (by omega), pk_us, nI_add, q_sub (by omega), Nat.add_sub_cancel]
    obtain ⟨e1, -, b1⟩ := inB_cl (by decide) (by decide) h1
    obtain ⟨e2, -, b2⟩ := inB_cl (by decide) (by decide) h2
    obtain ⟨e3, -, b3⟩ := inB_cl (by decide) (by decide) h3
    obtain ⟨e4, -, b4⟩ := inB_cl (by decide) (by decide) h4
    refine ⟨h7, h7, h7, h7, rfl, ⟨?_, ?_, ?_, ?_, ?_, ?_⟩, ?_, ?_⟩
    · show upd (μ.1 36) 5 (nI (X 5 0 + 1)) 5 = nI (upN (X 5) 0 (X 5 0 + 1) 0)
      rw [pk_us, upN_s]
    · show rp (upd (μ.1 41) (X 5 0) x1) (upN (X 6) (X 5 0) x1.toNatClampNeg) (upN (X 5) 0 (X 5 0 + 1) 0)
      rw [upN_s]; exact rp_push c1 e1
    · show rp (upd (μ.1 42) (X 5 0) x2) (upN (X 7) (X 5 0) x2.toNatClampNeg) (upN (X 5) 0 (X 5 0 + 1) 0)
      rw [upN_s]; exact rp_push c2 e2
    · show rp (upd (μ.1 43) (X 5 0) x3) (upN (X 8) (X 5 0) x3.toNatClampNeg) (upN (X 5) 0 (X 5 0 + 1) 0)
      rw [upN_s]; exact rp_push c3 e3
    · show rp (upd (μ.1 44) (X 5 0) x4) (upN (X 9) (X 5 0) x4.toNatClampNeg) (upN (X 5) 0 (X 5 0 + 1) 0)
      rw [upN_s]; exact rp_push c4 e4
    · exact c5
    · intro k hk
      simp only [List.mem_cons, List.not_mem_nil, or_false, not_or] at hk
      obtain ⟨k1, k7, k8, k9, k10⟩ := hk
      refine ⟨?_, rfl⟩
      show va_up (va_up (va_up (va_up (va_up μ.1 41 _) 42 _) 43 _) 44 _) 36 _ k = _
      rw [va_up_ne _ _ k1, va_up_ne _ _ k10, va_up_ne _ _ k9, va_up_ne _ _ k8, va_up_ne _ _ k7]
    · intro j hj
      show upd (μ.1 36) 5 _ j = _
      exact pk_un hj
  · rw [hm.1, q_eq (by omega) (by omega)] at h6
    have e : fWire X x1 x2 x3 x4 = (-4, X) := by simp [fWire, h1, h2, h3, h4, h5, h6]
    rw [e]; exact ⟨rfl, hm, a_eqx.rf _ _, fun _ _ => rfl⟩
  · have e : fWire X x1 x2 x3 x4 = (-3, X) := by subst h5; simp [fWire, h1, h3, h4]
    rw [e]; exact ⟨rfl, hm, a_eqx.rf _ _, fun _ _ => rfl⟩
  · have e : fWire X x1 x2 x3 x4 = (-2, X) := by simp [fWire, h1, h2, h3, h4]
    rw [e]; exact ⟨rfl, hm, a_eqx.rf _ _, fun _ _ => rfl⟩
  · have e : fWire X x1 x2 x3 x4 = (-1, X) := by simp [fWire, h1, h2]
    rw [e]; exact ⟨rfl, hm, a_eqx.rf _ _, fun _ _ => rfl⟩
theorem c_option (hx : xW X) (hc : cW μ X) (x1 x2 : Int32) : a_Spec G sX6_option [.ref 0, .int x1, .int x2] μ (fun v ν => v = some (.int (fOption X x1 x2).1) ∧ cW ν (fOption X x1 x2).2 ∧ a_eqx [5, 17] μ ν ∧ (∀ j, j ≠ 2 → ν.1 5 j = μ.1 5 j) ∧ (ν = μ ∧ (fOption X x1 x2).2 = X ∨ ν.1 5 2 = nI 1)) := by
  have hn := hx.1
  obtain ⟨c0, c1, c2, c3, c4, c5⟩ := id hc
  refine w_X6_option_0 _ _ (r_X6_isWire _ _ ⟨_, rfl, br_n (fun h1 => r_X6_isWithin _ _ _ _ ⟨_, rfl, br_n (fun h2 => ?_) (fun h2 => ?_)⟩) (fun h1 => ?_)⟩)
  · rw [c0] at h1
    have e : fOption X x1 x2 = (nI (X 10 x1.toNatClampNeg), va_up X 10 (upN (X 10) x1.toNatClampNeg x2.toNatClampNeg)) := by simp [fOption, h1, h2]
    obtain ⟨e1, b1⟩ := inB_wi (by omega) h1
    obtain ⟨e2, -, b2⟩ := inB_cl (by decide) (by decide) h2
    have hin : vp_in x1 20 := by rw [e1, q_in (by omega)]; omega
    rw [e]
    refine ⟨hin, hin, nI_11, ?_, ⟨c0, c1, c2, c3, c4, ?_⟩, ?_, ?_, Or.inr ?_⟩
    · rw [c5 _ (by omega)]
    · show rp (upd (μ.1 17) x1.toNatClampNeg x2) (upN (X 10) x1.toNatClampNeg x2.toNatClampNeg) 20
      exact rp_at c5 e2
    · intro k hk
      simp only [List.mem_cons, List.not_mem_nil, or_false, not_or] at hk
      refine ⟨?_, rfl⟩
      show va_up (va_up μ.1 17 _) 5 _ k = _
      rw [va_up_ne _ _ hk.1, va_up_ne _ _ hk.2]
    · intro j hj; exact pk_un hj
    · exact pk_us (f := μ.1 5) (k := 2) (x := nI 1)
  · rw [c0] at h1
    have e : fOption X x1 x2 = (-2, X) := by simp [fOption, h1, h2]
    rw [e]; exact ⟨rfl, hc, a_eqx.rf _ _, fun _ _ => rfl, Or.inl ⟨rfl, rfl⟩⟩
  · rw [c0] at h1
    have e : fOption X x1 x2 = (-1, X) := by simp [fOption, h1]
    rw [e]; exact ⟨rfl, hc, a_eqx.rf _ _, fun _ _ => rfl, Or.inl ⟨rfl, rfl⟩⟩
theorem m_option (hx : xW X) (hm : mW μ X) (x1 x2 : Int32) : a_Spec G sX7_option [.ref 36, .int x1, .int x2] μ (fun v ν => v = some (.int (fOption X x1 x2).1) ∧ mW ν (fOption X x1 x2).2 ∧ a_eqx [45] μ ν) := by
  have hn := hx.1
  obtain ⟨c0, c1, c2, c3, c4, c5⟩ := id hm
  refine w_X7_option_0 _ _ (r_X7_isWire _ _ ⟨_, rfl, br_n (fun h1 => r_X7_in _ _ _ _ ⟨_, rfl, br_n (fun h2 => ?_) (fun h2 => ?_)⟩) (fun h1 => ?_)⟩)
  · rw [c0] at h1
    have e : fOption X x1 x2 = (nI (X 10 x1.toNatClampNeg), va_up X 10 (upN (X 10) x1.toNatClampNeg x2.toNatClampNeg)) := by simp [fOption, h1, h2]
    obtain ⟨e1, b1⟩ := inB_wi (by omega) h1
    obtain ⟨e2, -, b2⟩ := inB_cl (by decide) (by decide) h2
    have hin : vp_in x1 20 := by rw [e1, q_in (by omega)]; omega
    rw [e]
    refine ⟨hin, hin, ?_, ⟨c0, c1, c2, c3, c4, ?_⟩, a_eqx.up _ _ _⟩
    · rw [c5 _ (by omega)]
    · show rp (upd (μ.1 45) x1.toNatClampNeg x2) (upN (X 10) x1.toNatClampNeg x2.toNatClampNeg) 20
      exact rp_at c5 e2
  · rw [c0] at h1
    have e : fOption X x1 x2 = (-2, X) := by simp [fOption, h1, h2]
    rw [e]; exact ⟨rfl, hm, a_eqx.rf _ _⟩
  · rw [c0] at h1
    have e : fOption X x1 x2 = (-1, X) := by simp [fOption, h1]
    rw [e]; exact ⟨rfl, hm, a_eqx.rf _ _⟩
theorem c_order (hx : xO X) (hc : cO μ X) (x1 x2 : Int32) : a_Spec G sX6_order [.ref 0, .int x1, .int x2] μ (fun v ν => v = some (.int (fOrder X x1 x2).1) ∧ cO ν (fOrder X x1 x2).2 ∧ a_eqx [5, 28, 29] μ ν ∧ (ν = μ ∧ (fOrder X x1 x2).2 = X ∨ ν.1 5 2 = nI 1)) := by
  have hn := hx.1
  obtain ⟨c0, c1, c2, c3⟩ := id hc
  refine w_X6_order_0 _ _ (r_X6_isWithin _ _ _ _ ⟨_, rfl, br_b (fun h1 => ?_) (fun h1 => r_X6_isWithin _ _ _ _ ⟨_, rfl, br_n (fun h2 => ⟨fun h3 => ?_, fun h3 => ?_⟩) (fun h2 => ?_)⟩)⟩)
  · have e : fOrder X x1 x2 = (-2, X) := by simp [fOrder, h1]
    rw [e]; exact ⟨rfl, hc, a_eqx.rf _ _, Or.inl ⟨rfl, rfl⟩⟩
  · rw [c0, q_lt (by omega) (by omega)] at h3
    have e : fOrder X x1 x2 = (nI (X 14 0), oX X x1.toNatClampNeg x2.toNatClampNeg) := by simp [fOrder, h1, h2, h3]
    obtain ⟨e1, -, b1⟩ := inB_cl (by decide) (by decide) h1
    obtain ⟨e2, -, b2⟩ := inB_cl (by decide) (by decide) h2
    rw [e]
    refine w_X1_add_0 _ _ ?_
    rw [c0, q_in (by omega), q_cl (by omega), nI_add]
    refine ⟨h3, h3, nI_11, _, rfl, rfl, ⟨?_, ?_, ?_, ?_⟩, ?_, Or.inr ?_⟩
    · show upd (upd (μ.1 5) 0 (nI (X 14 0 + 1))) 2 (nI 1) 0 = nI (upN (X 14) 0 (X 14 0 + 1) 0)
      rw [pk_un (by decide), pk_us, upN_s]
    · show upd (upd (μ.1 5) 0 (nI (X 14 0 + 1))) 2 (nI 1) 1 = nI (X 17 0)
      rw [pk_un (by decide), pk_un (by decide), c1]
    · show rp (upd (μ.1 28) (X 14 0) x1) (upN (X 15) (X 14 0) x1.toNatClampNeg) (upN (X 14) 0 (X 14 0 + 1) 0)
      rw [upN_s]; exact rp_push c2 e1
    · show rp (upd (μ.1 29) (X 14 0) x2) (upN (X 16) (X 14 0) x2.toNatClampNeg) (upN (X 14) 0 (X 14 0 + 1) 0)
      rw [upN_s]; exact rp_push c3 e2
    · intro k hk
      simp only [List.mem_cons, List.not_mem_nil, or_false, not_or] at hk
      refine ⟨?_, rfl⟩
      show va_up (va_up (va_up (va_up μ.1 28 _) 29 _) 5 _) 5 _ k = _
      rw [va_up_ne _ _ hk.1, va_up_ne _ _ hk.1, va_up_ne _ _ hk.2.2, va_up_ne _ _ hk.2.1]
    · exact pk_us (f := upd (μ.1 5) 0 (nI (X 14 0 + 1))) (k := 2) (x := nI 1)
  · rw [c0, q_lt (by omega) (by omega)] at h3
    have e : fOrder X x1 x2 = (-4, X) := by simp [fOrder, h1, h2, h3]
    rw [e]; exact ⟨rfl, hc, a_eqx.rf _ _, Or.inl ⟨rfl, rfl⟩⟩
  · have e : fOrder X x1 x2 = (-2, X) := by simp [fOrder, h1, h2]
    rw [e]; exact ⟨rfl, hc, a_eqx.rf _ _, Or.inl ⟨rfl, rfl⟩⟩
theorem m_order (hx : xO X) (hm : mO μ X) (x1 x2 : Int32) : a_Spec G sX7_order [.ref 36, .int x1, .int x2] μ (fun v ν => v = some (.int (fOrder X x1 x2).1) ∧ mO ν (fOrder X x1 x2).2 ∧ a_eqx [36, 57, 58] μ ν ∧ ∀ j, j ≠ 22 → ν.1 36 j = μ.1 36 j) := by
  have hn := hx.1
  obtain ⟨c0, c1, c2, c3⟩ := id hm
  refine w_X7_order_0 _ _ (r_X7_in _ _ _ _ ⟨_, rfl, br_b (fun h1 => ?_) (fun h1 => r_X7_in _ _ _ _ ⟨_, rfl, br_n (fun h2 => br_d (fun h3 => ?_) (fun h3 => ?_)) (fun h2 => ?_)⟩)⟩)
  · have e : fOrder X x1 x2 = (-2, X) := by simp [fOrder, h1]
    rw [e]; exact ⟨rfl, hm, a_eqx.rf _ _, fun _ _ => rfl⟩
  · rw [c0, q_eq (by omega) (by omega)] at h3
    have h4 : X 14 0 < 8 := by omega
    have e : fOrder X x1 x2 = (nI (X 14 0), oX X x1.toNatClampNeg x2.toNatClampNeg) := by simp [fOrder, h1, h2, h4]
    obtain ⟨e1, -, b1⟩ := inB_cl (by decide) (by decide) h1
    obtain ⟨e2, -, b2⟩ := inB_cl (by decide) (by decide) h2
    rw [e, c0, q_in (by omega), q_cl (by omega), pk_us, nI_add, q_sub (by omega), Nat.add_sub_cancel]
    refine ⟨h4, h4, rfl, ⟨?_, ?_, ?_, ?_⟩, ?_, ?_⟩
    · show upd (μ.1 36) 22 (nI (X 14 0 + 1)) 22 = nI (upN (X 14) 0 (X 14 0 + 1) 0)
      rw [pk_us, upN_s]
    · show upd (μ.1 36) 22 (nI (X 14 0 + 1)) 25 = nI (X 17 0)
      rw [pk_un (by decide), c1]
    · show rp (upd (μ.1 57) (X 14 0) x1) (upN (X 15) (X 14 0) x1.toNatClampNeg) (upN (X 14) 0 (X 14 0 + 1) 0)
      rw [upN_s]; exact rp_push c2 e1
    · show rp (upd (μ.1 58) (X 14 0) x2) (upN (X 16) (X 14 0) x2.toNatClampNeg) (upN (X 14) 0 (X 14 0 + 1) 0)
      rw [upN_s]; exact rp_push c3 e2
    · intro k hk
      simp only [List.mem_cons, List.not_mem_nil, or_false, not_or] at hk
      refine ⟨?_, rfl⟩
      show va_up (va_up (va_up μ.1 57 _) 58 _) 36 _ k = _
      rw [va_up_ne _ _ hk.1, va_up_ne _ _ hk.2.2, va_up_ne _ _ hk.2.1]
    · intro j hj
      show upd (μ.1 36) 22 _ j = _
      exact pk_un hj
  · rw [c0, q_eq (by omega) (by omega)] at h3
    have e : fOrder X x1 x2 = (-4, X) := by simp [fOrder, h1, h2, h3]
    rw [e]; exact ⟨rfl, hm, a_eqx.rf _ _, fun _ _ => rfl⟩
  · have e : fOrder X x1 x2 = (-2, X) := by simp [fOrder, h1, h2]
    rw [e]; exact ⟨rfl, hm, a_eqx.rf _ _, fun _ _ => rfl⟩
theorem c_setup (hc : cO μ X) (x : Int32) : a_Spec G sX6_setup [.ref 0, .int x] μ (fun v ν => v = some (.int (fSetup X x).1) ∧ cO ν (fSetup X x).2 ∧ a_eqx [5] μ ν ∧ (ν = μ ∧ (fSetup X x).2 = X ∨ ν.1 5 2 = nI 1)) := by
  obtain ⟨c0, c1, c2, c3⟩ := id hc
  refine w_X6_setup_0 _ (r_X6_isWithin _ _ _ _ ⟨_, rfl, br_n (fun h1 => ⟨nI_11, ?_⟩) (fun h1 => ?_)⟩)
  · have e : fSetup X x = (nI (X 17 0), va_up X 17 (upN (X 17) 0 x.toNatClampNeg)) := by simp [fSetup, h1]
    obtain ⟨e1, -, b1⟩ := inB_cl (by decide) (by decide) h1
    rw [e]
    refine ⟨by rw [c1], ⟨?_, ?_, c2, c3⟩, ?_, Or.inr ?_⟩
    · show upd (upd (μ.1 5) 1 x) 2 (nI 1) 0 = nI (X 14 0)
      rw [pk_un (by decide), pk_un (by decide), c0]
    · show upd (upd (μ.1 5) 1 x) 2 (nI 1) 1 = nI (upN (X 17) 0 x.toNatClampNeg 0)
      rw [pk_un (by decide), pk_us, upN_s]; exact e1
    · intro k hk
      simp only [List.mem_cons, List.not_mem_nil, or_false] at hk
      refine ⟨?_, rfl⟩
      show va_up (va_up μ.1 5 _) 5 _ k = _
      rw [va_up_ne _ _ hk, va_up_ne _ _ hk]
    · show upd (upd (μ.1 5) 1 x) 2 (nI 1) 2 = _
      rw [pk_us]
  · have e : fSetup X x = (-2, X) := by simp [fSetup, h1]
    rw [e]; exact ⟨rfl, hc, a_eqx.rf _ _, Or.inl ⟨rfl, rfl⟩⟩
theorem m_setup (hm : mO μ X) (x : Int32) : a_Spec G sX7_setup [.ref 36, .int x] μ (fun v ν => v = some (.int (fSetup X x).1) ∧ mO ν (fSetup X x).2 ∧ a_eqx [36] μ ν ∧ ∀ j, j ≠ 25 → ν.1 36 j = μ.1 36 j) := by
  obtain ⟨c0, c1, c2, c3⟩ := id hm
  refine w_X7_setup_0 _ (r_X7_in _ _ _ _ ⟨_, rfl, br_n (fun h1 => ?_) (fun h1 => ?_)⟩)
  · have e : fSetup X x = (nI (X 17 0), va_up X 17 (upN (X 17) 0 x.toNatClampNeg)) := by simp [fSetup, h1]
    obtain ⟨e1, -, b1⟩ := inB_cl (by decide) (by decide) h1
    rw [e]
    refine ⟨by rw [c1], ⟨?_, ?_, c2, c3⟩, a_eqx.up _ _ _, fun j hj => pk_un hj⟩
    · show upd (μ.1 36) 25 x 22 = nI (X 14 0)
      rw [pk_un (by decide), c0]
    · show upd (μ.1 36) 25 x 25 = nI (upN (X 17) 0 x.toNatClampNeg 0)
      rw [pk_us, upN_s]; exact e1
  · have e : fSetup X x = (-2, X) := by simp [fSetup, h1]
    rw [e]; exact ⟨rfl, hm, a_eqx.rf _ _, fun _ _ => rfl⟩
end OPS2
end
section
/-! ===== classes that are apart ===== -/
def stM (m b : Nat) (i : Bool) : Nat := if i then m ||| 2 ^ b else m &&& (15 ^^^ 2 ^ b)
theorem stM_ok : ∀ m, m < 16 → ∀ b, b < 4 → ∀ i : Bool, stM m b i < 16 ∧ ∀ j, j < 4 → (stM m b i).testBit j = if j = b then i else m.testBit j := by decide +kernel
theorem stM_c : ∀ m, m < 16 → ∀ b, b < 4 → nI m &&& (nI (2 ^ b) ^^^ (-1)) = nI (stM m b false) := by decide +kernel
theorem apM_lt {X : aX} (hx : xA X) {a : Nat} (ha : a < 4) : apM X a < 2 ^ 4 := orF_lt (fun b hb => by
  have h := (hx a b ha hb).1
  have h2 : 2 ^ b < 2 ^ 4 := Nat.pow_lt_pow_right (by decide) hb
  rcases (show X 13 (4 * a + b) = 0 ∨ X 13 (4 * a + b) = 1 by omega) with e | e <;> rw [e] <;> omega)
theorem apM_bit {X : aX} (hx : xA X) {a j : Nat} (ha : a < 4) (hj : j < 4) : (apM X a).testBit j = decide (X 13 (4 * a + j) = 1) := by
  have key : ∀ b, b < 4 → (X 13 (4 * a + b) * 2 ^ b).testBit j = (decide (b = j) && decide (X 13 (4 * a + b) = 1)) := by
    intro b hb
    have h := (hx a b ha hb).1
    rcases (show X 13 (4 * a + b) = 0 ∨ X 13 (4 * a + b) = 1 by omega) with e | e
    · rw [e]; simp
    · rw [e, Nat.one_mul, Nat.testBit_two_pow]; simp
  by_cases h1 : X 13 (4 * a + j) = 1
  · rw [decide_eq_true h1]
    exact orF_bit.mpr ⟨j, hj, by rw [key j hj]; simp [h1]⟩
  · rw [decide_eq_false h1]
    refine Bool.eq_false_iff.mpr (fun h => ?_)
    obtain ⟨b, hb, h2⟩ := orF_bit.mp h
    rw [key b hb] at h2
    simp only [Bool.and_eq_true, decide_eq_true_eq] at h2
    exact h1 (by rw [← h2.1]; exact h2.2)
theorem nib_ext {m k : Nat} (hm : m < 16) (hk : k < 16) (h : ∀ j, j < 4 → m.testBit j = k.testBit j) : m = k := by
  apply Nat.eq_of_testBit_eq
  intro j
  by_cases hj : j < 4
  · exact h j hj
  · have e : (2 : Nat) ^ 4 ≤ 2 ^ j := Nat.pow_le_pow_right (by decide) (by omega)
    rw [Nat.testBit_lt_two_pow (by omega), Nat.testBit_lt_two_pow (by omega)]
def aX2 (X : aX) (a b v : Nat) : aX := va_up X 13 (upN (upN (X 13) (4 * a + b) v) (4 * b + a) v)
theorem aX2_xA {X : aX} (hx : xA X) {a b v : Nat} (hv : v ≤ 1) (ha : a < 4) (hb : b < 4) : xA (aX2 X a b v) := by
  intro c d hc hd
  show upN (upN (X 13) (4 * a + b) v) (4 * b + a) v (4 * c + d) ≤ 1 ∧ upN (upN (X 13) (4 * a + b) v) (4 * b + a) v (4 * c + d) = upN (upN (X 13) (4 * a + b) v) (4 * b + a) v (4 * d + c)
  obtain ⟨h1, h2⟩ := hx c d hc hd
  by_cases e1 : c = a ∧ d = b
  · obtain ⟨rfl, rfl⟩ := e1
    have q1 : upN (upN (X 13) (4 * c + d) v) (4 * d + c) v (4 * d + c) = v := upN_s _ _ _
    have q2 : upN (upN (X 13) (4 * c + d) v) (4 * d + c) v (4 * c + d) = v := by
      unfold upN; split; rfl; simp
    rw [q1, q2]; exact ⟨hv, rfl⟩
  · by_cases e2 : c = b ∧ d = a
    · obtain ⟨rfl, rfl⟩ := e2
      have q1 : upN (upN (X 13) (4 * d + c) v) (4 * c + d) v (4 * c + d) = v := upN_s _ _ _
      have q2 : upN (upN (X 13) (4 * d + c) v) (4 * c + d) v (4 * d + c) = v := by
        unfold upN; split; rfl; simp
      rw [q1, q2]; exact ⟨hv, rfl⟩
    · have n1 : 4 * c + d ≠ 4 * b + a := by omega
      have n2 : 4 * c + d ≠ 4 * a + b := by omega
      have n3 : 4 * d + c ≠ 4 * b + a := by omega
      have n4 : 4 * d + c ≠ 4 * a + b := by omega
      rw [upN_n _ _ n1, upN_n _ _ n2, upN_n _ _ n3, upN_n _ _ n4]
      exact ⟨h1, h2⟩
theorem apM_set {X : aX} (hx : xA X) {a b : Nat} (ha : a < 4) (hb : b < 4) (hne : a ≠ b) (i : Bool) {c : Nat} (hc : c < 4) : apM (aX2 X a b i.toNat) c = if c = a then stM (apM X a) b i else if c = b then stM (apM X b) a i else apM X c := by
  have hx' := aX2_xA hx (v := i.toNat) (by cases i <;> decide) ha hb
  have val : ∀ j, j < 4 → (aX2 X a b i.toNat) 13 (4 * c + j) = if (c = a ∧ j = b) ∨ (c = b ∧ j = a) then i.toNat else X 13 (4 * c + j) := by
    intro j hj
    show upN (upN (X 13) (4 * a + b) i.toNat) (4 * b + a) i.toNat (4 * c + j) = _
    by_cases e1 : c = b ∧ j = a
    · obtain ⟨rfl, rfl⟩ := e1
      rw [upN_s, if_pos (Or.inr ⟨rfl, rfl⟩)]
    · rw [upN_n _ _ (by omega)]
      by_cases e2 : c = a ∧ j = b
      · obtain ⟨rfl, rfl⟩ := e2
        rw [upN_s, if_pos (Or.inl ⟨rfl, rfl⟩)]
      · rw [upN_n _ _ (by omega), if_neg (by omega)]
  have hi : ∀ z : Bool, decide (z.toNat = 1) = z := by decide
  refine nib_ext (apM_lt hx' hc) ?_ (fun j hj => ?_)
  · split
    · exact (stM_ok _ (apM_lt hx ha) b hb i).1
    · split
      · exact (stM_ok _ (apM_lt hx hb) a ha i).1
      · exact apM_lt hx hc
  · rw [apM_bit hx' hc hj, val j hj]
    by_cases e1 : c = a
    · subst e1
      rw [if_pos rfl, (stM_ok _ (apM_lt hx hc) b hb i).2 j hj]
      by_cases e2 : j = b
      · rw [if_pos (Or.inl ⟨rfl, e2⟩), if_pos e2, hi]
      · rw [if_neg (by omega), if_neg e2, apM_bit hx hc hj]
    · rw [if_neg e1]
      by_cases e2 : c = b
      · subst e2
        rw [if_pos rfl, (stM_ok _ (apM_lt hx hc) a ha i).2 j hj]
        by_cases e3 : j = a
        · rw [if_pos (Or.inr ⟨rfl, e3⟩), if_pos e3, hi]
        · rw [if_neg (by omega), if_neg e3, apM_bit hx hc hj]
      · rw [if_neg e2, if_neg (by omega), apM_bit hx hc hj]
def fApart (X : aX) (x1 x2 : Int32) (i : Bool) : Int32 × aX :=
  if inB x1 (nI 0) (nI 3) && inB x2 (nI 0) (nI 3) then
    if x1 = x2 then (-3, X) else (nI (X 13 (4 * x1.toNatClampNeg + x2.toNatClampNeg)), aX2 X x1.toNatClampNeg x2.toNatClampNeg i.toNat)
  else (-2, X)
section APART
variable {G : aG} {μ : aMem} {X : aX}
theorem r_X5_areApart (hx : xA X) (hc : cA μ X) {a b : Nat} (ha : a < 4) (hb : b < 4) : a_Ret G sX5_areApart [.ref 2, .int (nI a), .int (nI b)] μ (some (.int (bI (decide (X 13 (4 * a + b) = 1))))) μ := by
  intro post hp
  have h16 := apM_lt hx ha
  refine w_X5_areApart_0 _ _ ?_
  rw [q_in (by omega), q_cl (by omega), hc a ha]
  refine ⟨ha, r_X6_has (by omega) (by omega) _ ⟨_, rfl, bI_01 _, ?_⟩⟩
  rw [apM_bit hx ha hb]; exact hp
theorem c_setApart (hx : xA X) (hc : cA μ X) {a b : Nat} (ha : a < 4) (hb : b < 4) (hne : a ≠ b) (i : Bool) : a_Spec G sX5_setApart [.ref 2, .int (nI a), .int (nI b), .int (bI i)] μ (fun v ν => v = none ∧ cA ν (aX2 X a b i.toNat) ∧ a_eqx [21] μ ν) := by
  have ha16 := apM_lt hx ha
  have hb16 := apM_lt hx hb
  have fin : ∀ (u w : Int32), u = nI (stM (apM X a) b i) → w = nI (stM (apM X b) a i) → cA (va_up (va_up μ.1 21 (upd (μ.1 21) a u)) 21 (upd (upd (μ.1 21) a u) b w), μ.2) (aX2 X a b i.toNat) ∧ a_eqx [21] μ (va_up (va_up μ.1 21 (upd (μ.1 21) a u)) 21 (upd (upd (μ.1 21) a u) b w), μ.2) := by
    intro u w hu hw
    constructor
    · intro c hcc
      show upd (upd (μ.1 21) a u) b w c = nI (apM (aX2 X a b i.toNat) c)
      rw [apM_set hx ha hb hne i hcc]
      by_cases e1 : c = a
      · rw [if_pos e1, e1, pk_un hne, pk_us, hu]
      · rw [if_neg e1]
        by_cases e2 : c = b
        · rw [if_pos e2, e2, pk_us, hw]
        · rw [if_neg e2, pk_un e2, pk_un e1]; exact hc c hcc
    · intro k hk
      simp only [List.mem_cons, List.not_mem_nil, or_false] at hk
      refine ⟨?_, rfl⟩
      show va_up (va_up μ.1 21 _) 21 _ k = _
      rw [va_up_ne _ _ hk, va_up_ne _ _ hk]
  refine w_X5_setApart_0 _ _ _ ?_
  rw [q_in (by omega), q_in (by omega), q_cl (by omega), q_cl (by omega), q_pow (by omega), q_pow (by omega), hc a ha, pk_un hne.symm, hc b hb]
  have e1 := stM_c _ ha16 b hb
  have e2 := stM_c _ hb16 a ha
  cases i with
  | false => exact ⟨fun _ => ⟨ha, ha, fun _ => ⟨hb, hb, rfl, fin _ _ e1 e2⟩, fun h => absurd rfl h⟩, fun h => absurd rfl h⟩
  | true => exact ⟨fun h => absurd h (by decide), fun _ => ⟨ha, ha, fun h => absurd h (by decide), fun _ => ⟨hb, hb, rfl, fin _ _ (by rw [fa_or]; rfl) (by rw [pk_un hne.symm, hc b hb, fa_or]; rfl)⟩⟩⟩
theorem ap01 {X : aX} (hx : xA X) {a b : Nat} (ha : a < 4) (hb : b < 4) : bI (decide (X 13 (4 * a + b) = 1)) = nI (X 13 (4 * a + b)) := by
  have h := (hx a b ha hb).1
  rcases (show X 13 (4 * a + b) = 0 ∨ X 13 (4 * a + b) = 1 by omega) with e | e <;> rw [e] <;> rfl
theorem c_apart (hx : xA X) (hc : cA μ X) (x1 x2 : Int32) (i : Bool) : a_Spec G sX6_apart [.ref 0, .int x1, .int x2, .int (bI i)] μ (fun v ν => v = some (.int (fApart X x1 x2 i).1) ∧ cA ν (fApart X x1 x2 i).2 ∧ a_eqx [21] μ ν) := by
  refine w_X6_apart_0 _ _ _ (r_X6_isKind _ _ ⟨_, rfl, br_b (fun h1 => ?_) (fun h1 => r_X6_isKind _ _ ⟨_, rfl, br_n (fun h2 => br_d (fun h3 => ?_) (fun h3 => ?_)) (fun h2 => ?_)⟩)⟩)
  · have e : fApart X x1 x2 i = (-2, X) := by simp [fApart, h1]
    rw [e]; exact ⟨rfl, hc, a_eqx.rf _ _⟩
  · have e : fApart X x1 x2 i = (nI (X 13 (4 * x1.toNatClampNeg + x2.toNatClampNeg)), aX2 X x1.toNatClampNeg x2.toNatClampNeg i.toNat) := by simp [fApart, h1, h2, h3]
    rw [e]
    obtain ⟨e1, -, b1⟩ := inB_cl (by decide) (by decide) h1
    obtain ⟨e2, -, b2⟩ := inB_cl (by decide) (by decide) h2
    generalize x1.toNatClampNeg = a at *
    generalize x2.toNatClampNeg = b at *
    subst e1
    subst e2
    have hne : a ≠ b := fun h => h3 (by rw [h])
    refine r_X5_areApart hx hc (by omega) (by omega) _ ⟨_, rfl, br_b (fun h4 => ?_) (fun h4 => ?_)⟩
    · have e4 := ap01 hx (a := a) (b := b) (by omega) (by omega)
      rw [h4] at e4
      exact (c_setApart hx hc (by omega) (by omega) hne i).mono (fun v ν h => ⟨h.1, by rw [← e4]; rfl, h.2⟩)
    · have e4 := ap01 hx (a := a) (b := b) (by omega) (by omega)
      rw [h4] at e4
      exact (c_setApart hx hc (by omega) (by omega) hne i).mono (fun v ν h => ⟨h.1, by rw [← e4]; rfl, h.2⟩)
  · have e : fApart X x1 x2 i = (-3, X) := by subst h3; simp [fApart, h1]
    rw [e]; exact ⟨rfl, hc, a_eqx.rf _ _⟩
  · have e : fApart X x1 x2 i = (-2, X) := by simp [fApart, h1, h2]
    rw [e]; exact ⟨rfl, hc, a_eqx.rf _ _⟩
theorem bI_and1 (i : Bool) : bI i &&& 1 = nI i.toNat := by cases i <;> rfl
theorem m_apart (hx : xA X) (hm : mA μ X) (x1 x2 : Int32) (i : Bool) : a_Spec G sX7_apart [.ref 36, .int x1, .int x2, .int (bI i)] μ (fun v ν => v = some (.int (fApart X x1 x2 i).1) ∧ mA ν (fApart X x1 x2 i).2 ∧ a_eqx [48] μ ν) := by
  refine w_X7_apart_0 _ _ _ (r_X7_in _ _ _ _ ⟨_, rfl, br_b (fun h1 => ?_) (fun h1 => r_X7_in _ _ _ _ ⟨_, rfl, br_n (fun h2 => br_d (fun h3 => ?_) (fun h3 => ?_)) (fun h2 => ?_)⟩)⟩)
  · have e : fApart X x1 x2 i = (-2, X) := by simp [fApart, h1]
    rw [e]; exact ⟨rfl, hm, a_eqx.rf _ _⟩
  · have e : fApart X x1 x2 i = (nI (X 13 (4 * x1.toNatClampNeg + x2.toNatClampNeg)), aX2 X x1.toNatClampNeg x2.toNatClampNeg i.toNat) := by simp [fApart, h1, h2, h3]
    rw [e]
    obtain ⟨e1, -, b1⟩ := inB_cl (by decide) (by decide) h1
    obtain ⟨e2, -, b2⟩ := inB_cl (by decide) (by decide) h2
    generalize x1.toNatClampNeg = a at *
    generalize x2.toNatClampNeg = b at *
    subst e1
    subst e2
    have hab := (hx a b (by omega) (by omega)).1
    rw [pk_mul, nI_add, pk_mul, nI_add, q_in (by omega), q_in (by omega), q_cl (by omega), q_cl (by omega), hm _ (by omega), q_e0 (by omega), bI_and1]
    have fin : mA (va_up (va_up μ.1 48 (upd (μ.1 48) (4 * a + b) (nI i.toNat))) 48 (upd (upd (μ.1 48) (4 * a + b) (nI i.toNat)) (4 * b + a) (nI i.toNat)), μ.2) (aX2 X a b i.toNat) ∧ a_eqx [48] μ (va_up (va_up μ.1 48 (upd (μ.1 48) (4 * a + b) (nI i.toNat))) 48 (upd (upd (μ.1 48) (4 * a + b) (nI i.toNat)) (4 * b + a) (nI i.toNat)), μ.2) := by
      constructor
      · exact rp_at (rp_at hm rfl) rfl
      · intro k hk
        simp only [List.mem_cons, List.not_mem_nil, or_false] at hk
        refine ⟨?_, rfl⟩
        show va_up (va_up μ.1 48 _) 48 _ k = _
        rw [va_up_ne _ _ hk, va_up_ne _ _ hk]
    refine ⟨by omega, fun h => ⟨by omega, by omega, by rw [h], fin⟩, fun h => ⟨by omega, by omega, by rw [show X 13 (4 * a + b) = 1 by omega], fin⟩⟩
  · have e : fApart X x1 x2 i = (-3, X) := by subst h3; simp [fApart, h1]
    rw [e]; exact ⟨rfl, hm, a_eqx.rf _ _⟩
  · have e : fApart X x1 x2 i = (-2, X) := by simp [fApart, h1, h2]
    rw [e]; exact ⟨rfl, hm, a_eqx.rf _ _⟩
end APART
end
section
/-! ===== ways: what goes through what ===== -/
def anyB (p : Nat → Bool) : Nat → Bool
  | 0 => false
  | k + 1 => anyB p k || p k
theorem anyB_iff {p : Nat → Bool} : ∀ {k : Nat}, anyB p k = true ↔ ∃ i, i < k ∧ p i = true
  | 0 => by simp [anyB]
  | k + 1 => by
    rw [anyB, Bool.or_eq_true, anyB_iff]
    constructor
    · rintro (⟨j, h1, h2⟩ | h)
      · exact ⟨j, by omega, h2⟩
      · exact ⟨k, by omega, h⟩
    · rintro ⟨j, h1, h2⟩
      by_cases e : j = k
      · subst e; exact Or.inr h2
      · exact Or.inl ⟨j, by omega, h2⟩
theorem anyB_cong {p q : Nat → Bool} : ∀ {k : Nat}, (∀ i, i < k → p i = q i) → anyB p k = anyB q k
  | 0, _ => rfl
  | k + 1, h => by rw [anyB, anyB, anyB_cong (fun i hi => h i (by omega)), h k (by omega)]
theorem b_eq {a b : Bool} (h : a = true ↔ b = true) : a = b := by cases a <;> cases b <;> simp at h <;> rfl
def goes (X : aX) (w d : Nat) : Bool := (wyB X w).testBit d
theorem goes_iff {X : aX} {w d : Nat} : goes X w d = true ↔ ∃ i, i < X 11 w ∧ X 12 (10 * w + i) = d := by
  unfold goes wyB
  rw [orF_bit]
  constructor
  · rintro ⟨j, h1, h2⟩; exact ⟨j, h1, by rw [Nat.testBit_two_pow] at h2; simpa using h2⟩
  · rintro ⟨j, h1, h2⟩; exact ⟨j, h1, by rw [Nat.testBit_two_pow]; simpa using h2⟩
theorem goes_any (X : aX) (w d : Nat) : anyB (fun i => decide (X 12 (10 * w + i) = d)) (X 11 w) = goes X w d := b_eq (by
  rw [anyB_iff, goes_iff]; simp)
theorem wyB_lt {X : aX} (hd : xD X) (hy : xY X) {w : Nat} (hw : w < 20) : wyB X w < 2 ^ 16 := orF_lt (fun i hi => Nat.pow_lt_pow_right (by decide) (by have := (hy w hw).2.2.1 i hi; have := hd.1; omega))
theorem pop_or {a e : Nat} (he : e < 20) (h : a.testBit e = false) : pop (a ||| 2 ^ e) = pop a + 1 := by
  unfold pop
  have h1 := fb_ct_upd (fun k => a.testBit k) true (i := e) (n := 20) he
  have h2 : fb_ct (fun k => (a ||| 2 ^ e).testBit k) 20 = fb_ct (fun k => if k = e then true else a.testBit k) 20 := fb_ct_cong (fun k _ => by
    rw [fb_bit_set]
    by_cases q : k = e
    · subst q; simp
    · simp [q])
  rw [h2]
  simp only [h] at h1
  simpa using h1
theorem pop_orF {f : Nat → Nat} : ∀ {k : Nat}, (∀ i, i < k → f i < 20) → (∀ i j, i < j → j < k → f i ≠ f j) → pop (orF (fun i => 2 ^ f i) k) = k
  | 0, _, _ => by show pop 0 = 0; decide
  | k + 1, h1, h2 => by
    rw [orF, pop_or (h1 k (by omega)), pop_orF (fun i hi => h1 i (by omega)) (fun i j hij hj => h2 i j hij (by omega))]
    refine Bool.eq_false_iff.mpr (fun h => ?_)
    obtain ⟨j, hj, hb⟩ := orF_bit.mp h
    rw [Nat.testBit_two_pow] at hb
    exact h2 j k hj (by omega) (by simpa using hb)
theorem pop_wyB {X : aX} (hd : xD X) (hy : xY X) {w : Nat} (hw : w < 20) : pop (wyB X w) = X 11 w := pop_orF (fun i hi => by have := (hy w hw).2.2.1 i hi; have := hd.1; omega) (hy w hw).2.2.2
theorem wyB_0 {X : aX} (hd : xD X) (hy : xY X) {w : Nat} (hw : w < 20) : wyB X w = 0 ↔ X 11 w = 0 := by
  constructor
  · intro h
    have := pop_wyB hd hy hw
    rw [h] at this
    rw [← this]; decide
  · intro h; unfold wyB; rw [h]; rfl
theorem wyL_le {X : aX} (hd : xD X) (hy : xY X) {w : Nat} (hw : w < 20) : wyL X w ≤ 891 := by
  have h := fb_sm_bound (f := fun i => X 3 (X 12 (10 * w + i))) (c := 99) (n := X 11 w) (fun i hi => by have := hd.2 _ ((hy w hw).2.2.1 i hi); omega)
  have := (hy w hw).1
  unfold wyL
  have : X 11 w * 99 ≤ 9 * 99 := Nat.mul_le_mul_right _ this
  omega
def fullB (X : aX) (d k : Nat) : Nat := fb_sm (fun w => if goes X w d then X 8 w else 0) k
theorem fullB_le {X : aX} (hw : xW X) (d : Nat) {k : Nat} (hk : k ≤ X 5 0) : fullB X d k ≤ 1000 := by
  have h := fb_sm_bound (f := fun w => if goes X w d then X 8 w else 0) (c := 50) (n := k) (fun i hi => by
    show (if goes X i d then X 8 i else 0) ≤ 50
    have := hw.2.1 i (by omega); split <;> omega)
  have := hw.1
  unfold fullB
  have : k * 50 ≤ 20 * 50 := Nat.mul_le_mul_right _ (by omega)
  omega
def apW (X : aX) (o w : Nat) : Bool := decide (X 13 (4 * X 9 o + X 9 w) = 1)
def mayB (X : aX) (w d : Nat) : Bool := decide (fullB X d (X 5 0) + X 8 w ≤ X 4 d) && !anyB (fun o => goes X o d && apW X o w) (X 5 0)
def clB (X : aX) (w : Nat) : Bool := anyB (fun o => decide ((wyB X w &&& wyB X o) ≠ 0) && apW X o w) (X 5 0)
section CWAYS
variable {G : aG} {μ : aMem} {X : aX}
theorem r_X5_isLaid (hd : xD X) (hy : xY X) (hc : cY μ X) {w : Nat} (hw : w < 20) : a_Ret G sX5_isLaid [.ref 2, .int (nI w)] μ (some (.int (bI (decide (X 11 w ≠ 0))))) μ := by
  intro post hp
  have h16 := wyB_lt hd hy hw
  refine w_X5_isLaid_0 _ ?_
  rw [q_in (by omega), q_cl (by omega), hc.1 w hw, q_e0 (by omega), wyB_0 hd hy hw]
  refine ⟨hw, fun h => ⟨nI_00, ?_⟩, fun h => ⟨nI_11, ?_⟩⟩
  · rw [decide_eq_false (by omega)] at hp; exact hp
  · rw [decide_eq_true h] at hp; exact hp
theorem r_X5_laidThrough (hd : xD X) (hx : xW X) (hy : xY X) (hcw : cW μ X) (hc : cY μ X) {d : Nat} (hdd : d < 16) : a_Ret G sX5_laidThrough [.ref 2, .int (nI d)] μ (some (.int (nI (fb_ct (fun w => goes X w d) (X 5 0))))) μ := by
  intro post hp
  have hn := hx.1
  refine w_X5_laidThrough_0 _ ?_
  refine a_for (fun i (x : Int32) => a_Runs G sX5_laidThrough 4 [(0, .ref 2), (1, .int (nI d)), (2, .int x), (3, .int (nI i))] [] μ post) (fun i x => x = nI (fb_ct (fun w => goes X w d) i)) (X 5 0) ?_ ?_ 0 (nI 0) (by omega) rfl
  · rintro x rfl
    refine w_X5_laidThrough_4 _ _ _ ⟨fun _ => hp, fun h => absurd (by rw [hcw.1, q_le] <;> omega) h⟩
  · rintro i x hi rfl ih
    have h16 := wyB_lt hd hy (w := i) (by omega)
    refine w_X5_laidThrough_4 _ _ _ ⟨fun h => ?_, fun _ => ?_⟩
    · rw [hcw.1, q_le (by omega) (by omega)] at h; omega
    rw [q_in (by omega), q_cl (by omega), hc.1 i (by omega), nI_add, nI_add]
    refine ⟨by omega, r_X6_has (by omega) (by omega) _ ⟨_, rfl, br_b (fun h1 => ih _ ?_) (fun h1 => ih _ ?_)⟩⟩
    · have h1 : goes X i d = false := h1
      rw [fb_ct_succ, h1]; rfl
    · have h1 : goes X i d = true := h1
      rw [fb_ct_succ, h1]; rfl
theorem r_X5_thicknessThrough (hd : xD X) (hx : xW X) (hy : xY X) (hcw : cW μ X) (hc : cY μ X) {d : Nat} (hdd : d < 16) : a_Ret G sX5_thicknessThrough [.ref 2, .int (nI d)] μ (some (.int (nI (fullB X d (X 5 0))))) μ := by
  intro post hp
  have hn := hx.1
  refine w_X5_thicknessThrough_0 _ ?_
  refine a_for (fun i (x : Int32) => a_Runs G sX5_thicknessThrough 4 [(0, .ref 2), (1, .int (nI d)), (2, .int x), (3, .int (nI i))] [] μ post) (fun i x => x = nI (fullB X d i)) (X 5 0) ?_ ?_ 0 (nI 0) (by omega) rfl
  · rintro x rfl
    refine w_X5_thicknessThrough_4 _ _ _ ⟨fun _ => hp, fun h => absurd (by rw [hcw.1, q_le] <;> omega) h⟩
  · rintro i x hi rfl ih
    have h16 := wyB_lt hd hy (w := i) (by omega)
    refine w_X5_thicknessThrough_4 _ _ _ ⟨fun h => ?_, fun _ => ?_⟩
    · rw [hcw.1, q_le (by omega) (by omega)] at h; omega
    rw [q_in (by omega), q_cl (by omega), hc.1 i (by omega), nI_add]
    refine ⟨by omega, r_X6_has (by omega) (by omega) _ ⟨_, rfl, br_b (fun h1 => ih _ ?_) (fun h1 => ⟨by omega, ?_⟩)⟩⟩
    · have h1 : goes X i d = false := h1
      rw [fullB, fullB, fb_sm_succ, h1]; rfl
    · have h1 : goes X i d = true := h1
      rw [hcw.2.2.2.1 i hi, nI_add]
      refine ih _ ?_
      rw [fullB, fullB, fb_sm_succ, h1]; rfl
theorem r_X5_mayGoThrough (hd : xD X) (hx : xW X) (hy : xY X) (ha : xA X) (hcw : cW μ X) (hc : cY μ X) (hca : cA μ X) {w d : Nat} (hw : w < X 5 0) (hdd : d < 16) (hr : X 4 d ≤ 300) : a_Ret G sX5_mayGoThrough [.ref 2, .int (nI w), .int (nI d), .int (nI (X 4 d))] μ (some (.int (bI (mayB X w d)))) μ := by
  intro post hp
  have hn := hx.1
  have hw8 := hx.2.1 w hw
  refine w_X5_mayGoThrough_0 _ _ _ ?_
  rw [q_in (by omega), q_cl (by omega), hcw.2.2.2.1 w hw]
  refine ⟨by omega, ?_⟩
  refine a_for (fun i (x : Int32) => a_Runs G sX5_mayGoThrough 11 [(0, .ref 2), (1, .int (nI w)), (2, .int (nI d)), (3, .int (nI (X 4 d))), (4, .int x), (5, .int (nI i))] [] μ post) (fun i x => x = nI (X 8 w + fullB X d i) ∧ anyB (fun o => goes X o d && apW X o w) i = false) (X 5 0) ?_ ?_ 0 _ (by omega) ⟨rfl, rfl⟩
  · rintro x ⟨rfl, hno⟩
    have hf := fullB_le hx d (Nat.le_refl (X 5 0))
    refine w_X5_mayGoThrough_11 _ _ _ _ _ ⟨fun _ => ?_, fun h => absurd (by rw [hcw.1, q_le] <;> omega) h⟩
    rw [q_lt (by omega) (by omega)]
    unfold mayB at hp
    rw [hno] at hp
    refine ⟨fun h => ⟨nI_00, ?_⟩, fun h => ⟨nI_11, ?_⟩⟩
    · rw [decide_eq_false (by omega)] at hp; exact hp
    · rw [decide_eq_true (by omega)] at hp; exact hp
  · rintro i x hi ⟨rfl, hno⟩ ih
    have h16 := wyB_lt hd hy (w := i) (by omega)
    have hi8 := hx.2.1 i hi
    have hsym : X 13 (4 * X 9 w + X 9 i) = X 13 (4 * X 9 i + X 9 w) := (ha _ _ (by omega) (by omega)).2
    refine w_X5_mayGoThrough_11 _ _ _ _ _ ⟨fun h => ?_, fun _ => ?_⟩
    · rw [hcw.1, q_le (by omega) (by omega)] at h; omega
    rw [q_in (by omega), q_in (by omega), q_cl (by omega), q_cl (by omega), hc.1 i (by omega), nI_add]
    refine ⟨by omega, r_X6_has (by omega) (by omega) _ ⟨_, rfl, br_b (fun h1 => ih _ ⟨?_, ?_⟩) (fun h1 => ⟨by omega, by omega, ?_⟩)⟩⟩
    · have h1 : goes X i d = false := h1
      rw [fullB, fullB, fb_sm_succ, h1]; rfl
    · have h1 : goes X i d = false := h1
      rw [anyB, hno, h1]; rfl
    · have h1 : goes X i d = true := h1
      rw [hcw.2.2.2.2.1 w hw, hcw.2.2.2.2.1 i hi]
      refine r_X5_areApart ha hca (by omega) (by omega) _ ⟨_, rfl, br_b (fun h2 => ⟨by omega, ?_⟩) (fun h2 => ⟨nI_00, ?_⟩)⟩
      · rw [hcw.2.2.2.1 i hi, nI_add]
        refine ih _ ⟨?_, ?_⟩
        · rw [fullB, fullB, fb_sm_succ, h1, Nat.add_assoc]; rfl
        · rw [anyB, hno, h1, apW, ← hsym, h2]; rfl
      · have h3 : anyB (fun o => goes X o d && apW X o w) (X 5 0) = true := anyB_iff.mpr ⟨i, hi, by rw [h1, apW, ← hsym, h2]; rfl⟩
        unfold mayB at hp
        rw [h3, Bool.not_true, Bool.and_false] at hp; exact hp
theorem r_X6_openDucts (hd : xD X) (hx : xW X) (hy : xY X) (ha : xA X) (hcd : cD μ X) (hcw : cW μ X) (hc : cY μ X) (hca : cA μ X) {w : Nat} (hw : w < X 5 0) : a_Ret G sX6_openDucts [.ref 0, .int (nI w)] μ (some (.int (nI (orF (fun d => if mayB X w d then 2 ^ d else 0) (X 0 0))))) μ := by
  intro post hp
  have hn := hd.1
  refine w_X6_openDucts_0 _ ?_
  refine a_for (fun i (x : Int32) => a_Runs G sX6_openDucts 4 [(0, .ref 0), (1, .int (nI w)), (2, .int x), (3, .int (nI i))] [] μ post) (fun i x => x = nI (orF (fun d => if mayB X w d then 2 ^ d else 0) i)) (X 0 0) ?_ ?_ 0 _ (by omega) rfl
  · rintro x rfl
    exact w_X6_openDucts_4 _ _ _ ⟨fun _ => hp, fun h => absurd (by rw [hcd.1, q_le] <;> omega) h⟩
  · rintro i x hi rfl ih
    have hdi := hd.2 i hi
    refine w_X6_openDucts_4 _ _ _ ⟨fun h => ?_, fun _ => ?_⟩
    · rw [hcd.1, q_le (by omega) (by omega)] at h; omega
    rw [q_in (by omega), q_cl (by omega), hcd.2.2.2.2.2.1 i hi, nI_add, q_pow (by omega), fa_or]
    refine ⟨by omega, r_X5_mayGoThrough hd hx hy ha hcw hc hca hw (by omega) (by omega) _ ⟨_, rfl, br_b (fun h1 => ih _ ?_) (fun h1 => ih _ ?_)⟩⟩
    · rw [orF, h1]; simp
    · rw [orF, h1]; simp
theorem r_X5_isClashing (hd : xD X) (hx : xW X) (hy : xY X) (ha : xA X) (hcw : cW μ X) (hc : cY μ X) (hca : cA μ X) {w : Nat} (hw : w < X 5 0) : a_Ret G sX5_isClashing [.ref 2, .int (nI w)] μ (some (.int (bI (clB X w)))) μ := by
  intro post hp
  have hn := hx.1
  have hw8 := hx.2.1 w hw
  have hw16 := wyB_lt hd hy (w := w) (by omega)
  refine w_X5_isClashing_0 _ ?_
  refine a_for (fun i (_ : Unit) => a_Runs G sX5_isClashing 2 [(0, .ref 2), (1, .int (nI w)), (2, .int (nI i))] [] μ post) (fun i _ => anyB (fun o => decide ((wyB X w &&& wyB X o) ≠ 0) && apW X o w) i = false) (X 5 0) ?_ ?_ 0 () (by omega) rfl
  · rintro - hno
    refine w_X5_isClashing_2 _ _ ⟨fun _ => ⟨nI_00, ?_⟩, fun h => absurd (by rw [hcw.1, q_le] <;> omega) h⟩
    unfold clB at hp
    rw [hno] at hp; exact hp
  · rintro i - hi hno ih
    have h16 := wyB_lt hd hy (w := i) (by omega)
    have hi8 := hx.2.1 i hi
    have hsym : X 13 (4 * X 9 w + X 9 i) = X 13 (4 * X 9 i + X 9 w) := (ha _ _ (by omega) (by omega)).2
    have hand : wyB X w &&& wyB X i < 2 ^ 16 := Nat.and_lt_two_pow _ h16
    refine w_X5_isClashing_2 _ _ ⟨fun h => ?_, fun _ => ?_⟩
    · rw [hcw.1, q_le (by omega) (by omega)] at h; omega
    rw [q_in (by omega), q_in (by omega), q_cl (by omega), q_cl (by omega), hc.1 i (by omega), hc.1 w (by omega), fa_and, q_e0 (by omega), nI_add]
    refine ⟨by omega, by omega, fun h1 => ⟨fun _ => ih () ?_, fun h => absurd rfl h⟩, fun h1 => ⟨fun h => absurd h (by decide), fun _ => ⟨by omega, by omega, ?_⟩⟩⟩
    · rw [anyB, hno, decide_eq_false (by omega)]; rfl
    · rw [hcw.2.2.2.2.1 w hw, hcw.2.2.2.2.1 i hi]
      refine r_X5_areApart ha hca (by omega) (by omega) _ ⟨_, rfl, br_b (fun h2 => ih () ?_) (fun h2 => ⟨nI_11, ?_⟩)⟩
      · rw [anyB, hno, apW, ← hsym, h2, Bool.and_false]; rfl
      · have h3 : clB X w = true := anyB_iff.mpr ⟨i, hi, by rw [decide_eq_true h1, apW, ← hsym, h2]; rfl⟩
        rw [h3] at hp; exact hp
theorem r_X6_clashes (hd : xD X) (hx : xW X) (hy : xY X) (ha : xA X) (hcw : cW μ X) (hc : cY μ X) (hca : cA μ X) : a_Ret G sX6_clashes [.ref 0] μ (some (.int (nI (fb_ct (clB X) (X 5 0))))) μ := by
  intro post hp
  have hn := hx.1
  refine w_X6_clashes_0 ?_
  refine a_for (fun i (x : Int32) => a_Runs G sX6_clashes 4 [(0, .ref 0), (1, .int x), (2, .int (nI i))] [] μ post) (fun i x => x = nI (fb_ct (clB X) i)) (X 5 0) ?_ ?_ 0 _ (by omega) rfl
  · rintro x rfl
    exact w_X6_clashes_4 _ _ ⟨fun _ => hp, fun h => absurd (by rw [hcw.1, q_le] <;> omega) h⟩
  · rintro i x hi rfl ih
    refine w_X6_clashes_4 _ _ ⟨fun h => ?_, fun _ => ?_⟩
    · rw [hcw.1, q_le (by omega) (by omega)] at h; omega
    rw [nI_add, nI_add]
    refine r_X5_isClashing hd hx hy ha hcw hc hca hi _ ⟨_, rfl, br_b (fun h1 => ih _ ?_) (fun h1 => ih _ ?_)⟩
    · rw [fb_ct_succ, h1]; rfl
    · rw [fb_ct_succ, h1]; rfl
end CWAYS
end
section
section MWAYS
variable {G : aG} {μ : aMem} {X : aX}
theorem r_X7_goesBy (hy : xY X) (hm : mY μ X) {w d : Nat} (hw : w < 20) (hdd : d < 2 ^ 31) (hd : X 0 0 ≤ 16) : a_Ret G sX7_goesBy [.ref 36, .int (nI w), .int (nI d)] μ (some (.int (bI (goes X w d)))) μ := by
  intro post hp
  obtain ⟨hs, -, hin, -⟩ := hy w hw
  refine w_X7_goesBy_0 _ _ ?_
  refine a_for (fun i (x : Int32) => a_Runs G sX7_goesBy 5 [(0, .ref 36), (1, .int (nI w)), (2, .int (nI d)), (3, .int x), (4, .int (nI i))] [] μ post) (fun i x => x = bI (anyB (fun i => decide (X 12 (10 * w + i) = d)) i)) (X 11 w) ?_ ?_ 0 _ (by omega) rfl
  · rintro x rfl
    refine w_X7_goesBy_5 _ _ _ _ ?_
    rw [q_in (by omega), q_cl (by omega), hm.1 w hw]
    refine ⟨hw, fun _ => ⟨bI_01 _, ?_⟩, fun h => absurd (by rw [q_le] <;> omega) h⟩
    rw [goes_any]; exact hp
  · rintro i x hi rfl ih
    have hwi := hin i hi
    refine w_X7_goesBy_5 _ _ _ _ ?_
    rw [q_in (by omega), q_cl (by omega), hm.1 w hw, q_le (by omega) (by omega), pk_mul, nI_add, nI_add, q_in (by omega), q_cl (by omega), hm.2 w hw i hi, q_eq (by omega) hdd]
    refine ⟨hw, fun h => by omega, fun _ => br_n (fun h1 => ih _ ?_) (fun h1 => ⟨by omega, fun h2 => ih _ ?_, fun h2 => ih _ ?_⟩)⟩
    · rw [anyB, h1]; rfl
    · rw [anyB, h1, decide_eq_false h2]; rfl
    · rw [anyB, h1, decide_eq_true h2]; rfl
theorem r_X7_full (hd : xD X) (hx : xW X) (hy : xY X) (hmw : mW μ X) (hm : mY μ X) {d : Nat} (hdd : d < 16) : a_Ret G sX7_full [.ref 36, .int (nI d)] μ (some (.int (nI (fullB X d (X 5 0))))) μ := by
  intro post hp
  have hn := hx.1
  refine w_X7_full_0 _ ?_
  refine a_for (fun i (x : Int32) => a_Runs G sX7_full 4 [(0, .ref 36), (1, .int (nI d)), (2, .int x), (3, .int (nI i))] [] μ post) (fun i x => x = nI (fullB X d i)) (X 5 0) ?_ ?_ 0 _ (by omega) rfl
  · rintro x rfl
    exact w_X7_full_4 _ _ _ ⟨fun _ => hp, fun h => absurd (by rw [hmw.1, q_le] <;> omega) h⟩
  · rintro i x hi rfl ih
    refine w_X7_full_4 _ _ _ ⟨fun h => ?_, fun _ => ?_⟩
    · rw [hmw.1, q_le (by omega) (by omega)] at h; omega
    rw [nI_add, nI_add]
    refine r_X7_goesBy hy hm (by omega) (by omega) hd.1 _ ⟨_, rfl, br_b (fun h1 => ih _ ?_) (fun h1 => ?_)⟩
    · rw [fullB, fullB, fb_sm_succ, h1]; rfl
    · rw [q_in (by omega), q_cl (by omega), hmw.2.2.2.1 i hi, nI_add]
      refine ⟨by omega, ih _ ?_⟩
      rw [fullB, fullB, fb_sm_succ, h1]; rfl
theorem r_X7_mayGo (hd : xD X) (hx : xW X) (hy : xY X) (ha : xA X) (hmd : mD μ X) (hmw : mW μ X) (hm : mY μ X) (hma : mA μ X) {w d : Nat} (hw : w < X 5 0) (hdd : d < X 0 0) : a_Ret G sX7_mayGo [.ref 36, .int (nI w), .int (nI d)] μ (some (.int (bI (mayB X w d)))) μ := by
  intro post hp
  have hn := hx.1
  have hdn := hd.1
  have hw8 := hx.2.1 w hw
  have hd4 := hd.2 d hdd
  have hf := fullB_le hx d (Nat.le_refl (X 5 0))
  refine w_X7_mayGo_0 _ _ (r_X7_full hd hx hy hmw hm (by omega) _ ⟨_, rfl, ?_⟩)
  rw [q_in (by omega), q_in (by omega), q_cl (by omega), q_cl (by omega), hmd.2.2.2.2 d hdd, hmw.2.2.2.1 w hw, nI_add, q_lt (by omega) (by omega)]
  have loop : ∀ b : Bool, decide (fullB X d (X 5 0) + X 8 w ≤ X 4 d) = b → a_Runs G sX7_mayGo 30 [(0, .ref 36), (1, .int (nI w)), (2, .int (nI d)), (3, .int (bI b)), (4, .int (nI 0))] [] μ post := by
    intro b hb
    unfold mayB at hp
    rw [hb] at hp
    refine a_for (fun i (x : Bool) => a_Runs G sX7_mayGo 30 [(0, .ref 36), (1, .int (nI w)), (2, .int (nI d)), (3, .int (bI x)), (4, .int (nI i))] [] μ post) (fun i x => x = (b && !anyB (fun o => goes X o d && apW X o w) i)) (X 5 0) ?_ ?_ 0 b (by omega) (by simp [anyB])
    · rintro x rfl
      exact w_X7_mayGo_30 _ _ _ _ ⟨fun _ => ⟨bI_01 _, hp⟩, fun h => absurd (by rw [hmw.1, q_le] <;> omega) h⟩
    · rintro i x hi rfl ih
      have hi8 := hx.2.1 i hi
      have hap := (ha (X 9 i) (X 9 w) (by omega) (by omega)).1
      refine w_X7_mayGo_30 _ _ _ _ ⟨fun h => ?_, fun _ => br_b (fun h1 => ⟨bI_01 _, ?_⟩) (fun h1 => ?_)⟩
      · rw [hmw.1, q_le (by omega) (by omega)] at h; omega
      · rw [h1]
        have h2 : (b && !anyB (fun o => goes X o d && apW X o w) (X 5 0)) = false := by
          cases b with
          | false => rfl
          | true =>
            have h3 : anyB (fun o => goes X o d && apW X o w) i = true := by simpa using h1
            obtain ⟨j, hj, hj2⟩ := anyB_iff.mp h3
            rw [anyB_iff.mpr ⟨j, by omega, hj2⟩]; rfl
        rw [h2] at hp; exact hp
      · simp only [Bool.and_eq_true, Bool.not_eq_true'] at h1
        rw [nI_add]
        refine r_X7_goesBy hy hm (by omega) (by omega) hdn _ ⟨_, rfl, br_b (fun h2 => ih true ?_) (fun h2 => ?_)⟩
        · rw [anyB, h1.1, h1.2, h2]; rfl
        · rw [q_in (by omega), q_in (by omega), q_cl (by omega), q_cl (by omega), hmw.2.2.2.2.1 i hi, hmw.2.2.2.2.1 w hw, pk_mul, nI_add, q_in (by omega), q_cl (by omega), hma _ (by omega), q_e0 (by omega)]
          refine ⟨by omega, by omega, by omega, fun h3 => ih false ?_, fun h3 => ih true ?_⟩
          · rw [anyB, h1.1, h1.2, h2, apW, decide_eq_true (by omega)]; rfl
          · rw [anyB, h1.1, h1.2, h2, apW, decide_eq_false (by omega)]; rfl
  refine ⟨by omega, by omega, fun h => loop false (decide_eq_false (by omega)), fun h => loop true (decide_eq_true (by omega))⟩
theorem r_X7_lengthOf (hd : xD X) (hy : xY X) (hmd : mD μ X) (hm : mY μ X) {w : Nat} (hw : w < 20) : a_Ret G sX7_lengthOf [.ref 36, .int (nI w)] μ (some (.int (nI (wyL X w)))) μ := by
  intro post hp
  obtain ⟨hs, -, hin, -⟩ := hy w hw
  have hdn := hd.1
  refine w_X7_lengthOf_0 _ ?_
  refine a_for (fun i (x : Int32) => a_Runs G sX7_lengthOf 4 [(0, .ref 36), (1, .int (nI w)), (2, .int x), (3, .int (nI i))] [] μ post) (fun i x => x = nI (fb_sm (fun i => X 3 (X 12 (10 * w + i))) i)) (X 11 w) ?_ ?_ 0 _ (by omega) rfl
  · rintro x rfl
    refine w_X7_lengthOf_4 _ _ _ ?_
    rw [q_in (by omega), q_cl (by omega), hm.1 w hw]
    exact ⟨hw, fun _ => hp, fun h => absurd (by rw [q_le] <;> omega) h⟩
  · rintro i x hi rfl ih
    have hwi := hin i hi
    refine w_X7_lengthOf_4 _ _ _ ?_
    rw [q_in (by omega), q_cl (by omega), hm.1 w hw, q_le (by omega) (by omega), pk_mul, nI_add, q_in (by omega), q_cl (by omega), hm.2 w hw i hi, q_in (by omega), q_cl (by omega), hmd.2.2.2.1 _ hwi, nI_add, nI_add]
    exact ⟨hw, fun h => by omega, fun _ => ⟨by omega, by omega, ih _ (by rw [fb_sm_succ])⟩⟩
theorem clB_iff {X : aX} {w : Nat} : clB X w = true ↔ ∃ i o, i < X 11 w ∧ o < X 5 0 ∧ goes X o (X 12 (10 * w + i)) = true ∧ apW X o w = true := by
  unfold clB
  rw [anyB_iff]
  constructor
  · rintro ⟨o, ho, h⟩
    simp only [Bool.and_eq_true, decide_eq_true_eq] at h
    obtain ⟨b, hb⟩ : ∃ b, (wyB X w &&& wyB X o).testBit b = true := Nat.exists_testBit_of_ne_zero h.1
    rw [Nat.testBit_and, Bool.and_eq_true] at hb
    obtain ⟨i, hi, e⟩ := goes_iff.mp hb.1
    exact ⟨i, o, hi, ho, by rw [e]; exact hb.2, h.2⟩
  · rintro ⟨i, o, hi, ho, h1, h2⟩
    refine ⟨o, ho, ?_⟩
    simp only [Bool.and_eq_true, decide_eq_true_eq]
    refine ⟨fun h0 => ?_, h2⟩
    have h3 : (wyB X w).testBit (X 12 (10 * w + i)) = true := goes_iff.mpr ⟨i, hi, rfl⟩
    have h4 : (wyB X w &&& wyB X o).testBit (X 12 (10 * w + i)) = true := by rw [Nat.testBit_and, h3]; exact h1
    rw [h0] at h4; simp at h4
theorem r_X7_isClash (hd : xD X) (hx : xW X) (hy : xY X) (ha : xA X) (hmw : mW μ X) (hm : mY μ X) (hma : mA μ X) {w : Nat} (hw : w < X 5 0) : a_Ret G sX7_isClash [.ref 36, .int (nI w)] μ (some (.int (bI (clB X w)))) μ := by
  intro post hp
  have hn := hx.1
  have hdn := hd.1
  have hw8 := hx.2.1 w hw
  obtain ⟨hs, -, hin, -⟩ := hy w (by omega)
  have hend : anyB (fun i => anyB (fun o => goes X o (X 12 (10 * w + i)) && apW X o w) (X 5 0)) (X 11 w) = clB X w := b_eq (by
    rw [anyB_iff, clB_iff]
    constructor
    · rintro ⟨i, hi, h⟩
      obtain ⟨o, ho, h⟩ := anyB_iff.mp h
      simp only [Bool.and_eq_true] at h
      exact ⟨i, o, hi, ho, h.1, h.2⟩
    · rintro ⟨i, o, hi, ho, h1, h2⟩
      exact ⟨i, hi, anyB_iff.mpr ⟨o, ho, by rw [h1, h2]; rfl⟩⟩)
  refine w_X7_isClash_0 _ ?_
  refine a_for (fun i (x : Bool) => a_Runs G sX7_isClash 4 [(0, .ref 36), (1, .int (nI w)), (2, .int (bI x)), (3, .int (nI i))] [] μ post) (fun i x => x = anyB (fun i => anyB (fun o => goes X o (X 12 (10 * w + i)) && apW X o w) (X 5 0)) i) (X 11 w) ?_ ?_ 0 false (by omega) rfl
  · rintro x rfl
    refine w_X7_isClash_4 _ _ _ ?_
    rw [q_in (by omega), q_cl (by omega), hm.1 w (by omega)]
    refine ⟨by omega, fun _ => ⟨bI_01 _, ?_⟩, fun h => absurd (by rw [q_le] <;> omega) h⟩
    rw [hend]; exact hp
  · rintro i x hi rfl ih
    have hwi := hin i hi
    refine w_X7_isClash_4 _ _ _ ?_
    rw [q_in (by omega), q_cl (by omega), hm.1 w (by omega), q_le (by omega) (by omega)]
    refine ⟨by omega, fun h => by omega, fun _ => ?_⟩
    refine a_for (fun j (x : Bool) => a_Runs G sX7_isClash 17 [(0, .ref 36), (1, .int (nI w)), (2, .int (bI x)), (3, .int (nI i)), (4, .int (nI j))] [] μ post) (fun j x => x = (anyB (fun i => anyB (fun o => goes X o (X 12 (10 * w + i)) && apW X o w) (X 5 0)) i || anyB (fun o => goes X o (X 12 (10 * w + i)) && apW X o w) j)) (X 5 0) ?_ ?_ 0 _ (by omega) (by simp [anyB])
    · rintro x rfl
      refine w_X7_isClash_17 _ _ _ _ ⟨fun _ => ?_, fun h => absurd (by rw [hmw.1, q_le] <;> omega) h⟩
      rw [nI_add]; exact ih _ rfl
    · rintro j x hj rfl ih2
      have hj8 := hx.2.1 j hj
      have hap := (ha (X 9 j) (X 9 w) (by omega) (by omega)).1
      refine w_X7_isClash_17 _ _ _ _ ⟨fun h => ?_, fun _ => ?_⟩
      · rw [hmw.1, q_le (by omega) (by omega)] at h; omega
      rw [nI_add, pk_mul, nI_add, q_in (by omega), q_cl (by omega), hm.2 w (by omega) i hi]
      refine br_n (fun h1 => ih2 true ?_) (fun h1 => ⟨by omega, ?_⟩)
      · rw [anyB]
        rw [Bool.or_eq_true] at h1
        rcases h1 with h1 | h1 <;> rw [h1] <;> simp
      · rw [Bool.or_eq_false_iff] at h1
        refine r_X7_goesBy hy hm (by omega) (by omega) hdn _ ⟨_, rfl, br_b (fun h2 => ih2 false ?_) (fun h2 => ?_)⟩
        · rw [anyB, h1.1, h1.2, h2]; rfl
        · rw [q_in (by omega), q_in (by omega), q_cl (by omega), q_cl (by omega), hmw.2.2.2.2.1 j hj, hmw.2.2.2.2.1 w hw, pk_mul, nI_add, q_in (by omega), q_cl (by omega), hma _ (by omega), q_e0 (by omega)]
          refine ⟨by omega, by omega, by omega, fun h3 => ih2 false ?_, fun h3 => ih2 true ?_⟩
          · rw [anyB, h1.1, h1.2, h2, apW, decide_eq_false (by omega)]; rfl
          · rw [anyB, h1.1, h1.2, h2, apW, decide_eq_true (by omega)]; rfl
theorem r_X7_clashes (hd : xD X) (hx : xW X) (hy : xY X) (ha : xA X) (hmw : mW μ X) (hm : mY μ X) (hma : mA μ X) : a_Ret G sX7_clashes [.ref 36] μ (some (.int (nI (fb_ct (clB X) (X 5 0))))) μ := by
  intro post hp
  have hn := hx.1
  refine w_X7_clashes_0 ?_
  refine a_for (fun i (x : Int32) => a_Runs G sX7_clashes 4 [(0, .ref 36), (1, .int x), (2, .int (nI i))] [] μ post) (fun i x => x = nI (fb_ct (clB X) i)) (X 5 0) ?_ ?_ 0 _ (by omega) rfl
  · rintro x rfl
    exact w_X7_clashes_4 _ _ ⟨fun _ => hp, fun h => absurd (by rw [hmw.1, q_le] <;> omega) h⟩
  · rintro i x hi rfl ih
    refine w_X7_clashes_4 _ _ ⟨fun h => ?_, fun _ => ?_⟩
    · rw [hmw.1, q_le (by omega) (by omega)] at h; omega
    rw [nI_add, nI_add, nI_add]
    refine r_X7_isClash hd hx hy ha hmw hm hma hi _ ⟨_, rfl, br_b (fun h1 => ih _ ?_) (fun h1 => ih _ ?_)⟩
    · rw [fb_ct_succ, h1]; rfl
    · rw [fb_ct_succ, h1]; rfl
end MWAYS
end
section
/-! ===== lift, way, length, left, loss, count ===== -/
def isW (X : aX) (x : Int32) : Bool := inB x (nI 0) (nI (X 5 0) - nI 1)
def lX (X : aX) (w : Nat) : aX := va_up X 11 (upN (X 11) w 0)
def fLift (X : aX) (x : Int32) : Int32 × aX := if isW X x then if X 11 x.toNatClampNeg = 0 then (-3, X) else (nI (wyL X x.toNatClampNeg), lX X x.toNatClampNeg) else (-1, X)
def aWay (X : aX) (x i : Int32) : Int32 := if isW X x then if inB i (nI 0) (nI (X 11 x.toNatClampNeg) - nI 1) then nI (X 12 (10 * x.toNatClampNeg + i.toNatClampNeg)) else -9 else -1
def aLength (X : aX) (x : Int32) : Int32 := if isW X x then if X 11 x.toNatClampNeg = 0 then -9 else nI (wyL X x.toNatClampNeg) else -1
def aLeft (X : aX) (x : Int32) (m : Bool) : Int32 := if inB x (nI 0) (nI (X 0 0) - nI 1) then if m then nI (fb_ct (fun w => goes X w x.toNatClampNeg) (X 5 0)) else nI (X 4 x.toNatClampNeg) - nI (fullB X x.toNatClampNeg (X 5 0)) else -1
def aLoss (X : aX) (x c : Int32) : Int32 := if isW X x then if inB c (nI 1) (nI 100) then if X 11 x.toNatClampNeg = 0 then -3 else (nI 20 * c * nI (wyL X x.toNatClampNeg) + nI (X 8 x.toNatClampNeg) - nI 1) / nI (X 8 x.toNatClampNeg) else -2 else -1
def aCount (X : aX) (x : Int32) : Int32 := if x.toInt = 0 then nI (X 0 0) else if x.toInt = 1 then nI (X 5 0) else if x.toInt = 2 then nI (fb_ct (fun w => decide (X 11 w ≠ 0)) (X 5 0)) else if x.toInt = 3 then nI (X 14 0) else if x.toInt = 4 then nI (pop (usedN (X 18))) else if x.toInt = 5 then nI (fb_sm (wyL X) (X 5 0)) else -2
section WAYOPS
variable {G : aG} {μ : aMem} {X : aX}
theorem lX_B {X : aX} {w v : Nat} : wyB (lX X w) v = if v = w then 0 else wyB X v := by
  show orF (fun i => 2 ^ X 12 (10 * v + i)) (upN (X 11) w 0 v) = _
  by_cases e : v = w
  · rw [if_pos e, e, upN_s]; rfl
  · rw [if_neg e, upN_n _ _ e]; rfl
theorem lX_L {X : aX} {w v : Nat} : wyL (lX X w) v = if v = w then 0 else wyL X v := by
  show fb_sm (fun i => X 3 (X 12 (10 * v + i))) (upN (X 11) w 0 v) = _
  by_cases e : v = w
  · rw [if_pos e, e, upN_s]; rfl
  · rw [if_neg e, upN_n _ _ e]; rfl
theorem c_lift (hd : xD X) (hx : xW X) (hy : xY X) (hcw : cW μ X) (hc : cY μ X) (x : Int32) : a_Spec G sX6_lift [.ref 0, .int x] μ (fun v ν => v = some (.int (fLift X x).1) ∧ cY ν (fLift X x).2 ∧ a_eqx [18, 19] μ ν) := by
  have hn := hx.1
  refine w_X6_lift_0 _ (r_X6_isWire _ _ ⟨_, rfl, ?_⟩)
  rw [hcw.1]
  refine br_n (fun h1 => ?_) (fun h1 => ?_)
  · obtain ⟨e1, b1⟩ := inB_wi (by omega) h1
    generalize hw : x.toNatClampNeg = w at *
    subst e1
    refine r_X5_isLaid hd hy hc (by omega) _ ⟨_, rfl, br_n (fun h2 => ?_) (fun h2 => ?_)⟩
    · have h2 : X 11 w ≠ 0 := of_decide_eq_true h2
      have e : fLift X (nI w) = (nI (wyL X w), lX X w) := by unfold fLift isW; rw [h1, if_pos rfl, hw, if_neg h2]
      rw [e, q_in (by omega)]
      try rw [hw]
      rw [hc.2.1 w (by omega)]
      refine ⟨by omega, w_X5_takeOut_0 _ ?_⟩
      rw [q_in (by omega), hw]
      refine ⟨by omega, by omega, rfl, rfl, ⟨?_, ?_, ?_⟩, ?_⟩
      · exact rp_cong (rp_at (k := w) (v := 0) hc.1 rfl) (fun i hi => by rw [lX_B]; rfl)
      · exact rp_cong (rp_at (k := w) (v := 0) hc.2.1 rfl) (fun i hi => by rw [lX_L]; rfl)
      · intro v hv i hi
        have hi : i < upN (X 11) w 0 v := hi
        by_cases ev : v = w
        · rw [ev, upN_s] at hi; omega
        · rw [upN_n _ _ ev] at hi; exact hc.2.2 v hv i hi
      · intro k hk
        simp only [List.mem_cons, List.not_mem_nil, or_false, not_or] at hk
        refine ⟨?_, rfl⟩
        show va_up (va_up μ.1 18 _) 19 _ k = _
        rw [va_up_ne _ _ hk.2, va_up_ne _ _ hk.1]
    · have h2 : X 11 w = 0 := by simpa using h2
      have e : fLift X (nI w) = (-3, X) := by unfold fLift isW; rw [h1, if_pos rfl, hw, if_pos h2]
      rw [e]; exact ⟨rfl, hc, a_eqx.rf _ _⟩
  · have e : fLift X x = (-1, X) := by unfold fLift isW; rw [h1, if_neg (by decide)]
    rw [e]; exact ⟨rfl, hc, a_eqx.rf _ _⟩
theorem m_lift (hd : xD X) (hx : xW X) (hy : xY X) (hmd : mD μ X) (hmw : mW μ X) (hm : mY μ X) (x : Int32) : a_Spec G sX7_lift [.ref 36, .int x] μ (fun v ν => v = some (.int (fLift X x).1) ∧ mY ν (fLift X x).2 ∧ a_eqx [46] μ ν) := by
  have hn := hx.1
  refine w_X7_lift_0 _ (r_X7_isWire _ _ ⟨_, rfl, ?_⟩)
  rw [hmw.1]
  refine br_n (fun h1 => ?_) (fun h1 => ?_)
  · obtain ⟨e1, b1⟩ := inB_wi (by omega) h1
    generalize hw : x.toNatClampNeg = w at *
    subst e1
    have h9 := (hy w (by omega)).1
    rw [q_in (by omega)]
    try rw [hw]
    rw [hm.1 w (by omega), q_e0 (by omega)]
    refine ⟨by omega, fun h2 => ?_, fun h2 => ?_⟩
    · have e : fLift X (nI w) = (nI (wyL X w), lX X w) := by unfold fLift isW; rw [h1, if_pos rfl, hw, if_neg h2]
      rw [e]
      refine r_X7_lengthOf hd hy hmd hm (by omega) _ ⟨_, rfl, by omega, rfl, ⟨?_, ?_⟩, a_eqx.up _ _ _⟩
      · exact rp_at (k := w) (v := 0) hm.1 rfl
      · intro v hv i hi
        have hi : i < upN (X 11) w 0 v := hi
        by_cases ev : v = w
        · rw [ev, upN_s] at hi; omega
        · rw [upN_n _ _ ev] at hi; exact hm.2 v hv i hi
    · have e : fLift X (nI w) = (-3, X) := by unfold fLift isW; rw [h1, if_pos rfl, hw, if_pos h2]
      rw [e]; exact ⟨rfl, hm, a_eqx.rf _ _⟩
  · have e : fLift X x = (-1, X) := by unfold fLift isW; rw [h1, if_neg (by decide)]
    rw [e]; exact ⟨rfl, hm, a_eqx.rf _ _⟩
theorem c_way (hd : xD X) (hx : xW X) (hy : xY X) (hcw : cW μ X) (hc : cY μ X) (x i : Int32) : a_Ret G sX6_way [.ref 0, .int x, .int i] μ (some (.int (aWay X x i))) μ := by
  intro post hp
  have hn := hx.1
  refine w_X6_way_0 _ _ (r_X6_isWire _ _ ⟨_, rfl, ?_⟩)
  rw [hcw.1]
  unfold aWay isW at hp
  refine br_n (fun h1 => ?_) (fun h1 => ?_)
  · obtain ⟨e1, b1⟩ := inB_wi (by omega) h1
    rw [h1, if_pos rfl] at hp
    generalize hw : x.toNatClampNeg = w at *
    subst e1
    obtain ⟨h9, -⟩ := hy w (by omega)
    have h16 := wyB_lt hd hy (w := w) (by omega)
    refine w_X5_step_0 _ _ ⟨fun h2 => ?_, fun h2 => ?_⟩
    · have h3 : inB i (nI 0) (nI (X 11 w) - nI 1) = false := by
        refine Bool.eq_false_iff.mpr (fun h => ?_)
        obtain ⟨j, hj, rfl⟩ := (inB_m1 (by omega)).mp h
        rw [q_n0 (by omega)] at h2; exact h2
      rw [h3, if_neg (by decide)] at hp
      exact ⟨_, rfl, hp⟩
    · rw [q_in (by omega), q_cl (by omega), hc.1 w (by omega)]
      refine ⟨by omega, r_J6_bitCount h16 _ ⟨_, rfl, ?_⟩⟩
      rw [pop_wyB hd hy (by omega)]
      obtain ⟨j, hj, rfl⟩ := nI_of h2
      rw [q_lt hj (by omega)]
      refine ⟨fun h3 => ?_, fun h3 => ?_⟩
      · have h4 : inB (nI j) (nI 0) (nI (X 11 w) - nI 1) = true := (inB_m1 (by omega)).mpr ⟨j, h3, rfl⟩
        rw [h4, if_pos rfl, q_cl hj] at hp
        rw [pk_mul, nI_add, q_in (by omega), q_cl (by omega), Nat.mul_comm w 9, hc.2.2 w (by omega) j h3]
        exact ⟨by omega, _, rfl, hp⟩
      · have h4 : inB (nI j) (nI 0) (nI (X 11 w) - nI 1) = false := by
          refine Bool.eq_false_iff.mpr (fun h => ?_)
          obtain ⟨k, hk, e⟩ := (inB_m1 (by omega)).mp h
          rw [q_eq hj (by omega)] at e; omega
        rw [h4, if_neg (by decide)] at hp
        exact ⟨_, rfl, hp⟩
  · rw [h1, if_neg (by decide)] at hp; exact hp
theorem m_way (hx : xW X) (hy : xY X) (hmw : mW μ X) (hm : mY μ X) (x i : Int32) : a_Ret G sX7_way [.ref 36, .int x, .int i] μ (some (.int (aWay X x i))) μ := by
  intro post hp
  have hn := hx.1
  refine w_X7_way_0 _ _ (r_X7_isWire _ _ ⟨_, rfl, ?_⟩)
  rw [hmw.1]
  unfold aWay isW at hp
  refine br_n (fun h1 => ?_) (fun h1 => ?_)
  · obtain ⟨e1, b1⟩ := inB_wi (by omega) h1
    rw [h1, if_pos rfl] at hp
    generalize hw : x.toNatClampNeg = w at *
    subst e1
    obtain ⟨h9, -⟩ := hy w (by omega)
    rw [q_in (by omega)]
    try rw [hw]
    rw [hm.1 w (by omega)]
    refine ⟨by omega, r_X7_in _ _ _ _ ⟨_, rfl, br_b (fun h2 => ?_) (fun h2 => ?_)⟩⟩
    · rw [h2, if_neg (by decide)] at hp; exact hp
    · rw [h2, if_pos rfl] at hp
      obtain ⟨e2, b2⟩ := inB_wi (by omega) h2
      generalize hw2 : i.toNatClampNeg = j at *
      subst e2
      rw [pk_mul, nI_add, q_in (by omega), q_cl (by omega), hm.2 w (by omega) j b2]
      exact ⟨by omega, hp⟩
  · rw [h1, if_neg (by decide)] at hp; exact hp
theorem c_length (hd : xD X) (hx : xW X) (hy : xY X) (hcw : cW μ X) (hc : cY μ X) (x : Int32) : a_Ret G sX6_length [.ref 0, .int x] μ (some (.int (aLength X x))) μ := by
  intro post hp
  have hn := hx.1
  refine w_X6_length_0 _ (r_X6_isWire _ _ ⟨_, rfl, ?_⟩)
  rw [hcw.1]
  unfold aLength isW at hp
  refine br_n (fun h1 => ?_) (fun h1 => ?_)
  · obtain ⟨e1, b1⟩ := inB_wi (by omega) h1
    rw [h1, if_pos rfl] at hp
    generalize hw : x.toNatClampNeg = w at *
    subst e1
    refine r_X5_isLaid hd hy hc (by omega) _ ⟨_, rfl, br_b (fun h2 => ?_) (fun h2 => ?_)⟩
    · rw [if_pos (by simpa using h2)] at hp; exact hp
    · rw [if_neg (of_decide_eq_true h2)] at hp
      rw [q_in (by omega)]
      try rw [hw]
      rw [hc.2.1 w (by omega)]
      exact ⟨by omega, hp⟩
  · rw [h1, if_neg (by decide)] at hp; exact hp
theorem m_length (hd : xD X) (hx : xW X) (hy : xY X) (hmd : mD μ X) (hmw : mW μ X) (hm : mY μ X) (x : Int32) : a_Ret G sX7_length [.ref 36, .int x] μ (some (.int (aLength X x))) μ := by
  intro post hp
  have hn := hx.1
  refine w_X7_length_0 _ (r_X7_isWire _ _ ⟨_, rfl, ?_⟩)
  rw [hmw.1]
  unfold aLength isW at hp
  refine br_n (fun h1 => ?_) (fun h1 => ?_)
  · obtain ⟨e1, b1⟩ := inB_wi (by omega) h1
    rw [h1, if_pos rfl] at hp
    generalize hw : x.toNatClampNeg = w at *
    subst e1
    have h9 := (hy w (by omega)).1
    rw [q_in (by omega)]
    try rw [hw]
    rw [hm.1 w (by omega), q_e0 (by omega)]
    refine ⟨by omega, fun h2 => ?_, fun h2 => ?_⟩
    · rw [if_neg h2] at hp
      exact r_X7_lengthOf hd hy hmd hm (by omega) _ ⟨_, rfl, hp⟩
    · rw [if_pos h2] at hp; exact hp
  · rw [h1, if_neg (by decide)] at hp; exact hp
theorem c_left (hd : xD X) (hx : xW X) (hy : xY X) (hcd : cD μ X) (hcw : cW μ X) (hc : cY μ X) (x : Int32) (m : Bool) : a_Ret G sX6_left [.ref 0, .int x, .int (bI m)] μ (some (.int (aLeft X x m))) μ := by
  intro post hp
  have hn := hd.1
  refine w_X6_left_0 _ _ (r_X6_isWithin _ _ _ _ ⟨_, rfl, ?_⟩)
  rw [hcd.1]
  unfold aLeft at hp
  refine br_n (fun h1 => br_b (fun h2 => ?_) (fun h2 => ?_)) (fun h1 => ?_)
  · obtain ⟨e1, b1⟩ := inB_wi (by omega) h1
    rw [h1, if_pos rfl, h2, if_neg (by decide)] at hp
    generalize hw : x.toNatClampNeg = w at *
    subst e1
    rw [q_in (by omega)]
    try rw [hw]
    rw [hcd.2.2.2.2.2.1 w b1]
    exact ⟨by omega, r_X5_thicknessThrough hd hx hy hcw hc (by omega) _ ⟨_, rfl, hp⟩⟩
  · obtain ⟨e1, b1⟩ := inB_wi (by omega) h1
    rw [h1, if_pos rfl, h2, if_pos rfl] at hp
    generalize hw : x.toNatClampNeg = w at *
    subst e1
    exact r_X5_laidThrough hd hx hy hcw hc (by omega) _ ⟨_, rfl, hp⟩
  · rw [h1, if_neg (by decide)] at hp; exact hp
theorem m_left (hd : xD X) (hx : xW X) (hy : xY X) (hmd : mD μ X) (hmw : mW μ X) (hm : mY μ X) (x : Int32) (m : Bool) : a_Ret G sX7_left [.ref 36, .int x, .int (bI m)] μ (some (.int (aLeft X x m))) μ := by
  intro post hp
  have hn := hd.1
  have hwn := hx.1
  refine w_X7_left_0 _ _ (r_X7_isDuct _ _ ⟨_, rfl, ?_⟩)
  rw [hmd.1]
  unfold aLeft at hp
  refine br_n (fun h1 => ?_) (fun h1 => ?_)
  · obtain ⟨e1, b1⟩ := inB_wi (by omega) h1
    rw [h1, if_pos rfl] at hp
    generalize hw : x.toNatClampNeg = w at *
    subst e1
    refine a_for (fun i (z : Int32) => a_Runs G sX7_left 15 [(0, .ref 36), (1, .int (nI w)), (2, .int (bI m)), (3, .int z), (4, .int (nI i))] [] μ post) (fun i z => z = nI (fb_ct (fun v => goes X v w) i)) (X 5 0) ?_ ?_ 0 _ (by omega) rfl
    · rintro z rfl
      refine w_X7_left_15 _ _ _ _ ⟨fun _ => br_b (fun h2 => ?_) (fun h2 => ?_), fun h => absurd (by rw [hmw.1, q_le] <;> omega) h⟩
      · rw [h2, if_neg (by decide)] at hp
        rw [q_in (by omega)]
        try rw [hw]
        rw [hmd.2.2.2.2 w b1]
        exact ⟨by omega, r_X7_full hd hx hy hmw hm (by omega) _ ⟨_, rfl, hp⟩⟩
      · rw [h2, if_pos rfl] at hp; exact hp
    · rintro i z hi rfl ih
      refine w_X7_left_15 _ _ _ _ ⟨fun h => ?_, fun _ => ?_⟩
      · rw [hmw.1, q_le (by omega) (by omega)] at h; omega
      rw [nI_add, nI_add, nI_add]
      refine r_X7_goesBy hy hm (by omega) (by omega) hn _ ⟨_, rfl, br_b (fun h2 => ih _ ?_) (fun h2 => ih _ ?_)⟩
      · rw [fb_ct_succ, h2]; rfl
      · rw [fb_ct_succ, h2]; rfl
  · rw [h1, if_neg (by decide)] at hp; exact hp
theorem c_loss (hd : xD X) (hx : xW X) (hy : xY X) (hcw : cW μ X) (hc : cY μ X) (x c : Int32) : a_Ret G sX6_loss [.ref 0, .int x, .int c] μ (some (.int (aLoss X x c))) μ := by
  intro post hp
  have hn := hx.1
  refine w_X6_loss_0 _ _ (r_X6_isWire _ _ ⟨_, rfl, ?_⟩)
  rw [hcw.1]
  unfold aLoss isW at hp
  refine br_n (fun h1 => r_X6_isWithin _ _ _ _ ⟨_, rfl, br_n (fun h2 => ?_) (fun h2 => ?_)⟩) (fun h1 => ?_)
  · obtain ⟨e1, b1⟩ := inB_wi (by omega) h1
    rw [h1, if_pos rfl, h2, if_pos rfl] at hp
    generalize hw : x.toNatClampNeg = w at *
    subst e1
    have h8 := hx.2.1 w b1
    refine r_X5_isLaid hd hy hc (by omega) _ ⟨_, rfl, br_n (fun h3 => ?_) (fun h3 => ?_)⟩
    · rw [if_neg (of_decide_eq_true h3)] at hp
      rw [q_in (by omega)]
      try rw [hw]
      rw [hc.2.1 w (by omega), hcw.2.2.2.1 w b1]
      refine ⟨by omega, by omega, w_X6_dividedUp_0 _ _ ?_⟩
      rw [q_le (by omega) (by omega), q_e0 (by omega)]
      exact ⟨fun _ => ⟨by omega, _, rfl, hp⟩, fun h => absurd (by omega) h⟩
    · rw [if_pos (by simpa using h3)] at hp; exact hp
  · rw [h1, if_pos rfl, h2, if_neg (by decide)] at hp; exact hp
  · rw [h1, if_neg (by decide)] at hp; exact hp
theorem m_loss (hd : xD X) (hx : xW X) (hy : xY X) (hmd : mD μ X) (hmw : mW μ X) (hm : mY μ X) (x c : Int32) : a_Ret G sX7_loss [.ref 36, .int x, .int c] μ (some (.int (aLoss X x c))) μ := by
  intro post hp
  have hn := hx.1
  refine w_X7_loss_0 _ _ (r_X7_isWire _ _ ⟨_, rfl, ?_⟩)
  rw [hmw.1]
  unfold aLoss isW at hp
  refine br_n (fun h1 => r_X7_in _ _ _ _ ⟨_, rfl, br_n (fun h2 => ?_) (fun h2 => ?_)⟩) (fun h1 => ?_)
  · obtain ⟨e1, b1⟩ := inB_wi (by omega) h1
    rw [h1, if_pos rfl, h2, if_pos rfl] at hp
    generalize hw : x.toNatClampNeg = w at *
    subst e1
    have h8 := hx.2.1 w b1
    have h9 := (hy w (by omega)).1
    rw [q_in (by omega)]
    try rw [hw]
    rw [hm.1 w (by omega), q_e0 (by omega)]
    refine ⟨by omega, fun h3 => ?_, fun h3 => ?_⟩
    · rw [if_neg h3] at hp
      refine r_X7_lengthOf hd hy hmd hm (by omega) _ ⟨_, rfl, by omega, by omega, ?_⟩
      rw [hmw.2.2.2.1 w b1, q_e0 (by omega)]
      exact ⟨by omega, hp⟩
    · rw [if_pos h3] at hp; exact hp
  · rw [h1, if_pos rfl, h2, if_neg (by decide)] at hp; exact hp
  · rw [h1, if_neg (by decide)] at hp; exact hp
theorem sumL_le {X : aX} (hd : xD X) (hy : xY X) {k : Nat} (hk : k ≤ 20) : fb_sm (wyL X) k ≤ 17820 := by
  have h := fb_sm_bound (f := wyL X) (c := 891) (n := k) (fun i hi => wyL_le hd hy (by omega))
  have : k * 891 ≤ 20 * 891 := Nat.mul_le_mul_right _ hk
  omega
theorem r_X5_laid (hd : xD X) (hx : xW X) (hy : xY X) (hcw : cW μ X) (hc : cY μ X) : a_Ret G sX5_laid [.ref 2] μ (some (.int (nI (fb_ct (fun w => decide (X 11 w ≠ 0)) (X 5 0))))) μ := by
  intro post hp
  have hn := hx.1
  refine w_X5_laid_0 ?_
  refine a_for (fun i (x : Int32) => a_Runs G sX5_laid 4 [(0, .ref 2), (1, .int x), (2, .int (nI i))] [] μ post) (fun i x => x = nI (fb_ct (fun w => decide (X 11 w ≠ 0)) i)) (X 5 0) ?_ ?_ 0 _ (by omega) rfl
  · rintro x rfl
    exact w_X5_laid_4 _ _ ⟨fun _ => hp, fun h => absurd (by rw [hcw.1, q_le] <;> omega) h⟩
  · rintro i x hi rfl ih
    refine w_X5_laid_4 _ _ ⟨fun h => ?_, fun _ => ?_⟩
    · rw [hcw.1, q_le (by omega) (by omega)] at h; omega
    rw [nI_add, nI_add]
    refine r_X5_isLaid hd hy hc (by omega) _ ⟨_, rfl, br_b (fun h1 => ih _ ?_) (fun h1 => ih _ ?_)⟩
    · rw [fb_ct_succ, h1]; rfl
    · rw [fb_ct_succ, h1]; rfl
theorem r_X5_laidLength (hx : xW X) (hcw : cW μ X) (hc : cY μ X) : a_Ret G sX5_laidLength [.ref 2] μ (some (.int (nI (fb_sm (wyL X) (X 5 0))))) μ := by
  intro post hp
  have hn := hx.1
  refine w_X5_laidLength_0 ?_
  refine a_for (fun i (x : Int32) => a_Runs G sX5_laidLength 4 [(0, .ref 2), (1, .int x), (2, .int (nI i))] [] μ post) (fun i x => x = nI (fb_sm (wyL X) i)) (X 5 0) ?_ ?_ 0 _ (by omega) rfl
  · rintro x rfl
    exact w_X5_laidLength_4 _ _ ⟨fun _ => hp, fun h => absurd (by rw [hcw.1, q_le] <;> omega) h⟩
  · rintro i x hi rfl ih
    refine w_X5_laidLength_4 _ _ ⟨fun h => ?_, fun _ => ?_⟩
    · rw [hcw.1, q_le (by omega) (by omega)] at h; omega
    rw [q_in (by omega), q_cl (by omega), hc.2.1 i (by omega), nI_add, nI_add]
    exact ⟨by omega, ih _ (by rw [fb_sm_succ])⟩
theorem c_count (hd : xD X) (hx : xW X) (hy : xY X) (hn8 : xN X) (hcd : cD μ X) (hcw : cW μ X) (hc : cY μ X) (hco : cO μ X) (hcn : cN μ X) (x : Int32) : a_Ret G sX6_count [.ref 0, .int x] μ (some (.int (aCount X x))) μ := by
  intro post hp
  have hu := usedN_lt hn8
  unfold aCount at hp
  refine w_X6_count_0 _ ⟨fun h => ?_, fun h => ?_, fun h => ?_, fun h => ?_, fun h => ?_, fun h => ?_, fun h => ?_, trivial⟩
  · rw [if_neg (by omega), if_neg (by omega), if_neg (by omega), if_neg (by omega), if_neg (by omega), if_neg (by omega)] at hp; exact hp
  · rw [if_pos h] at hp; rw [hcd.1]; exact hp
  · rw [if_neg (by omega), if_pos h] at hp; rw [hcw.1]; exact hp
  · rw [if_neg (by omega), if_neg (by omega), if_pos h] at hp
    exact r_X5_laid hd hx hy hcw hc _ ⟨_, rfl, hp⟩
  · rw [if_neg (by omega), if_neg (by omega), if_neg (by omega), if_pos h] at hp; rw [hco.1]; exact hp
  · rw [if_neg (by omega), if_neg (by omega), if_neg (by omega), if_neg (by omega), if_pos h] at hp
    exact r_X2_usedNets hcn hn8 _ ⟨_, rfl, r_J6_bitCount (by omega) _ ⟨_, rfl, hp⟩⟩
  · rw [if_neg (by omega), if_neg (by omega), if_neg (by omega), if_neg (by omega), if_neg (by omega), if_pos h] at hp
    exact r_X5_laidLength hx hcw hc _ ⟨_, rfl, hp⟩
theorem m_count (hd : xD X) (hx : xW X) (hy : xY X) (hn8 : xN X) (hm : mR μ X) (x : Int32) : a_Ret G sX7_count [.ref 36, .int x] μ (some (.int (aCount X x))) μ := by
  intro post hp
  have hu := usedN_lt hn8
  have hwn := hx.1
  obtain ⟨hmd, hmw, hmy, hma, hmo, hmn⟩ := hm
  unfold aCount at hp
  refine w_X7_count_0 _ ?_
  refine a_for (fun i (z : Int32 × Int32) => a_Runs G sX7_count 7 [(0, .ref 36), (1, .int x), (2, .int z.1), (3, .int z.2), (4, .int (nI i))] [] μ post) (fun i z => z.1 = nI (fb_ct (fun w => decide (X 11 w ≠ 0)) i) ∧ z.2 = nI (fb_sm (wyL X) i)) (X 5 0) ?_ ?_ 0 (nI 0, nI 0) (by omega) ⟨rfl, rfl⟩
  · rintro ⟨z1, z2⟩ ⟨rfl, rfl⟩
    refine w_X7_count_7 _ _ _ _ ⟨fun _ => ⟨fun h => ?_, fun h => ?_, fun h => ?_, fun h => ?_, fun h => ?_, fun h => ?_, fun h => ?_, trivial⟩, fun h => absurd (by rw [hmw.1, q_le] <;> omega) h⟩
    · rw [if_neg (by omega), if_neg (by omega), if_neg (by omega), if_neg (by omega), if_neg (by omega), if_neg (by omega)] at hp; exact hp
    · rw [if_pos h] at hp; rw [hmd.1]; exact hp
    · rw [if_neg (by omega), if_pos h] at hp; rw [hmw.1]; exact hp
    · rw [if_neg (by omega), if_neg (by omega), if_pos h] at hp; exact hp
    · rw [if_neg (by omega), if_neg (by omega), if_neg (by omega), if_pos h] at hp; rw [hmo.1]; exact hp
    · rw [if_neg (by omega), if_neg (by omega), if_neg (by omega), if_neg (by omega), if_pos h] at hp
      exact r_X7_nets hmn hn8 _ ⟨_, rfl, r_X7_ones (by omega) _ ⟨_, rfl, hp⟩⟩
    · rw [if_neg (by omega), if_neg (by omega), if_neg (by omega), if_neg (by omega), if_neg (by omega), if_pos h] at hp; exact hp
  · rintro i ⟨z1, z2⟩ hi ⟨e1, e2⟩ ih
    have e1 : z1 = _ := e1
    have e2 : z2 = _ := e2
    subst e1
    subst e2
    have h9 := (hy i (by omega)).1
    refine w_X7_count_7 _ _ _ _ ⟨fun h => ?_, fun _ => ?_⟩
    · rw [hmw.1, q_le (by omega) (by omega)] at h; omega
    rw [q_in (by omega), q_cl (by omega), hmy.1 i (by omega), q_le0 (by omega)]
    refine ⟨by omega, fun h => r_X7_lengthOf hd hy hmd hmy (by omega) _ ⟨_, rfl, ?_⟩, fun h => r_X7_lengthOf hd hy hmd hmy (by omega) _ ⟨_, rfl, ?_⟩⟩
    · rw [nI_add, nI_add, nI_add]
      refine ih (_, _) ⟨?_, ?_⟩
      · show nI _ = _
        rw [fb_ct_succ, decide_eq_false (by omega)]; rfl
      · show nI _ = _
        rw [fb_sm_succ]
    · rw [nI_add, nI_add, nI_add]
      refine ih (_, _) ⟨?_, ?_⟩
      · show nI _ = _
        rw [fb_ct_succ, decide_eq_true h]; rfl
      · show nI _ = _
        rw [fb_sm_succ]
end WAYOPS
end
section
/-! ===== what orders need, weights, alike ===== -/
def ndS (X : aX) (s w : Nat) : Bool := decide ((nI (X 10 w) &&& (nI s ^^^ (-1))) = 0)
def ndM (X : aX) (s : Nat) : Nat := orF (fun w => if ndS X s w then 2 ^ w else 0) (X 5 0)
def wfM (X : aX) (set : Nat) : Nat := orF (fun o => if set.testBit o then ndM X (X 15 o) else 0) (X 14 0)
def wgM (X : aX) (m : Nat) : Nat := fb_sm (fun w => if m.testBit w then X 8 w else 0) (X 5 0)
def wgt (X : aX) (set : Nat) : Nat := fb_sm (fun w => if anyB (fun o => set.testBit o && ndS X (X 15 o) w) (X 14 0) then X 8 w else 0) (X 5 0)
theorem ndM_bit (X : aX) (s w : Nat) : (ndM X s).testBit w = true ↔ w < X 5 0 ∧ ndS X s w = true := by
  unfold ndM
  rw [orF_bit]
  constructor
  · rintro ⟨j, h1, h2⟩
    cases h : ndS X s j with
    | true => rw [h, if_pos rfl, Nat.testBit_two_pow] at h2; have e : j = w := by simpa using h2
              subst e; exact ⟨h1, h⟩
    | false => rw [h] at h2; simp at h2
  · rintro ⟨h1, h2⟩
    exact ⟨w, h1, by rw [h2, if_pos rfl, Nat.testBit_two_pow]; simp⟩
theorem ndM_lt {X : aX} (hx : xW X) (s : Nat) : ndM X s < 2 ^ 20 := orF_lt (fun w hw => by
  have := hx.1
  split
  · exact Nat.pow_lt_pow_right (by decide) (by omega)
  · exact Nat.two_pow_pos _)
theorem wfM_lt {X : aX} (hx : xW X) (s : Nat) : wfM X s < 2 ^ 20 := orF_lt (fun o ho => by
  split
  · exact ndM_lt hx _
  · exact Nat.two_pow_pos _)
theorem wgM_le {X : aX} (hx : xW X) (m : Nat) {k : Nat} (hk : k ≤ X 5 0) : fb_sm (fun w => if m.testBit w then X 8 w else 0) k ≤ 1000 := by
  have h := fb_sm_bound (f := fun w => if m.testBit w then X 8 w else 0) (c := 50) (n := k) (fun i hi => by
    show (if m.testBit i then X 8 i else 0) ≤ 50
    have := hx.2.1 i (by omega); split <;> omega)
  have := hx.1
  have : k * 50 ≤ 20 * 50 := Nat.mul_le_mul_right _ (by omega)
  omega
theorem wg_eq (X : aX) (set : Nat) : wgM X (wfM X set) = wgt X set := by
  unfold wgM wgt
  refine fb_sm_cong (fun w hw => ?_)
  have e : (wfM X set).testBit w = anyB (fun o => set.testBit o && ndS X (X 15 o) w) (X 14 0) := b_eq (by
    unfold wfM
    rw [orF_bit, anyB_iff]
    constructor
    · rintro ⟨o, ho, h⟩
      refine ⟨o, ho, ?_⟩
      cases hs : set.testBit o with
      | true => rw [hs, if_pos rfl] at h; rw [((ndM_bit _ _ _).mp h).2]; rfl
      | false => rw [hs] at h; simp at h
    · rintro ⟨o, ho, h⟩
      rw [Bool.and_eq_true] at h
      exact ⟨o, ho, by rw [h.1, if_pos rfl]; exact (ndM_bit _ _ _).mpr ⟨hw, h.2⟩⟩)
  rw [e]
theorem wgt_le {X : aX} (hx : xW X) (set : Nat) : wgt X set ≤ 1000 := by rw [← wg_eq]; exact wgM_le hx _ (Nat.le_refl _)
theorem ndM_eq {X : aX} {s t : Nat} : ndM X s = ndM X t ↔ ∀ w, w < X 5 0 → ndS X s w = ndS X t w := by
  constructor
  · intro h w hw
    refine b_eq ?_
    have h1 := ndM_bit X s w
    have h2 := ndM_bit X t w
    rw [h] at h1
    constructor
    · intro q; exact (h2.mp (h1.mpr ⟨hw, q⟩)).2
    · intro q; exact (h1.mp (h2.mpr ⟨hw, q⟩)).2
  · intro h
    unfold ndM
    exact orF_cong (fun i hi => by rw [h i hi])
def alk (X : aX) (o t : Nat) : Bool := decide (ndM X (X 15 o) = ndM X (X 15 t))
def tw (X : aX) (o : Nat) : Bool := anyB (fun t => decide (t ≠ o) && alk X o t) (X 14 0)
theorem low_bt : ∀ k, k ≤ 8 → ∀ i, i < 32 → bt (nI (2 ^ k - 1)) i = decide (i < k) := by decide +kernel
theorem low_set {k : Nat} (hk : k ≤ 8) (x : Int32) : (x &&& (nI (2 ^ k - 1) ^^^ (-1))) = 0 ↔ inB x (nI 0) (nI (2 ^ k - 1)) = true := by
  have hp : 2 ^ k ≤ 2 ^ 8 := Nat.pow_le_pow_right (by decide) hk
  have hp0 := Nat.two_pow_pos k
  have key : (x &&& (nI (2 ^ k - 1) ^^^ (-1))) = 0 ↔ ∀ i, i < 32 → bt x i = true → i < k := by
    constructor
    · intro h i hi hb
      have h1 : bt (x &&& (nI (2 ^ k - 1) ^^^ (-1))) i = false := by rw [h]; exact b_0 i
      rw [b_and, b_xor, hb, low_bt k hk i hi, b_m1 i hi] at h1
      simpa using h1
    · intro h
      refine b_ext (fun i hi => ?_)
      rw [b_and, b_xor, low_bt k hk i hi, b_m1 i hi, b_0]
      cases hb : bt x i with
      | false => rfl
      | true => simp [h i hi hb]
  rw [key]
  constructor
  · intro h
    obtain ⟨n, hn, rfl⟩ := wb_of32 x
    have hlt : n < 2 ^ k := by
      refine Nat.lt_pow_two_of_testBit n (fun i hi => ?_)
      refine Bool.eq_false_iff.mpr (fun hb => ?_)
      by_cases h32 : i < 32
      · have h2 : bt (nI n) i = true := by
          unfold bt
          show (BitVec.ofNat 32 n).getLsbD i = true
          rw [BitVec.getLsbD_ofNat]; simp [h32, hb]
        have := h i h32 h2; omega
      · have e : (2 : Nat) ^ 32 ≤ 2 ^ i := Nat.pow_le_pow_right (by decide) (by omega)
        rw [Nat.testBit_lt_two_pow (by omega)] at hb; cases hb
    rw [inB_nI (by omega) (by decide) (by omega)]
    simp only [Bool.and_eq_true, decide_eq_true_eq]
    omega
  · intro h i hi hb
    obtain ⟨j, -, hj, rfl⟩ := inB_e (by omega) h (by decide)
    have h2 : (BitVec.ofNat 32 j).getLsbD i = true := hb
    rw [BitVec.getLsbD_ofNat] at h2
    have h3 : j.testBit i = true := by simpa [hi] using h2
    rcases Nat.lt_or_ge i k with q | q
    · exact q
    · have e : (2 : Nat) ^ k ≤ 2 ^ i := Nat.pow_le_pow_right (by decide) q
      rw [Nat.testBit_lt_two_pow (by omega)] at h3; cases h3
def aWeight (X : aX) (x : Int32) : Int32 := if inB x (nI 0) (nI (2 ^ X 14 0 - 1)) then nI (wgt X x.toNatClampNeg) else -1
section WEIGHTS
variable {G : aG} {μ : aMem} {X : aX}
theorem r_X5_neededWith (hx : xW X) (hc : cW μ X) (s : Nat) : a_Ret G sX5_neededWith [.ref 2, .int (nI s)] μ (some (.int (nI (ndM X s)))) μ := by
  intro post hp
  have hn := hx.1
  refine w_X5_neededWith_0 _ ?_
  refine a_for (fun i (z : Int32) => a_Runs G sX5_neededWith 4 [(0, .ref 2), (1, .int (nI s)), (2, .int z), (3, .int (nI i))] [] μ post) (fun i z => z = nI (orF (fun w => if ndS X s w then 2 ^ w else 0) i)) (X 5 0) ?_ ?_ 0 _ (by omega) rfl
  · rintro z rfl
    exact w_X5_neededWith_4 _ _ _ ⟨fun _ => hp, fun h => absurd (by rw [hc.1, q_le] <;> omega) h⟩
  · rintro i z hi rfl ih
    refine w_X5_neededWith_4 _ _ _ ⟨fun h => ?_, fun _ => ?_⟩
    · rw [hc.1, q_le (by omega) (by omega)] at h; omega
    rw [q_in (by omega), q_cl (by omega), hc.2.2.2.2.2 i (by omega), nI_add, q_pow (by omega), fa_or]
    refine ⟨by omega, fun h => ih _ ?_, fun h => ih _ ?_⟩
    · rw [orF, ndS, decide_eq_false h]; simp
    · rw [orF, ndS, decide_eq_true h]; simp
theorem r_X5_weightOf (hx : xW X) (hc : cW μ X) {m : Nat} (hm : m < 2 ^ 31) : a_Ret G sX5_weightOf [.ref 2, .int (nI m)] μ (some (.int (nI (wgM X m)))) μ := by
  intro post hp
  have hn := hx.1
  refine w_X5_weightOf_0 _ ?_
  refine a_for (fun i (z : Int32) => a_Runs G sX5_weightOf 4 [(0, .ref 2), (1, .int (nI m)), (2, .int z), (3, .int (nI i))] [] μ post) (fun i z => z = nI (fb_sm (fun w => if m.testBit w then X 8 w else 0) i)) (X 5 0) ?_ ?_ 0 _ (by omega) rfl
  · rintro z rfl
    exact w_X5_weightOf_4 _ _ _ ⟨fun _ => hp, fun h => absurd (by rw [hc.1, q_le] <;> omega) h⟩
  · rintro i z hi rfl ih
    refine w_X5_weightOf_4 _ _ _ ⟨fun h => ?_, fun _ => ?_⟩
    · rw [hc.1, q_le (by omega) (by omega)] at h; omega
    rw [nI_add]
    refine r_X6_has hm (by omega) _ ⟨_, rfl, br_b (fun h1 => ih _ ?_) (fun h1 => ?_)⟩
    · rw [fb_sm_succ, h1]; rfl
    · rw [q_in (by omega), q_cl (by omega), hc.2.2.2.1 i hi, nI_add]
      refine ⟨by omega, ih _ ?_⟩
      rw [fb_sm_succ, h1]; rfl
theorem r_X1_allBits (hx : xO X) (hc : cO μ X) : a_Ret G sX1_allBits [.ref 5] μ (some (.int (nI (2 ^ X 14 0 - 1)))) μ := by
  intro post hp
  have hn := hx.1
  refine w_X1_allBits_0 ?_
  rw [hc.1, q_pow (by omega), q_sub (Nat.one_le_two_pow)]
  exact hp
theorem r_X1_wiresFor (hx : xW X) (ho : xO X) (hc : cW μ X) (hco : cO μ X) {set : Nat} (hs : set < 2 ^ 31) : a_Ret G sX1_wiresFor [.ref 5, .int (nI set)] μ (some (.int (nI (wfM X set)))) μ := by
  intro post hp
  have hn := ho.1
  refine w_X1_wiresFor_0 _ ?_
  refine a_for (fun i (z : Int32) => a_Runs G sX1_wiresFor 4 [(0, .ref 5), (1, .int (nI set)), (2, .int z), (3, .int (nI i))] [] μ post) (fun i z => z = nI (orF (fun o => if set.testBit o then ndM X (X 15 o) else 0) i)) (X 14 0) ?_ ?_ 0 _ (by omega) rfl
  · rintro z rfl
    exact w_X1_wiresFor_4 _ _ _ ⟨fun _ => hp, fun h => absurd (by rw [hco.1, q_le] <;> omega) h⟩
  · rintro i z hi rfl ih
    refine w_X1_wiresFor_4 _ _ _ ⟨fun h => ?_, fun _ => ?_⟩
    · rw [hco.1, q_le (by omega) (by omega)] at h; omega
    rw [nI_add]
    refine r_X6_has hs (by omega) _ ⟨_, rfl, br_b (fun h1 => ih _ ?_) (fun h1 => ?_)⟩
    · rw [orF, h1]; simp
    · rw [q_in (by omega), q_cl (by omega), hco.2.2.1 i hi]
      refine ⟨by omega, r_X5_neededWith hx hc _ _ ⟨_, rfl, ?_⟩⟩
      rw [fa_or]
      refine ih _ ?_
      rw [orF, h1]; simp
theorem c_weight (hx : xW X) (ho : xO X) (hc : cW μ X) (hco : cO μ X) (x : Int32) : a_Ret G sX6_weight [.ref 0, .int x] μ (some (.int (aWeight X x))) μ := by
  intro post hp
  have hn := ho.1
  have hpw : 2 ^ X 14 0 ≤ 2 ^ 8 := Nat.pow_le_pow_right (by decide) hn
  refine w_X6_weight_0 _ (r_X1_allBits ho hco _ ⟨_, rfl, ?_⟩)
  rw [low_set hn]
  unfold aWeight at hp
  refine ⟨fun h1 => ?_, fun h1 => ?_⟩
  · rw [if_pos h1] at hp
    obtain ⟨e1, -, b1⟩ := inB_cl (by omega) (by decide) h1
    generalize hw : x.toNatClampNeg = w at *
    subst e1
    have := wfM_lt hx w
    refine r_X1_wiresFor hx ho hc hco (by omega) _ ⟨_, rfl, r_X5_weightOf hx hc (by omega) _ ⟨_, rfl, ?_⟩⟩
    rw [wg_eq]; exact hp
  · rw [if_neg h1] at hp; exact hp
theorem r_X7_needs (hx : xW X) (ho : xO X) (hm : mW μ X) (hmo : mO μ X) {o w : Nat} (hw : w < 20) (hoo : o < X 14 0) : a_Ret G sX7_needs [.ref 36, .int (nI o), .int (nI w)] μ (some (.int (bI (ndS X (X 15 o) w)))) μ := by
  intro post hp
  have hn := ho.1
  refine w_X7_needs_0 _ _ ?_
  rw [q_in (by omega), q_in (by omega), q_cl (by omega), q_cl (by omega), hm.2.2.2.2.2 w hw, hmo.2.2.1 o hoo]
  unfold ndS at hp
  refine ⟨hw, by omega, fun h => ⟨nI_00, ?_⟩, fun h => ⟨nI_11, ?_⟩⟩
  · rw [decide_eq_false h] at hp; exact hp
  · rw [decide_eq_true h] at hp; exact hp
theorem r_X7_weightOf (hx : xW X) (ho : xO X) (hm : mW μ X) (hmo : mO μ X) {set : Nat} (hs : set < 2 ^ 31) : a_Ret G sX7_weightOf [.ref 36, .int (nI set)] μ (some (.int (nI (wgt X set)))) μ := by
  intro post hp
  have hn := hx.1
  have hon := ho.1
  refine w_X7_weightOf_0 _ ?_
  refine a_for (fun i (z : Int32) => a_Runs G sX7_weightOf 4 [(0, .ref 36), (1, .int (nI set)), (2, .int z), (3, .int (nI i))] [] μ post) (fun i z => z = nI (fb_sm (fun w => if anyB (fun o => set.testBit o && ndS X (X 15 o) w) (X 14 0) then X 8 w else 0) i)) (X 5 0) ?_ ?_ 0 _ (by omega) rfl
  · rintro z rfl
    exact w_X7_weightOf_4 _ _ _ ⟨fun _ => hp, fun h => absurd (by rw [hm.1, q_le] <;> omega) h⟩
  · rintro i z hi rfl ih
    refine w_X7_weightOf_4 _ _ _ ⟨fun h => ?_, fun _ => ?_⟩
    · rw [hm.1, q_le (by omega) (by omega)] at h; omega
    refine a_for (fun j (b : Bool) => a_Runs G sX7_weightOf 18 [(0, .ref 36), (1, .int (nI set)), (2, .int (nI (fb_sm (fun w => if anyB (fun o => set.testBit o && ndS X (X 15 o) w) (X 14 0) then X 8 w else 0) i))), (3, .int (nI i)), (4, .int (bI b)), (5, .int (nI j))] [] μ post) (fun j b => b = anyB (fun o => set.testBit o && ndS X (X 15 o) i) j) (X 14 0) ?_ ?_ 0 false (by omega) rfl
    · rintro b rfl
      refine w_X7_weightOf_18 _ _ _ _ _ ⟨fun _ => br_b (fun h1 => ?_) (fun h1 => ?_), fun h => absurd (by rw [hmo.1, q_le] <;> omega) h⟩
      · rw [nI_add, nI_add]
        refine ih _ ?_
        rw [fb_sm_succ, h1]; rfl
      · rw [q_in (by omega), q_cl (by omega), hm.2.2.2.1 i hi, nI_add, nI_add]
        refine ⟨by omega, ih _ ?_⟩
        rw [fb_sm_succ, h1]; rfl
    · rintro j b hj rfl ih2
      refine w_X7_weightOf_18 _ _ _ _ _ ⟨fun h => ?_, fun _ => ?_⟩
      · rw [hmo.1, q_le (by omega) (by omega)] at h; omega
      rw [nI_add, q_bit hs (by omega), bI_1]
      refine br_n (fun h1 => ih2 true ?_) (fun h1 => ⟨fun h2 => ih2 false ?_, fun h2 => r_X7_needs hx ho hm hmo (by omega) hj _ ⟨_, rfl, br_b (fun h3 => ih2 false ?_) (fun h3 => ih2 true ?_)⟩⟩)
      · rw [anyB, h1]; rfl
      · rw [anyB, h1, Bool.eq_false_iff.mpr h2]; rfl
      · rw [anyB, h1, h2, h3]; rfl
      · rw [anyB, h1, h2, h3]; rfl
theorem m_weight (hx : xW X) (ho : xO X) (hm : mW μ X) (hmo : mO μ X) (x : Int32) : a_Ret G sX7_weight [.ref 36, .int x] μ (some (.int (aWeight X x))) μ := by
  intro post hp
  have hn := ho.1
  have hpw : 2 ^ X 14 0 ≤ 2 ^ 8 := Nat.pow_le_pow_right (by decide) hn
  refine w_X7_weight_0 _ ?_
  rw [hmo.1, q_pow (by omega), q_sub (Nat.one_le_two_pow)]
  unfold aWeight at hp
  refine r_X7_in _ _ _ _ ⟨_, rfl, br_b (fun h1 => ?_) (fun h1 => ?_)⟩
  · rw [h1, if_neg (by decide)] at hp; exact hp
  · rw [h1, if_pos rfl] at hp
    obtain ⟨e1, -, b1⟩ := inB_cl (by omega) (by decide) h1
    generalize hw : x.toNatClampNeg = w at *
    subst e1
    exact r_X7_weightOf hx ho hm hmo (by omega) _ ⟨_, rfl, hp⟩
theorem r_X1_hasTwin (hx : xW X) (ho : xO X) (hc : cW μ X) (hco : cO μ X) {o : Nat} (hoo : o < X 14 0) : a_Ret G sX1_hasTwin [.ref 5, .int (nI o)] μ (some (.int (bI (tw X o)))) μ := by
  intro post hp
  have hn := ho.1
  refine w_X1_hasTwin_0 _ ?_
  rw [q_in (by omega), q_cl (by omega), hco.2.2.1 o hoo]
  refine ⟨by omega, r_X5_neededWith hx hc _ _ ⟨_, rfl, ?_⟩⟩
  refine a_for (fun i (_ : Unit) => a_Runs G sX1_hasTwin 16 [(0, .ref 5), (1, .int (nI o)), (2, .int (nI (ndM X (X 15 o)))), (3, .int (nI i))] [] μ post) (fun i _ => anyB (fun t => decide (t ≠ o) && alk X o t) i = false) (X 14 0) ?_ ?_ 0 () (by omega) rfl
  · rintro - hno
    refine w_X1_hasTwin_16 _ _ _ ⟨fun _ => ⟨nI_00, ?_⟩, fun h => absurd (by rw [hco.1, q_le] <;> omega) h⟩
    unfold tw at hp
    rw [hno] at hp; exact hp
  · rintro i - hi hno ih
    have h1 := ndM_lt hx (X 15 i)
    have h2 := ndM_lt hx (X 15 o)
    refine w_X1_hasTwin_16 _ _ _ ⟨fun h => ?_, fun _ => ?_⟩
    · rw [hco.1, q_le (by omega) (by omega)] at h; omega
    rw [q_eq (by omega) (by omega), nI_add]
    refine ⟨fun h => ih () ?_, fun h => ?_⟩
    · rw [anyB, hno, decide_eq_false (by omega)]; rfl
    · rw [q_in (by omega), q_cl (by omega), hco.2.2.1 i hi]
      refine ⟨by omega, r_X5_neededWith hx hc _ _ ⟨_, rfl, ?_⟩⟩
      rw [q_eq (by omega) (by omega)]
      refine ⟨fun h3 => ih () ?_, fun h3 => ⟨nI_11, ?_⟩⟩
      · have e3 : alk X o i = false := decide_eq_false (fun q => h3 q.symm)
        rw [anyB, hno, e3, Bool.and_false]; rfl
      · have h4 : tw X o = true := anyB_iff.mpr ⟨i, hi, by rw [alk, decide_eq_true h3.symm, decide_eq_true h]; rfl⟩
        rw [h4] at hp; exact hp
theorem c_alike (hx : xW X) (ho : xO X) (hc : cW μ X) (hco : cO μ X) : a_Ret G sX6_alike [.ref 0] μ (some (.int (nI (fb_ct (tw X) (X 14 0))))) μ := by
  intro post hp
  have hn := ho.1
  refine w_X6_alike_0 ?_
  refine a_for (fun i (z : Int32) => a_Runs G sX6_alike 4 [(0, .ref 0), (1, .int z), (2, .int (nI i))] [] μ post) (fun i z => z = nI (fb_ct (tw X) i)) (X 14 0) ?_ ?_ 0 _ (by omega) rfl
  · rintro z rfl
    exact w_X6_alike_4 _ _ ⟨fun _ => hp, fun h => absurd (by rw [hco.1, q_le] <;> omega) h⟩
  · rintro i z hi rfl ih
    refine w_X6_alike_4 _ _ ⟨fun h => ?_, fun _ => ?_⟩
    · rw [hco.1, q_le (by omega) (by omega)] at h; omega
    rw [nI_add, nI_add]
    refine r_X1_hasTwin hx ho hc hco hi _ ⟨_, rfl, br_b (fun h1 => ih _ ?_) (fun h1 => ih _ ?_)⟩
    · rw [fb_ct_succ, h1]; rfl
    · rw [fb_ct_succ, h1]; rfl
theorem bI_inj {a b : Bool} : (bI a = bI b) = (a = b) := by cases a <;> cases b <;> simp [bI] <;> decide
theorem r_X7_areAlike (hx : xW X) (ho : xO X) (hm : mW μ X) (hmo : mO μ X) {a b : Nat} (ha : a < X 14 0) (hb : b < X 14 0) : a_Ret G sX7_areAlike [.ref 36, .int (nI a), .int (nI b)] μ (some (.int (bI (alk X a b)))) μ := by
  intro post hp
  have hn := hx.1
  refine w_X7_areAlike_0 _ _ ?_
  refine a_for (fun i (z : Bool) => a_Runs G sX7_areAlike 5 [(0, .ref 36), (1, .int (nI a)), (2, .int (nI b)), (3, .int (bI z)), (4, .int (nI i))] [] μ post) (fun i z => z = true ↔ ∀ w, w < i → ndS X (X 15 a) w = ndS X (X 15 b) w) (X 5 0) ?_ ?_ 0 true (by omega) ⟨fun _ w h => by omega, fun _ => rfl⟩
  · intro z hz
    have e : alk X a b = z := b_eq (by rw [hz]; unfold alk; rw [decide_eq_true_iff]; exact ndM_eq)
    rw [e] at hp
    exact w_X7_areAlike_5 _ _ _ _ ⟨fun _ => ⟨bI_01 _, hp⟩, fun h => absurd (by rw [hm.1, q_le] <;> omega) h⟩
  · intro i z hi hz ih
    refine w_X7_areAlike_5 _ _ _ _ ⟨fun h => ?_, fun _ => ?_⟩
    · rw [hm.1, q_le (by omega) (by omega)] at h; omega
    rw [nI_add]
    refine br_b (fun h1 => ih false ⟨fun h => (by cases h), fun h => ?_⟩) (fun h1 => r_X7_needs hx ho hm hmo (by omega) ha _ ⟨_, rfl, r_X7_needs hx ho hm hmo (by omega) hb _ ⟨_, rfl, ?_⟩⟩)
    · have := hz.mpr (fun w hw => h w (by omega))
      rw [h1] at this; cases this
    · rw [bI_inj]
      refine ⟨fun h2 => ih false ⟨fun h => (by cases h), fun h => absurd (h i (by omega)) h2⟩, fun h2 => ih true ⟨fun _ w hw => ?_, fun _ => rfl⟩⟩
      by_cases e : w = i
      · rw [e]; exact h2
      · exact hz.mp h1 w (by omega)
theorem m_alike (hx : xW X) (ho : xO X) (hm : mW μ X) (hmo : mO μ X) : a_Ret G sX7_alike [.ref 36] μ (some (.int (nI (fb_ct (tw X) (X 14 0))))) μ := by
  intro post hp
  have hn := ho.1
  refine w_X7_alike_0 ?_
  refine a_for (fun i (z : Int32) => a_Runs G sX7_alike 4 [(0, .ref 36), (1, .int z), (2, .int (nI i))] [] μ post) (fun i z => z = nI (fb_ct (tw X) i)) (X 14 0) ?_ ?_ 0 _ (by omega) rfl
  · rintro z rfl
    exact w_X7_alike_4 _ _ ⟨fun _ => hp, fun h => absurd (by rw [hmo.1, q_le] <;> omega) h⟩
  · rintro i z hi rfl ih
    refine w_X7_alike_4 _ _ ⟨fun h => ?_, fun _ => ?_⟩
    · rw [hmo.1, q_le (by omega) (by omega)] at h; omega
    refine a_for (fun j (b : Bool) => a_Runs G sX7_alike 17 [(0, .ref 36), (1, .int (nI (fb_ct (tw X) i))), (2, .int (nI i)), (3, .int (bI b)), (4, .int (nI j))] [] μ post) (fun j b => b = anyB (fun t => decide (t ≠ i) && alk X i t) j) (X 14 0) ?_ ?_ 0 false (by omega) rfl
    · rintro b rfl
      refine w_X7_alike_17 _ _ _ _ ⟨fun _ => ?_, fun h => absurd (by rw [hmo.1, q_le] <;> omega) h⟩
      rw [nI_add, nI_add, nI_add]
      have e : anyB (fun t => decide (t ≠ i) && alk X i t) (X 14 0) = tw X i := rfl
      rw [e]
      refine br_b (fun h1 => ih _ ?_) (fun h1 => ih _ ?_)
      · rw [fb_ct_succ, h1]; rfl
      · rw [fb_ct_succ, h1]; rfl
    · rintro j b hj rfl ih2
      refine w_X7_alike_17 _ _ _ _ ⟨fun h => ?_, fun _ => ?_⟩
      · rw [hmo.1, q_le (by omega) (by omega)] at h; omega
      rw [q_eq (by omega) (by omega), nI_add]
      refine br_n (fun h1 => ih2 true ?_) (fun h1 => ⟨fun h2 => ih2 false ?_, fun h2 => r_X7_areAlike hx ho hm hmo hi hj _ ⟨_, rfl, br_b (fun h3 => ih2 false ?_) (fun h3 => ih2 true ?_)⟩⟩)
      · rw [anyB, h1]; rfl
      · rw [anyB, h1, decide_eq_false (by omega)]; rfl
      · rw [anyB, h1, h3, Bool.and_false]; rfl
      · rw [anyB, h1, h3, decide_eq_true (by omega)]; rfl
end WEIGHTS
end
section
/-! ===== shortest ways by rounds of lowering, over arcs (from, to, price, duct); pure ===== -/
abbrev Arc : Type := Nat × Nat × Int × Nat
def BIG : Int := 1000000
def upZ (T : Nat → Int) (k : Nat) (v : Int) : Nat → Int := fun i => if i = k then v else T i
theorem upZ_s (T : Nat → Int) (k : Nat) (v : Int) : upZ T k v k = v := by simp [upZ]
theorem upZ_n (T : Nat → Int) {k i : Nat} (v : Int) (h : i ≠ k) : upZ T k v i = T i := by simp [upZ, h]
def relax (T : Nat → Int) (e : Arc) : Nat → Int := if T e.2.1 = BIG then T else if e.2.2.1 + T e.2.1 < T e.1 then upZ T e.1 (e.2.2.1 + T e.2.1) else T
def rnd (as : List Arc) (T : Nat → Int) : Nat → Int := as.foldl relax T
def rnds (as : List Arc) : Nat → (Nat → Int) → (Nat → Int)
  | 0, T => T
  | k + 1, T => rnd as (rnds as k T)
def lab0 (g : Nat) : Nat → Int := fun v => if v = g then 0 else BIG
def wk (as : List Arc) : Nat → List Arc → Nat → Prop
  | p, [], g => p = g
  | p, e :: es, g => e ∈ as ∧ e.1 = p ∧ wk as e.2.1 es g
def cst : List Arc → Int
  | [] => 0
  | e :: es => e.2.2.1 + cst es
def vs : Nat → List Arc → List Nat
  | p, [] => [p]
  | p, e :: es => p :: vs e.2.1 es
def sufOK (T : Nat → Int) : Nat → List Arc → Prop
  | p, [] => T p ≤ 0
  | p, e :: es => T p ≤ e.2.2.1 + cst es ∧ sufOK T e.2.1 es
theorem cst_app : ∀ (a b : List Arc), cst (a ++ b) = cst a + cst b
  | [], b => by simp [cst]
  | e :: a, b => by show e.2.2.1 + cst (a ++ b) = _; rw [cst_app a b]; show _ = e.2.2.1 + cst a + cst b; omega
theorem wk_app {as : List Arc} : ∀ {a b : List Arc} {p q g : Nat}, wk as p a q → wk as q b g → wk as p (a ++ b) g
  | [], b, p, q, g, h1, h2 => by have h1 : p = q := h1
                                 subst h1; exact h2
  | e :: a, b, p, q, g, h1, h2 => ⟨h1.1, h1.2.1, wk_app h1.2.2 h2⟩
theorem vs_len : ∀ (p : Nat) (es : List Arc), (vs p es).length = es.length + 1
  | p, [] => rfl
  | p, e :: es => by show (vs e.2.1 es).length + 1 = _; rw [vs_len]; rfl
theorem vs_head (p : Nat) (es : List Arc) : p ∈ vs p es := by cases es <;> simp [vs]
theorem wk_pot {as : List Arc} {π : Nat → Int} (hπ : ∀ e ∈ as, π e.1 ≤ e.2.2.1 + π e.2.1) : ∀ {es : List Arc} {p g : Nat}, wk as p es g → π p ≤ cst es + π g
  | [], p, g, h => by have h : p = g := h
                      subst h; show π p ≤ 0 + π p; omega
  | e :: es, p, g, h => by
    have h1 := wk_pot hπ h.2.2
    have h2 := hπ e h.1
    rw [h.2.1] at h2
    show π p ≤ e.2.2.1 + cst es + π g
    omega
theorem vs_in {as : List Arc} {T : Nat → Int} : ∀ {es : List Arc} {p g u : Nat}, wk as p es g → sufOK T p es → u ∈ vs p es → ∃ pre suf, es = pre ++ suf ∧ wk as p pre u ∧ wk as u suf g ∧ T u ≤ cst suf
  | [], p, g, u, h, hs, hu => by
    have e : u = p := by simpa [vs] using hu
    subst e
    exact ⟨[], [], rfl, rfl, h, hs⟩
  | e :: es, p, g, u, h, hs, hu => by
    by_cases q : u = p
    · subst q; exact ⟨[], e :: es, rfl, rfl, h, hs.1⟩
    · have hu : u ∈ vs e.2.1 es := by
        have : u ∈ p :: vs e.2.1 es := hu
        rcases List.mem_cons.mp this with h | h
        · exact absurd h q
        · exact h
      obtain ⟨pre, suf, h1, h2, h3, h4⟩ := vs_in h.2.2 hs.2 hu
      exact ⟨e :: pre, suf, by rw [h1]; rfl, ⟨h.1, h.2.1, h2⟩, h3, h4⟩
theorem sufOK.mono {T T' : Nat → Int} (h : ∀ v, T' v ≤ T v) : ∀ {es : List Arc} {p : Nat}, sufOK T p es → sufOK T' p es
  | [], p, hs => Int.le_trans (h p) hs
  | e :: es, p, hs => ⟨Int.le_trans (h p) hs.1, sufOK.mono h hs.2⟩
theorem nodup_len {n : Nat} : ∀ {l : List Nat}, l.Nodup → (∀ x ∈ l, x < n) → l.length ≤ n := by
  intro l hn hl
  refine fb_holes n l.length (fun i => l.getD i 0) (fun i hi => ?_) (fun i j hij hj e => ?_)
  · have : l.getD i 0 = l[i] := by simp [List.getD, hi]
    show l.getD i 0 < n
    rw [this]; exact hl _ (List.getElem_mem hi)
  · have hi : i < l.length := by omega
    have e1 : l.getD i 0 = l[i] := by simp [List.getD, hi]
    have e2 : l.getD j 0 = l[j] := by simp [List.getD, hj]
    have e : l.getD i 0 = l.getD j 0 := e
    rw [e1, e2] at e
    exact (List.pairwise_iff_getElem.mp hn) i j hi hj hij e
/-- what is asked of the arcs -/
def arcOK (as : List Arc) : Prop := ∀ e ∈ as, e.1 < 10 ∧ e.2.1 < 10 ∧ -4000 ≤ e.2.2.1 ∧ e.2.2.1 ≤ 4000
theorem vs_lt {as : List Arc} (hA : arcOK as) : ∀ {es : List Arc} {p g : Nat}, p < 10 → wk as p es g → ∀ x ∈ vs p es, x < 10
  | [], p, g, hp, h, x, hx => by have : x = p := by simpa [vs] using hx
                                 rw [this]; exact hp
  | e :: es, p, g, hp, h, x, hx => by
    have hx : x ∈ p :: vs e.2.1 es := hx
    rcases List.mem_cons.mp hx with q | q
    · rw [q]; exact hp
    · exact vs_lt hA (hA e h.1).2.1 h.2.2 x q
theorem simple_len {as : List Arc} (hA : arcOK as) {es : List Arc} {p g : Nat} (hp : p < 10) (h : wk as p es g) (hn : (vs p es).Nodup) : es.length ≤ 9 := by
  have := nodup_len hn (vs_lt hA hp h)
  rw [vs_len] at this
  omega
theorem cst_le {as : List Arc} (hA : arcOK as) : ∀ {es : List Arc} {p g : Nat}, wk as p es g → -(4000 * (es.length : Int)) ≤ cst es ∧ cst es ≤ 4000 * (es.length : Int)
  | [], p, g, h => by simp [cst]
  | e :: es, p, g, h => by
    have h1 := cst_le hA h.2.2
    have h2 := hA e h.1
    have h3 : ((e :: es).length : Int) = (es.length : Int) + 1 := by simp
    show _ ≤ e.2.2.1 + cst es ∧ e.2.2.1 + cst es ≤ _
    omega
section BF
variable {as : List Arc} {g : Nat}
def bfI (as : List Arc) (g : Nat) (T : Nat → Int) : Prop := ∀ v, T v ≤ BIG ∧ (T v ≠ BIG → v < 10 ∧ ∃ es, wk as v es g ∧ cst es = T v ∧ (vs v es).Nodup ∧ sufOK T v es)
theorem bfI_0 (hg : g < 10) : bfI as g (lab0 g) := by
  intro v
  unfold lab0
  by_cases h : v = g
  · rw [if_pos h]
    refine ⟨by unfold BIG; omega, fun _ => ⟨by omega, [], h, rfl, by simp [vs], ?_⟩⟩
    show (if v = g then (0 : Int) else BIG) ≤ 0
    rw [if_pos h]; omega
  · rw [if_neg h]; exact ⟨Int.le_refl _, fun q => absurd rfl q⟩
theorem relax_le (T : Nat → Int) (e : Arc) (v : Nat) : relax T e v ≤ T v := by
  unfold relax
  split
  · exact Int.le_refl _
  · split
    · by_cases h : v = e.1
      · subst h; rw [upZ_s]; omega
      · rw [upZ_n _ _ h]; exact Int.le_refl _
    · exact Int.le_refl _
/-- a lower label has a way that doesn't come back -/
theorem bf_new {π : Nat → Int} (hπ : ∀ e ∈ as, π e.1 ≤ e.2.2.1 + π e.2.1) {T : Nat → Int} {e : Arc} (he : e ∈ as) {es : List Arc} (h1 : wk as e.2.1 es g) (h2 : cst es = T e.2.1) (h3 : (vs e.2.1 es).Nodup) (h4 : sufOK T e.2.1 es) (hlt : e.2.2.1 + T e.2.1 < T e.1) : wk as e.1 (e :: es) g ∧ (vs e.1 (e :: es)).Nodup := by
  refine ⟨⟨he, rfl, h1⟩, ?_⟩
  show (e.1 :: vs e.2.1 es).Nodup
  refine List.nodup_cons.mpr ⟨fun hin => ?_, h3⟩
  obtain ⟨pre, suf, q1, q2, q3, q4⟩ := vs_in h1 h4 hin
  have hc : wk as e.1 (e :: pre) e.1 := ⟨he, rfl, q2⟩
  have h5 := wk_pot hπ hc
  have h6 : cst (e :: pre) = e.2.2.1 + cst pre := rfl
  rw [q1, cst_app] at h2
  omega
theorem bfI_relax {π : Nat → Int} (hA : arcOK as) (hπ : ∀ e ∈ as, π e.1 ≤ e.2.2.1 + π e.2.1) {T : Nat → Int} (h : bfI as g T) {e : Arc} (he : e ∈ as) : bfI as g (relax T e) := by
  have hmono := relax_le T e
  by_cases h0 : T e.2.1 = BIG
  · have : relax T e = T := by unfold relax; rw [if_pos h0]
    rw [this]; exact h
  by_cases hlt : e.2.2.1 + T e.2.1 < T e.1
  · have hr : relax T e = upZ T e.1 (e.2.2.1 + T e.2.1) := by unfold relax; rw [if_neg h0, if_pos hlt]
    intro v
    by_cases hv : v = e.1
    · subst hv
      have hval : relax T e e.1 = e.2.2.1 + T e.2.1 := by rw [hr, upZ_s]
      rw [hval]
      refine ⟨by have := (h e.1).1; omega, fun _ => ⟨(hA e he).1, ?_⟩⟩
      obtain ⟨hq, es, h1, h2, h3, h4⟩ := (h e.2.1).2 h0
      obtain ⟨q1, q2⟩ := bf_new hπ he h1 h2 h3 h4 hlt
      refine ⟨e :: es, q1, ?_, q2, ?_, h4.mono hmono⟩
      · show e.2.2.1 + cst es = _; rw [h2]
      · rw [hval, h2]; exact Int.le_refl _
    · have hval : relax T e v = T v := by rw [hr, upZ_n _ _ hv]
      rw [hval]
      refine ⟨(h v).1, fun hne => ?_⟩
      obtain ⟨hq, es, h1, h2, h3, h4⟩ := (h v).2 hne
      exact ⟨hq, es, h1, h2, h3, h4.mono hmono⟩
  · have : relax T e = T := by unfold relax; rw [if_neg h0, if_neg hlt]
    rw [this]; exact h
theorem foldl_le : ∀ (l : List Arc) (T : Nat → Int) (v : Nat), l.foldl relax T v ≤ T v
  | [], T, v => Int.le_refl _
  | e :: l, T, v => Int.le_trans (foldl_le l (relax T e) v) (relax_le T e v)
theorem bfI_fold {π : Nat → Int} (hA : arcOK as) (hπ : ∀ e ∈ as, π e.1 ≤ e.2.2.1 + π e.2.1) : ∀ (l : List Arc) {T : Nat → Int}, (∀ e ∈ l, e ∈ as) → bfI as g T → bfI as g (l.foldl relax T)
  | [], T, _, h => h
  | e :: l, T, hl, h => bfI_fold hA hπ l (fun x hx => hl x (List.mem_cons_of_mem _ hx)) (bfI_relax hA hπ h (hl e List.mem_cons_self))
theorem bfI_rnds {π : Nat → Int} (hA : arcOK as) (hπ : ∀ e ∈ as, π e.1 ≤ e.2.2.1 + π e.2.1) (hg : g < 10) : ∀ k, bfI as g (rnds as k (lab0 g))
  | 0 => bfI_0 hg
  | k + 1 => bfI_fold hA hπ as (fun _ h => h) (bfI_rnds hA hπ hg k)
theorem fold_arc : ∀ (l : List Arc) (T : Nat → Int) (e : Arc) (B : Int), e ∈ l → T e.2.1 ≤ B → B < BIG → l.foldl relax T e.1 ≤ e.2.2.1 + B
  | [], T, e, B, h, _, _ => absurd h List.not_mem_nil
  | x :: l, T, e, B, h, hB, hb => by
    by_cases q : e = x
    · subst q
      refine Int.le_trans (foldl_le l _ _) ?_
      unfold relax
      rw [if_neg (by omega)]
      split
      · rw [upZ_s]; omega
      · omega
    · have h : e ∈ l := by
        rcases List.mem_cons.mp h with h | h
        · exact absurd h q
        · exact h
      exact fold_arc l (relax T x) e B h (Int.le_trans (relax_le T x _) hB) hb
theorem rnds_walk (hA : arcOK as) : ∀ (k : Nat) (es : List Arc) (v : Nat), wk as v es g → es.length ≤ k → k ≤ 100 → rnds as k (lab0 g) v ≤ cst es
  | 0, es, v, h, hl, _ => by
    have : es = [] := by cases es with
      | nil => rfl
      | cons a b => simp at hl
    subst this
    have h : v = g := h
    show (if v = g then (0 : Int) else BIG) ≤ 0
    rw [if_pos h]; omega
  | k + 1, [], v, h, hl, hk => by
    refine Int.le_trans (foldl_le as _ v) ?_
    exact rnds_walk hA k [] v h (by simp) (by omega)
  | k + 1, e :: es, v, h, hl, hk => by
    have hl : es.length ≤ k := by simpa using hl
    have h1 := rnds_walk hA k es e.2.1 h.2.2 hl (by omega)
    have h2 := cst_le hA h.2.2
    rw [← h.2.1]
    exact fold_arc as _ e _ h.1 h1 (by unfold BIG; omega)
/-- AFTER NINE ROUNDS: nothing can be lowered -/
theorem bf_fix {π : Nat → Int} (hA : arcOK as) (hπ : ∀ e ∈ as, π e.1 ≤ e.2.2.1 + π e.2.1) (hg : g < 10) {k : Nat} (hk : 9 ≤ k) (hk2 : k ≤ 100) : ∀ e ∈ as, rnds as k (lab0 g) e.2.1 ≠ BIG → rnds as k (lab0 g) e.1 ≤ e.2.2.1 + rnds as k (lab0 g) e.2.1 := by
  intro e he hne
  by_cases hlt : e.2.2.1 + rnds as k (lab0 g) e.2.1 < rnds as k (lab0 g) e.1
  · exfalso
    obtain ⟨hq, es, h1, h2, h3, h4⟩ := (bfI_rnds hA hπ hg k e.2.1).2 hne
    obtain ⟨q1, q2⟩ := bf_new hπ he h1 h2 h3 h4 hlt
    have hlen := simple_len hA (hA e he).1 q1 q2
    have := rnds_walk hA k (e :: es) e.1 q1 (by omega) hk2
    have hc : cst (e :: es) = e.2.2.1 + cst es := rfl
    omega
  · omega
theorem relax_fix {T : Nat → Int} {e : Arc} (h : T e.2.1 ≠ BIG → T e.1 ≤ e.2.2.1 + T e.2.1) : relax T e = T := by
  unfold relax
  split
  · rfl
  · rename_i h0; rw [if_neg]; have := h h0; omega
theorem fold_fix : ∀ (l : List Arc) {T : Nat → Int}, (∀ e ∈ l, T e.2.1 ≠ BIG → T e.1 ≤ e.2.2.1 + T e.2.1) → l.foldl relax T = T
  | [], T, _ => rfl
  | e :: l, T, h => by
    show l.foldl relax (relax T e) = T
    rw [relax_fix (h e List.mem_cons_self)]
    exact fold_fix l (fun x hx => h x (List.mem_cons_of_mem _ hx))
theorem rnds_fix {π : Nat → Int} (hA : arcOK as) (hπ : ∀ e ∈ as, π e.1 ≤ e.2.2.1 + π e.2.1) (hg : g < 10) : rnds as 10 (lab0 g) = rnds as 9 (lab0 g) := fold_fix as (bf_fix hA hπ hg (Nat.le_refl 9) (by decide))
/-- a round that changes nothing -/
theorem rnds_stay {T : Nat → Int} (h : rnd as T = T) : ∀ k, rnds as k T = T
  | 0 => rfl
  | k + 1 => by show rnd as (rnds as k T) = T; rw [rnds_stay h k, h]
theorem bf_goal {π : Nat → Int} (hA : arcOK as) (hπ : ∀ e ∈ as, π e.1 ≤ e.2.2.1 + π e.2.1) (hg : g < 10) (k : Nat) (hk : k ≤ 100) : rnds as k (lab0 g) g = 0 := by
  have h1 := rnds_walk hA k [] g rfl (by simp) hk
  have h2 : rnds as k (lab0 g) g ≤ 0 := h1
  obtain ⟨-, es, h3, h4, h5, -⟩ := (bfI_rnds hA hπ hg k g).2 (by unfold BIG; omega)
  cases es with
  | nil => rw [← h4]; rfl
  | cons e es =>
    exfalso
    have hn : g ∉ vs e.2.1 es := (List.nodup_cons.mp (show (g :: vs e.2.1 es).Nodup from h5)).1
    refine hn ?_
    have : ∀ (es : List Arc) (p : Nat), wk as p es g → g ∈ vs p es := by
      intro es
      induction es with
      | nil => intro p h; have h : p = g := h; subst h; simp [vs]
      | cons a b ih => intro p h; exact List.mem_cons_of_mem _ (ih _ h.2.2)
    exact this es e.2.1 h3.2.2
/-- a label is a price and a label -/
theorem bf_tight {π : Nat → Int} (hA : arcOK as) (hπ : ∀ e ∈ as, π e.1 ≤ e.2.2.1 + π e.2.1) (hg : g < 10) {k : Nat} (hk : 9 ≤ k) (hk2 : k ≤ 100) {v : Nat} (hv : v ≠ g) (hne : rnds as k (lab0 g) v ≠ BIG) : ∃ e ∈ as, e.1 = v ∧ rnds as k (lab0 g) e.2.1 ≠ BIG ∧ rnds as k (lab0 g) v = e.2.2.1 + rnds as k (lab0 g) e.2.1 := by
  obtain ⟨hq, es, h1, h2, h3, h4⟩ := (bfI_rnds hA hπ hg k v).2 hne
  cases es with
  | nil => exact absurd h1 hv
  | cons e es =>
    have hc : cst (e :: es) = e.2.2.1 + cst es := rfl
    have hlen := simple_len hA hq h1 h3
    have hlen : es.length + 1 ≤ 9 := by simpa using hlen
    have h5 := rnds_walk hA k es e.2.1 h1.2.2 (by omega) hk2
    have h6 := cst_le hA h1.2.2
    have h7 : rnds as k (lab0 g) e.2.1 ≠ BIG := by unfold BIG; omega
    have h8 := bf_fix hA hπ hg hk hk2 e h1.1 h7
    rw [h1.2.1] at h8
    exact ⟨e, h1.1, h1.2.1, h7, by omega⟩
theorem bf_bound {π : Nat → Int} (hA : arcOK as) (hπ : ∀ e ∈ as, π e.1 ≤ e.2.2.1 + π e.2.1) (hg : g < 10) (k : Nat) (v : Nat) : rnds as k (lab0 g) v = BIG ∨ (-36000 ≤ rnds as k (lab0 g) v ∧ rnds as k (lab0 g) v ≤ 36000) := by
  by_cases hne : rnds as k (lab0 g) v = BIG
  · exact Or.inl hne
  · obtain ⟨hq, es, h1, h2, h3, h4⟩ := (bfI_rnds hA hπ hg k v).2 hne
    have hlen := simple_len hA hq h1 h3
    have := cst_le hA h1
    right; omega
end BF
end
section
/-! ===== the class's search: labels by rounds ===== -/
def rZ (c : Nat → Int32) (T : Nat → Int) (N : Nat) : Prop := ∀ i, i < N → (c i).toInt = T i
theorem z_nI {n : Nat} (h : n < 2 ^ 31) : (nI n).toInt = (n : Int) := nI_toInt h
theorem z_eqI (x y : Int32) : (x = y) = (x.toInt = y.toInt) := propext Int32.toInt_inj.symm
theorem z_ltI (x y : Int32) : (x < y) = (x.toInt < y.toInt) := propext Int32.lt_iff_toInt_lt
theorem z_leI (x y : Int32) : (x ≤ y) = (x.toInt ≤ y.toInt) := propext Int32.le_iff_toInt_le
theorem rZ_at {c : Nat → Int32} {T : Nat → Int} {N k : Nat} {x : Int32} {v : Int} (h : rZ c T N) (hx : x.toInt = v) : rZ (upd c k x) (upZ T k v) N := by
  intro i hi
  by_cases e : i = k
  · subst e; rw [pk_us, upZ_s, hx]
  · rw [pk_un e, upZ_n _ _ e]; exact h i hi
theorem bfI_bd {as : List Arc} {g : Nat} (hA : arcOK as) {T : Nat → Int} (h : bfI as g T) (v : Nat) : T v = BIG ∨ (-36000 ≤ T v ∧ T v ≤ 36000) := by
  by_cases hne : T v = BIG
  · exact Or.inl hne
  · obtain ⟨hq, es, h1, h2, h3, h4⟩ := (h v).2 hne
    have hlen := simple_len hA hq h1 h3
    have := cst_le hA h1
    right; omega
def arc2 (X : aX) (pf pb : Nat → Int) (k : Nat) : List Arc := (if pf k = BIG then [] else [(X 1 k, X 2 k, pf k, k)]) ++ (if pb k = BIG then [] else [(X 2 k, X 1 k, pb k, k)])
def arcsD (X : aX) (pf pb : Nat → Int) : Nat → List Arc
  | 0 => []
  | k + 1 => arcsD X pf pb k ++ arc2 X pf pb k
theorem arcsD_in {X : aX} {pf pb : Nat → Int} {e : Arc} : ∀ {n : Nat}, e ∈ arcsD X pf pb n ↔ ∃ k, k < n ∧ e ∈ arc2 X pf pb k
  | 0 => by simp [arcsD]
  | n + 1 => by
    rw [arcsD, List.mem_append, arcsD_in]
    constructor
    · rintro (⟨k, h1, h2⟩ | h)
      · exact ⟨k, by omega, h2⟩
      · exact ⟨n, by omega, h⟩
    · rintro ⟨k, h1, h2⟩
      by_cases e : k = n
      · subst e; exact Or.inr h2
      · exact Or.inl ⟨k, by omega, h2⟩
theorem arc2_in {X : aX} {pf pb : Nat → Int} {e : Arc} {k : Nat} : e ∈ arc2 X pf pb k ↔ (pf k ≠ BIG ∧ e = (X 1 k, X 2 k, pf k, k)) ∨ (pb k ≠ BIG ∧ e = (X 2 k, X 1 k, pb k, k)) := by
  unfold arc2
  rw [List.mem_append]
  by_cases h1 : pf k = BIG <;> by_cases h2 : pb k = BIG <;> simp [h1, h2]
theorem rnds_add (as : List Arc) (T : Nat → Int) (r : Nat) : ∀ m, rnds as (m + r) T = rnds as m (rnds as r T)
  | 0 => by rw [Nat.zero_add]; rfl
  | m + 1 => by
    rw [show m + 1 + r = (m + r) + 1 by omega]
    show rnd as (rnds as (m + r) T) = rnd as (rnds as m (rnds as r T))
    rw [rnds_add as T r m]
section SPREAD
variable {G : aG} {μ : aMem} {X : aX}
/-- one lowering; the flag is false only where nothing changed -/
theorem r_X3_lower {T : Nat → Int} (hT : rZ (μ.1 24) T 10) (hbd : ∀ v, T v = BIG ∨ (-36000 ≤ T v ∧ T v ≤ 36000)) {p q : Nat} (hp : p < 10) (hq : q < 10) {z : Int32} {y : Int} (hz : z.toInt = y) (hy : y = BIG ∨ (-4000 ≤ y ∧ y ≤ 4000)) (d : Nat) :
    a_Spec G sX3_lower [.ref 3, .int (nI p), .int (nI q), .int z] μ (fun v ν => ∃ (f : Bool) (c : Nat → Int32), v = some (.int (bI f)) ∧ ν = (va_up μ.1 24 c, μ.2) ∧ rZ c (if y = BIG then T else relax T (p, q, y, d)) 10 ∧ (f = false → (if y = BIG then T else relax T (p, q, y, d)) = T)) := by
  have hb : (nI 1000000).toInt = BIG := by decide
  have id24 : μ = (va_up μ.1 24 (μ.1 24), μ.2) := a_self μ 24
  have tp := hT p hp
  have tq := hT q hq
  have bp := hbd p
  have bq := hbd q
  refine w_X3_lower_0 _ _ _ ?_
  rw [q_in (by omega), q_in (by omega), q_cl (by omega), q_cl (by omega), z_eqI z (nI 1000000), z_eqI (μ.1 24 q) (nI 1000000), hb, hz, tq]
  refine ⟨fun h => ⟨nI_00, false, μ.1 24, rfl, id24, ?_, fun _ => ?_⟩, fun h => ⟨hq, fun h2 => ⟨hq, hp, ?_⟩, fun h2 => ⟨nI_00, false, μ.1 24, rfl, id24, ?_, fun _ => ?_⟩⟩⟩
  · rw [if_pos h]; exact hT
  · rw [if_pos h]
  · have hs : (z + μ.1 24 q).toInt = y + T q := by rw [fb_addI] <;> rw [hz, tq] <;> unfold BIG at * <;> omega
    rw [z_ltI (z + μ.1 24 q) (μ.1 24 p), hs, tp]
    have hr : relax T (p, q, y, d) = if y + T q < T p then upZ T p (y + T q) else T := by unfold relax; rw [if_neg h2]
    rw [if_neg h, hr]
    refine ⟨fun h3 => ⟨hp, nI_11, true, upd (μ.1 24) p (z + μ.1 24 q), rfl, rfl, ?_, fun h4 => by cases h4⟩, fun h3 => ⟨nI_00, false, μ.1 24, rfl, id24, ?_, fun _ => ?_⟩⟩
    · rw [if_pos h3]; exact rZ_at hT hs
    · rw [if_neg h3]; exact hT
    · rw [if_neg h3]
  · have hr : relax T (p, q, y, d) = T := by unfold relax; rw [if_pos h2]
    rw [if_neg h, hr]; exact hT
  · have hr : relax T (p, q, y, d) = T := by unfold relax; rw [if_pos h2]
    rw [if_neg h, hr]
theorem r_fill24 : a_Spec G sJ7_fill_53178 [.ref 24, .int (nI 1000000)] μ (fun v ν => v = none ∧ ∃ c, ν = (va_up μ.1 24 c, μ.2) ∧ ∀ i, i < 10 → c i = nI 1000000) := by
  refine w_J7_filla_0 _ ?_
  rw [a_self μ 24]
  refine a_for (fun i (c : Nat → Int32) => a_Runs G sJ7_fill_53178 5 [(0, .ref 24), (1, .int (nI 1000000)), (2, .int (nI i)), (3, .int (Int32.ofNat 10))] [] (va_up μ.1 24 c, μ.2) (fun v ν => v = none ∧ ∃ c, ν = (va_up (va_up μ.1 24 (μ.1 24)) 24 c, μ.2) ∧ ∀ i, i < 10 → c i = nI 1000000)) (fun i c => ∀ j, j < i → c j = nI 1000000) 10 ?_ ?_ 0 _ (by omega) (fun j hj => by omega)
  · intro c hc
    refine w_J7_filla_5 _ _ _ ⟨fun _ => ⟨rfl, c, by rw [bx_uu], hc⟩, fun h => absurd (show nI 10 ≤ nI 10 by rw [q_le] <;> omega) h⟩
  · intro i c hi hc ih
    refine w_J7_filla_5 _ _ _ ⟨fun h => ?_, fun _ => ?_⟩
    · have h : nI 10 ≤ nI i := h
      rw [q_le (by omega) (by omega)] at h; omega
    · rw [q_in (by omega), q_cl (by omega), nI_add]
      have e : ((va_up (va_up μ.1 24 c) 24 (upd ((va_up μ.1 24 c) 24) i (nI 1000000)), μ.2) : aMem) = (va_up μ.1 24 (upd c i (nI 1000000)), μ.2) := by rw [bx_uu, va_up_self]
      refine ⟨by omega, ?_⟩
      show a_Runs G sJ7_fill_53178 5 _ [] (va_up (va_up μ.1 24 c) 24 (upd ((va_up μ.1 24 c) 24) i (nI 1000000)), μ.2) _
      rw [e]
      refine ih _ (fun j hj => ?_)
      by_cases ej : j = i
      · rw [ej, pk_us]
      · rw [pk_un ej]; exact hc j (by omega)
theorem r_X3_spread (hd : xD X) (hcd : cD μ X) {pf pb : Nat → Int} (hpf : rZ (μ.1 22) pf (X 0 0)) (hpb : rZ (μ.1 23) pb (X 0 0)) (hbf : ∀ k, k < X 0 0 → pf k = BIG ∨ (-4000 ≤ pf k ∧ pf k ≤ 4000)) (hbb : ∀ k, k < X 0 0 → pb k = BIG ∨ (-4000 ≤ pb k ∧ pb k ≤ 4000)) {π : Nat → Int} (hA : arcOK (arcsD X pf pb (X 0 0))) (hπ : ∀ e ∈ arcsD X pf pb (X 0 0), π e.1 ≤ e.2.2.1 + π e.2.1) {g : Nat} (hg : g < 10) :
    a_Spec G sX3_spread [.ref 3, .int (nI g)] μ (fun v ν => v = none ∧ ∃ c, ν = (va_up μ.1 24 c, μ.2) ∧ rZ c (rnds (arcsD X pf pb (X 0 0)) 9 (lab0 g)) 10) := by
  have hn := hd.1
  obtain ⟨c0, c1, c2, -, -, -, -⟩ := hcd
  have hI := bfI_rnds hA hπ hg
  refine w_X3_spread_0 _ (r_fill24.mono ?_)
  rintro v ν ⟨rfl, c, rfl, hc⟩
  rw [q_in (by omega), q_cl (by omega)]
  refine ⟨rfl, hg, ?_⟩
  have e0 : ((va_up (va_up μ.1 24 c) 24 (upd ((va_up μ.1 24 c) 24) g (nI 0)), μ.2) : aMem) = (va_up μ.1 24 (upd c g (nI 0)), μ.2) := by rw [bx_uu, va_up_self]
  show a_Runs G sX3_spread 20 _ [] (va_up (va_up μ.1 24 c) 24 (upd ((va_up μ.1 24 c) 24) g (nI 0)), μ.2) _
  rw [e0]
  generalize hpo : (fun (v : Option Value) (ν : aMem) => v = none ∧ ∃ c, ν = (va_up μ.1 24 c, μ.2) ∧ rZ c (rnds (arcsD X pf pb (X 0 0)) 9 (lab0 g)) 10) = post
  have hpost : ∀ c, rZ c (rnds (arcsD X pf pb (X 0 0)) 9 (lab0 g)) 10 → post none (va_up μ.1 24 c, μ.2) := fun c h => by rw [← hpo]; exact ⟨rfl, c, rfl, h⟩
  generalize has : arcsD X pf pb (X 0 0) = as at *
  have main : ∀ r, r ≤ 9 → ∀ (s : Bool × (Nat → Int32)), (rZ s.2 (rnds as r (lab0 g)) 10 ∧ (s.1 = false → rnd as (rnds as r (lab0 g)) = rnds as r (lab0 g))) → a_Runs G sX3_spread 20 [(0, .ref 3), (2, .int (bI s.1)), (3, .int (nI r))] [] (va_up μ.1 24 s.2, μ.2) post := by
    intro r hr s hs
    refine a_for (fun r (s : Bool × (Nat → Int32)) => a_Runs G sX3_spread 20 [(0, .ref 3), (2, .int (bI s.1)), (3, .int (nI r))] [] (va_up μ.1 24 s.2, μ.2) post) (fun r s => rZ s.2 (rnds as r (lab0 g)) 10 ∧ (s.1 = false → rnd as (rnds as r (lab0 g)) = rnds as r (lab0 g))) 9 ?_ ?_ r s hr hs
    · rintro ⟨f, c⟩ ⟨h1, -⟩
      exact w_X3_spread_20 _ _ ⟨fun _ => hpost c h1, fun h => absurd (by rw [q_le] <;> omega) h⟩
    · rintro r ⟨f, c⟩ hr ⟨h1, h2⟩ ih
      have h1 : rZ c (rnds as r (lab0 g)) 10 := h1
      have h2 : f = false → rnd as (rnds as r (lab0 g)) = rnds as r (lab0 g) := h2
      refine w_X3_spread_20 _ _ ⟨fun h => ?_, fun _ => br_b (fun hf => hpost c ?_) (fun hf => ?_)⟩
      · rw [q_le (by omega) (by omega)] at h; omega
      · rw [show (9 : Nat) = (9 - r) + r by omega, rnds_add, rnds_stay (h2 hf)]; exact h1
      · have inner : a_Runs G sX3_spread 35 [(0, .ref 3), (2, .int (bI false)), (3, .int (nI r)), (4, .int (nI 0))] [] (va_up μ.1 24 c, μ.2) post := by
          refine a_for (fun k (s : Bool × (Nat → Int32)) => a_Runs G sX3_spread 35 [(0, .ref 3), (2, .int (bI s.1)), (3, .int (nI r)), (4, .int (nI k))] [] (va_up μ.1 24 s.2, μ.2) post) (fun k s => rZ s.2 ((arcsD X pf pb k).foldl relax (rnds as r (lab0 g))) 10 ∧ (s.1 = false → (arcsD X pf pb k).foldl relax (rnds as r (lab0 g)) = rnds as r (lab0 g))) (X 0 0) ?_ ?_ 0 (false, c) (by omega) ⟨h1, fun _ => rfl⟩
          · rintro ⟨f2, c2⟩ ⟨g1, g2⟩
            have g1 : rZ c2 ((arcsD X pf pb (X 0 0)).foldl relax (rnds as r (lab0 g))) 10 := g1
            have g2 : f2 = false → (arcsD X pf pb (X 0 0)).foldl relax (rnds as r (lab0 g)) = rnds as r (lab0 g) := g2
            rw [has] at g1 g2
            refine w_X3_spread_35 _ _ _ ⟨fun _ => ?_, fun h => absurd (by show (va_up μ.1 24 c2) 1 0 ≤ _; rw [va_up_ne _ _ (by decide), c0, q_le] <;> omega) h⟩
            rw [nI_add]
            refine ih (f2, c2) ⟨g1, fun hf2 => ?_⟩
            show rnd as (rnd as (rnds as r (lab0 g))) = rnd as (rnds as r (lab0 g))
            have g3 : rnd as (rnds as r (lab0 g)) = rnds as r (lab0 g) := g2 hf2
            rw [g3, g3]
          · rintro k ⟨f2, c2'⟩ hk ⟨g1, g2⟩ ih2
            have g1 : rZ c2' ((arcsD X pf pb k).foldl relax (rnds as r (lab0 g))) 10 := g1
            have g2 : f2 = false → (arcsD X pf pb k).foldl relax (rnds as r (lab0 g)) = rnds as r (lab0 g) := g2
            have hdk := hd.2 k hk
            have hsub : ∀ e ∈ arcsD X pf pb k, e ∈ as := fun e he => by
              rw [← has]; obtain ⟨j, hj, hje⟩ := arcsD_in.mp he; exact arcsD_in.mpr ⟨j, by omega, hje⟩
            have bI1 : bfI as g ((arcsD X pf pb k).foldl relax (rnds as r (lab0 g))) := bfI_fold hA hπ _ hsub (hI r)
            generalize hT1 : (arcsD X pf pb k).foldl relax (rnds as r (lab0 g)) = T1 at *
            have m1 : ∀ j, j ≠ 24 → ((va_up μ.1 24 c2', μ.2) : aMem).1 j = μ.1 j := fun j hj => va_up_ne _ _ hj
            refine w_X3_spread_35 _ _ _ ⟨fun h => ?_, fun _ => ?_⟩
            · rw [m1 1 (by decide), c0, q_le (by omega) (by omega)] at h; omega
            rw [q_in (by omega), q_cl (by omega), m1 7 (by decide), m1 8 (by decide), m1 22 (by decide), c1 k hk, c2 k hk, nI_add]
            refine ⟨by omega, by omega, by omega, (r_X3_lower (μ := (va_up μ.1 24 c2', μ.2)) (T := T1) (p := X 1 k) (q := X 2 k) (z := μ.1 22 k) (y := pf k) ?_ (bfI_bd hA bI1) hdk.1 hdk.2.1 (hpf k hk) (hbf k hk) k).mono ?_⟩
            · show rZ ((va_up μ.1 24 c2') 24) T1 10
              rw [va_up_self]; exact g1
            rintro v ν ⟨f3, c3, rfl, rfl, g3, g4⟩
            generalize hT2 : (if pf k = BIG then T1 else relax T1 (X 1 k, X 2 k, pf k, k)) = T2 at *
            have bI2 : bfI as g T2 := by
              rw [← hT2]
              split
              · exact bI1
              · rename_i hne
                exact bfI_relax hA hπ bI1 (by rw [← has]; exact arcsD_in.mpr ⟨k, hk, arc2_in.mpr (Or.inl ⟨hne, rfl⟩)⟩)
            have m2 : ∀ j, j ≠ 24 → ((va_up (va_up μ.1 24 c2') 24 c3, μ.2) : aMem).1 j = μ.1 j := fun j hj => by show va_up (va_up μ.1 24 c2') 24 c3 j = _; rw [va_up_ne _ _ hj, va_up_ne _ _ hj]
            refine ⟨_, rfl, by omega, by omega, by omega, ?_⟩
            rw [m2 7 (by decide), m2 8 (by decide), m2 23 (by decide), c1 k hk, c2 k hk]
            refine (r_X3_lower (μ := (va_up (va_up μ.1 24 c2') 24 c3, μ.2)) (T := T2) (p := X 2 k) (q := X 1 k) (z := μ.1 23 k) (y := pb k) ?_ (bfI_bd hA bI2) hdk.2.1 hdk.1 (hpb k hk) (hbb k hk) k).mono ?_
            · show rZ ((va_up (va_up μ.1 24 c2') 24 c3) 24) T2 10
              rw [va_up_self]; exact g3
            rintro v ν ⟨f4, c4, rfl, rfl, g5, g6⟩
            generalize hT3 : (if pb k = BIG then T2 else relax T2 (X 2 k, X 1 k, pb k, k)) = T3 at *
            have hfold : (arcsD X pf pb (k + 1)).foldl relax (rnds as r (lab0 g)) = T3 := by
              rw [arcsD, List.foldl_append, hT1, ← hT3, ← hT2]
              unfold arc2
              by_cases b1 : pf k = BIG <;> by_cases b2 : pb k = BIG <;> simp [b1, b2]
            have e4 : ((va_up (va_up (va_up μ.1 24 c2') 24 c3) 24 c4, μ.2) : aMem) = (va_up μ.1 24 c4, μ.2) := by rw [bx_uu, bx_uu]
            have fin : ∀ f5 : Bool, (f5 = false → T3 = rnds as r (lab0 g)) → a_Runs G sX3_spread 35 [(0, .ref 3), (2, .int (bI f5)), (3, .int (nI r)), (4, .int (nI (k + 1)))] [] (va_up μ.1 24 c4, μ.2) post := fun f5 h5 => ih2 (f5, c4) ⟨by show rZ c4 _ 10; rw [hfold]; exact g5, fun h6 => by rw [hfold]; exact h5 h6⟩
            refine ⟨_, rfl, ?_⟩
            show (¬ bI f2 = 0 → a_Runs G sX3_spread 35 _ [] (va_up (va_up (va_up μ.1 24 c2') 24 c3) 24 c4, μ.2) post) ∧ _
            rw [e4]
            refine br_n (fun q1 => fin true (fun h => by cases h)) (fun q1 => br_n (fun q2 => fin true (fun h => by cases h)) (fun q2 => br_b (fun q3 => fin false (fun _ => ?_)) (fun q3 => fin true (fun h => by cases h))))
            rw [g6 q3, g4 q2, g2 q1]
        exact inner
  refine main 0 (by omega) (true, upd c g (nI 0)) ⟨?_, fun h => by cases h⟩
  intro i hi
  show (upd c g (nI 0) i).toInt = lab0 g i
  unfold lab0
  by_cases e : i = g
  · rw [e, pk_us, if_pos rfl]; rfl
  · rw [pk_un e, if_neg e, hc i hi]; decide
end SPREAD
end
section
/-! ===== prices of open ducts; the class's open and leastLength ===== -/
def prO (X : aX) (op : Nat → Bool) (d : Nat) : Int := if op d then 32 * (X 3 d : Int) + 1 else BIG
def asO (X : aX) (op : Nat → Bool) : List Arc := arcsD X (prO X op) (prO X op) (X 0 0)
def labO (X : aX) (op : Nat → Bool) (g : Nat) : Nat → Int := rnds (asO X op) 9 (lab0 g)
theorem prO_bd {X : aX} (hd : xD X) (op : Nat → Bool) {d : Nat} (h : d < X 0 0) : prO X op d = BIG ∨ (33 ≤ prO X op d ∧ prO X op d ≤ 3169) := by
  have := hd.2 d h
  unfold prO
  split
  · right; omega
  · left; rfl
theorem prO_n {X : aX} (hd : xD X) {op : Nat → Bool} {d : Nat} (h : d < X 0 0) : prO X op d ≠ BIG ↔ op d = true := by
  have := hd.2 d h
  unfold prO
  cases op d with
  | true => simp; unfold BIG; omega
  | false => simp
theorem asO_in {X : aX} (hd : xD X) {op : Nat → Bool} {e : Arc} : e ∈ asO X op ↔ ∃ d, d < X 0 0 ∧ op d = true ∧ (e = (X 1 d, X 2 d, 32 * (X 3 d : Int) + 1, d) ∨ e = (X 2 d, X 1 d, 32 * (X 3 d : Int) + 1, d)) := by
  unfold asO
  rw [arcsD_in]
  constructor
  · rintro ⟨k, hk, h⟩
    rcases arc2_in.mp h with ⟨h1, h2⟩ | ⟨h1, h2⟩
    · have ho := (prO_n hd hk).mp h1
      have e1 : prO X op k = 32 * (X 3 k : Int) + 1 := by unfold prO; rw [ho, if_pos rfl]
      rw [e1] at h2
      exact ⟨k, hk, ho, Or.inl h2⟩
    · have ho := (prO_n hd hk).mp h1
      have e1 : prO X op k = 32 * (X 3 k : Int) + 1 := by unfold prO; rw [ho, if_pos rfl]
      rw [e1] at h2
      exact ⟨k, hk, ho, Or.inr h2⟩
  · rintro ⟨k, hk, ho, h⟩
    have e1 : prO X op k = 32 * (X 3 k : Int) + 1 := by unfold prO; rw [ho, if_pos rfl]
    refine ⟨k, hk, arc2_in.mpr ?_⟩
    rw [e1]
    have hne : 32 * (X 3 k : Int) + 1 ≠ BIG := by rw [← e1]; exact (prO_n hd hk).mpr ho
    rcases h with h | h
    · exact Or.inl ⟨hne, h⟩
    · exact Or.inr ⟨hne, h⟩
theorem asO_ok {X : aX} (hd : xD X) (op : Nat → Bool) : arcOK (asO X op) := by
  intro e he
  obtain ⟨d, h1, h2, h3⟩ := (asO_in hd).mp he
  have := hd.2 d h1
  rcases h3 with rfl | rfl
  · exact ⟨this.1, this.2.1, by show (-4000 : Int) ≤ 32 * (X 3 d : Int) + 1; omega, by show 32 * (X 3 d : Int) + 1 ≤ 4000; omega⟩
  · exact ⟨this.2.1, this.1, by show (-4000 : Int) ≤ 32 * (X 3 d : Int) + 1; omega, by show 32 * (X 3 d : Int) + 1 ≤ 4000; omega⟩
theorem asO_pos {X : aX} (hd : xD X) {op : Nat → Bool} : ∀ e ∈ asO X op, (33 : Int) ≤ e.2.2.1 := by
  intro e he
  obtain ⟨d, h1, h2, h3⟩ := (asO_in hd).mp he
  have := hd.2 d h1
  rcases h3 with rfl | rfl <;> (show (33 : Int) ≤ 32 * (X 3 d : Int) + 1; omega)
theorem asO_pot {X : aX} (hd : xD X) (op : Nat → Bool) : ∀ e ∈ asO X op, (fun _ => (0 : Int)) e.1 ≤ e.2.2.1 + (fun _ => (0 : Int)) e.2.1 := by
  intro e he
  have := asO_pos hd e he
  show (0 : Int) ≤ e.2.2.1 + 0
  omega
/-- a price tells lengths first and then ducts -/
theorem cst_form {X : aX} (hd : xD X) {op : Nat → Bool} : ∀ {es : List Arc} {p g : Nat}, wk (asO X op) p es g → cst es = 32 * ((es.map fun e => (X 3 e.2.2.2 : Int)).sum) + es.length ∧ 0 ≤ (es.map fun e => (X 3 e.2.2.2 : Int)).sum
  | [], p, g, h => by simp [cst]
  | e :: es, p, g, h => by
    have h1 := cst_form hd h.2.2
    obtain ⟨d, q1, q2, q3⟩ := (asO_in hd).mp h.1
    have hc : e.2.2.1 = 32 * (X 3 e.2.2.2 : Int) + 1 := by rcases q3 with rfl | rfl <;> rfl
    have e1 : cst (e :: es) = e.2.2.1 + cst es := rfl
    rw [e1, hc, List.map_cons, List.sum_cons, List.length_cons]
    omega
theorem bf_form {X : aX} (hd : xD X) {op : Nat → Bool} {g : Nat} {T : Nat → Int} (h : bfI (asO X op) g T) (v : Nat) : T v = BIG ∨ (0 ≤ T v ∧ T v ≤ 36000 ∧ T v % 32 ≤ 9) := by
  by_cases hne : T v = BIG
  · exact Or.inl hne
  · obtain ⟨hq, es, h1, h2, h3, h4⟩ := (h v).2 hne
    have hlen := simple_len (asO_ok hd op) hq h1 h3
    have hb := cst_le (asO_ok hd op) h1
    have hf := cst_form hd h1
    right; omega
theorem va_up4 {α : Type} (f : Nat → α) {a b : Nat} (x y x' y' : α) : va_up (va_up (va_up (va_up f a x) b y) a x') b y' = va_up (va_up f a x') b y' := by
  funext j
  unfold va_up
  by_cases h1 : j = b <;> by_cases h2 : j = a <;> simp [h1, h2]
section OPEN
variable {G : aG} {μ : aMem} {X : aX}
theorem r_X3_open (hd : xD X) (hcd : cD μ X) {s : Nat} (hs : s < 2 ^ 31) : a_Spec G sX3_open [.ref 3, .int (nI s)] μ (fun v ν => v = none ∧ ∃ c c', ν = (va_up (va_up μ.1 22 c) 23 c', μ.2) ∧ rZ c (prO X (fun d => s.testBit d)) (X 0 0) ∧ rZ c' (prO X (fun d => s.testBit d)) (X 0 0)) := by
  have hn := hd.1
  obtain ⟨c0, -, -, -, c4, -, -⟩ := hcd
  refine w_X3_open_0 _ ?_
  have e0 : μ = (va_up (va_up μ.1 22 (μ.1 22)) 23 (μ.1 23), μ.2) := by rw [a_self1 μ.1 22, a_self1 μ.1 23]
  generalize hpo : (fun (v : Option Value) (ν : aMem) => v = none ∧ ∃ c c', ν = (va_up (va_up μ.1 22 c) 23 c', μ.2) ∧ rZ c (prO X (fun d => s.testBit d)) (X 0 0) ∧ rZ c' (prO X (fun d => s.testBit d)) (X 0 0)) = post
  have hpost : ∀ c c', rZ c (prO X (fun d => s.testBit d)) (X 0 0) → rZ c' (prO X (fun d => s.testBit d)) (X 0 0) → post none (va_up (va_up μ.1 22 c) 23 c', μ.2) := fun c c' h h' => by rw [← hpo]; exact ⟨rfl, c, c', rfl, h, h'⟩
  have main := a_for (fun i (z : (Nat → Int32) × (Nat → Int32)) => a_Runs G sX3_open 2 [(0, .ref 3), (1, .int (nI s)), (2, .int (nI i))] [] (va_up (va_up μ.1 22 z.1) 23 z.2, μ.2) post) (fun i z => rZ z.1 (prO X (fun d => s.testBit d)) i ∧ rZ z.2 (prO X (fun d => s.testBit d)) i) (X 0 0) ?_ ?_ 0 (μ.1 22, μ.1 23) (by omega) ⟨fun i hi => by omega, fun i hi => by omega⟩
  · rw [e0]; exact main
  · rintro ⟨c, c'⟩ ⟨h1, h2⟩
    exact w_X3_open_2 _ _ ⟨fun _ => hpost c c' h1 h2, fun h => absurd (show μ.1 1 0 ≤ nI (X 0 0) by rw [c0, q_le] <;> omega) h⟩
  · rintro i ⟨c, c'⟩ hi ⟨h1, h2⟩ ih
    have h1 : rZ c (prO X (fun d => s.testBit d)) i := h1
    have h2 : rZ c' (prO X (fun d => s.testBit d)) i := h2
    have hdi := hd.2 i hi
    refine w_X3_open_2 _ _ ⟨fun h => ?_, fun _ => ?_⟩
    · have h : μ.1 1 0 ≤ nI i := h
      rw [c0, q_le (by omega) (by omega)] at h; omega
    have fin : ∀ z : Int32, z.toInt = prO X (fun d => s.testBit d) i → a_Runs G sX3_open 2 [(0, .ref 3), (1, .int (nI s)), (2, .int (nI (i + 1)))] [] (va_up (va_up (va_up (va_up μ.1 22 c) 23 c') 22 (upd c i z)) 23 (upd c' i z), μ.2) post := by
      intro z hz
      rw [va_up4]
      refine ih (upd c i z, upd c' i z) ⟨?_, ?_⟩ <;>
      · intro j hj
        show (upd _ i z j).toInt = _
        by_cases ej : j = i
        · rw [ej, pk_us, hz]
        · rw [pk_un ej]; first | exact h1 j (by omega) | exact h2 j (by omega)
    refine r_X6_has hs (by omega) _ ⟨_, rfl, ?_⟩
    rw [q_in (by omega), q_cl (by omega), nI_add]
    refine br_b (fun hb => ⟨by omega, by omega, fin _ ?_⟩) (fun hb => ⟨by omega, by omega, by omega, ?_⟩)
    · show (nI 1000000).toInt = if s.testBit i then 32 * (X 3 i : Int) + 1 else BIG
      rw [hb, if_neg (by decide)]; decide
    · have e10 : ((va_up (va_up μ.1 22 c) 23 c', μ.2) : aMem).1 10 = μ.1 10 := rfl
      rw [e10, c4 i hi, pk_mul, nI_add]
      refine fin _ ?_
      show _ = if s.testBit i then 32 * (X 3 i : Int) + 1 else BIG
      rw [hb, if_pos rfl, z_nI (by omega)]
      omega
theorem r_X3_leastLength (hd : xD X) (hcd : cD μ X) {op : Nat → Bool} (hpf : rZ (μ.1 22) (prO X op) (X 0 0)) (hpb : rZ (μ.1 23) (prO X op) (X 0 0)) {a g : Nat} (ha : a < 10) (hg : g < 10) :
    a_Spec G sX3_leastLength [.ref 3, .int (nI a), .int (nI g)] μ (fun v ν => v = some (.int (if labO X op g a = BIG then -9 else nI (labO X op g a / 32).toNat)) ∧ ∃ c, ν = (va_up μ.1 24 c, μ.2) ∧ rZ c (labO X op g) 10) := by
  have hA := asO_ok hd op
  have hπ := asO_pot hd op
  refine w_X3_leastLength_0 _ _ ((r_X3_spread (π := fun _ => 0) hd hcd hpf hpb (fun k hk => by rcases prO_bd hd op hk with h | h; exact Or.inl h; right; omega) (fun k hk => by rcases prO_bd hd op hk with h | h; exact Or.inl h; right; omega) hA hπ hg).mono ?_)
  rintro v ν ⟨rfl, c, rfl, hc⟩
  have hc : rZ c (labO X op g) 10 := hc
  have hform := bf_form hd (bfI_rnds (π := fun _ => 0) hA hπ hg 9) a
  have hform : labO X op g a = BIG ∨ (0 ≤ labO X op g a ∧ labO X op g a ≤ 36000 ∧ labO X op g a % 32 ≤ 9) := hform
  have hca := hc a ha
  rw [q_in (by omega), q_cl (by omega)]
  refine ⟨rfl, ha, ?_⟩
  show (¬ (va_up μ.1 24 c) 24 a = nI 1000000 → _ ∧ _ ∧ _ ∧ _) ∧ ((va_up μ.1 24 c) 24 a = nI 1000000 → _)
  rw [va_up_self, z_eqI (c a) (nI 1000000), hca, show (nI 1000000).toInt = BIG by decide]
  refine ⟨fun h => ⟨ha, by decide, ?_, c, rfl, hc⟩, fun h => ⟨by rw [if_pos h], c, rfl, hc⟩⟩
  rw [if_neg h]
  show some (Value.int ((va_up μ.1 24 c) 24 a / nI 32)) = _
  rw [va_up_self]
  obtain ⟨n, hn⟩ : ∃ n : Nat, labO X op g a = n := ⟨(labO X op g a).toNat, by omega⟩
  have e1 : c a = nI n := by rw [← Int32.toInt_inj, hca, z_nI (by omega)]; exact hn
  rw [e1, pk_div (by omega) (by decide) (by decide), hn]
  rfl
end OPEN
end
section
/-! ===== the reference's labels: lengths, and ducts beside them ===== -/
def farZ (T : Nat → Int) (v : Nat) : Int := if T v = BIG then BIG else T v / 32
def byZ (T : Nat → Int) (v : Nat) : Int := if T v = BIG then BIG else T v % 32
def aFar (X : aX) (x1 x2 : Int32) : Int32 := if inB x1 (nI 0) (nI 9) && inB x2 (nI 0) (nI 9) then if x1 = x2 then -3 else if labO X (fun _ => true) x2.toNatClampNeg x1.toNatClampNeg = BIG then -9 else nI (labO X (fun _ => true) x2.toNatClampNeg x1.toNatClampNeg / 32).toNat else -1
section MEASURE
variable {G : aG} {μ : aMem} {X : aX}
theorem r_X7_better {T : Nat → Int} (hf : rZ (μ.1 50) (farZ T) 10) (hb : rZ (μ.1 51) (byZ T) 10) (hbd : ∀ v, T v = BIG ∨ (0 ≤ T v ∧ T v ≤ 36000 ∧ T v % 32 ≤ 9)) {p q l : Nat} (hp : p < 10) (hq : q < 10) (hl : 1 ≤ l ∧ l ≤ 99) (d : Nat) :
    a_Spec G sX7_better [.ref 36, .int (nI p), .int (nI q), .int (nI l)] μ (fun v ν => v = none ∧ ∃ c c', ν = (va_up (va_up μ.1 50 c) 51 c', μ.2) ∧ rZ c (farZ (relax T (p, q, 32 * (l : Int) + 1, d))) 10 ∧ rZ c' (byZ (relax T (p, q, 32 * (l : Int) + 1, d))) 10) := by
  have e0 : μ = (va_up (va_up μ.1 50 (μ.1 50)) 51 (μ.1 51), μ.2) := by rw [a_self1 μ.1 50, a_self1 μ.1 51]
  have fp := hf p hp
  have fq := hf q hq
  have bp := hb p hp
  have bq := hb q hq
  have dp := hbd p
  have dq := hbd q
  have hfq : farZ T q = BIG ∨ (0 ≤ farZ T q ∧ farZ T q ≤ 1125) := by
    unfold farZ; rcases dq with h | h
    · rw [if_pos h]; left; rfl
    · rw [if_neg (by unfold BIG; omega)]; right; omega
  have hbq : byZ T q = BIG ∨ (0 ≤ byZ T q ∧ byZ T q ≤ 9) := by
    unfold byZ; rcases dq with h | h
    · rw [if_pos h]; left; rfl
    · rw [if_neg (by unfold BIG; omega)]; right; omega
  have s1 : (μ.1 50 q + nI l).toInt = farZ T q + l := by rw [fb_addI] <;> rw [fq, z_nI (by omega)] <;> unfold BIG at * <;> omega
  have s2 : (μ.1 51 q + nI 1).toInt = byZ T q + 1 := by rw [fb_addI] <;> rw [bq, z_nI (by omega)] <;> unfold BIG at * <;> omega
  have fb_rel : relax T (p, q, 32 * (l : Int) + 1, d) = if farZ T q + l < farZ T p ∨ (farZ T q + l = farZ T p ∧ byZ T q + 1 < byZ T p) then upZ T p (32 * (l : Int) + 1 + T q) else T := by
    unfold relax
    show (if T q = BIG then T else if 32 * (l : Int) + 1 + T q < T p then upZ T p (32 * (l : Int) + 1 + T q) else T) = _
    unfold farZ byZ
    by_cases h1 : T q = BIG
    · rw [if_pos h1, if_pos h1, if_pos h1, if_neg]
      rcases dp with h | h
      · rw [if_pos h, if_pos h]; omega
      · rw [if_neg (by unfold BIG; omega), if_neg (by unfold BIG; omega)]; unfold BIG; omega
    · rw [if_neg h1, if_neg h1, if_neg h1]
      have dq : 0 ≤ T q ∧ T q ≤ 36000 ∧ T q % 32 ≤ 9 := dq.resolve_left h1
      rcases dp with h | h
      · rw [if_pos h, if_pos h, h, if_pos (by unfold BIG; omega), if_pos (by left; unfold BIG; omega)]
      · have hpn : T p ≠ BIG := by unfold BIG; omega
        rw [if_neg hpn, if_neg hpn]
        by_cases h2 : 32 * (l : Int) + 1 + T q < T p
        · rw [if_pos h2, if_pos (by omega)]
        · rw [if_neg h2, if_neg (by omega)]
  have upd_ok : (farZ T q + l < farZ T p ∨ (farZ T q + l = farZ T p ∧ byZ T q + 1 < byZ T p)) → rZ (upd (μ.1 50) p (μ.1 50 q + nI l)) (farZ (relax T (p, q, 32 * (l : Int) + 1, d))) 10 ∧ rZ (upd (μ.1 51) p (μ.1 51 q + nI 1)) (byZ (relax T (p, q, 32 * (l : Int) + 1, d))) 10 := by
    intro hc
    rw [fb_rel, if_pos hc]
    have hqn : T q ≠ BIG := by
      intro h1
      have e1 : farZ T q = BIG := by unfold farZ; rw [if_pos h1]
      have e2 : farZ T p ≤ BIG := by unfold farZ; rcases dp with h | h; rw [if_pos h]; exact Int.le_refl _; rw [if_neg (by unfold BIG; omega)]; unfold BIG; omega
      omega
    have dq : 0 ≤ T q ∧ T q ≤ 36000 ∧ T q % 32 ≤ 9 := dq.resolve_left hqn
    have hnew : 32 * (l : Int) + 1 + T q ≠ BIG := by unfold BIG; omega
    have e1 : farZ T q = T q / 32 := by unfold farZ; rw [if_neg hqn]
    have e2 : byZ T q = T q % 32 := by unfold byZ; rw [if_neg hqn]
    constructor
    · intro i hi
      by_cases ei : i = p
      · rw [ei, pk_us, s1]; unfold farZ; rw [upZ_s, if_neg hnew, if_neg hqn]; omega
      · rw [pk_un ei]; unfold farZ; rw [upZ_n _ _ ei]; exact hf i hi
    · intro i hi
      by_cases ei : i = p
      · rw [ei, pk_us, s2]; unfold byZ; rw [upZ_s, if_neg hnew, if_neg hqn]; omega
      · rw [pk_un ei]; unfold byZ; rw [upZ_n _ _ ei]; exact hb i hi
  refine w_X7_better_0 _ _ _ ?_
  rw [q_in (by omega), q_in (by omega), q_cl (by omega), q_cl (by omega), z_ltI (μ.1 50 q + nI l) (μ.1 50 p), z_eqI (μ.1 50 q + nI l) (μ.1 50 p), z_leI (μ.1 51 p) (μ.1 51 q + nI 1), s1, s2, fp, bp]
  have keep : ¬ (farZ T q + l < farZ T p ∨ (farZ T q + l = farZ T p ∧ byZ T q + 1 < byZ T p)) → ((none : Option Value) = none ∧ ∃ c c', μ = (va_up (va_up μ.1 50 c) 51 c', μ.2) ∧ rZ c (farZ (relax T (p, q, 32 * (l : Int) + 1, d))) 10 ∧ rZ c' (byZ (relax T (p, q, 32 * (l : Int) + 1, d))) 10) := fun hc => by
    rw [fb_rel, if_neg hc]; exact ⟨rfl, _, _, e0, hf, hb⟩
  refine ⟨hq, hp, fun h => ⟨hp, hq, hp, rfl, _, _, rfl, upd_ok (Or.inl h)⟩, fun h => ⟨hp, fun h2 => keep (by omega), fun h2 => ⟨hq, hp, fun h3 => keep (by omega), fun h3 => ⟨hp, hq, hp, rfl, _, _, rfl, upd_ok (Or.inr ⟨h2, by omega⟩)⟩⟩⟩⟩
end MEASURE
end
section
section MEASURE2
variable {G : aG} {μ : aMem} {X : aX}
theorem r_X7_measure (hd : xD X) (hmd : mD μ X) {op : Nat → Bool} (hop : ∀ d, d < X 0 0 → μ.1 49 d = bI (op d)) {g : Nat} (hg : g < 10) :
    a_Spec G sX7_measure [.ref 36, .int (nI g)] μ (fun v ν => v = none ∧ ∃ c c', ν = (va_up (va_up μ.1 50 c) 51 c', μ.2) ∧ rZ c (farZ (labO X op g)) 10 ∧ rZ c' (byZ (labO X op g)) 10) := by
  have hn := hd.1
  have hA := asO_ok hd op
  have hπ := asO_pot hd op
  have hI := bfI_rnds (π := fun _ => 0) hA hπ hg
  obtain ⟨c0, c1, c2, c3, -⟩ := hmd
  generalize hpo : (fun (v : Option Value) (ν : aMem) => v = none ∧ ∃ c c', ν = (va_up (va_up μ.1 50 c) 51 c', μ.2) ∧ rZ c (farZ (labO X op g)) 10 ∧ rZ c' (byZ (labO X op g)) 10) = post
  have hpost : ∀ c c', rZ c (farZ (labO X op g)) 10 → rZ c' (byZ (labO X op g)) 10 → post none (va_up (va_up μ.1 50 c) 51 c', μ.2) := fun c c' h h' => by rw [← hpo]; exact ⟨rfl, c, c', rfl, h, h'⟩
  have e0 : μ = (va_up (va_up μ.1 50 (μ.1 50)) 51 (μ.1 51), μ.2) := by rw [a_self1 μ.1 50, a_self1 μ.1 51]
  have m1 : ∀ (c c' : Nat → Int32) (j : Nat), j ≠ 50 → j ≠ 51 → ((va_up (va_up μ.1 50 c) 51 c', μ.2) : aMem).1 j = μ.1 j := fun c c' j h h' => by show va_up (va_up μ.1 50 c) 51 c' j = _; rw [va_up_ne _ _ h', va_up_ne _ _ h]
  -- the rounds
  have rounds : ∀ (z : (Nat → Int32) × (Nat → Int32)), rZ z.1 (farZ (lab0 g)) 10 ∧ rZ z.2 (byZ (lab0 g)) 10 → a_Runs G sX7_measure 50 [(0, .ref 36), (2, .int (nI 0))] [] (va_up (va_up μ.1 50 z.1) 51 z.2, μ.2) post := by
    intro z hz
    refine a_for (fun r (z : (Nat → Int32) × (Nat → Int32)) => a_Runs G sX7_measure 50 [(0, .ref 36), (2, .int (nI r))] [] (va_up (va_up μ.1 50 z.1) 51 z.2, μ.2) post) (fun r z => rZ z.1 (farZ (rnds (asO X op) r (lab0 g))) 10 ∧ rZ z.2 (byZ (rnds (asO X op) r (lab0 g))) 10) 10 ?_ ?_ 0 z (by omega) hz
    · rintro ⟨c, c'⟩ ⟨h1, h2⟩
      rw [rnds_fix (π := fun _ => 0) hA hπ hg] at h1 h2
      exact w_X7_measure_50 _ ⟨fun _ => hpost c c' h1 h2, fun h => absurd (by rw [q_le] <;> omega) h⟩
    · rintro r ⟨c, c'⟩ hr ⟨h1, h2⟩ ih
      refine w_X7_measure_50 _ ⟨fun h => ?_, fun _ => ?_⟩
      · rw [q_le (by omega) (by omega)] at h; omega
      refine a_for (fun k (z : (Nat → Int32) × (Nat → Int32)) => a_Runs G sX7_measure 58 [(0, .ref 36), (2, .int (nI r)), (3, .int (nI k))] [] (va_up (va_up μ.1 50 z.1) 51 z.2, μ.2) post) (fun k z => rZ z.1 (farZ ((arcsD X (prO X op) (prO X op) k).foldl relax (rnds (asO X op) r (lab0 g)))) 10 ∧ rZ z.2 (byZ ((arcsD X (prO X op) (prO X op) k).foldl relax (rnds (asO X op) r (lab0 g)))) 10) (X 0 0) ?_ ?_ 0 (c, c') (by omega) ⟨h1, h2⟩
      · rintro ⟨c2, c2'⟩ ⟨g1, g2⟩
        refine w_X7_measure_58 _ _ ⟨fun _ => ?_, fun h => absurd (by rw [m1 c2 c2' 36 (by decide) (by decide), c0, q_le] <;> omega) h⟩
        rw [nI_add]; exact ih (c2, c2') ⟨g1, g2⟩
      · rintro k ⟨d1, d1'⟩ hk ⟨g1, g2⟩ ih2
        have g1 : rZ d1 (farZ ((arcsD X (prO X op) (prO X op) k).foldl relax (rnds (asO X op) r (lab0 g)))) 10 := g1
        have g2 : rZ d1' (byZ ((arcsD X (prO X op) (prO X op) k).foldl relax (rnds (asO X op) r (lab0 g)))) 10 := g2
        have hdk := hd.2 k hk
        have hsub : ∀ e ∈ arcsD X (prO X op) (prO X op) k, e ∈ asO X op := fun e he => by
          obtain ⟨j, hj, hje⟩ := arcsD_in.mp he; exact arcsD_in.mpr ⟨j, by omega, hje⟩
        have bI1 : bfI (asO X op) g ((arcsD X (prO X op) (prO X op) k).foldl relax (rnds (asO X op) r (lab0 g))) := bfI_fold (π := fun _ => 0) hA hπ _ hsub (hI r)
        generalize hT1 : (arcsD X (prO X op) (prO X op) k).foldl relax (rnds (asO X op) r (lab0 g)) = T1 at *
        refine w_X7_measure_58 _ _ ⟨fun h => ?_, fun _ => ?_⟩
        · rw [m1 d1 d1' 36 (by decide) (by decide), c0, q_le (by omega) (by omega)] at h; omega
        rw [q_in (by omega), q_cl (by omega), m1 d1 d1' 49 (by decide) (by decide), m1 d1 d1' 37 (by decide) (by decide), m1 d1 d1' 38 (by decide) (by decide), m1 d1 d1' 39 (by decide) (by decide), hop k hk, c1 k hk, c2 k hk, c3 k hk, nI_add]
        have hfold : (arcsD X (prO X op) (prO X op) (k + 1)).foldl relax (rnds (asO X op) r (lab0 g)) = (arc2 X (prO X op) (prO X op) k).foldl relax T1 := by
          rw [arcsD, List.foldl_append, hT1]
        refine ⟨by omega, br_b (fun hb => ih2 (d1, d1') ?_) (fun hb => ⟨by omega, by omega, by omega, ?_⟩)⟩
        · have e1 : prO X op k = BIG := by unfold prO; rw [hb, if_neg (by decide)]
          have e2 : arc2 X (prO X op) (prO X op) k = [] := by unfold arc2; rw [e1, if_pos rfl]; rfl
          rw [hfold, e2]; exact ⟨g1, g2⟩
        · have e1 : prO X op k = 32 * (X 3 k : Int) + 1 := by unfold prO; rw [hb, if_pos rfl]
          have ne1 : ¬ 32 * (X 3 k : Int) + 1 = BIG := by unfold BIG; omega
          have e2 : arc2 X (prO X op) (prO X op) k = [(X 1 k, X 2 k, 32 * (X 3 k : Int) + 1, k), (X 2 k, X 1 k, 32 * (X 3 k : Int) + 1, k)] := by unfold arc2; rw [e1, if_neg ne1, if_neg ne1]; rfl
          have in1 : (X 1 k, X 2 k, 32 * (X 3 k : Int) + 1, k) ∈ asO X op := (asO_in hd).mpr ⟨k, hk, hb, Or.inl rfl⟩
          have bI2 := bfI_relax (π := fun _ => 0) hA hπ bI1 in1
          refine (r_X7_better (μ := (va_up (va_up μ.1 50 d1) 51 d1', μ.2)) (T := T1) (p := X 1 k) (q := X 2 k) (l := X 3 k) ?_ ?_ (bf_form hd bI1) hdk.1 hdk.2.1 ⟨hdk.2.2.2.1, hdk.2.2.2.2.1⟩ k).mono ?_
          · exact g1
          · exact g2
          rintro v ν ⟨rfl, d2, d2', rfl, g3, g4⟩
          show _ ∧ _ ∧ _ ∧ _ ∧ a_Spec G sX7_better _ (va_up (va_up (va_up (va_up μ.1 50 d1) 51 d1') 50 d2) 51 d2', μ.2) _
          rw [va_up4]
          refine ⟨rfl, by omega, by omega, by omega, ?_⟩
          have q8 : (va_up (va_up (va_up (va_up μ.1 50 d1) 51 d1') 50 d2) 51 d2') 38 k = nI (X 2 k) := by rw [va_up4]; exact c2 k hk
          have q7 : (va_up (va_up (va_up (va_up μ.1 50 d1) 51 d1') 50 d2) 51 d2') 37 k = nI (X 1 k) := by rw [va_up4]; exact c1 k hk
          have q9 : (va_up (va_up (va_up (va_up μ.1 50 d1) 51 d1') 50 d2) 51 d2') 39 k = nI (X 3 k) := by rw [va_up4]; exact c3 k hk
          have key := (r_X7_better (G := G) (μ := (va_up (va_up μ.1 50 d2) 51 d2', μ.2)) (T := relax T1 (X 1 k, X 2 k, 32 * (X 3 k : Int) + 1, k)) (p := X 2 k) (q := X 1 k) (l := X 3 k) g3 g4 (bf_form hd bI2) hdk.2.1 hdk.1 ⟨hdk.2.2.2.1, hdk.2.2.2.2.1⟩ k).mono (post' := fun r2 m2 => r2 = none ∧ a_Runs G sX7_measure 58 [(0, .ref 36), (2, .int (nI r)), (3, .int (nI (k + 1)))] [] m2 post) ?_
          · rw [← q8, ← q7, ← q9] at key
            exact key
          · rintro v ν ⟨rfl, d3, d3', rfl, g5, g6⟩
            refine ⟨rfl, ?_⟩
            show a_Runs G sX7_measure 58 _ [] (va_up (va_up (va_up (va_up μ.1 50 d2) 51 d2') 50 d3) 51 d3', μ.2) post
            rw [va_up4]
            refine ih2 (d3, d3') ?_
            rw [hfold, e2]; exact ⟨g5, g6⟩
  refine w_X7_measure_0 _ ?_
  have init := a_for (fun i (z : (Nat → Int32) × (Nat → Int32)) => a_Runs G sX7_measure 2 [(0, .ref 36), (1, .int (nI g)), (2, .int (nI i))] [] (va_up (va_up μ.1 50 z.1) 51 z.2, μ.2) post) (fun i z => rZ z.1 (farZ (lab0 g)) i ∧ rZ z.2 (byZ (lab0 g)) i) 10 ?_ ?_ 0 (μ.1 50, μ.1 51) (by omega) ⟨fun i hi => by omega, fun i hi => by omega⟩
  · rw [e0]; exact init
  · rintro ⟨c, c'⟩ h
    exact w_X7_measure_2 _ _ ⟨fun _ => rounds (c, c') h, fun h => absurd (by rw [q_le] <;> omega) h⟩
  · rintro i ⟨c, c'⟩ hi ⟨h1, h2⟩ ih
    have h1 : rZ c (farZ (lab0 g)) i := h1
    have h2 : rZ c' (byZ (lab0 g)) i := h2
    refine w_X7_measure_2 _ _ ⟨fun h => ?_, fun _ => ?_⟩
    · rw [q_le (by omega) (by omega)] at h; omega
    have fin : ∀ z y : Int32, z.toInt = farZ (lab0 g) i → y.toInt = byZ (lab0 g) i → a_Runs G sX7_measure 2 [(0, .ref 36), (1, .int (nI g)), (2, .int (nI (i + 1)))] [] (va_up (va_up (va_up (va_up μ.1 50 c) 51 c') 50 (upd c i z)) 51 (upd c' i y), μ.2) post := by
      intro z y hz hy
      rw [va_up4]
      refine ih (upd c i z, upd c' i y) ⟨?_, ?_⟩
      · intro j hj
        show (upd c i z j).toInt = _
        by_cases ej : j = i
        · rw [ej, pk_us, hz]
        · rw [pk_un ej]; exact h1 j (by omega)
      · intro j hj
        show (upd c' i y j).toInt = _
        by_cases ej : j = i
        · rw [ej, pk_us, hy]
        · rw [pk_un ej]; exact h2 j (by omega)
    rw [q_in (by omega), q_cl (by omega), nI_add, q_eq (by omega) (by omega)]
    refine ⟨fun h => ⟨by omega, fun _ => ⟨by omega, fin _ _ ?_ ?_⟩, fun h' => absurd h' h⟩, fun h => ⟨by omega, fun h' => absurd h h', fun _ => ⟨by omega, fin _ _ ?_ ?_⟩⟩⟩
    · unfold farZ lab0; rw [if_neg h, if_pos rfl]; decide
    · unfold byZ lab0; rw [if_neg h, if_pos rfl]; decide
    · unfold farZ lab0; rw [if_pos h, if_neg (by decide)]; decide
    · unfold byZ lab0; rw [if_pos h, if_neg (by decide)]; decide
end MEASURE2
end
section
theorem arcsD_cong {X : aX} {pf pb pf' pb' : Nat → Int} : ∀ {n : Nat}, (∀ k, k < n → pf k = pf' k ∧ pb k = pb' k) → arcsD X pf pb n = arcsD X pf' pb' n
  | 0, _ => rfl
  | n + 1, h => by
    rw [arcsD, arcsD, arcsD_cong (fun k hk => h k (by omega))]
    unfold arc2
    rw [(h n (by omega)).1, (h n (by omega)).2]
theorem asO_cong {X : aX} {op op' : Nat → Bool} (h : ∀ d, d < X 0 0 → op d = op' d) : asO X op = asO X op' := arcsD_cong (fun k hk => by unfold prO; rw [h k hk]; exact ⟨rfl, rfl⟩)
theorem labO_cong {X : aX} {op op' : Nat → Bool} (h : ∀ d, d < X 0 0 → op d = op' d) (g : Nat) : labO X op g = labO X op' g := by unfold labO; rw [asO_cong h]
theorem low_bit {n d : Nat} (h : d < n) : (2 ^ n - 1).testBit d = true := by rw [Nat.testBit_two_pow_sub_one]; simpa using h
section FAR
variable {G : aG} {μ : aMem} {X : aX}
theorem r_X0_allBits (hd : xD X) (hcd : cD μ X) : a_Ret G sX0_allBits [.ref 1] μ (some (.int (nI (2 ^ X 0 0 - 1)))) μ := by
  intro post hp
  have hn := hd.1
  refine w_X0_allBits_0 ?_
  rw [hcd.1, q_pow (by omega), q_sub (Nat.one_le_two_pow)]
  exact hp
theorem pow16 {X : aX} (hd : xD X) : 2 ^ X 0 0 ≤ 2 ^ 16 := Nat.pow_le_pow_right (by decide) hd.1
theorem c_far (hd : xD X) (hcd : cD μ X) (x1 x2 : Int32) : a_Spec G sX6_far [.ref 0, .int x1, .int x2] μ (fun v ν => v = some (.int (aFar X x1 x2)) ∧ a_eqx [22, 23, 24] μ ν) := by
  have hp16 := pow16 hd
  refine w_X6_far_0 _ _ (r_X6_isPlace _ _ ⟨_, rfl, br_b (fun h1 => ?_) (fun h1 => r_X6_isPlace _ _ ⟨_, rfl, br_n (fun h2 => br_d (fun h3 => ?_) (fun h3 => ?_)) (fun h2 => ?_)⟩)⟩)
  · have e : aFar X x1 x2 = -1 := by simp [aFar, h1]
    rw [e]; exact ⟨rfl, a_eqx.rf _ _⟩
  · have e : aFar X x1 x2 = if labO X (fun _ => true) x2.toNatClampNeg x1.toNatClampNeg = BIG then -9 else nI (labO X (fun _ => true) x2.toNatClampNeg x1.toNatClampNeg / 32).toNat := by simp [aFar, h1, h2, h3]
    rw [e]
    obtain ⟨e1, -, b1⟩ := inB_cl (by decide) (by decide) h1
    obtain ⟨e2, -, b2⟩ := inB_cl (by decide) (by decide) h2
    generalize x1.toNatClampNeg = a at *
    generalize x2.toNatClampNeg = b at *
    subst e1
    subst e2
    refine r_X0_allBits hd hcd _ ⟨_, rfl, (r_X3_open hd hcd (s := 2 ^ X 0 0 - 1) (by omega)).mono ?_⟩
    rintro v ν ⟨rfl, c, c', rfl, g1, g2⟩
    have hcd' : cD (va_up (va_up μ.1 22 c) 23 c', μ.2) X := hcd.kept (fun k hk => by show va_up (va_up μ.1 22 c) 23 c' k = _; rw [va_up_ne _ _ (by omega), va_up_ne _ _ (by omega)])
    refine ⟨rfl, (r_X3_leastLength (μ := (va_up (va_up μ.1 22 c) 23 c', μ.2)) hd hcd' (op := fun d => (2 ^ X 0 0 - 1).testBit d) ?_ ?_ (a := a) (g := b) (by omega) (by omega)).mono ?_⟩
    · exact g1
    · exact g2
    rintro v ν ⟨rfl, c2, rfl, -⟩
    rw [labO_cong (op' := fun _ => true) (fun d hdd => low_bit hdd) b]
    refine ⟨_, rfl, rfl, ?_⟩
    intro k hk
    simp only [List.mem_cons, List.not_mem_nil, or_false, not_or] at hk
    refine ⟨?_, rfl⟩
    show va_up (va_up (va_up μ.1 22 c) 23 c') 24 c2 k = _
    rw [va_up_ne _ _ hk.2.2, va_up_ne _ _ hk.2.1, va_up_ne _ _ hk.1]
  · have e : aFar X x1 x2 = -3 := by subst h3; simp [aFar, h1]
    rw [e]; exact ⟨rfl, a_eqx.rf _ _⟩
  · have e : aFar X x1 x2 = -1 := by simp [aFar, h1, h2]
    rw [e]; exact ⟨rfl, a_eqx.rf _ _⟩
theorem r_X7_openAll (hd : xD X) (hmd : mD μ X) : a_Spec G sX7_openAll [.ref 36] μ (fun v ν => v = none ∧ ∃ c, ν = (va_up μ.1 49 c, μ.2) ∧ ∀ d, d < X 0 0 → c d = bI true) := by
  have hn := hd.1
  refine w_X7_openAll_0 ?_
  generalize hpo : (fun (v : Option Value) (ν : aMem) => v = none ∧ ∃ c, ν = (va_up μ.1 49 c, μ.2) ∧ ∀ d, d < X 0 0 → c d = bI true) = post
  have hpost : ∀ c : Nat → Int32, (∀ d, d < X 0 0 → c d = bI true) → post none (va_up μ.1 49 c, μ.2) := fun c h => by rw [← hpo]; exact ⟨rfl, c, rfl, h⟩
  have main := a_for (fun i (c : Nat → Int32) => a_Runs G sX7_openAll 2 [(0, .ref 36), (1, .int (nI i))] [] (va_up μ.1 49 c, μ.2) post) (fun i c => ∀ d, d < i → c d = bI true) (X 0 0) ?_ ?_ 0 (μ.1 49) (by omega) (fun d hd => by omega)
  · rw [a_self μ 49]; exact main
  · intro c hc
    exact w_X7_openAll_2 _ ⟨fun _ => hpost c hc, fun h => absurd (show μ.1 36 0 ≤ nI (X 0 0) by rw [hmd.1, q_le] <;> omega) h⟩
  · intro i c hi hc ih
    refine w_X7_openAll_2 _ ⟨fun h => ?_, fun _ => ?_⟩
    · have h : μ.1 36 0 ≤ nI i := h
      rw [hmd.1, q_le (by omega) (by omega)] at h; omega
    rw [q_in (by omega), q_cl (by omega), nI_add]
    refine ⟨by omega, ?_⟩
    show a_Runs G sX7_openAll 2 _ [] (va_up (va_up μ.1 49 c) 49 (upd ((va_up μ.1 49 c) 49) i (nI 1 &&& 1)), μ.2) post
    rw [bx_uu, va_up_self]
    refine ih _ (fun d hdd => ?_)
    by_cases e : d = i
    · rw [e, pk_us]; rfl
    · rw [pk_un e]; exact hc d (by omega)
theorem m_far (hd : xD X) (hmd : mD μ X) (x1 x2 : Int32) : a_Spec G sX7_far [.ref 36, .int x1, .int x2] μ (fun v ν => v = some (.int (aFar X x1 x2)) ∧ a_eqx [49, 50, 51] μ ν) := by
  refine w_X7_far_0 _ _ (r_X7_isPlace _ _ ⟨_, rfl, br_b (fun h1 => ?_) (fun h1 => r_X7_isPlace _ _ ⟨_, rfl, br_n (fun h2 => br_d (fun h3 => ?_) (fun h3 => ?_)) (fun h2 => ?_)⟩)⟩)
  · have e : aFar X x1 x2 = -1 := by simp [aFar, h1]
    rw [e]; exact ⟨rfl, a_eqx.rf _ _⟩
  · have e : aFar X x1 x2 = if labO X (fun _ => true) x2.toNatClampNeg x1.toNatClampNeg = BIG then -9 else nI (labO X (fun _ => true) x2.toNatClampNeg x1.toNatClampNeg / 32).toNat := by simp [aFar, h1, h2, h3]
    rw [e]
    obtain ⟨e1, -, b1⟩ := inB_cl (by decide) (by decide) h1
    obtain ⟨e2, -, b2⟩ := inB_cl (by decide) (by decide) h2
    generalize hxa : x1.toNatClampNeg = a at *
    generalize x2.toNatClampNeg = b at *
    subst e1
    subst e2
    refine (r_X7_openAll hd hmd).mono ?_
    rintro v ν ⟨rfl, c, rfl, hc⟩
    have hmd' : mD (va_up μ.1 49 c, μ.2) X := hmd
    refine ⟨rfl, (r_X7_measure (μ := (va_up μ.1 49 c, μ.2)) hd hmd' (op := fun _ => true) (fun d hdd => hc d hdd) (g := b) (by omega)).mono ?_⟩
    rintro v ν ⟨rfl, c2, c2', rfl, g1, g2⟩
    have hform : labO X (fun _ => true) b a = BIG ∨ (0 ≤ labO X (fun _ => true) b a ∧ labO X (fun _ => true) b a ≤ 36000 ∧ labO X (fun _ => true) b a % 32 ≤ 9) := bf_form hd (bfI_rnds (π := fun _ => 0) (asO_ok hd _) (asO_pot hd _) (by omega) 9) a
    have hca := g1 a (by omega)
    have e50 : ((va_up (va_up ((va_up μ.1 49 c, μ.2) : aMem).1 50 c2) 51 c2', ((va_up μ.1 49 c, μ.2) : aMem).2) : aMem).1 50 = c2 := by show va_up (va_up (va_up μ.1 49 c) 50 c2) 51 c2' 50 = c2; rw [va_up_ne _ _ (by decide), va_up_self]
    have hfr : a_eqx [49, 50, 51] μ (va_up (va_up (va_up μ.1 49 c) 50 c2) 51 c2', μ.2) := by
      intro k hk
      simp only [List.mem_cons, List.not_mem_nil, or_false, not_or] at hk
      refine ⟨?_, rfl⟩
      show va_up (va_up (va_up μ.1 49 c) 50 c2) 51 c2' k = _
      rw [va_up_ne _ _ hk.2.2, va_up_ne _ _ hk.2.1, va_up_ne _ _ hk.1]
    rw [q_in (by omega), e50, z_ltI (c2 a) (nI 1000000), hca, show (nI 1000000).toInt = BIG by decide]
    unfold farZ
    refine ⟨rfl, by omega, fun h => ⟨by omega, ?_, hfr⟩, fun h => ⟨?_, hfr⟩⟩
    · by_cases hb : labO X (fun _ => true) b a = BIG
      · rw [if_pos hb] at h; omega
      · rw [if_neg hb]
        have hf := hform.resolve_left hb
        congr 2
        rw [← Int32.toInt_inj, hca, z_nI (by omega)]
        unfold farZ
        rw [if_neg hb]; omega
    · by_cases hb : labO X (fun _ => true) b a = BIG
      · rw [if_pos hb]
      · rw [if_neg hb] at h
        have hf := hform.resolve_left hb
        unfold BIG at h; omega
  · have e : aFar X x1 x2 = -3 := by subst h3; simp [aFar, h1]
    rw [e]; exact ⟨rfl, a_eqx.rf _ _⟩
  · have e : aFar X x1 x2 = -1 := by simp [aFar, h1, h2]
    rw [e]; exact ⟨rfl, a_eqx.rf _ _⟩
end FAR
end
section
/-! ===== the first step of a way, on both sides ===== -/
def acr (X : aX) (d p : Nat) : Nat := if X 1 d = p then X 2 d else X 1 d
def pfr (X : aX) (pf pb : Nat → Int) (d p : Nat) : Int := if X 1 d = p then pf d else if X 2 d = p then pb d else BIG
def tgt (X : aX) (pf pb T : Nat → Int) (p d : Nat) : Bool := decide (pfr X pf pb d p ≠ BIG) && decide (T p = pfr X pf pb d p + T (acr X d p))
def fstS (X : aX) (pf pb T : Nat → Int) (p : Nat) : Nat := fa_first (tgt X pf pb T p) (X 0 0)
section STEP
variable {G : aG} {μ : aMem} {X : aX}
theorem acr_lt (hd : xD X) {d p : Nat} (h : d < X 0 0) : acr X d p < 10 := by
  have := hd.2 d h
  unfold acr; split <;> omega
theorem r_X0_across (hd : xD X) (hcd : cD μ X) {d p : Nat} (hdd : d < X 0 0) (hp : p < 2 ^ 31) : a_Ret G sX0_across [.ref 1, .int (nI d), .int (nI p)] μ (some (.int (nI (acr X d p)))) μ := by
  intro post hpo
  have hn := hd.1
  have := hd.2 d hdd
  refine w_X0_across_0 _ _ ?_
  rw [q_in (by omega), q_cl (by omega), hcd.2.1 d hdd, hcd.2.2.1 d hdd, q_eq (by omega) hp]
  unfold acr at hpo
  refine ⟨by omega, fun h => ⟨by omega, ?_⟩, fun h => ⟨by omega, ?_⟩⟩
  · rw [if_neg h] at hpo; exact hpo
  · rw [if_pos h] at hpo; exact hpo
theorem r_X3_priceFrom (hd : xD X) (hcd : cD μ X) {pf pb : Nat → Int} (hpf : rZ (μ.1 22) pf (X 0 0)) (hpb : rZ (μ.1 23) pb (X 0 0)) {d p : Nat} (hdd : d < X 0 0) (hp : p < 2 ^ 31) : a_Spec G sX3_priceFrom [.ref 3, .int (nI d), .int (nI p)] μ (fun v ν => ν = μ ∧ ∃ z : Int32, v = some (.int z) ∧ z.toInt = pfr X pf pb d p) := by
  have hn := hd.1
  have := hd.2 d hdd
  refine w_X3_priceFrom_0 _ _ ?_
  rw [q_in (by omega), q_cl (by omega), hcd.2.1 d hdd, hcd.2.2.1 d hdd, q_eq (by omega) hp, q_eq (by omega) hp]
  unfold pfr
  refine ⟨by omega, fun h => ⟨by omega, fun h2 => ⟨rfl, _, rfl, ?_⟩, fun h2 => ⟨by omega, rfl, _, rfl, ?_⟩⟩, fun h => ⟨by omega, rfl, _, rfl, ?_⟩⟩
  · rw [if_neg h, if_neg h2]; decide
  · rw [if_neg h, if_pos h2]; exact hpb d hdd
  · rw [if_pos h]; exact hpf d hdd
theorem r_X3_firstStep (hd : xD X) (hcd : cD μ X) {pf pb : Nat → Int} (hpf : rZ (μ.1 22) pf (X 0 0)) (hpb : rZ (μ.1 23) pb (X 0 0)) (hbf : ∀ k, k < X 0 0 → pf k = BIG ∨ (-4000 ≤ pf k ∧ pf k ≤ 4000)) (hbb : ∀ k, k < X 0 0 → pb k = BIG ∨ (-4000 ≤ pb k ∧ pb k ≤ 4000)) {T : Nat → Int} (hT : rZ (μ.1 24) T 10) (hTb : ∀ v, T v = BIG ∨ (-36000 ≤ T v ∧ T v ≤ 36000)) {p : Nat} (hp : p < 10) (hex : fstS X pf pb T p < X 0 0) : a_Spec G sX3_firstStep [.ref 3, .int (nI p)] μ (fun v ν => ν = μ ∧ v = some (.int (nI (fstS X pf pb T p)))) := by
  have hn := hd.1
  have hno := fa_first_no (tgt X pf pb T p) (X 0 0)
  have hyes := fa_first_yes (tgt X pf pb T p) (X 0 0) hex
  have hb : (nI 1000000).toInt = BIG := by decide
  have pbd : ∀ d, d < X 0 0 → pfr X pf pb d p = BIG ∨ (-4000 ≤ pfr X pf pb d p ∧ pfr X pf pb d p ≤ 4000) := by
    intro d hdd
    unfold pfr
    split
    · exact hbf d hdd
    · split
      · exact hbb d hdd
      · exact Or.inl rfl
  refine w_X3_firstStep_0 _ ?_
  have key : ∀ n i, i + n = fstS X pf pb T p → a_Runs G sX3_firstStep 2 [(0, .ref 3), (1, .int (nI p)), (2, .int (nI i))] [] μ (fun v ν => ν = μ ∧ v = some (.int (nI (fstS X pf pb T p)))) := by
    intro n
    induction n with
    | zero =>
      intro i hi
      have hi : i = fstS X pf pb T p := by omega
      have ht : tgt X pf pb T p i = true := by rw [hi]; exact hyes
      have hil : i < X 0 0 := by rw [hi]; exact hex
      unfold tgt at ht
      simp only [Bool.and_eq_true, decide_eq_true_eq] at ht
      refine w_X3_firstStep_2 _ _ ⟨fun h => ?_, fun _ => (r_X3_priceFrom hd hcd hpf hpb hil (by omega)).mono ?_⟩
      · rw [hcd.1, q_le (by omega) (by omega)] at h; omega
      rintro v ν ⟨rfl, z, rfl, hz⟩
      refine ⟨z, rfl, ?_⟩
      rw [z_eqI z (nI 1000000), hb, hz]
      refine ⟨fun h => absurd h ht.1, fun h => ?_⟩
      have hal := acr_lt hd (p := p) hil
      rw [q_in (by omega), q_cl (by omega)]
      refine ⟨hp, r_X0_across hd hcd hil (by omega) _ ⟨_, rfl, ?_⟩⟩
      rw [q_in (by omega), q_cl (by omega)]
      have b1 := pbd i hil
      have b2 := hTb (acr X i p)
      have hs : (z + ν.1 24 (acr X i p)).toInt = pfr X pf pb i p + T (acr X i p) := by rw [fb_addI] <;> rw [hz, hT _ hal] <;> unfold BIG at * <;> omega
      rw [z_eqI (ν.1 24 p), hs, hT p hp]
      exact ⟨hal, fun h => absurd ht.2 h, fun _ => ⟨rfl, by rw [hi]⟩⟩
    | succ n ih =>
      intro i hi
      have ht : tgt X pf pb T p i = false := hno i (by unfold fstS at hi; omega)
      have hil : i < X 0 0 := by unfold fstS at *; omega
      unfold tgt at ht
      refine w_X3_firstStep_2 _ _ ⟨fun h => ?_, fun _ => (r_X3_priceFrom hd hcd hpf hpb hil (by omega)).mono ?_⟩
      · rw [hcd.1, q_le (by omega) (by omega)] at h; omega
      rintro v ν ⟨rfl, z, rfl, hz⟩
      refine ⟨z, rfl, ?_⟩
      rw [z_eqI z (nI 1000000), hb, hz, nI_add]
      refine ⟨fun h => ih (i + 1) (by omega), fun h => ?_⟩
      have hal := acr_lt hd (p := p) hil
      rw [q_in (by omega), q_cl (by omega)]
      refine ⟨hp, r_X0_across hd hcd hil (by omega) _ ⟨_, rfl, ?_⟩⟩
      rw [q_in (by omega), q_cl (by omega)]
      have b1 := pbd i hil
      have b2 := hTb (acr X i p)
      have hs : (z + ν.1 24 (acr X i p)).toInt = pfr X pf pb i p + T (acr X i p) := by rw [fb_addI] <;> rw [hz, hT _ hal] <;> unfold BIG at * <;> omega
      rw [z_eqI (ν.1 24 p), hs, hT p hp]
      refine ⟨hal, fun _ => ih (i + 1) (by omega), fun h2 => ?_⟩
      rw [decide_eq_true h, decide_eq_true h2] at ht
      cases ht
  exact key (fstS X pf pb T p) 0 (by omega)
end STEP
end
section
section NEXT
variable {G : aG} {μ : aMem} {X : aX}
theorem r_X7_across (hd : xD X) (hmd : mD μ X) {d p : Nat} (hdd : d < X 0 0) (hp : p < 2 ^ 31) : a_Ret G sX7_across [.ref 36, .int (nI d), .int (nI p)] μ (some (.int (if X 1 d = p ∨ X 2 d = p then nI (acr X d p) else -9))) μ := by
  intro post hpo
  have hn := hd.1
  have := hd.2 d hdd
  refine w_X7_across_0 _ _ ?_
  rw [q_in (by omega), q_cl (by omega), hmd.2.1 d hdd, hmd.2.2.1 d hdd, q_eq (by omega) hp, q_eq (by omega) hp]
  unfold acr at hpo
  refine ⟨by omega, fun h => ⟨by omega, fun h2 => ?_, fun h2 => ⟨by omega, ?_⟩⟩, fun h => ⟨by omega, ?_⟩⟩
  · rw [if_neg (by omega)] at hpo; exact hpo
  · rw [if_pos (Or.inr h2), if_neg h] at hpo; exact hpo
  · rw [if_pos (Or.inl h), if_pos h] at hpo; exact hpo
theorem nI_m9 {n : Nat} (h : n < 1000) : (nI n = -9) = False := by
  rw [z_eqI, z_nI (by omega), show ((-9 : Int32)).toInt = -9 by decide]; exact propext ⟨fun h => by omega, False.elim⟩
/-- both sides look for the same duct -/
theorem tgt_O (hd : xD X) {op : Nat → Bool} {T : Nat → Int} (hbd : ∀ v, T v = BIG ∨ (0 ≤ T v ∧ T v ≤ 36000 ∧ T v % 32 ≤ 9)) {p d : Nat} (hdd : d < X 0 0) (hTp : T p ≠ BIG) : tgt X (prO X op) (prO X op) T p d = true ↔ op d = true ∧ (X 1 d = p ∨ X 2 d = p) ∧ farZ T (acr X d p) + X 3 d = farZ T p ∧ byZ T (acr X d p) + 1 = byZ T p := by
  have hl := hd.2 d hdd
  have bp := (hbd p).resolve_left hTp
  have bq := hbd (acr X d p)
  have e1 : farZ T p = T p / 32 := by unfold farZ; rw [if_neg hTp]
  have e2 : byZ T p = T p % 32 := by unfold byZ; rw [if_neg hTp]
  unfold tgt
  simp only [Bool.and_eq_true, decide_eq_true_eq]
  have hpr : pfr X (prO X op) (prO X op) d p = if X 1 d = p ∨ X 2 d = p then prO X op d else BIG := by
    unfold pfr
    by_cases h1 : X 1 d = p
    · rw [if_pos h1, if_pos (Or.inl h1)]
    · rw [if_neg h1]
      by_cases h2 : X 2 d = p
      · rw [if_pos h2, if_pos (Or.inr h2)]
      · rw [if_neg h2, if_neg (by omega)]
  rw [hpr]
  by_cases hin : X 1 d = p ∨ X 2 d = p
  · rw [if_pos hin, prO_n hd hdd]
    cases ho : op d with
    | false => simp
    | true =>
      have e3 : prO X op d = 32 * (X 3 d : Int) + 1 := by unfold prO; rw [ho, if_pos rfl]
      rw [e3, e1, e2]
      by_cases hq : T (acr X d p) = BIG
      · have e4 : farZ T (acr X d p) = BIG := by unfold farZ; rw [if_pos hq]
        rw [hq, e4]
        constructor
        · intro h; exfalso; have := h.2; unfold BIG at this; omega
        · intro h; exfalso; have := h.2.2.1; unfold BIG at this; omega
      · have e4 : farZ T (acr X d p) = T (acr X d p) / 32 := by unfold farZ; rw [if_neg hq]
        have e5 : byZ T (acr X d p) = T (acr X d p) % 32 := by unfold byZ; rw [if_neg hq]
        have bq := bq.resolve_left hq
        rw [e4, e5]
        constructor
        · intro h; exact ⟨rfl, hin, by omega, by omega⟩
        · intro h; exact ⟨rfl, by omega⟩
  · rw [if_neg hin]
    constructor
    · intro h; exact absurd rfl h.1
    · intro h; exact absurd h.2.1 hin
theorem r_X7_next (hd : xD X) (hmd : mD μ X) {op : Nat → Bool} (hop : ∀ d, d < X 0 0 → μ.1 49 d = bI (op d)) {T : Nat → Int} (hf : rZ (μ.1 50) (farZ T) 10) (hb : rZ (μ.1 51) (byZ T) 10) (hbd : ∀ v, T v = BIG ∨ (0 ≤ T v ∧ T v ≤ 36000 ∧ T v % 32 ≤ 9)) {p : Nat} (hp : p < 10) (hTp : T p ≠ BIG) (hex : fstS X (prO X op) (prO X op) T p < X 0 0) : a_Ret G sX7_next [.ref 36, .int (nI p)] μ (some (.int (nI (fstS X (prO X op) (prO X op) T p)))) μ := by
  intro post hpo
  have hn := hd.1
  have hno := fa_first_no (tgt X (prO X op) (prO X op) T p) (X 0 0)
  have hyes := fa_first_yes (tgt X (prO X op) (prO X op) T p) (X 0 0) hex
  refine w_X7_next_0 _ ?_
  -- one look at the duct i
  have look : ∀ i, i < X 0 0 → (tgt X (prO X op) (prO X op) T p i = false → a_Runs G sX7_next 2 [(0, .ref 36), (1, .int (nI p)), (2, .int (nI (i + 1)))] [] μ post) → (tgt X (prO X op) (prO X op) T p i = true → post (some (.int (nI i))) μ) → a_Runs G sX7_next 2 [(0, .ref 36), (1, .int (nI p)), (2, .int (nI i))] [] μ post := by
    intro i hi hF hS
    have hal := acr_lt hd (p := p) hi
    have hl := hd.2 i hi
    have hiff := tgt_O hd (op := op) hbd (p := p) hi hTp
    have no : ¬ (op i = true ∧ (X 1 i = p ∨ X 2 i = p) ∧ farZ T (acr X i p) + X 3 i = farZ T p ∧ byZ T (acr X i p) + 1 = byZ T p) → a_Runs G sX7_next 2 [(0, .ref 36), (1, .int (nI p)), (2, .int (nI (i + 1)))] [] μ post := fun h => hF (Bool.eq_false_iff.mpr (fun q => h (hiff.mp q)))
    have fb1 : farZ T (acr X i p) = BIG ∨ (0 ≤ farZ T (acr X i p) ∧ farZ T (acr X i p) ≤ 1125) := by
      unfold farZ; rcases hbd (acr X i p) with h | h
      · rw [if_pos h]; left; rfl
      · rw [if_neg (by unfold BIG; omega)]; right; omega
    have bb1 : byZ T (acr X i p) = BIG ∨ (0 ≤ byZ T (acr X i p) ∧ byZ T (acr X i p) ≤ 9) := by
      unfold byZ; rcases hbd (acr X i p) with h | h
      · rw [if_pos h]; left; rfl
      · rw [if_neg (by unfold BIG; omega)]; right; omega
    have s1 : (μ.1 50 (acr X i p) + nI (X 3 i)).toInt = farZ T (acr X i p) + X 3 i := by rw [fb_addI] <;> rw [hf _ hal, z_nI (by omega)] <;> unfold BIG at * <;> omega
    have s2 : (μ.1 51 (acr X i p) + nI 1).toInt = byZ T (acr X i p) + 1 := by rw [fb_addI] <;> rw [hb _ hal, z_nI (by omega)] <;> unfold BIG at * <;> omega
    refine w_X7_next_2 _ _ ?_
    rw [q_in (by omega), q_cl (by omega), hop i hi, nI_add]
    refine ⟨by omega, br_b (fun h1 => no (fun h => by rw [h1] at h; cases h.1)) (fun h1 => r_X7_across hd hmd hi (by omega) _ ⟨_, rfl, ?_⟩)⟩
    by_cases hin : X 1 i = p ∨ X 2 i = p
    · rw [if_pos hin, nI_m9 (by omega)]
      refine ⟨fun h => h.elim, fun _ => r_X7_across hd hmd hi (by omega) _ ⟨_, rfl, ?_⟩⟩
      rw [if_pos hin, q_in (by omega), q_in (by omega), q_cl (by omega), q_cl (by omega), hmd.2.2.2.1 i hi, z_eqI (μ.1 50 (acr X i p) + nI (X 3 i)) (μ.1 50 p), s1, hf p hp]
      refine ⟨hal, by omega, hp, fun h2 => no (fun h => h2 h.2.2.1), fun h2 => r_X7_across hd hmd hi (by omega) _ ⟨_, rfl, ?_⟩⟩
      rw [if_pos hin, q_in (by omega), q_cl (by omega), z_eqI (μ.1 51 (acr X i p) + nI 1) (μ.1 51 p), s2, hb p hp]
      exact ⟨hal, hp, fun h3 => hS (hiff.mpr ⟨h1, hin, h2, h3⟩), fun h3 => no (fun h => h3 h.2.2.2)⟩
    · rw [if_neg hin]
      exact ⟨fun _ => no (fun h => hin h.2.1), fun h => absurd rfl h⟩
  have key : ∀ n i, i + n = fstS X (prO X op) (prO X op) T p → a_Runs G sX7_next 2 [(0, .ref 36), (1, .int (nI p)), (2, .int (nI i))] [] μ post := by
    intro n
    induction n with
    | zero =>
      intro i hi
      have hi : i = fstS X (prO X op) (prO X op) T p := by omega
      have ht : tgt X (prO X op) (prO X op) T p i = true := by rw [hi]; exact hyes
      exact look i (by rw [hi]; exact hex) (fun h => by rw [ht] at h; cases h) (fun _ => by rw [hi]; exact hpo)
    | succ n ih =>
      intro i hi
      have ht : tgt X (prO X op) (prO X op) T p i = false := hno i (by unfold fstS at hi; omega)
      exact look i (by unfold fstS at *; omega) (fun _ => ih (i + 1) (by omega)) (fun h => by rw [ht] at h; cases h)
  exact key (fstS X (prO X op) (prO X op) T p) 0 (by omega)
end NEXT
end
section
/-! ===== the way itself: places and ducts, step by step ===== -/
def vtx (X : aX) (pf pb T : Nat → Int) (p : Nat) : Nat → Nat
  | 0 => p
  | i + 1 => acr X (fstS X pf pb T (vtx X pf pb T p i)) (vtx X pf pb T p i)
def stp (X : aX) (pf pb T : Nat → Int) (p i : Nat) : Nat := fstS X pf pb T (vtx X pf pb T p i)
theorem vtx_shift (X : aX) (pf pb T : Nat → Int) (p : Nat) : ∀ i, vtx X pf pb T p (i + 1) = vtx X pf pb T (acr X (fstS X pf pb T p) p) i
  | 0 => rfl
  | i + 1 => by
    show acr X (fstS X pf pb T (vtx X pf pb T p (i + 1))) (vtx X pf pb T p (i + 1)) = _
    rw [vtx_shift X pf pb T p i]; rfl
theorem stp_shift (X : aX) (pf pb T : Nat → Int) (p i : Nat) : stp X pf pb T p (i + 1) = stp X pf pb T (acr X (fstS X pf pb T p) p) i := by
  unfold stp; rw [vtx_shift]
/-- a label that isn't the goal's has a first step; where it leads -/
theorem path_step {X : aX} (hd : xD X) {op : Nat → Bool} {g : Nat} (hg : g < 10) {v : Nat} (hv : v ≠ g) (hne : labO X op g v ≠ BIG) : fstS X (prO X op) (prO X op) (labO X op g) v < X 0 0 ∧ (X 1 (fstS X (prO X op) (prO X op) (labO X op g) v) = v ∨ X 2 (fstS X (prO X op) (prO X op) (labO X op g) v) = v) ∧ labO X op g (acr X (fstS X (prO X op) (prO X op) (labO X op g) v) v) ≠ BIG ∧ labO X op g v = 32 * (X 3 (fstS X (prO X op) (prO X op) (labO X op g) v) : Int) + 1 + labO X op g (acr X (fstS X (prO X op) (prO X op) (labO X op g) v) v) := by
  have hA := asO_ok hd op
  have hπ := asO_pot hd op
  have hform : ∀ u, labO X op g u = BIG ∨ (0 ≤ labO X op g u ∧ labO X op g u ≤ 36000 ∧ labO X op g u % 32 ≤ 9) := bf_form hd (bfI_rnds (π := fun _ => 0) hA hπ hg 9)
  obtain ⟨e, he, h1, h2, h3⟩ := bf_tight (π := fun _ => 0) hA hπ hg (Nat.le_refl 9) (by decide) hv hne
  have h2 : labO X op g e.2.1 ≠ BIG := h2
  have h3 : labO X op g v = e.2.2.1 + labO X op g e.2.1 := h3
  obtain ⟨d, hdd, ho, hed⟩ := (asO_in hd).mp he
  have hl := hd.2 d hdd
  have hacr : e.2.1 = acr X d v ∧ (X 1 d = v ∨ X 2 d = v) ∧ e.2.2.1 = 32 * (X 3 d : Int) + 1 := by
    rcases hed with rfl | rfl
    · have h1 : X 1 d = v := h1
      refine ⟨?_, Or.inl h1, rfl⟩
      show X 2 d = acr X d v
      unfold acr; rw [if_pos h1]
    · have h1 : X 2 d = v := h1
      refine ⟨?_, Or.inr h1, rfl⟩
      show X 1 d = acr X d v
      unfold acr; rw [if_neg (by omega)]
  obtain ⟨q1, q2, q3⟩ := hacr
  rw [q1] at h2 h3
  rw [q3] at h3
  have htd : tgt X (prO X op) (prO X op) (labO X op g) v d = true := by
    refine (tgt_O hd hform hdd hne).mpr ⟨ho, q2, ?_, ?_⟩
    · have b := (hform (acr X d v)).resolve_left h2
      unfold farZ; rw [if_neg h2, if_neg hne]; omega
    · have b := (hform (acr X d v)).resolve_left h2
      unfold byZ; rw [if_neg h2, if_neg hne]; omega
  have hex : fstS X (prO X op) (prO X op) (labO X op g) v < X 0 0 := by
    unfold fstS
    rcases Nat.lt_or_ge (fa_first (tgt X (prO X op) (prO X op) (labO X op g) v) (X 0 0)) (X 0 0) with h | h
    · exact h
    · have := fa_first_no (tgt X (prO X op) (prO X op) (labO X op g) v) (X 0 0) d (by omega)
      rw [htd] at this; cases this
  have hyes := fa_first_yes (tgt X (prO X op) (prO X op) (labO X op g) v) (X 0 0) hex
  have hyes : tgt X (prO X op) (prO X op) (labO X op g) v (fstS X (prO X op) (prO X op) (labO X op g) v) = true := hyes
  generalize fstS X (prO X op) (prO X op) (labO X op g) v = f at *
  obtain ⟨r1, r2, r3, r4⟩ := (tgt_O hd hform hex hne).mp hyes
  have hlf := hd.2 f hex
  have bv := (hform v).resolve_left hne
  have hqn : labO X op g (acr X f v) ≠ BIG := by
    intro h
    unfold farZ at r3
    rw [if_pos h, if_neg hne] at r3
    unfold BIG at r3; omega
  have bq := (hform (acr X f v)).resolve_left hqn
  unfold farZ at r3
  unfold byZ at r4
  rw [if_neg hqn, if_neg hne] at r3 r4
  exact ⟨hex, r2, hqn, by omega⟩
/-- THE WAY: n ducts, n at most 9, from p to the goal -/
theorem path_all {X : aX} (hd : xD X) {op : Nat → Bool} {g : Nat} (hg : g < 10) : ∀ (n : Nat) (p : Nat), labO X op g p ≠ BIG → (labO X op g p % 32).toNat = n →
    n ≤ 9 ∧ vtx X (prO X op) (prO X op) (labO X op g) p n = g ∧ (∀ i, i < n → vtx X (prO X op) (prO X op) (labO X op g) p i ≠ g ∧ labO X op g (vtx X (prO X op) (prO X op) (labO X op g) p i) ≠ BIG) ∧ (fb_sm (fun i => X 3 (stp X (prO X op) (prO X op) (labO X op g) p i)) n : Int) = labO X op g p / 32 := by
  have hA := asO_ok hd op
  have hπ := asO_pot hd op
  have hform : ∀ u, labO X op g u = BIG ∨ (0 ≤ labO X op g u ∧ labO X op g u ≤ 36000 ∧ labO X op g u % 32 ≤ 9) := bf_form hd (bfI_rnds (π := fun _ => 0) hA hπ hg 9)
  have hgoal : labO X op g g = 0 := bf_goal (π := fun _ => 0) hA hπ hg 9 (by decide)
  intro n
  induction n with
  | zero =>
    intro p hne hn
    have b := (hform p).resolve_left hne
    by_cases hp : p = g
    · subst hp
      refine ⟨by omega, rfl, fun i hi => by omega, ?_⟩
      rw [hgoal]; rfl
    · obtain ⟨h1, h2, h3, h4⟩ := path_step hd hg hp hne
      have b2 := (hform _).resolve_left h3
      omega
  | succ n ih =>
    intro p hne hn
    have b := (hform p).resolve_left hne
    have hp : p ≠ g := by
      intro h; rw [h, hgoal] at hn; simp at hn
    obtain ⟨h1, h2, h3, h4⟩ := path_step hd hg hp hne
    have b2 := (hform _).resolve_left h3
    obtain ⟨i1, i2, i3, i4⟩ := ih (acr X (fstS X (prO X op) (prO X op) (labO X op g) p) p) h3 (by omega)
    refine ⟨by omega, by rw [vtx_shift]; exact i2, fun i hi => ?_, ?_⟩
    · cases i with
      | zero => exact ⟨hp, hne⟩
      | succ i => rw [vtx_shift]; exact i3 i (by omega)
    · have e1 : fb_sm (fun i => X 3 (stp X (prO X op) (prO X op) (labO X op g) p i)) (n + 1) = X 3 (stp X (prO X op) (prO X op) (labO X op g) p 0) + fb_sm (fun i => X 3 (stp X (prO X op) (prO X op) (labO X op g) (acr X (fstS X (prO X op) (prO X op) (labO X op g) p) p) i)) n := by
        have := fb_sm_split (fun i => X 3 (stp X (prO X op) (prO X op) (labO X op g) p i)) 1 n
        rw [Nat.add_comm n 1, this]
        congr 1
        · exact Nat.zero_add _
        · refine fb_sm_cong (fun k _ => ?_)
          show X 3 (stp X _ _ _ p (1 + k)) = _
          rw [Nat.add_comm 1 k, stp_shift]
      have e2 : stp X (prO X op) (prO X op) (labO X op g) p 0 = fstS X (prO X op) (prO X op) (labO X op g) p := rfl
      rw [e1, e2, Int.natCast_add, i4]
      omega
end
section
section WALK
variable {G : aG} {μ : aMem} {X : aX}
theorem nI_nm9 {n : Nat} (h : n < 1000) : ¬ nI n = -9 := by rw [nI_m9 h]; exact fun h => h
theorem r_X3_walk (hd : xD X) (hcd : cD μ X) {pf pb : Nat → Int} (hpf : rZ (μ.1 22) pf (X 0 0)) (hpb : rZ (μ.1 23) pb (X 0 0)) (hbf : ∀ k, k < X 0 0 → pf k = BIG ∨ (-4000 ≤ pf k ∧ pf k ≤ 4000)) (hbb : ∀ k, k < X 0 0 → pb k = BIG ∨ (-4000 ≤ pb k ∧ pb k ≤ 4000)) {T : Nat → Int} (hT : rZ (μ.1 24) T 10) (hTb : ∀ v, T v = BIG ∨ (-36000 ≤ T v ∧ T v ≤ 36000)) {p g n : Nat} (hp : p < 10) (hg : g < 10) (hn9 : n ≤ 9) (hend : vtx X pf pb T p n = g) (hst : ∀ i, i < n → vtx X pf pb T p i ≠ g ∧ stp X pf pb T p i < X 0 0) :
    a_Spec G sX3_walk [.ref 3, .int (nI p), .int (nI g)] μ (fun v ν => v = none ∧ ∃ c e, ν = (va_up (va_up μ.1 25 c) 3 e, μ.2) ∧ e 5 = nI n ∧ ∀ k, k < n → c k = nI (stp X pf pb T p k)) := by
  have hn := hd.1
  have hvl : ∀ i, i ≤ n → vtx X pf pb T p i < 10 := by
    intro i hi
    cases i with
    | zero => exact hp
    | succ i => exact acr_lt hd (hst i (by omega)).2
  generalize hpo : (fun (v : Option Value) (ν : aMem) => v = none ∧ ∃ c e, ν = (va_up (va_up μ.1 25 c) 3 e, μ.2) ∧ e 5 = nI n ∧ ∀ k, k < n → c k = nI (stp X pf pb T p k)) = post
  have hpost : ∀ c e : Nat → Int32, e 5 = nI n → (∀ k, k < n → c k = nI (stp X pf pb T p k)) → post none (va_up (va_up μ.1 25 c) 3 e, μ.2) := fun c e h h' => by rw [← hpo]; exact ⟨rfl, c, e, rfl, h, h'⟩
  refine w_X3_walk_0 _ _ ?_
  have main := a_for (fun i (z : (Nat → Int32) × (Nat → Int32)) => a_Runs G sX3_walk 7 [(0, .ref 3), (2, .int (nI g)), (3, .int (nI (vtx X pf pb T p i)))] [] (va_up (va_up μ.1 25 z.1) 3 z.2, μ.2) post) (fun i z => z.2 5 = nI i ∧ ∀ k, k < i → z.1 k = nI (stp X pf pb T p k)) n ?_ ?_ 0 (μ.1 25, upd (μ.1 3) 5 (nI 0)) (by omega) ⟨pk_us (f := μ.1 3) (k := 5) (x := nI 0), fun k hk => by omega⟩
  · have e0 : ((va_up μ.1 3 (upd (μ.1 3) 5 (nI 0)), μ.2) : aMem) = (va_up (va_up μ.1 25 (μ.1 25)) 3 (upd (μ.1 3) 5 (nI 0)), μ.2) := by rw [a_self1]
    rw [e0]; exact main
  · rintro ⟨c, e⟩ ⟨h1, h2⟩
    rw [hend]
    exact w_X3_walk_7 _ _ ⟨fun _ => hpost c e h1 h2, fun h => absurd rfl h⟩
  · rintro i ⟨c, e⟩ hi ⟨h1, h2⟩ ih
    have h1 : e 5 = nI i := h1
    have h2 : ∀ k, k < i → c k = nI (stp X pf pb T p k) := h2
    have hv := hvl i (by omega)
    obtain ⟨hvg, hsl⟩ := hst i hi
    have m1 : ∀ j, j ≠ 25 → j ≠ 3 → ((va_up (va_up μ.1 25 c) 3 e, μ.2) : aMem).1 j = μ.1 j := fun j h h' => by show va_up (va_up μ.1 25 c) 3 e j = _; rw [va_up_ne _ _ h', va_up_ne _ _ h]
    have m3 : ((va_up (va_up μ.1 25 c) 3 e, μ.2) : aMem).1 3 = e := va_up_self (va_up μ.1 25 c) 3 e
    have hcd' : ∀ c e : Nat → Int32, cD (va_up (va_up μ.1 25 c) 3 e, μ.2) X := fun c e => hcd.kept (fun k hk => by show va_up (va_up μ.1 25 c) 3 e k = _; rw [va_up_ne _ _ (by omega), va_up_ne _ _ (by omega)])
    refine w_X3_walk_7 _ _ ?_
    rw [q_eq (by omega) (by omega)]
    refine ⟨fun h => absurd h hvg, fun _ => ?_⟩
    show (nI 9 ≤ ((va_up (va_up μ.1 25 c) 3 e, μ.2) : aMem).1 3 5 → _) ∧ (¬ nI 9 ≤ ((va_up (va_up μ.1 25 c) 3 e, μ.2) : aMem).1 3 5 → _)
    rw [m3, h1, q_le (by omega) (by omega)]
    refine ⟨fun h => by omega, fun _ => (r_X3_firstStep (μ := (va_up (va_up μ.1 25 c) 3 e, μ.2)) (pf := pf) (pb := pb) (T := T) hd (hcd' c e) ?_ ?_ hbf hbb ?_ hTb hv hsl).mono ?_⟩
    · rw [m1 22 (by decide) (by decide)]; exact hpf
    · rw [m1 23 (by decide) (by decide)]; exact hpb
    · rw [m1 24 (by decide) (by decide)]; exact hT
    rintro v ν ⟨rfl, rfl⟩
    refine ⟨_, rfl, fun _ => ?_, fun h => absurd h (nI_nm9 (by show stp X pf pb T p i < 1000; omega))⟩
    rw [m3, h1, q_in (by omega), q_cl (by omega), nI_add]
    refine ⟨by omega, ?_⟩
    have e25 : ((va_up (va_up μ.1 25 c) 3 e, μ.2) : aMem).1 25 = c := by show va_up (va_up μ.1 25 c) 3 e 25 = c; rw [va_up_ne _ _ (by decide), va_up_self]
    rw [e25]
    show a_Spec G sX0_across _ (va_up (va_up (va_up (va_up μ.1 25 c) 3 e) 25 (upd c i (nI (stp X pf pb T p i)))) 3 (upd e 5 (nI (i + 1))), μ.2) _
    rw [va_up4]
    refine r_X0_across hd (hcd' _ _) hsl (by omega) _ ⟨_, rfl, ?_⟩
    refine ih (upd c i (nI (stp X pf pb T p i)), upd e 5 (nI (i + 1))) ⟨pk_us (f := e) (k := 5) (x := nI (i + 1)), fun k hk => ?_⟩
    show upd c i _ k = _
    by_cases ek : k = i
    · rw [ek, pk_us]
    · rw [pk_un ek]; exact h2 k (by omega)
end WALK
end
section
section PUT
variable {G : aG} {μ : aMem}
theorem r_X5_putThrough {w n : Nat} (hw : w < 20) (hn9 : n ≤ 9) {s : Nat → Nat} (hs : ∀ k, k < n → μ.1 25 k = nI (s k) ∧ s k < 16) (x4 : Int32) :
    a_Spec G sX5_putThrough [.ref 2, .int (nI w), .ref 25, .int (nI n), .int x4] μ (fun v ν => v = none ∧ ∃ c, ν = (va_up (va_up (va_up μ.1 20 c) 18 (upd (μ.1 18) w (nI (orF (fun k => 2 ^ s k) n)))) 19 (upd (μ.1 19) w x4), μ.2) ∧ (∀ k, k < n → c (9 * w + k) = nI (s k)) ∧ ∀ j, (j < 9 * w ∨ 9 * w + n ≤ j) → c j = μ.1 20 j) := by
  generalize hpo : (fun (v : Option Value) (ν : aMem) => v = none ∧ ∃ c, ν = (va_up (va_up (va_up μ.1 20 c) 18 (upd (μ.1 18) w (nI (orF (fun k => 2 ^ s k) n)))) 19 (upd (μ.1 19) w x4), μ.2) ∧ (∀ k, k < n → c (9 * w + k) = nI (s k)) ∧ ∀ j, (j < 9 * w ∨ 9 * w + n ≤ j) → c j = μ.1 20 j) = post
  have hpost : ∀ c : Nat → Int32, (∀ k, k < n → c (9 * w + k) = nI (s k)) → (∀ j, (j < 9 * w ∨ 9 * w + n ≤ j) → c j = μ.1 20 j) → post none (va_up (va_up (va_up μ.1 20 c) 18 (upd (μ.1 18) w (nI (orF (fun k => 2 ^ s k) n)))) 19 (upd (μ.1 19) w x4), μ.2) := fun c h h' => by rw [← hpo]; exact ⟨rfl, c, rfl, h, h'⟩
  refine w_X5_putThrough_0 _ _ _ ?_
  have main := a_for (fun i (c : Nat → Int32) => a_Runs G sX5_putThrough 6 [(0, .ref 2), (1, .int (nI w)), (2, .ref 25), (3, .int (nI n)), (4, .int x4), (5, .int (nI (orF (fun k => 2 ^ s k) i))), (6, .int (nI i))] [] (va_up μ.1 20 c, μ.2) post) (fun i c => (∀ k, k < i → c (9 * w + k) = nI (s k)) ∧ ∀ j, (j < 9 * w ∨ 9 * w + i ≤ j) → c j = μ.1 20 j) n ?_ ?_ 0 (μ.1 20) (by omega) ⟨fun k hk => by omega, fun _ _ => rfl⟩
  · rw [a_self μ 20]; exact main
  · rintro c ⟨h1, h2⟩
    refine w_X5_putThrough_6 _ _ _ _ _ ⟨fun _ => ?_, fun h => absurd (by rw [q_le] <;> omega) h⟩
    rw [q_in (by omega), q_cl (by omega)]
    exact ⟨hw, hw, hpost c h1 h2⟩
  · rintro i c hi ⟨h1, h2⟩ ih
    obtain ⟨hsi, hsl⟩ := hs i hi
    refine w_X5_putThrough_6 _ _ _ _ _ ⟨fun h => ?_, fun _ => ⟨fun h => ?_, fun _ => ?_⟩⟩
    · rw [q_le (by omega) (by omega)] at h; omega
    · rw [q_le (by omega) (by omega)] at h; omega
    rw [q_in (by omega), pk_mul, nI_add, nI_add, q_in (by omega), q_cl (by omega), q_cl (by omega)]
    have e25 : ((va_up μ.1 20 c, μ.2) : aMem).1 25 i = nI (s i) := hsi
    have e20 : ((va_up μ.1 20 c, μ.2) : aMem).1 20 = c := va_up_self μ.1 20 c
    rw [e25, e20, q_pow (by omega), fa_or, Nat.mul_comm w 9]
    refine ⟨by omega, by omega, by omega, ?_⟩
    show a_Runs G sX5_putThrough 6 _ [] (va_up (va_up μ.1 20 c) 20 (upd c (9 * w + i) (nI (s i))), μ.2) post
    rw [bx_uu]
    refine ih _ ⟨fun k hk => ?_, fun j hj => ?_⟩
    · by_cases ek : k = i
      · rw [ek, pk_us]
      · rw [pk_un (by omega)]; exact h1 k (by omega)
    · rw [pk_un (by omega)]; exact h2 j (by omega)
end PUT
end
section
/-! ===== no duct twice: labels fall along the way ===== -/
theorem path_dist {X : aX} (hd : xD X) {op : Nat → Bool} {g : Nat} (hg : g < 10) {p n : Nat} (hp : ∀ i, i < n → vtx X (prO X op) (prO X op) (labO X op g) p i ≠ g ∧ labO X op g (vtx X (prO X op) (prO X op) (labO X op g) p i) ≠ BIG) :
    (∀ i, i < n → stp X (prO X op) (prO X op) (labO X op g) p i < X 0 0) ∧ ∀ i j, i < j → j < n → stp X (prO X op) (prO X op) (labO X op g) p i ≠ stp X (prO X op) (prO X op) (labO X op g) p j := by
  have one : ∀ i, i < n → stp X (prO X op) (prO X op) (labO X op g) p i < X 0 0 ∧ (X 1 (stp X (prO X op) (prO X op) (labO X op g) p i) = vtx X (prO X op) (prO X op) (labO X op g) p i ∨ X 2 (stp X (prO X op) (prO X op) (labO X op g) p i) = vtx X (prO X op) (prO X op) (labO X op g) p i) ∧ labO X op g (vtx X (prO X op) (prO X op) (labO X op g) p (i + 1)) < labO X op g (vtx X (prO X op) (prO X op) (labO X op g) p i) := by
    intro i hi
    obtain ⟨h1, h2⟩ := hp i hi
    obtain ⟨q1, q2, q3, q4⟩ := path_step hd hg h1 h2
    refine ⟨q1, q2, ?_⟩
    show labO X op g (acr X (fstS X (prO X op) (prO X op) (labO X op g) (vtx X (prO X op) (prO X op) (labO X op g) p i)) (vtx X (prO X op) (prO X op) (labO X op g) p i)) < _
    omega
  have fall : ∀ j i, i ≤ j → j ≤ n → labO X op g (vtx X (prO X op) (prO X op) (labO X op g) p j) ≤ labO X op g (vtx X (prO X op) (prO X op) (labO X op g) p i) := by
    intro j
    induction j with
    | zero => intro i h1 _; have : i = 0 := by omega
              subst this; exact Int.le_refl _
    | succ j ih =>
      intro i h1 h2
      by_cases e : i = j + 1
      · subst e; exact Int.le_refl _
      · have := ih i (by omega) (by omega)
        have := (one j (by omega)).2.2
        omega
  refine ⟨fun i hi => (one i hi).1, fun i j hij hj heq => ?_⟩
  obtain ⟨a1, a2, a3⟩ := one i (by omega)
  obtain ⟨b1, b2, b3⟩ := one j hj
  have f1 := fall j (i + 1) (by omega) (by omega)
  have hl := hd.2 _ a1
  have va : vtx X (prO X op) (prO X op) (labO X op g) p (i + 1) = acr X (stp X (prO X op) (prO X op) (labO X op g) p i) (vtx X (prO X op) (prO X op) (labO X op g) p i) := rfl
  have vb : vtx X (prO X op) (prO X op) (labO X op g) p (j + 1) = acr X (stp X (prO X op) (prO X op) (labO X op g) p j) (vtx X (prO X op) (prO X op) (labO X op g) p j) := rfl
  rw [va] at a3 f1
  rw [vb, ← heq] at b3
  rw [← heq] at b2
  generalize stp X (prO X op) (prO X op) (labO X op g) p i = d at *
  generalize vtx X (prO X op) (prO X op) (labO X op g) p i = u at *
  generalize vtx X (prO X op) (prO X op) (labO X op g) p j = v at *
  by_cases huv : u = v
  · subst huv; omega
  · unfold acr at *
    rcases a2 with a2 | a2 <;> rcases b2 with b2 | b2
    · omega
    · rw [if_pos a2] at a3 f1
      rw [if_neg (by omega), a2] at b3
      omega
    · rw [if_neg (by omega)] at a3 f1
      rw [if_pos b2, a2] at b3
      omega
    · omega
end
section
/-! ===== lay ===== -/
def layL (X : aX) (w : Nat) : Nat → Int := labO X (mayB X w) (X 7 w)
def layN (X : aX) (w : Nat) : Nat := (layL X w (X 6 w) % 32).toNat
def layS (X : aX) (w i : Nat) : Nat := stp X (prO X (mayB X w)) (prO X (mayB X w)) (layL X w) (X 6 w) i
def yX (X : aX) (w : Nat) : aX := va_up (va_up X 11 (upN (X 11) w (layN X w))) 12 (fun j => if 10 * w ≤ j ∧ j < 10 * w + layN X w then layS X w (j - 10 * w) else X 12 j)
def fLay (X : aX) (x : Int32) : Int32 × aX := if isW X x then if X 11 x.toNatClampNeg ≠ 0 then (-3, X) else if layL X x.toNatClampNeg (X 6 x.toNatClampNeg) = BIG then (-9, X) else (nI (layL X x.toNatClampNeg (X 6 x.toNatClampNeg) / 32).toNat, yX X x.toNatClampNeg) else (-1, X)
theorem orF_if {b : Nat → Bool} {n d : Nat} (h : d < n) : (orF (fun d => if b d then 2 ^ d else 0) n).testBit d = b d := by
  cases hb : b d with
  | true => exact orF_bit.mpr ⟨d, h, by simp [hb]⟩
  | false =>
    refine Bool.eq_false_iff.mpr (fun hc => ?_)
    obtain ⟨j, _, h2⟩ := orF_bit.mp hc
    by_cases hj : b j = true
    · rw [if_pos hj, Nat.testBit_two_pow] at h2
      have : j = d := of_decide_eq_true h2
      rw [this, hb] at hj; cases hj
    · rw [if_neg hj] at h2; simp at h2
section LAY
variable {G : aG} {μ : aMem} {X : aX}
theorem lay_path (hd : xD X) (hx : xW X) {w : Nat} (hw : w < X 5 0) (hne : layL X w (X 6 w) ≠ BIG) :
    layN X w ≤ 9 ∧ vtx X (prO X (mayB X w)) (prO X (mayB X w)) (layL X w) (X 6 w) (layN X w) = X 7 w ∧ (∀ i, i < layN X w → vtx X (prO X (mayB X w)) (prO X (mayB X w)) (layL X w) (X 6 w) i ≠ X 7 w ∧ layL X w (vtx X (prO X (mayB X w)) (prO X (mayB X w)) (layL X w) (X 6 w) i) ≠ BIG) ∧ (fb_sm (fun i => X 3 (layS X w i)) (layN X w) : Int) = layL X w (X 6 w) / 32 :=
  path_all hd (hx.2.1 w hw).2.1 (layN X w) (X 6 w) hne rfl
theorem lay_dist (hd : xD X) (hx : xW X) {w : Nat} (hw : w < X 5 0) (hne : layL X w (X 6 w) ≠ BIG) :
    (∀ i, i < layN X w → layS X w i < X 0 0) ∧ ∀ i j, i < j → j < layN X w → layS X w i ≠ layS X w j :=
  path_dist hd (hx.2.1 w hw).2.1 (lay_path hd hx hw hne).2.2.1
theorem yX_12 {w v i : Nat} (hn : layN X w ≤ 9) (hi : i < 10) : yX X w 12 (10 * v + i) = if v = w ∧ i < layN X w then layS X w i else X 12 (10 * v + i) := by
  show (if 10 * w ≤ 10 * v + i ∧ 10 * v + i < 10 * w + layN X w then layS X w (10 * v + i - 10 * w) else X 12 (10 * v + i)) = _
  by_cases e : v = w ∧ i < layN X w
  · obtain ⟨rfl, e⟩ := e
    rw [if_pos (by omega), if_pos ⟨rfl, e⟩]
    congr 1; omega
  · rw [if_neg (by omega), if_neg e]
theorem yX_11 {w v : Nat} : yX X w 11 v = upN (X 11) w (layN X w) v := rfl
theorem yX_B (hy : xY X) {w v : Nat} (hn : layN X w ≤ 9) (hv : v < 20) : wyB (yX X w) v = if v = w then orF (fun i => 2 ^ layS X w i) (layN X w) else wyB X v := by
  unfold wyB
  rw [yX_11]
  by_cases e : v = w
  · rw [if_pos e, e, upN_s]
    exact orF_cong (fun i hi => by rw [yX_12 hn (by omega), if_pos ⟨rfl, hi⟩])
  · rw [if_neg e, upN_n _ _ e]
    have := (hy v hv).1
    exact orF_cong (fun i hi => by rw [yX_12 hn (by omega), if_neg (fun h => e h.1)])
theorem yX_L (hy : xY X) {w v : Nat} (hn : layN X w ≤ 9) (hv : v < 20) : wyL (yX X w) v = if v = w then fb_sm (fun i => X 3 (layS X w i)) (layN X w) else wyL X v := by
  unfold wyL
  rw [yX_11]
  by_cases e : v = w
  · rw [if_pos e, e, upN_s]
    exact fb_sm_cong (fun i hi => by show X 3 (yX X w 12 (10 * w + i)) = _; rw [yX_12 hn (by omega), if_pos ⟨rfl, hi⟩])
  · rw [if_neg e, upN_n _ _ e]
    have := (hy v hv).1
    exact fb_sm_cong (fun i hi => by show X 3 (yX X w 12 (10 * v + i)) = _; rw [yX_12 hn (by omega), if_neg (fun h => e h.1)])
theorem yX_ok (hd : xD X) (hx : xW X) (hy : xY X) {w : Nat} (hw : w < X 5 0) (hne : layL X w (X 6 w) ≠ BIG) : xY (yX X w) := by
  have hn := (lay_path hd hx hw hne).1
  obtain ⟨l1, l2⟩ := lay_dist hd hx hw hne
  intro v hv
  obtain ⟨y1, y2, y3, y4⟩ := hy v hv
  rw [yX_11]
  show _ ∧ (X 5 0 ≤ v → _) ∧ (∀ i, _ → yX X w 12 (10 * v + i) < X 0 0) ∧ _
  by_cases e : v = w
  · subst e
    rw [upN_s]
    refine ⟨hn, fun h => by omega, fun i hi => ?_, fun i j hij hj => ?_⟩
    · rw [yX_12 hn (by omega), if_pos ⟨rfl, hi⟩]; exact l1 i hi
    · rw [yX_12 hn (by omega), if_pos ⟨rfl, by omega⟩, yX_12 hn (by omega), if_pos ⟨rfl, hj⟩]; exact l2 i j hij hj
  · rw [upN_n _ _ e]
    refine ⟨y1, y2, fun i hi => ?_, fun i j hij hj => ?_⟩
    · rw [yX_12 hn (by omega), if_neg (fun h => e h.1)]; exact y3 i hi
    · rw [yX_12 hn (by omega), if_neg (fun h => e h.1), yX_12 hn (by omega), if_neg (fun h => e h.1)]; exact y4 i j hij hj
theorem fLay_ok (hd : xD X) (hx : xW X) (hy : xY X) (x : Int32) : xY (fLay X x).2 ∧ ∀ r, r ≠ 11 → r ≠ 12 → (fLay X x).2 r = X r := by
  have hn := hx.1
  unfold fLay
  by_cases h : isW X x = true
  · rw [if_pos h]
    by_cases h2 : X 11 x.toNatClampNeg ≠ 0
    · rw [if_pos h2]; exact ⟨hy, fun _ _ _ => rfl⟩
    · rw [if_neg h2]
      by_cases h3 : layL X x.toNatClampNeg (X 6 x.toNatClampNeg) = BIG
      · rw [if_pos h3]; exact ⟨hy, fun _ _ _ => rfl⟩
      · rw [if_neg h3]
        refine ⟨yX_ok hd hx hy (inB_wi (by omega) h).2 h3, fun r h1 h2 => ?_⟩
        show va_up (va_up X 11 _) 12 _ r = _
        rw [va_up_ne _ _ h2, va_up_ne _ _ h1]
  · rw [if_neg h]; exact ⟨hy, fun _ _ _ => rfl⟩
theorem c_lay (hd : xD X) (hx : xW X) (hy : xY X) (ha : xA X) (hcd : cD μ X) (hcw : cW μ X) (hc : cY μ X) (hca : cA μ X) (x : Int32) : a_Spec G sX6_lay [.ref 0, .int x] μ (fun v ν => v = some (.int (fLay X x).1) ∧ cY ν (fLay X x).2 ∧ a_eqx [3, 18, 19, 20, 22, 23, 24, 25] μ ν) := by
  have hn := hx.1
  refine w_X6_lay_0 _ (r_X6_isWire _ _ ⟨_, rfl, ?_⟩)
  rw [hcw.1]
  refine br_n (fun h1 => ?_) (fun h1 => ?_)
  · obtain ⟨e1, b1⟩ := inB_wi (by omega) h1
    generalize hw : x.toNatClampNeg = w at *
    subst e1
    refine r_X5_isLaid hd hy hc (by omega) _ ⟨_, rfl, br_b (fun h2 => ?_) (fun h2 => ?_)⟩
    · have h2 : X 11 w = 0 := by simpa using h2
      obtain ⟨w6, w7, -⟩ := hx.2.1 w b1
      have hs : orF (fun d => if mayB X w d then 2 ^ d else 0) (X 0 0) < 2 ^ 16 := orF_lt (fun i hi => by
        show (if mayB X w i then 2 ^ i else 0) < 2 ^ 16
        split
        · exact Nat.pow_lt_pow_right (by decide) (by have := hd.1; omega)
        · decide)
      refine r_X6_openDucts hd hx hy ha hcd hcw hc hca b1 _ ⟨_, rfl, (r_X3_open hd hcd (s := orF (fun d => if mayB X w d then 2 ^ d else 0) (X 0 0)) (by omega)).mono ?_⟩
      rintro v ν ⟨rfl, c, c', rfl, g1, g2⟩
      have pc : ∀ d, d < X 0 0 → prO X (fun d => (orF (fun d => if mayB X w d then 2 ^ d else 0) (X 0 0)).testBit d) d = prO X (mayB X w) d := fun d hd => by unfold prO; simp only [orF_if hd]
      have g1 : rZ c (prO X (mayB X w)) (X 0 0) := fun i hi => by rw [← pc i hi]; exact g1 i hi
      have g2 : rZ c' (prO X (mayB X w)) (X 0 0) := fun i hi => by rw [← pc i hi]; exact g2 i hi
      have hcd' : cD (va_up (va_up μ.1 22 c) 23 c', μ.2) X := hcd.kept (fun k hk => by show va_up (va_up μ.1 22 c) 23 c' k = _; rw [va_up_ne _ _ (by omega), va_up_ne _ _ (by omega)])
      have e13 : ((va_up (va_up μ.1 22 c) 23 c', μ.2) : aMem).1 13 w = nI (X 6 w) := hcw.2.1 w b1
      have e14 : ((va_up (va_up μ.1 22 c) 23 c', μ.2) : aMem).1 14 w = nI (X 7 w) := hcw.2.2.1 w b1
      rw [q_in (by omega)]
      try rw [hw]
      rw [e13, e14]
      refine ⟨rfl, by omega, by omega, (r_X3_leastLength (μ := (va_up (va_up μ.1 22 c) 23 c', μ.2)) hd hcd' (op := mayB X w) ?_ ?_ (a := X 6 w) (g := X 7 w) w6 w7).mono ?_⟩
      · exact g1
      · exact g2
      rintro v ν ⟨rfl, c2, rfl, g3⟩
      have hk : ∀ k, k ≠ 22 → k ≠ 23 → k ≠ 24 → (va_up (va_up (va_up μ.1 22 c) 23 c') 24 c2) k = μ.1 k := fun k h h' h'' => by rw [va_up_ne _ _ h'', va_up_ne _ _ h', va_up_ne _ _ h]
      have hform : ∀ u, labO X (mayB X w) (X 7 w) u = BIG ∨ (0 ≤ labO X (mayB X w) (X 7 w) u ∧ labO X (mayB X w) (X 7 w) u ≤ 36000 ∧ labO X (mayB X w) (X 7 w) u % 32 ≤ 9) := bf_form hd (bfI_rnds (π := fun _ => 0) (asO_ok hd _) (asO_pot hd _) w7 9)
      refine ⟨_, rfl, ?_⟩
      by_cases h3 : labO X (mayB X w) (X 7 w) (X 6 w) = BIG
      · have e : fLay X (nI w) = (-9, X) := by unfold fLay isW; rw [h1, if_pos rfl, hw, if_neg (by omega)]; exact if_pos h3
        rw [if_pos h3, e]
        refine ⟨fun h => absurd rfl h, fun _ => ⟨rfl, hc.kept (fun k h => hk k (by omega) (by omega) (by omega)), fun k h => ⟨?_, rfl⟩⟩⟩
        simp only [List.mem_cons, List.not_mem_nil, or_false, not_or] at h
        exact hk k (by omega) (by omega) (by omega)
      · have e : fLay X (nI w) = (nI (layL X w (X 6 w) / 32).toNat, yX X w) := by unfold fLay isW; rw [h1, if_pos rfl, hw, if_neg (by omega)]; exact if_neg h3
        rw [if_neg h3, e]
        have bw := (hform (X 6 w)).resolve_left h3
        refine ⟨fun _ => ?_, fun h => absurd h (nI_nm9 (n := (labO X (mayB X w) (X 7 w) (X 6 w) / 32).toNat) (by
          obtain ⟨-, -, -, p4⟩ := lay_path hd hx b1 h3
          have hl := (lay_dist hd hx b1 h3).1
          have hs := fb_sm_bound (f := fun i => X 3 (layS X w i)) (c := 99) (n := layN X w) (fun i hi => (hd.2 _ (hl i hi)).2.2.2.2.1)
          have := (lay_path hd hx b1 h3).1
          have p4 : ((fb_sm (fun i => X 3 (layS X w i)) (layN X w) : Nat) : Int) = labO X (mayB X w) (X 7 w) (X 6 w) / 32 := p4
          omega))⟩
        have f13 : ((va_up (va_up (va_up μ.1 22 c) 23 c') 24 c2, μ.2) : aMem).1 13 w = nI (X 6 w) := by show (va_up (va_up (va_up μ.1 22 c) 23 c') 24 c2) 13 w = _; rw [hk 13 (by decide) (by decide) (by decide)]; exact hcw.2.1 w b1
        have f14 : ((va_up (va_up (va_up μ.1 22 c) 23 c') 24 c2, μ.2) : aMem).1 14 w = nI (X 7 w) := by show (va_up (va_up (va_up μ.1 22 c) 23 c') 24 c2) 14 w = _; rw [hk 14 (by decide) (by decide) (by decide)]; exact hcw.2.2.1 w b1
        obtain ⟨p1, p2, p3, p4⟩ := lay_path hd hx b1 h3
        obtain ⟨l1, l2⟩ := lay_dist hd hx b1 h3
        refine ⟨by omega, by omega, ?_⟩
        rw [f13, f14]
        refine (r_X3_walk (μ := (va_up (va_up (va_up μ.1 22 c) 23 c') 24 c2, μ.2)) (X := X) (pf := prO X (mayB X w)) (pb := prO X (mayB X w)) (T := layL X w) (p := X 6 w) (g := X 7 w) (n := layN X w) hd (hcd.kept (fun k h => hk k (by omega) (by omega) (by omega))) g1 g2 ?_ ?_ g3 ?_ w6 w7 p1 p2 (fun i hi => ⟨(p3 i hi).1, l1 i hi⟩)).mono ?_
        · exact fun k hk => by rcases prO_bd hd (mayB X w) hk with h | h; exact Or.inl h; right; omega
        · exact fun k hk => by rcases prO_bd hd (mayB X w) hk with h | h; exact Or.inl h; right; omega
        · exact fun v => by rcases hform v with h | h; exact Or.inl h; right; show -36000 ≤ labO X (mayB X w) (X 7 w) v ∧ labO X (mayB X w) (X 7 w) v ≤ 36000; omega
        rintro v ν ⟨rfl, c25, e3, rfl, g5, g6⟩
        refine ⟨rfl, ?_⟩
        have m3 : (va_up (va_up (va_up (va_up (va_up μ.1 22 c) 23 c') 24 c2) 25 c25) 3 e3) 3 5 = nI (layN X w) := by rw [va_up_self]; exact g5
        have hk2 : ∀ k, k ≠ 3 → k ≠ 22 → k ≠ 23 → k ≠ 24 → k ≠ 25 → (va_up (va_up (va_up (va_up (va_up μ.1 22 c) 23 c') 24 c2) 25 c25) 3 e3) k = μ.1 k := fun k h0 h h' h'' h3 => by rw [va_up_ne _ _ h0, va_up_ne _ _ h3, va_up_ne _ _ h'', va_up_ne _ _ h', va_up_ne _ _ h]
        show a_Spec G sX5_putThrough [.ref 2, .int (nI w), .ref 25, .int ((va_up (va_up (va_up (va_up (va_up μ.1 22 c) 23 c') 24 c2) 25 c25) 3 e3) 3 5), .int _] _ _
        rw [m3]
        generalize hM : va_up (va_up (va_up (va_up (va_up μ.1 22 c) 23 c') 24 c2) 25 c25) 3 e3 = M at *
        have m25 : ∀ k, k < layN X w → M 25 k = nI (layS X w k) ∧ layS X w k < 16 := fun k hk => by
          refine ⟨?_, by have := l1 k hk; have := hd.1; omega⟩
          rw [← hM, va_up_ne _ _ (by decide), va_up_self]; exact g6 k hk
        refine (r_X5_putThrough (μ := (M, μ.2)) (w := w) (n := layN X w) (by omega) p1 (s := layS X w) m25 _).mono ?_
        rintro v ν ⟨rfl, c20, rfl, k1, k2⟩
        refine ⟨rfl, rfl, ⟨?_, ?_, ?_⟩, ?_⟩
        · have e18 : (va_up (va_up (va_up M 20 c20) 18 (upd (M 18) w (nI (orF (fun k => 2 ^ layS X w k) (layN X w))))) 19 (upd (M 19) w (nI (labO X (mayB X w) (X 7 w) (X 6 w) / 32).toNat))) 18 = upd (μ.1 18) w (nI (orF (fun k => 2 ^ layS X w k) (layN X w))) := by
            rw [va_up_ne _ _ (by decide), va_up_self, hk2 18 (by decide) (by decide) (by decide) (by decide) (by decide)]
          show rp ((va_up (va_up (va_up M 20 c20) 18 (upd (M 18) w (nI (orF (fun k => 2 ^ layS X w k) (layN X w))))) 19 (upd (M 19) w (nI (labO X (mayB X w) (X 7 w) (X 6 w) / 32).toNat))) 18) _ 20
          rw [e18]
          exact rp_cong (rp_at (k := w) (v := orF (fun k => 2 ^ layS X w k) (layN X w)) hc.1 rfl) (fun i hi => by rw [yX_B hy p1 hi]; rfl)
        · have e19 : (va_up (va_up (va_up M 20 c20) 18 (upd (M 18) w (nI (orF (fun k => 2 ^ layS X w k) (layN X w))))) 19 (upd (M 19) w (nI (labO X (mayB X w) (X 7 w) (X 6 w) / 32).toNat))) 19 = upd (μ.1 19) w (nI (labO X (mayB X w) (X 7 w) (X 6 w) / 32).toNat) := by
            rw [va_up_self, hk2 19 (by decide) (by decide) (by decide) (by decide) (by decide)]
          show rp ((va_up (va_up (va_up M 20 c20) 18 (upd (M 18) w (nI (orF (fun k => 2 ^ layS X w k) (layN X w))))) 19 (upd (M 19) w (nI (labO X (mayB X w) (X 7 w) (X 6 w) / 32).toNat))) 19) _ 20
          rw [e19]
          refine rp_cong (rp_at (k := w) (v := (labO X (mayB X w) (X 7 w) (X 6 w) / 32).toNat) hc.2.1 rfl) (fun i hi => ?_)
          rw [yX_L hy p1 hi]
          have p4 : ((fb_sm (fun i => X 3 (layS X w i)) (layN X w) : Nat) : Int) = labO X (mayB X w) (X 7 w) (X 6 w) / 32 := p4
          by_cases ei : i = w
          · rw [if_pos ei, ei, upN_s]; omega
          · rw [if_neg ei, upN_n _ _ ei]
        · intro v hv i hi
          have e20 : (va_up (va_up (va_up M 20 c20) 18 (upd (M 18) w (nI (orF (fun k => 2 ^ layS X w k) (layN X w))))) 19 (upd (M 19) w (nI (labO X (mayB X w) (X 7 w) (X 6 w) / 32).toNat))) 20 = c20 := by
            rw [va_up_ne _ _ (by decide), va_up_ne _ _ (by decide), va_up_self]
          show (va_up (va_up (va_up M 20 c20) 18 (upd (M 18) w (nI (orF (fun k => 2 ^ layS X w k) (layN X w))))) 19 (upd (M 19) w (nI (labO X (mayB X w) (X 7 w) (X 6 w) / 32).toNat))) 20 _ = _
          rw [e20]
          have hi : i < yX X w 11 v := hi
          show c20 (9 * v + i) = nI (yX X w 12 (10 * v + i))
          rw [yX_11] at hi
          by_cases ev : v = w
          · subst ev
            rw [upN_s] at hi
            rw [yX_12 p1 (by omega), if_pos ⟨rfl, hi⟩]; exact k1 i hi
          · rw [upN_n _ _ ev] at hi
            have h9 := (hy v hv).1
            rw [yX_12 p1 (by omega), if_neg (fun h => ev h.1), k2 _ (by omega)]
            show M 20 _ = _
            rw [hk2 20 (by decide) (by decide) (by decide) (by decide) (by decide)]
            exact hc.2.2 v hv i hi
        · intro k h
          simp only [List.mem_cons, List.not_mem_nil, or_false, not_or] at h
          refine ⟨?_, rfl⟩
          show (va_up (va_up (va_up M 20 c20) 18 _) 19 _) k = _
          rw [va_up_ne _ _ (by omega), va_up_ne _ _ (by omega), va_up_ne _ _ (by omega)]
          exact hk2 k (by omega) (by omega) (by omega) (by omega) (by omega)
    · have h2 : X 11 w ≠ 0 := of_decide_eq_true h2
      have e : fLay X (nI w) = (-3, X) := by unfold fLay isW; rw [h1, if_pos rfl, hw, if_pos h2]
      rw [e]; exact ⟨rfl, hc, a_eqx.rf _ _⟩
  · have e : fLay X x = (-1, X) := by unfold fLay isW; rw [h1, if_neg (by decide)]
    rw [e]; exact ⟨rfl, hc, a_eqx.rf _ _⟩
theorem m_lay (hd : xD X) (hx : xW X) (hy : xY X) (ha : xA X) (hmd : mD μ X) (hmw : mW μ X) (hm : mY μ X) (hma : mA μ X) (x : Int32) : a_Spec G sX7_lay [.ref 36, .int x] μ (fun v ν => v = some (.int (fLay X x).1) ∧ mY ν (fLay X x).2 ∧ a_eqx [46, 47, 49, 50, 51] μ ν) := by
  have hn := hx.1
  have hdn := hd.1
  refine w_X7_lay_0 _ (r_X7_isWire _ _ ⟨_, rfl, ?_⟩)
  rw [hmw.1]
  refine br_n (fun h1 => ?_) (fun h1 => ?_)
  · obtain ⟨e1, b1⟩ := inB_wi (by omega) h1
    generalize hw : x.toNatClampNeg = w at *
    subst e1
    have h9 := (hy w (by omega)).1
    obtain ⟨w6, w7, -⟩ := hx.2.1 w b1
    rw [q_in (by omega)]
    try rw [hw]
    rw [hm.1 w (by omega), q_le0 (by omega)]
    refine ⟨by omega, fun h2 => ?_, fun h2 => ?_⟩
    · generalize hpo : (fun (v : Option Value) (ν : aMem) => v = some (.int (fLay X (nI w)).1) ∧ mY ν (fLay X (nI w)).2 ∧ a_eqx [46, 47, 49, 50, 51] μ ν) = post
      have hpost : ∀ ν : aMem, mY ν (fLay X (nI w)).2 → a_eqx [46, 47, 49, 50, 51] μ ν → post (some (.int (fLay X (nI w)).1)) ν := fun ν h h' => by rw [← hpo]; exact ⟨rfl, h, h'⟩
      clear hpo
      have main := a_for (fun i (c : Nat → Int32) => a_Runs G sX7_lay 24 [(0, .ref 36), (1, .int (nI w)), (2, .int (nI i))] [] (va_up μ.1 49 c, μ.2) post) (fun i c => ∀ d, d < i → c d = bI (mayB X w d)) (X 0 0) ?_ ?_ 0 (μ.1 49) (by omega) (fun d h => by omega)
      · rw [a_self μ 49]; exact main
      · intro c hc
        have k1 : ∀ k, k ≠ 49 → ((va_up μ.1 49 c, μ.2) : aMem).1 k = μ.1 k := fun k h => va_up_ne _ _ h
        have hmd' : mD (va_up μ.1 49 c, μ.2) X := hmd
        have e42 : ((va_up μ.1 49 c, μ.2) : aMem).1 42 w = nI (X 7 w) := hmw.2.2.1 w b1
        refine w_X7_lay_24 _ _ ⟨fun _ => ?_, fun h => absurd (by show μ.1 36 0 ≤ _; rw [hmd.1, q_le] <;> omega) h⟩
        rw [q_in (by omega)]
        try rw [hw]
        rw [e42]
        refine ⟨by omega, (r_X7_measure (μ := (va_up μ.1 49 c, μ.2)) hd hmd' (op := mayB X w) (fun d hdd => hc d hdd) w7).mono ?_⟩
        rintro v ν ⟨rfl, c50, c51, rfl, g1, g2⟩
        have hk : ∀ k, k ≠ 49 → k ≠ 50 → k ≠ 51 → (va_up (va_up (va_up μ.1 49 c) 50 c50) 51 c51) k = μ.1 k := fun k h h' h'' => by rw [va_up_ne _ _ h'', va_up_ne _ _ h', va_up_ne _ _ h]
        have f41 : (va_up (va_up (va_up μ.1 49 c) 50 c50) 51 c51) 41 w = nI (X 6 w) := by rw [hk 41 (by decide) (by decide) (by decide)]; exact hmw.2.1 w b1
        have f50 : (va_up (va_up (va_up μ.1 49 c) 50 c50) 51 c51) 50 = c50 := by rw [va_up_ne _ _ (by decide), va_up_self]
        have f51 : (va_up (va_up (va_up μ.1 49 c) 50 c50) 51 c51) 51 = c51 := by rw [va_up_self]
        have f49 : (va_up (va_up (va_up μ.1 49 c) 50 c50) 51 c51) 49 = c := by rw [va_up_ne _ _ (by decide), va_up_ne _ _ (by decide), va_up_self]
        have hform : ∀ u, layL X w u = BIG ∨ (0 ≤ layL X w u ∧ layL X w u ≤ 36000 ∧ layL X w u % 32 ≤ 9) := bf_form hd (bfI_rnds (π := fun _ => 0) (asO_ok hd _) (asO_pot hd _) w7 9)
        have g1 : rZ c50 (farZ (layL X w)) 10 := g1
        have g2 : rZ c51 (byZ (layL X w)) 10 := g2
        show _ ∧ _ ∧ vp_in ((va_up (va_up (va_up μ.1 49 c) 50 c50) 51 c51) 41 w) 10 ∧ ((va_up (va_up (va_up μ.1 49 c) 50 c50) 51 c51) 50 ((va_up (va_up (va_up μ.1 49 c) 50 c50) 51 c51) 41 w).toNatClampNeg < nI 1000000 → _ ∧ a_Runs G sX7_lay 88 [(0, .ref 36), (1, .int (nI w)), (2, .int ((va_up (va_up (va_up μ.1 49 c) 50 c50) 51 c51) 41 w)), (3, .int (nI 0))] [] (va_up (va_up (va_up μ.1 49 c) 50 c50) 51 c51, μ.2) post) ∧ (¬ (va_up (va_up (va_up μ.1 49 c) 50 c50) 51 c51) 50 ((va_up (va_up (va_up μ.1 49 c) 50 c50) 51 c51) 41 w).toNatClampNeg < nI 1000000 → _)
        rw [f41, f50, q_in (by omega), q_cl (by omega), z_ltI, z_nI (by decide), g1 _ w6]
        refine ⟨rfl, by omega, w6, fun h3 => ⟨by omega, ?_⟩, fun h3 => ?_⟩
        · have h3 : layL X w (X 6 w) ≠ BIG := by
            intro h; unfold farZ at h3; rw [if_pos h] at h3; unfold BIG at h3; omega
          have e : fLay X (nI w) = (nI (layL X w (X 6 w) / 32).toNat, yX X w) := by unfold fLay isW; rw [h1, if_pos rfl, hw, if_neg (by omega), if_neg h3]
          rw [e] at hpost
          obtain ⟨p1, p2, p3, p4⟩ := lay_path hd hx b1 h3
          obtain ⟨l1, l2⟩ := lay_dist hd hx b1 h3
          generalize hM : va_up (va_up (va_up μ.1 49 c) 50 c50) 51 c51 = M at *
          have hvl : ∀ i, i ≤ layN X w → vtx X (prO X (mayB X w)) (prO X (mayB X w)) (layL X w) (X 6 w) i < 10 := by
            intro i hi
            cases i with
            | zero => exact w6
            | succ i => exact acr_lt hd (l1 i (by omega))
          have main := a_for (fun i (z : Nat → Int32) => a_Runs G sX7_lay 88 [(0, .ref 36), (1, .int (nI w)), (2, .int (nI (vtx X (prO X (mayB X w)) (prO X (mayB X w)) (layL X w) (X 6 w) i))), (3, .int (nI i))] [] (va_up M 47 z, μ.2) post) (fun i z => (∀ k, k < i → z (10 * w + k) = nI (layS X w k)) ∧ ∀ j, (j < 10 * w ∨ 10 * w + i ≤ j) → z j = μ.1 47 j) (layN X w) ?_ ?_ 0 (M 47) (by omega) ⟨fun k h => by omega, fun j _ => by rw [hk 47 (by decide) (by decide) (by decide)]⟩
          · rw [a_self1] at main; exact main
          · rintro z ⟨z1, z2⟩
            rw [p2]
            have mk : ∀ k, k ≠ 47 → (va_up M 47 z) k = M k := fun k h => va_up_ne _ _ h
            have e42 : ((va_up M 47 z, μ.2) : aMem).1 42 w = nI (X 7 w) := by show (va_up M 47 z) 42 w = _; rw [mk 42 (by decide), hk 42 (by decide) (by decide) (by decide)]; exact hmw.2.2.1 w b1
            refine w_X7_lay_88 _ _ _ ?_
            rw [q_in (by omega)]
            try rw [hw]
            rw [e42]
            refine ⟨by omega, fun _ => ⟨by omega, ?_⟩, fun h => absurd rfl h⟩
            have f46 : (va_up M 47 z) 46 = μ.1 46 := by rw [mk 46 (by decide), hk 46 (by decide) (by decide) (by decide)]
            show a_Spec G sX7_lengthOf _ (va_up (va_up M 47 z) 46 (upd ((va_up M 47 z) 46) w (nI (layN X w))), μ.2) _
            rw [f46]
            have n47 : (va_up (va_up M 47 z) 46 (upd (μ.1 46) w (nI (layN X w)))) 47 = z := by rw [va_up_ne _ _ (by decide), va_up_self]
            have n46 : (va_up (va_up M 47 z) 46 (upd (μ.1 46) w (nI (layN X w)))) 46 = upd (μ.1 46) w (nI (layN X w)) := va_up_self _ _ _
            have hmY : mY (va_up (va_up M 47 z) 46 (upd (μ.1 46) w (nI (layN X w))), μ.2) (yX X w) := by
              refine ⟨?_, fun v hv i hi => ?_⟩
              · show rp ((va_up (va_up M 47 z) 46 (upd (μ.1 46) w (nI (layN X w)))) 46) _ _
                rw [n46]; exact rp_at (k := w) (v := layN X w) hm.1 rfl
              · show (va_up (va_up M 47 z) 46 (upd (μ.1 46) w (nI (layN X w)))) 47 _ = _
                rw [n47]
                rw [yX_11] at hi
                by_cases ev : v = w
                · subst ev
                  rw [upN_s] at hi
                  rw [yX_12 p1 (by omega), if_pos ⟨rfl, hi⟩]; exact z1 i hi
                · rw [upN_n _ _ ev] at hi
                  have h9 := (hy v hv).1
                  rw [yX_12 p1 (by omega), if_neg (fun h => ev h.1), z2 _ (by omega)]
                  exact hm.2 v hv i hi
            have hyk := yX_ok hd hx hy b1 h3
            have hmd2 : mD (va_up (va_up M 47 z) 46 (upd (μ.1 46) w (nI (layN X w))), μ.2) (yX X w) := by
              have q : ∀ k, k = 36 ∨ k = 37 ∨ k = 38 ∨ k = 39 ∨ k = 40 → (va_up (va_up M 47 z) 46 (upd (μ.1 46) w (nI (layN X w)))) k = μ.1 k := fun k h => by rw [va_up_ne _ _ (by omega), va_up_ne _ _ (by omega)]; exact hk k (by omega) (by omega) (by omega)
              unfold mD
              show (va_up (va_up M 47 z) 46 (upd (μ.1 46) w (nI (layN X w)))) 36 0 = nI (X 0 0) ∧ rp ((va_up (va_up M 47 z) 46 (upd (μ.1 46) w (nI (layN X w)))) 37) (X 1) (X 0 0) ∧ rp ((va_up (va_up M 47 z) 46 (upd (μ.1 46) w (nI (layN X w)))) 38) (X 2) (X 0 0) ∧ rp ((va_up (va_up M 47 z) 46 (upd (μ.1 46) w (nI (layN X w)))) 39) (X 3) (X 0 0) ∧ rp ((va_up (va_up M 47 z) 46 (upd (μ.1 46) w (nI (layN X w)))) 40) (X 4) (X 0 0)
              rw [q 36 (by omega), q 37 (by omega), q 38 (by omega), q 39 (by omega), q 40 (by omega)]
              exact hmd
            refine r_X7_lengthOf (X := yX X w) hd hyk hmd2 hmY (by omega) _ ⟨_, rfl, ?_⟩
            have eL : wyL (yX X w) w = (layL X w (X 6 w) / 32).toNat := by rw [yX_L hy p1 (by omega), if_pos rfl]; omega
            rw [eL]
            refine hpost _ hmY (fun k h => ⟨?_, rfl⟩)
            simp only [List.mem_cons, List.not_mem_nil, or_false, not_or] at h
            show (va_up (va_up M 47 z) 46 _) k = _
            rw [va_up_ne _ _ (by omega), va_up_ne _ _ (by omega)]
            exact hk k (by omega) (by omega) (by omega)
          · rintro i z hi ⟨z1, z2⟩ ih
            have mk : ∀ z k, k ≠ 47 → (va_up M 47 z) k = M k := fun z k h => va_up_ne _ _ h
            have e42 : ((va_up M 47 z, μ.2) : aMem).1 42 w = nI (X 7 w) := by show (va_up M 47 z) 42 w = _; rw [mk _ 42 (by decide), hk 42 (by decide) (by decide) (by decide)]; exact hmw.2.2.1 w b1
            have hv := hvl i (by omega)
            obtain ⟨q1, q2⟩ := p3 i hi
            obtain ⟨s1, s2, -⟩ := path_step hd (op := mayB X w) w7 q1 q2
            have hmdz : ∀ z, mD (va_up M 47 z, μ.2) X := fun z => by
              have q : ∀ k, k = 36 ∨ k = 37 ∨ k = 38 ∨ k = 39 ∨ k = 40 → (va_up M 47 z) k = μ.1 k := fun k h => by rw [va_up_ne _ _ (by omega)]; exact hk k (by omega) (by omega) (by omega)
              unfold mD
              show (va_up M 47 z) 36 0 = nI (X 0 0) ∧ rp ((va_up M 47 z) 37) (X 1) (X 0 0) ∧ rp ((va_up M 47 z) 38) (X 2) (X 0 0) ∧ rp ((va_up M 47 z) 39) (X 3) (X 0 0) ∧ rp ((va_up M 47 z) 40) (X 4) (X 0 0)
              rw [q 36 (by omega), q 37 (by omega), q 38 (by omega), q 39 (by omega), q 40 (by omega)]
              exact hmd
            refine w_X7_lay_88 _ _ _ ?_
            rw [q_in (by omega)]
            try rw [hw]
            rw [e42, q_eq (by omega) (by omega)]
            refine ⟨by omega, fun h => absurd h q1, fun _ => ?_⟩
            refine r_X7_next (μ := (va_up M 47 z, μ.2)) hd (hmdz z) (op := mayB X w) (T := layL X w) (fun d hdd => ?_) ?_ ?_ hform hv q2 s1 _ ⟨_, rfl, ?_⟩
            · show (va_up M 47 z) 49 d = _; rw [mk _ 49 (by decide), f49]; exact hc d hdd
            · show rZ ((va_up M 47 z) 50) _ _; rw [mk _ 50 (by decide), f50]; exact g1
            · show rZ ((va_up M 47 z) 51) _ _; rw [mk _ 51 (by decide), f51]; exact g2
            rw [pk_mul, nI_add, q_in (by omega), q_cl (by omega)]
            refine ⟨by omega, ?_⟩
            have f47 : ((va_up M 47 z, μ.2) : aMem).1 47 = z := va_up_self M 47 z
            rw [f47]
            show a_Spec G sX7_across _ (va_up (va_up M 47 z) 47 _, μ.2) _
            rw [bx_uu]
            refine r_X7_across (μ := (va_up M 47 _, μ.2)) hd (hmdz _) s1 (by omega) _ ⟨_, rfl, ?_⟩
            rw [if_pos s2, nI_add]
            refine ih _ ⟨fun k hk => ?_, fun j hj => ?_⟩
            · by_cases ek : k = i
              · rw [ek, pk_us]; rfl
              · rw [pk_un (by omega)]; exact z1 k (by omega)
            · rw [pk_un (by omega)]; exact z2 j (by omega)
        · have h3 : layL X w (X 6 w) = BIG := by
            rcases hform (X 6 w) with h | h
            · exact h
            · exfalso; unfold farZ at h3; split at h3
              · rename_i hb; rw [hb] at h; unfold BIG at h; omega
              · omega
          have e : fLay X (nI w) = (-9, X) := by unfold fLay isW; rw [h1, if_pos rfl, hw, if_neg (by omega), if_pos h3]
          rw [e] at hpost
          refine hpost _ ⟨?_, ?_⟩ (fun k h => ⟨?_, rfl⟩)
          · show rp ((va_up (va_up (va_up μ.1 49 c) 50 c50) 51 c51) 46) _ _
            rw [hk 46 (by decide) (by decide) (by decide)]; exact hm.1
          · show ∀ w, w < 20 → ∀ i, i < X 11 w → (va_up (va_up (va_up μ.1 49 c) 50 c50) 51 c51) 47 _ = _
            rw [hk 47 (by decide) (by decide) (by decide)]; exact hm.2
          · simp only [List.mem_cons, List.not_mem_nil, or_false, not_or] at h
            exact hk k (by omega) (by omega) (by omega)
      · rintro i c hi hc ih
        refine w_X7_lay_24 _ _ ⟨fun h => ?_, fun _ => ?_⟩
        · have h : μ.1 36 0 ≤ nI i := h
          rw [hmd.1, q_le (by omega) (by omega)] at h; omega
        refine r_X7_mayGo (μ := (va_up μ.1 49 c, μ.2)) hd hx hy ha hmd hmw hm hma b1 hi _ ⟨_, rfl, ?_⟩
        rw [q_in (by omega), q_cl (by omega), nI_add]
        refine ⟨by omega, ?_⟩
        have f49 : ((va_up μ.1 49 c, μ.2) : aMem).1 49 = c := va_up_self μ.1 49 c
        rw [f49]
        show a_Runs G sX7_lay 24 _ [] (va_up (va_up μ.1 49 c) 49 _, μ.2) post
        rw [bx_uu]
        refine ih _ (fun d hdd => ?_)
        by_cases ed : d = i
        · rw [ed, pk_us]; cases mayB X w i <;> decide
        · rw [pk_un ed]; exact hc d (by omega)
    · have e : fLay X (nI w) = (-3, X) := by unfold fLay isW; rw [h1, if_pos rfl, hw, if_pos h2]
      rw [e]; exact ⟨rfl, hm, a_eqx.rf _ _⟩
  · have e : fLay X x = (-1, X) := by unfold fLay isW; rw [h1, if_neg (by decide)]
    rw [e]; exact ⟨rfl, hm, a_eqx.rf _ _⟩
end LAY
end
section
/-! ===== flows of 0, 1, -1 in each duct; what is left over; weak duality ===== -/
def sZ (f : Nat → Int) : Nat → Int
  | 0 => 0
  | n + 1 => sZ f n + f n
theorem sZ_cong {f g : Nat → Int} : ∀ {n : Nat}, (∀ i, i < n → f i = g i) → sZ f n = sZ g n
  | 0, _ => rfl
  | n + 1, h => by show sZ f n + f n = sZ g n + g n; rw [sZ_cong (fun i hi => h i (by omega)), h n (by omega)]
theorem sZ_add (f g : Nat → Int) : ∀ n, sZ (fun i => f i + g i) n = sZ f n + sZ g n
  | 0 => rfl
  | n + 1 => by show sZ (fun i => f i + g i) n + (f n + g n) = sZ f n + f n + (sZ g n + g n); rw [sZ_add f g n]; omega
theorem sZ_le {f g : Nat → Int} : ∀ {n : Nat}, (∀ i, i < n → f i ≤ g i) → sZ f n ≤ sZ g n
  | 0, _ => Int.le_refl _
  | n + 1, h => by
    show sZ f n + f n ≤ sZ g n + g n
    have := sZ_le (n := n) (fun i hi => h i (by omega))
    have := h n (by omega)
    omega
theorem sZ_up {f g : Nat → Int} {k : Nat} : ∀ {n : Nat}, k < n → (∀ i, i < n → i ≠ k → g i = f i) → sZ g n = sZ f n + (g k - f k)
  | 0, h, _ => by omega
  | n + 1, h, hg => by
    show sZ g n + g n = sZ f n + f n + (g k - f k)
    by_cases e : k = n
    · subst e
      rw [sZ_cong (f := g) (g := f) (fun i hi => hg i (by omega) (by omega))]; omega
    · rw [sZ_up (n := n) (by omega) (fun i hi hk => hg i (by omega) hk), hg n (by omega) (by omega)]; omega
theorem sZ_mul (c : Int) (f : Nat → Int) : ∀ n, sZ (fun i => c * f i) n = c * sZ f n
  | 0 => by simp [sZ]
  | n + 1 => by show sZ (fun i => c * f i) n + c * f n = c * (sZ f n + f n); rw [sZ_mul c f n, Int.mul_add]
theorem sZ_const (c : Int) : ∀ n : Nat, sZ (fun _ => c) n = n * c
  | 0 => by simp [sZ]
  | n + 1 => by show sZ (fun _ => c) n + c = _; rw [sZ_const c n, Int.natCast_add, Int.add_mul]; simp
def zOK (X : aX) (z : Nat → Int) : Prop := ∀ d, d < X 0 0 → z d = -1 ∨ z d = 0 ∨ z d = 1
def fS (X : aX) (z π : Nat → Int) : Int := sZ (fun d => z d * (π (X 1 d) - π (X 2 d))) (X 0 0)
def flw (X : aX) (z : Nat → Int) (k : Int) (s t : Nat) : Prop := zOK X z ∧ ∀ π, fS X z π = k * (π s - π t)
def fC (X : aX) (c z : Nat → Int) : Int := sZ (fun d => c d * (z d * z d)) (X 0 0)
def rf (c z : Nat → Int) (d : Nat) : Int := if z d = 1 then BIG else if z d = -1 then - c d else c d
def rb (c z : Nat → Int) (d : Nat) : Int := if z d = -1 then BIG else if z d = 1 then - c d else c d
def rsd (X : aX) (c z : Nat → Int) (e : Arc) : Prop := ∃ d, d < X 0 0 ∧ ((z d ≠ 1 ∧ e = (X 1 d, X 2 d, rf c z d, d)) ∨ (z d ≠ -1 ∧ e = (X 2 d, X 1 d, rb c z d, d)))
def dlt (X : aX) (e : Arc) : Int := if X 1 e.2.2.2 = e.1 then 1 else -1
def aug1 (X : aX) (z : Nat → Int) (e : Arc) : Nat → Int := upZ z e.2.2.2 (z e.2.2.2 + dlt X e)
def aug (X : aX) : (Nat → Int) → List Arc → (Nat → Int)
  | z, [] => z
  | z, e :: es => aug X (aug1 X z e) es
def potO (X : aX) (c z π : Nat → Int) : Prop := ∀ e, rsd X c z e → π e.1 ≤ e.2.2.1 + π e.2.1
section FLOW
variable {X : aX} {c z y π : Nat → Int}
theorem weak (hz : zOK X z) (hy : zOK X y) (hc : ∀ d, d < X 0 0 → 0 ≤ c d) (hπ : potO X c z π) : fS X y π + fC X c z ≤ fS X z π + fC X c y := by
  unfold fS fC
  rw [← sZ_add, ← sZ_add]
  refine sZ_le (fun d hd => ?_)
  have hcd := hc d hd
  have hF : z d ≠ 1 → π (X 1 d) ≤ rf c z d + π (X 2 d) := fun h => hπ _ ⟨d, hd, Or.inl ⟨h, rfl⟩⟩
  have hB : z d ≠ -1 → π (X 2 d) ≤ rb c z d + π (X 1 d) := fun h => hπ _ ⟨d, hd, Or.inr ⟨h, rfl⟩⟩
  unfold rf at hF
  unfold rb at hB
  show y d * (π (X 1 d) - π (X 2 d)) + c d * (z d * z d) ≤ z d * (π (X 1 d) - π (X 2 d)) + c d * (y d * y d)
  rcases hz d hd with h | h | h <;> rcases hy d hd with h' | h' | h' <;> rw [h, h'] <;> rw [h] at hF hB <;> simp at hF hB <;> omega
theorem aug1_s {e : Arc} : aug1 X z e e.2.2.2 = z e.2.2.2 + dlt X e := upZ_s _ _ _
theorem aug1_n {e : Arc} {d : Nat} (h : d ≠ e.2.2.2) : aug1 X z e d = z d := upZ_n _ _ h
/-- what an arc does to its duct -/
theorem rsd_v (hd : xD X) {e : Arc} (he : rsd X c z e) : e.2.2.2 < X 0 0 ∧ ((z e.2.2.2 ≠ 1 ∧ dlt X e = 1 ∧ e.1 = X 1 e.2.2.2 ∧ e.2.1 = X 2 e.2.2.2 ∧ e.2.2.1 = rf c z e.2.2.2) ∨ (z e.2.2.2 ≠ -1 ∧ dlt X e = -1 ∧ e.1 = X 2 e.2.2.2 ∧ e.2.1 = X 1 e.2.2.2 ∧ e.2.2.1 = rb c z e.2.2.2)) := by
  obtain ⟨d, hdd, ⟨h1, rfl⟩ | ⟨h1, rfl⟩⟩ := he
  · exact ⟨hdd, Or.inl ⟨h1, if_pos rfl, rfl, rfl, rfl⟩⟩
  · exact ⟨hdd, Or.inr ⟨h1, if_neg (hd.2 d hdd).2.2.1, rfl, rfl, rfl⟩⟩
theorem push (hd : xD X) (hz : zOK X z) {e : Arc} (he : rsd X c z e) : zOK X (aug1 X z e) ∧ (∀ π, fS X (aug1 X z e) π = fS X z π + (π e.1 - π e.2.1)) ∧ fC X c (aug1 X z e) = fC X c z + e.2.2.1 := by
  obtain ⟨h0, h1⟩ := rsd_v hd he
  refine ⟨fun d hdd => ?_, fun π => ?_, ?_⟩
  · by_cases ed : d = e.2.2.2
    · rw [ed, aug1_s]
      have := hz _ h0
      omega
    · rw [aug1_n ed]; exact hz d hdd
  · unfold fS
    rw [sZ_up (f := fun d => z d * (π (X 1 d) - π (X 2 d))) (g := fun d => aug1 X z e d * (π (X 1 d) - π (X 2 d))) h0 (fun i hi hk => by show aug1 X z e i * _ = _; rw [aug1_n hk])]
    show _ + (aug1 X z e e.2.2.2 * _ - _) = _
    rw [aug1_s]
    rcases h1 with ⟨_, a, b, b', _⟩ | ⟨_, a, b, b', _⟩ <;> rw [a, b, b']
    · rw [Int.add_mul]; omega
    · rw [Int.add_mul]; omega
  · unfold fC
    rw [sZ_up (f := fun d => c d * (z d * z d)) (g := fun d => c d * (aug1 X z e d * aug1 X z e d)) h0 (fun i hi hk => by show c i * (aug1 X z e i * aug1 X z e i) = _; rw [aug1_n hk])]
    show _ + (c e.2.2.2 * (aug1 X z e e.2.2.2 * aug1 X z e e.2.2.2) - _) = _
    rw [aug1_s]
    have hv := hz _ h0
    unfold rf rb at h1
    rcases h1 with ⟨n, a, _, _, p⟩ | ⟨n, a, _, _, p⟩ <;> rw [a, p] <;> rcases hv with h | h | h <;> rw [h] at n ⊢ <;> simp at n ⊢ <;> omega
theorem rsd_cg {z' : Nat → Int} {e : Arc} (h : z' e.2.2.2 = z e.2.2.2) (he : rsd X c z e) : rsd X c z' e := by
  obtain ⟨d, hdd, ⟨h1, rfl⟩ | ⟨h1, rfl⟩⟩ := he
  · have h : z' d = z d := h
    exact ⟨d, hdd, Or.inl ⟨by rw [h]; exact h1, by unfold rf; rw [h]⟩⟩
  · have h : z' d = z d := h
    exact ⟨d, hdd, Or.inr ⟨by rw [h]; exact h1, by unfold rb; rw [h]⟩⟩
theorem pot_aug1 (hd : xD X) (hz : zOK X z) (hc : ∀ d, d < X 0 0 → 0 ≤ c d) (hπ : potO X c z π) {e : Arc} (he : rsd X c z e) (ht : π e.1 = e.2.2.1 + π e.2.1) : potO X c (aug1 X z e) π := by
  intro e' he'
  obtain ⟨h0, h1⟩ := rsd_v hd he
  obtain ⟨h0', h1'⟩ := rsd_v hd he'
  by_cases ed : e'.2.2.2 = e.2.2.2
  · have hv := hz _ h0
    have hcd := hc _ h0
    unfold rf rb at h1 h1'
    rw [ed] at h1'
    rw [aug1_s] at h1'
    rcases h1 with ⟨n, a, b, b', p⟩ | ⟨n, a, b, b', p⟩ <;> rcases h1' with ⟨q1, q2, q3, q4, q5⟩ | ⟨q1, q2, q3, q4, q5⟩ <;> rw [b, b', p] at ht <;> rw [q3, q4] <;> rcases hv with h | h | h <;> rw [h] at n ht <;> rw [h, a] at q1 q5 <;> simp at n ht q1 q5 <;> omega
  · exact hπ e' (rsd_cg (aug1_n ed).symm he')
/-- a row of arcs that uses no duct twice -/
theorem aug_ok (hd : xD X) {as : List Arc} : ∀ {es : List Arc} {z : Nat → Int} {p g : Nat}, zOK X z → (∀ e ∈ es, rsd X c z e) → es.Pairwise (fun a b => b.2.2.2 ≠ a.2.2.2) → wk as p es g →
    zOK X (aug X z es) ∧ (∀ π, fS X (aug X z es) π = fS X z π + (π p - π g)) ∧ fC X c (aug X z es) = fC X c z + cst es := by
  intro es
  induction es with
  | nil =>
    intro z p g hz _ _ hw
    have : p = g := hw
    subst this
    exact ⟨hz, fun π => by show fS X z π = _; omega, by show fC X c z = fC X c z + 0; omega⟩
  | cons e es ih =>
    intro z p g hz hr hp hw
    obtain ⟨p1, p2⟩ := List.pairwise_cons.mp hp
    obtain ⟨w1, w2, w3⟩ := hw
    obtain ⟨a1, a2, a3⟩ := push hd hz (hr e List.mem_cons_self)
    obtain ⟨b1, b2, b3⟩ := ih (z := aug1 X z e) a1 (fun e' he' => rsd_cg (aug1_n (p1 e' he')) (hr e' (List.mem_cons_of_mem _ he'))) p2 w3
    refine ⟨b1, fun π => ?_, ?_⟩
    · show fS X (aug X (aug1 X z e) es) π = _
      rw [b2, a2, w2]; omega
    · show fC X c (aug X (aug1 X z e) es) = _ + (e.2.2.1 + cst es)
      rw [b3, a3]; omega
theorem pot_aug (hd : xD X) (hc : ∀ d, d < X 0 0 → 0 ≤ c d) : ∀ {es : List Arc} {z : Nat → Int}, zOK X z → potO X c z π → (∀ e ∈ es, rsd X c z e) → es.Pairwise (fun a b => b.2.2.2 ≠ a.2.2.2) → (∀ e ∈ es, π e.1 = e.2.2.1 + π e.2.1) → potO X c (aug X z es) π := by
  intro es
  induction es with
  | nil => intro z _ h _ _ _; exact h
  | cons e es ih =>
    intro z hz hπ hr hp ht
    obtain ⟨p1, p2⟩ := List.pairwise_cons.mp hp
    exact ih (push hd hz (hr e List.mem_cons_self)).1 (pot_aug1 hd hz hc hπ (hr e List.mem_cons_self) (ht e List.mem_cons_self)) (fun e' he' => rsd_cg (aug1_n (p1 e' he')) (hr e' (List.mem_cons_of_mem _ he'))) p2 (fun e' he' => ht e' (List.mem_cons_of_mem _ he'))
theorem wk_vs {as : List Arc} : ∀ {es : List Arc} {p g : Nat}, wk as p es g → ∀ e ∈ es, e.1 ∈ vs p es ∧ e.2.1 ∈ vs p es ∧ e ∈ as := by
  intro es
  induction es with
  | nil => intro p g _ e he; cases he
  | cons a es ih =>
    intro p g hw e he
    obtain ⟨w1, w2, w3⟩ := hw
    rcases List.mem_cons.mp he with rfl | he
    · refine ⟨?_, ?_, w1⟩
      · rw [w2]; exact vs_head _ _
      · exact List.mem_cons_of_mem _ (vs_head _ _)
    · obtain ⟨q1, q2, q3⟩ := ih w3 e he
      exact ⟨List.mem_cons_of_mem _ q1, List.mem_cons_of_mem _ q2, q3⟩
theorem simple_ducts (hd : xD X) {as : List Arc} (ha : ∀ e ∈ as, rsd X c z e) : ∀ {es : List Arc} {p g : Nat}, wk as p es g → (vs p es).Nodup → es.Pairwise (fun a b => b.2.2.2 ≠ a.2.2.2) := by
  intro es
  induction es with
  | nil => intro p g _ _; exact List.Pairwise.nil
  | cons e es ih =>
    intro p g hw hn
    obtain ⟨w1, w2, w3⟩ := hw
    have hn : (p :: vs e.2.1 es).Nodup := hn
    obtain ⟨n1, n2⟩ := List.nodup_cons.mp hn
    refine List.pairwise_cons.mpr ⟨fun e' he' hc => ?_, ih w3 n2⟩
    obtain ⟨q1, q2, q3⟩ := wk_vs w3 e' he'
    obtain ⟨_, r1⟩ := rsd_v hd (ha e w1)
    obtain ⟨_, r2⟩ := rsd_v hd (ha e' q3)
    rw [hc] at r2
    have : e'.1 = p ∨ e'.2.1 = p := by omega
    rcases this with h | h
    · rw [h] at q1; exact n1 q1
    · rw [h] at q2; exact n1 q2
end FLOW
end
section
/-! ===== two ways: the least cost of a flow of 2 ===== -/
section LB
variable {X : aX} {c z : Nat → Int}
theorem fC_nn (hc : ∀ d, d < X 0 0 → 0 ≤ c d) (hz : zOK X z) : 0 ≤ fC X c z := by
  have h := sZ_le (f := fun _ => 0) (g := fun d => c d * (z d * z d)) (n := X 0 0) (fun d hd => by
    have := hc d hd
    show 0 ≤ c d * (z d * z d)
    rcases hz d hd with h | h | h <;> rw [h] <;> omega)
  rw [sZ_const] at h
  unfold fC; omega
theorem fC_le (hd : xD X) {B : Int} (hB : 0 ≤ B) (hc : ∀ d, d < X 0 0 → 0 ≤ c d ∧ c d ≤ B) (hz : zOK X z) : fC X c z ≤ 16 * B := by
  have h := sZ_le (g := fun _ => B) (f := fun d => c d * (z d * z d)) (n := X 0 0) (fun d hd => by
    have := hc d hd
    show c d * (z d * z d) ≤ B
    rcases hz d hd with h | h | h <;> rw [h] <;> omega)
  rw [sZ_const] at h
  have h16 : ((X 0 0 : Nat) : Int) * B ≤ 16 * B := Int.mul_le_mul_of_nonneg_right (by have := hd.1; omega) hB
  unfold fC; omega
theorem rsd_ok (hd : xD X) (hc : ∀ d, d < X 0 0 → 0 ≤ c d ∧ c d ≤ 4000) {e : Arc} (he : rsd X c z e) : e.1 < 10 ∧ e.2.1 < 10 ∧ -4000 ≤ e.2.2.1 ∧ e.2.2.1 ≤ 4000 := by
  obtain ⟨d, hdd, ⟨h1, rfl⟩ | ⟨h1, rfl⟩⟩ := he
  · have := hd.2 d hdd
    have := hc d hdd
    show X 1 d < 10 ∧ X 2 d < 10 ∧ -4000 ≤ rf c z d ∧ rf c z d ≤ 4000
    refine ⟨by omega, by omega, ?_⟩
    unfold rf; rw [if_neg h1]; split <;> omega
  · have := hd.2 d hdd
    have := hc d hdd
    show X 2 d < 10 ∧ X 1 d < 10 ∧ -4000 ≤ rb c z d ∧ rb c z d ≤ 4000
    refine ⟨by omega, by omega, ?_⟩
    unfold rb; rw [if_neg h1]; split <;> omega
theorem arcs_rsd (hc : ∀ d, d < X 0 0 → 0 ≤ c d ∧ c d ≤ 4000) (e : Arc) : e ∈ arcsD X (rf c z) (rb c z) (X 0 0) ↔ rsd X c z e := by
  have h1 : ∀ d, d < X 0 0 → (rf c z d ≠ BIG ↔ z d ≠ 1) := fun d hdd => by
    have := hc d hdd
    unfold rf BIG
    by_cases h : z d = 1
    · rw [if_pos h]; exact ⟨fun q => absurd rfl q, fun q => absurd h q⟩
    · rw [if_neg h]; refine ⟨fun _ => h, fun _ => ?_⟩
      split <;> omega
  have h2 : ∀ d, d < X 0 0 → (rb c z d ≠ BIG ↔ z d ≠ -1) := fun d hdd => by
    have := hc d hdd
    unfold rb BIG
    by_cases h : z d = -1
    · rw [if_pos h]; exact ⟨fun q => absurd rfl q, fun q => absurd h q⟩
    · rw [if_neg h]; refine ⟨fun _ => h, fun _ => ?_⟩
      split <;> omega
  rw [arcsD_in]
  constructor
  · rintro ⟨d, hdd, h⟩
    rcases arc2_in.mp h with ⟨a, b⟩ | ⟨a, b⟩
    · exact ⟨d, hdd, Or.inl ⟨(h1 d hdd).mp a, b⟩⟩
    · exact ⟨d, hdd, Or.inr ⟨(h2 d hdd).mp a, b⟩⟩
  · rintro ⟨d, hdd, ⟨a, b⟩ | ⟨a, b⟩⟩
    · exact ⟨d, hdd, arc2_in.mpr (Or.inl ⟨(h1 d hdd).mpr a, b⟩)⟩
    · exact ⟨d, hdd, arc2_in.mpr (Or.inr ⟨(h2 d hdd).mpr a, b⟩)⟩
theorem lower2 (hd : xD X) (hc : ∀ d, d < X 0 0 → 0 ≤ c d ∧ c d ≤ 4000) {k : Int} (hk : k = 0 ∨ k = 1) {s t : Nat} (hz : flw X z k s t) {as : List Arc} (has : ∀ e, e ∈ as ↔ rsd X c z e) {π0 : Nat → Int} (hπ0 : potO X c z π0) (h0 : ∀ v, 0 ≤ π0 v) (ht : t < 10) {m : Nat} (hm : 9 ≤ m) (hm2 : m ≤ 100) {y : Nat → Int} (hy : flw X y 2 s t) :
    rnds as m (lab0 t) s ≠ BIG ∧ (k = 1 → fC X c z + rnds as m (lab0 t) s ≤ fC X c y) := by
  have hA : arcOK as := fun e he => rsd_ok hd hc ((has e).mp he)
  have hπ : ∀ e ∈ as, π0 e.1 ≤ e.2.2.1 + π0 e.2.1 := fun e he => hπ0 e ((has e).mp he)
  have hfix := bf_fix hA hπ ht hm hm2
  have hgoal := bf_goal hA hπ ht m hm2
  have hbd := bf_bound hA hπ ht m
  generalize hT : rnds as m (lab0 t) = T at *
  have hB : BIG = 1000000 := rfl
  have hpot : potO X c z (fun v => if T v = BIG then π0 v + 100000 else T v) := by
    intro e he
    have q := rsd_ok hd hc he
    have he' := (has e).mpr he
    have f := hfix e he'
    have g := hπ0 e he
    have b1 := hbd e.1
    have b2 := hbd e.2.1
    have n1 := h0 e.2.1
    show (if T e.1 = BIG then π0 e.1 + 100000 else T e.1) ≤ e.2.2.1 + (if T e.2.1 = BIG then π0 e.2.1 + 100000 else T e.2.1)
    by_cases u : T e.2.1 = BIG
    · rw [if_pos u]
      by_cases v : T e.1 = BIG
      · rw [if_pos v]; omega
      · rw [if_neg v]; omega
    · rw [if_neg u, if_neg (by have := f u; omega)]
      exact f u
  have w := weak hz.1 hy.1 (fun d hdd => (hc d hdd).1) hpot
  rw [hz.2, hy.2] at w
  have l1 := fC_nn (fun d hdd => (hc d hdd).1) hz.1
  have l2 := fC_le hd (B := 4000) (by decide) hc hy.1
  have gt : (if T t = BIG then π0 t + 100000 else T t) = 0 := by rw [hgoal]; exact if_neg (by rw [hB]; decide)
  have w : 2 * ((if T s = BIG then π0 s + 100000 else T s) - (if T t = BIG then π0 t + 100000 else T t)) + fC X c z ≤ k * ((if T s = BIG then π0 s + 100000 else T s) - (if T t = BIG then π0 t + 100000 else T t)) + fC X c y := w
  rw [gt] at w
  have n2 := h0 s
  refine ⟨fun hs => ?_, fun k1 => ?_⟩
  · rw [if_pos hs] at w
    rcases hk with rfl | rfl <;> omega
  · by_cases hs : T s = BIG
    · rw [if_pos hs] at w
      rcases hk with rfl | rfl <;> omega
    · rw [if_neg hs, k1] at w; omega
end LB
def lenZ (X : aX) (d : Nat) : Int := (X 3 d : Int)
def c32 (X : aX) (d : Nat) : Int := 32 * (X 3 d : Int) + 1
def is2 (X : aX) (a b : Nat) (r : Int32) : Prop := (r = -9 ∧ ∀ y, ¬ flw X y 2 a b) ∨ ∃ y, flw X y 2 a b ∧ r = nI (fC X (lenZ X) y).toNat ∧ ∀ y', flw X y' 2 a b → fC X (lenZ X) y ≤ fC X (lenZ X) y'
theorem is2_u {X : aX} {a b : Nat} {r r' : Int32} (h : is2 X a b r) (h' : is2 X a b r') : r = r' := by
  rcases h with ⟨h1, h2⟩ | ⟨y, h1, h2, h3⟩ <;> rcases h' with ⟨g1, g2⟩ | ⟨y', g1, g2, g3⟩
  · rw [h1, g1]
  · exact absurd g1 (h2 _)
  · exact absurd h1 (g2 _)
  · have := h3 y' g1
    have := g3 y h1
    rw [h2, g2]; congr 2; omega
/-- the same flow, gone the other way -/
theorem flw_neg {X : aX} {z : Nat → Int} {k : Int} {s t : Nat} (h : flw X z k s t) : flw X (fun d => - z d) k t s := by
  refine ⟨fun d hd => by have := h.1 d hd; show - z d = -1 ∨ - z d = 0 ∨ - z d = 1; omega, fun π => ?_⟩
  have h1 := h.2 (fun v => - π v)
  have e : fS X (fun d => - z d) π = fS X z (fun v => - π v) := sZ_cong (fun d _ => by
    show - z d * (π (X 1 d) - π (X 2 d)) = z d * (- π (X 1 d) - - π (X 2 d))
    rw [Int.neg_mul, ← Int.mul_neg]; congr 1; omega)
  rw [e, h1]; congr 1; show - π s - - π t = π t - π s; omega
theorem fC_neg {X : aX} {c z : Nat → Int} : fC X c (fun d => - z d) = fC X c z := sZ_cong (fun d _ => by
  show c d * (- z d * - z d) = _
  rw [Int.neg_mul_neg])
theorem is2_neg {X : aX} {a b : Nat} {r : Int32} (h : is2 X a b r) : is2 X b a r := by
  rcases h with ⟨h1, h2⟩ | ⟨y, h1, h2, h3⟩
  · exact Or.inl ⟨h1, fun y hy => h2 _ (flw_neg hy)⟩
  · refine Or.inr ⟨_, flw_neg h1, by rw [fC_neg]; exact h2, fun y' hy' => ?_⟩
    have := h3 _ (flw_neg hy')
    rw [fC_neg] at this ⊢; exact this
/-- prices 32 l + 1: the length is the price by 32 -/
theorem fC_32 {X : aX} (hd : xD X) {z : Nat → Int} (hz : zOK X z) : ∃ n : Int, 0 ≤ n ∧ n ≤ 16 ∧ fC X (c32 X) z = 32 * fC X (lenZ X) z + n := by
  refine ⟨fC X (fun _ => 1) z, fC_nn (fun _ _ => by decide) hz, by have := fC_le hd (c := fun _ => 1) (B := 1) (by decide) (fun _ _ => by decide) hz; omega, ?_⟩
  unfold fC
  rw [← sZ_mul, ← sZ_add]
  refine sZ_cong (fun d _ => ?_)
  show c32 X d * (z d * z d) = 32 * (lenZ X d * (z d * z d)) + 1 * (z d * z d)
  unfold c32 lenZ
  rw [Int.add_mul, Int.mul_assoc]
-- the class's two ways
def tT (X : aX) (b : Nat) : Nat → Int := labO X (fun _ => true) b
def tV (X : aX) (a b i : Nat) : Nat := vtx X (prO X (fun _ => true)) (prO X (fun _ => true)) (tT X b) a i
def tS (X : aX) (a b i : Nat) : Nat := stp X (prO X (fun _ => true)) (prO X (fun _ => true)) (tT X b) a i
def tN (X : aX) (a b : Nat) : Nat := (tT X b a % 32).toNat
def tZ (X : aX) (a b : Nat) : Nat → (Nat → Int)
  | 0 => fun _ => 0
  | i + 1 => upZ (tZ X a b i) (tS X a b i) (if X 1 (tS X a b i) = tV X a b i then 1 else -1)
def tU (X : aX) (a b : Nat) : Nat → Int := rnds (arcsD X (rf (c32 X) (tZ X a b (tN X a b))) (rb (c32 X) (tZ X a b (tN X a b))) (X 0 0)) 9 (lab0 b)
def twoV (X : aX) (a b : Nat) : Int32 := if tT X b a = BIG then -9 else if tU X a b a = BIG then -9 else nI ((tT X b a + tU X a b a) / 32).toNat
def aTwo (X : aX) (x1 x2 : Int32) : Int32 := if inB x1 (nI 0) (nI 9) && inB x2 (nI 0) (nI 9) then if x1 = x2 then -3 else twoV X x1.toNatClampNeg x2.toNatClampNeg else -1
section TWO
variable {X : aX}
theorem c32_bd (hd : xD X) : ∀ d, d < X 0 0 → 0 ≤ c32 X d ∧ c32 X d ≤ 4000 := fun d hdd => by have := hd.2 d hdd; unfold c32; omega
theorem lenZ_bd (hd : xD X) : ∀ d, d < X 0 0 → 0 ≤ lenZ X d ∧ lenZ X d ≤ 4000 := fun d hdd => by have := hd.2 d hdd; unfold lenZ; omega
theorem flw_0 (s t : Nat) : flw X (fun _ => 0) 0 s t := ⟨fun _ _ => Or.inr (Or.inl rfl), fun π => by
  have e : fS X (fun _ => 0) π = sZ (fun _ => 0) (X 0 0) := sZ_cong (fun d _ => Int.zero_mul _)
  rw [e, sZ_const]; omega⟩
theorem fC_0 (c : Nat → Int) : fC X c (fun _ => 0) = 0 := by
  have e : fC X c (fun _ => 0) = sZ (fun _ => 0) (X 0 0) := sZ_cong (fun d _ => by show c d * (0 * 0) = 0; omega)
  rw [e, sZ_const]; omega
theorem tT_form (hd : xD X) {b : Nat} (hb : b < 10) : ∀ u, tT X b u = BIG ∨ (0 ≤ tT X b u ∧ tT X b u ≤ 36000 ∧ tT X b u % 32 ≤ 9) := bf_form hd (bfI_rnds (π := fun _ => 0) (asO_ok hd _) (asO_pot hd _) hb 9)
theorem tT_pot (hd : xD X) {b : Nat} (hb : b < 10) : potO X (c32 X) (fun _ => 0) (tT X b) := by
  intro e he
  have hin : e ∈ asO X (fun _ => true) := by
    obtain ⟨d, hdd, ⟨_, rfl⟩ | ⟨_, rfl⟩⟩ := he
    · exact (asO_in hd).mpr ⟨d, hdd, rfl, Or.inl rfl⟩
    · exact (asO_in hd).mpr ⟨d, hdd, rfl, Or.inr rfl⟩
  have hp := asO_pos hd e hin
  have f := bf_fix (π := fun _ => 0) (asO_ok hd _) (asO_pot hd _) hb (Nat.le_refl 9) (by decide) e hin
  have f : tT X b e.2.1 ≠ BIG → tT X b e.1 ≤ e.2.2.1 + tT X b e.2.1 := f
  have b1 := tT_form hd hb e.1
  have hB : BIG = 1000000 := rfl
  by_cases h : tT X b e.2.1 = BIG
  · omega
  · exact f h
theorem tT_goal (hd : xD X) {b : Nat} (hb : b < 10) : tT X b b = 0 := bf_goal (π := fun _ => 0) (asO_ok hd _) (asO_pot hd _) hb 9 (by decide)
theorem two_path (hd : xD X) {a b : Nat} (hb : b < 10) (hne : tT X b a ≠ BIG) : tN X a b ≤ 9 ∧ tV X a b (tN X a b) = b ∧ (∀ i, i < tN X a b → tV X a b i ≠ b ∧ tT X b (tV X a b i) ≠ BIG) :=
  ⟨(path_all hd hb (tN X a b) a hne rfl).1, (path_all hd hb (tN X a b) a hne rfl).2.1, (path_all hd hb (tN X a b) a hne rfl).2.2.1⟩
theorem two_dist (hd : xD X) {a b : Nat} (hb : b < 10) (hne : tT X b a ≠ BIG) : (∀ i, i < tN X a b → tS X a b i < X 0 0) ∧ ∀ i j, i < j → j < tN X a b → tS X a b i ≠ tS X a b j := path_dist hd hb (two_path hd hb hne).2.2
theorem tZ_all (hd : xD X) {a b : Nat} (hb : b < 10) (hne : tT X b a ≠ BIG) : ∀ i, i ≤ tN X a b → zOK X (tZ X a b i) ∧ (∀ π, fS X (tZ X a b i) π = π a - π (tV X a b i)) ∧ fC X (c32 X) (tZ X a b i) = tT X b a - tT X b (tV X a b i) ∧ potO X (c32 X) (tZ X a b i) (tT X b) ∧ ∀ j, i ≤ j → j < tN X a b → tZ X a b i (tS X a b j) = 0 := by
  obtain ⟨p1, p2, p3⟩ := two_path hd hb hne
  obtain ⟨l1, l2⟩ := two_dist hd hb hne
  intro i
  induction i with
  | zero =>
    intro _
    refine ⟨(flw_0 (X := X) 0 0).1, fun π => ?_, ?_, tT_pot hd hb, fun _ _ _ => rfl⟩
    · show fS X (fun _ => 0) π = π a - π a
      rw [(flw_0 (X := X) a a).2]; omega
    · show fC X _ (fun _ => 0) = tT X b a - tT X b a
      rw [fC_0]; omega
  | succ i ih =>
    intro hi
    obtain ⟨h1, h2, h3, h4, h5⟩ := ih (by omega)
    obtain ⟨q1, q2⟩ := p3 i (by omega)
    obtain ⟨s1, s2, s3, s4⟩ := path_step hd (op := fun _ => true) hb q1 q2
    have z0 := h5 i (Nat.le_refl i) (by omega)
    have hv : tV X a b (i + 1) = acr X (tS X a b i) (tV X a b i) := rfl
    have s1 : tS X a b i < X 0 0 := s1
    have s2 : X 1 (tS X a b i) = tV X a b i ∨ X 2 (tS X a b i) = tV X a b i := s2
    have s4 : tT X b (tV X a b i) = c32 X (tS X a b i) + tT X b (acr X (tS X a b i) (tV X a b i)) := s4
    have hr : rsd X (c32 X) (tZ X a b i) (tV X a b i, tV X a b (i + 1), c32 X (tS X a b i), tS X a b i) := by
      refine ⟨tS X a b i, s1, ?_⟩
      by_cases h : X 1 (tS X a b i) = tV X a b i
      · refine Or.inl ⟨by rw [z0]; decide, ?_⟩
        have e1 : tV X a b (i + 1) = X 2 (tS X a b i) := by rw [hv]; unfold acr; rw [if_pos h]
        have e2 : rf (c32 X) (tZ X a b i) (tS X a b i) = c32 X (tS X a b i) := by unfold rf; rw [z0]; simp
        rw [e1, e2, h]
      · refine Or.inr ⟨by rw [z0]; decide, ?_⟩
        have e1 : tV X a b (i + 1) = X 1 (tS X a b i) := by rw [hv]; unfold acr; rw [if_neg h]
        have e2 : rb (c32 X) (tZ X a b i) (tS X a b i) = c32 X (tS X a b i) := by unfold rb; rw [z0]; simp
        rw [e1, e2, s2.resolve_left h]
    have ez : tZ X a b (i + 1) = aug1 X (tZ X a b i) (tV X a b i, tV X a b (i + 1), c32 X (tS X a b i), tS X a b i) := by
      show upZ _ _ _ = upZ _ _ _
      show upZ (tZ X a b i) (tS X a b i) _ = upZ (tZ X a b i) (tS X a b i) (tZ X a b i (tS X a b i) + (if X 1 (tS X a b i) = tV X a b i then 1 else -1))
      rw [z0]; congr 1; omega
    obtain ⟨u1, u2, u3⟩ := push hd h1 hr
    have u4 := pot_aug1 hd h1 (fun d hdd => (c32_bd hd d hdd).1) h4 hr (by show tT X b (tV X a b i) = c32 X (tS X a b i) + tT X b (tV X a b (i + 1)); rw [hv]; exact s4)
    rw [← ez] at u1 u2 u3 u4
    refine ⟨u1, fun π => ?_, ?_, u4, fun j hj hjn => ?_⟩
    · rw [u2, h2]; show π a - π (tV X a b i) + (π (tV X a b i) - π (tV X a b (i + 1))) = _; omega
    · rw [u3, h3]; show tT X b a - tT X b (tV X a b i) + c32 X (tS X a b i) = _; rw [hv]; omega
    · show upZ _ _ _ (tS X a b j) = 0
      rw [upZ_n _ _ (l2 i j (by omega) hjn).symm]
      exact h5 j (by omega) hjn
theorem tZ_flw (hd : xD X) {a b : Nat} (hb : b < 10) (hne : tT X b a ≠ BIG) : flw X (tZ X a b (tN X a b)) 1 a b ∧ fC X (c32 X) (tZ X a b (tN X a b)) = tT X b a ∧ potO X (c32 X) (tZ X a b (tN X a b)) (tT X b) := by
  obtain ⟨h1, h2, h3, h4, -⟩ := tZ_all hd hb hne _ (Nat.le_refl _)
  have p2 := (two_path hd hb hne).2.1
  rw [p2] at h2 h3
  rw [tT_goal hd hb] at h3
  exact ⟨⟨h1, fun π => by rw [h2]; omega⟩, by omega, h4⟩
theorem tT_nn (hd : xD X) {b : Nat} (hb : b < 10) (v : Nat) : 0 ≤ tT X b v := by
  rcases tT_form hd hb v with h | h
  · rw [h]; decide
  · exact h.1
theorem two_C (hd : xD X) {a b : Nat} (ha : a < 10) (hb : b < 10) : is2 X a b (twoV X a b) ∧ (tT X b a ≠ BIG → tU X a b a ≠ BIG → 0 ≤ tT X b a + tU X a b a) := by
  have hc := c32_bd hd
  unfold twoV
  by_cases h1 : tT X b a = BIG
  · rw [if_pos h1]
    refine ⟨Or.inl ⟨rfl, fun y hy => ?_⟩, fun h => absurd h1 h⟩
    have has : ∀ e, e ∈ asO X (fun _ => true) ↔ rsd X (c32 X) (fun _ => 0) e := fun e => by
      rw [asO_in hd]
      constructor
      · rintro ⟨d, hdd, -, rfl | rfl⟩
        · exact ⟨d, hdd, Or.inl ⟨by show (0 : Int) ≠ 1; decide, rfl⟩⟩
        · exact ⟨d, hdd, Or.inr ⟨by show (0 : Int) ≠ -1; decide, rfl⟩⟩
      · rintro ⟨d, hdd, ⟨_, rfl⟩ | ⟨_, rfl⟩⟩
        · exact ⟨d, hdd, rfl, Or.inl rfl⟩
        · exact ⟨d, hdd, rfl, Or.inr rfl⟩
    exact (lower2 hd hc (Or.inl rfl) (flw_0 a b) has (tT_pot hd hb) (tT_nn hd hb) hb (Nat.le_refl 9) (by decide) hy).1 h1
  · rw [if_neg h1]
    obtain ⟨z1, z2, z3⟩ := tZ_flw hd hb h1
    have has := arcs_rsd (X := X) (c := c32 X) (z := tZ X a b (tN X a b)) hc
    have hA : arcOK (arcsD X (rf (c32 X) (tZ X a b (tN X a b))) (rb (c32 X) (tZ X a b (tN X a b))) (X 0 0)) := fun e he => rsd_ok hd hc ((has e).mp he)
    have hπ : ∀ e ∈ arcsD X (rf (c32 X) (tZ X a b (tN X a b))) (rb (c32 X) (tZ X a b (tN X a b))) (X 0 0), tT X b e.1 ≤ e.2.2.1 + tT X b e.2.1 := fun e he => z3 e ((has e).mp he)
    by_cases h2 : tU X a b a = BIG
    · rw [if_pos h2]
      exact ⟨Or.inl ⟨rfl, fun y hy => (lower2 hd hc (Or.inr rfl) z1 has z3 (tT_nn hd hb) hb (Nat.le_refl 9) (by decide) hy).1 h2⟩, fun _ h => absurd h2 h⟩
    · rw [if_neg h2]
      obtain ⟨-, es, w1, w2, w3, -⟩ := ((bfI_rnds hA hπ hb 9) a).2 h2
      have w2 : cst es = tU X a b a := w2
      have hin : ∀ e ∈ es, rsd X (c32 X) (tZ X a b (tN X a b)) e := fun e he => (has e).mp (wk_vs w1 e he).2.2
      obtain ⟨y1, y2, y3⟩ := aug_ok hd z1.1 hin (simple_ducts hd (fun e he => (has e).mp he) w1 w3) w1
      have hy : flw X (aug X (tZ X a b (tN X a b)) es) 2 a b := ⟨y1, fun π => by rw [y2, z1.2]; omega⟩
      obtain ⟨n, n1, n2, n3⟩ := fC_32 hd y1
      have l0 := fC_nn (fun d hdd => (lenZ_bd hd d hdd).1) y1
      rw [z2, w2] at y3
      refine ⟨Or.inr ⟨_, hy, by congr 2; omega, fun y' hy' => ?_⟩, fun _ _ => by omega⟩
      obtain ⟨n', m1, m2, m3⟩ := fC_32 hd hy'.1
      have lo := (lower2 hd hc (Or.inr rfl) z1 has z3 (tT_nn hd hb) hb (Nat.le_refl 9) (by decide) hy').2 rfl
      have lo : fC X (c32 X) (tZ X a b (tN X a b)) + tU X a b a ≤ fC X (c32 X) y' := lo
      omega
end TWO
end
section
section TWOC
variable {G : aG} {μ : aMem} {X : aX}
theorem n00 : nI 0 = 0 := by decide
theorem n10 : ¬ nI 1 = 0 := by decide
theorem rf_bd (hd : xD X) {z : Nat → Int} (k : Nat) (hk : k < X 0 0) : rf (c32 X) z k = BIG ∨ (-4000 ≤ rf (c32 X) z k ∧ rf (c32 X) z k ≤ 4000) := by
  have := c32_bd hd k hk
  unfold rf
  split
  · exact Or.inl rfl
  · right; split <;> omega
theorem rb_bd (hd : xD X) {z : Nat → Int} (k : Nat) (hk : k < X 0 0) : rb (c32 X) z k = BIG ∨ (-4000 ≤ rb (c32 X) z k ∧ rb (c32 X) z k ≤ 4000) := by
  have := c32_bd hd k hk
  unfold rb
  split
  · exact Or.inl rfl
  · right; split <;> omega
theorem r_X3_turnSteps (hd : xD X) (hcd : cD μ X) {a b : Nat} (ha : a < 10) (hb : b < 10) (hne : tT X b a ≠ BIG) (h5 : μ.1 3 5 = nI (tN X a b)) (h25 : ∀ k, k < tN X a b → μ.1 25 k = nI (tS X a b k)) (h22 : rZ (μ.1 22) (rf (c32 X) (tZ X a b 0)) (X 0 0)) (h23 : rZ (μ.1 23) (rb (c32 X) (tZ X a b 0)) (X 0 0)) :
    a_Spec G sX3_turnSteps [.ref 3, .int (nI a)] μ (fun v ν => v = none ∧ ∃ c c', ν = (va_up (va_up μ.1 22 c) 23 c', μ.2) ∧ rZ c (rf (c32 X) (tZ X a b (tN X a b))) (X 0 0) ∧ rZ c' (rb (c32 X) (tZ X a b (tN X a b))) (X 0 0)) := by
  obtain ⟨p1, p2, p3⟩ := two_path hd hb hne
  obtain ⟨l1, l2⟩ := two_dist hd hb hne
  have hn := hd.1
  generalize hpo : (fun (v : Option Value) (ν : aMem) => v = none ∧ ∃ c c', ν = (va_up (va_up μ.1 22 c) 23 c', μ.2) ∧ rZ c (rf (c32 X) (tZ X a b (tN X a b))) (X 0 0) ∧ rZ c' (rb (c32 X) (tZ X a b (tN X a b))) (X 0 0)) = post
  have hpost : ∀ c c', rZ c (rf (c32 X) (tZ X a b (tN X a b))) (X 0 0) → rZ c' (rb (c32 X) (tZ X a b (tN X a b))) (X 0 0) → post none (va_up (va_up μ.1 22 c) 23 c', μ.2) := fun c c' h h' => by rw [← hpo]; exact ⟨rfl, c, c', rfl, h, h'⟩
  have hvl : ∀ i, i ≤ tN X a b → tV X a b i < 10 := by
    intro i hi
    cases i with
    | zero => exact ha
    | succ i => exact acr_lt hd (l1 i (by omega))
  refine w_X3_turnSteps_0 _ ?_
  have main := a_for (fun i (s : (Nat → Int32) × (Nat → Int32)) => a_Runs G sX3_turnSteps 4 [(0, .ref 3), (2, .int (nI (tV X a b i))), (3, .int (nI i))] [] (va_up (va_up μ.1 22 s.1) 23 s.2, μ.2) post) (fun i s => rZ s.1 (rf (c32 X) (tZ X a b i)) (X 0 0) ∧ rZ s.2 (rb (c32 X) (tZ X a b i)) (X 0 0)) (tN X a b) ?_ ?_ 0 (μ.1 22, μ.1 23) (by omega) ⟨h22, h23⟩
  · have e0 : μ = (va_up (va_up μ.1 22 (μ.1 22)) 23 (μ.1 23), μ.2) := by rw [a_self1 μ.1 22, a_self1 μ.1 23]
    rw [e0]; exact main
  · rintro ⟨c, c'⟩ ⟨g1, g2⟩
    refine w_X3_turnSteps_4 _ _ ⟨fun _ => hpost c c' g1 g2, fun h => absurd ?_ h⟩
    show μ.1 3 5 ≤ _
    rw [h5, q_le (by omega) (by omega)]; omega
  · rintro i ⟨c, c'⟩ hi ⟨g1, g2⟩ ih
    have g1 : rZ c (rf (c32 X) (tZ X a b i)) (X 0 0) := g1
    have g2 : rZ c' (rb (c32 X) (tZ X a b i)) (X 0 0) := g2
    have hs := l1 i hi
    have hv := hvl i (by omega)
    have hx1 := hd.2 _ hs
    have z0 := (tZ_all hd hb hne i (by omega)).2.2.2.2 i (Nat.le_refl i) hi
    have bd := c32_bd hd _ hs
    have s2 : X 1 (tS X a b i) = tV X a b i ∨ X 2 (tS X a b i) = tV X a b i := (path_step hd (op := fun _ => true) hb (p3 i hi).1 (p3 i hi).2).2.1
    have ev : tV X a b (i + 1) = acr X (tS X a b i) (tV X a b i) := rfl
    have e22 : ((va_up (va_up μ.1 22 c) 23 c', μ.2) : aMem).1 22 = c := rfl
    have e23 : ((va_up (va_up μ.1 22 c) 23 c', μ.2) : aMem).1 23 = c' := rfl
    have e25 : ((va_up (va_up μ.1 22 c) 23 c', μ.2) : aMem).1 25 i = nI (tS X a b i) := h25 i hi
    have e7 : ((va_up (va_up μ.1 22 c) 23 c', μ.2) : aMem).1 7 (tS X a b i) = nI (X 1 (tS X a b i)) := hcd.2.1 _ hs
    have cf := g1 _ hs
    have cb := g2 _ hs
    have cf : (c (tS X a b i)).toInt = c32 X (tS X a b i) := by rw [cf]; unfold rf; rw [z0]; simp
    have cb : (c' (tS X a b i)).toInt = c32 X (tS X a b i) := by rw [cb]; unfold rb; rw [z0]; simp
    have hcd' : ∀ c c', cD (va_up (va_up μ.1 22 c) 23 c', μ.2) X := fun c c' => hcd.kept (fun k hk => by show va_up (va_up μ.1 22 c) 23 c' k = _; rw [va_up_ne _ _ (by omega), va_up_ne _ _ (by omega)])
    have em : ∀ u v : Int32, ((va_up (va_up (va_up (va_up μ.1 22 c) 23 c') 22 (upd c (tS X a b i) u)) 23 (upd c' (tS X a b i) v), μ.2) : aMem) = (va_up (va_up μ.1 22 (upd c (tS X a b i) u)) 23 (upd c' (tS X a b i) v), μ.2) := fun u v => by rw [va_up4]
    have goon : ∀ u v : Int32, u.toInt = rf (c32 X) (tZ X a b (i + 1)) (tS X a b i) → v.toInt = rb (c32 X) (tZ X a b (i + 1)) (tS X a b i) → a_Spec G sX0_across [.ref 1, .int (nI (tS X a b i)), .int (nI (tV X a b i))] (va_up (va_up (va_up (va_up μ.1 22 c) 23 c') 22 (upd c (tS X a b i) u)) 23 (upd c' (tS X a b i) v), μ.2) (fun r1 m1 => ∃ v1 : Int32, r1 = some (.int v1) ∧ a_Runs G sX3_turnSteps 4 [(0, .ref 3), (2, .int v1), (3, .int (nI i + nI 1))] [] m1 post) := by
      intro u v hu hvv
      rw [em]
      refine r_X0_across hd (hcd' _ _) hs (by omega) _ ⟨_, rfl, ?_⟩
      rw [nI_add, ← ev]
      refine ih (upd c (tS X a b i) u, upd c' (tS X a b i) v) ⟨fun k hk => ?_, fun k hk => ?_⟩
      · show (upd c (tS X a b i) u k).toInt = _
        by_cases ek : k = tS X a b i
        · rw [ek, pk_us]; exact hu
        · rw [pk_un ek, g1 k hk]; unfold rf
          have : tZ X a b (i + 1) k = tZ X a b i k := upZ_n _ _ ek
          rw [this]
      · show (upd c' (tS X a b i) v k).toInt = _
        by_cases ek : k = tS X a b i
        · rw [ek, pk_us]; exact hvv
        · rw [pk_un ek, g2 k hk]; unfold rb
          have : tZ X a b (i + 1) k = tZ X a b i k := upZ_n _ _ ek
          rw [this]
    have zn : tZ X a b (i + 1) (tS X a b i) = if X 1 (tS X a b i) = tV X a b i then 1 else -1 := upZ_s _ _ _
    have vi : i < 9 := by omega
    have vd : tS X a b i < 16 := by omega
    refine w_X3_turnSteps_4 _ _ ⟨fun h => ?_, fun _ => ?_⟩
    · have h : μ.1 3 5 ≤ nI i := h
      rw [h5, q_le (by omega) (by omega)] at h; omega
    rw [q_in (by omega), q_cl (by omega), e25, e22, e23, q_in (by omega), q_cl (by omega), e7, q_eq (by omega) (by omega)]
    refine ⟨vi, vd, fun h => ?_, fun h => ?_⟩
    · rw [if_neg h] at zn
      refine ⟨fun _ => ⟨vd, fun _ => ⟨vd, fun _ => ⟨vd, goon _ _ ?_ ?_⟩, fun h => absurd n00 h⟩, fun h => absurd n00 h⟩, fun h => absurd n00 h⟩
      · unfold rf; rw [zn, fb_negI (by omega), cb]; simp
      · unfold rb; rw [zn]; simp; rfl
    · rw [if_pos h] at zn
      refine ⟨fun h => absurd h n10, fun _ => ⟨vd, fun h => absurd h n10, fun _ => ⟨vd, fun h => absurd h n10, fun _ => ⟨vd, goon _ _ ?_ ?_⟩⟩⟩⟩
      · unfold rf; rw [zn]; simp; rfl
      · unfold rb; rw [zn, fb_negI (by omega), cf]; simp
theorem c_two (hd : xD X) (hcd : cD μ X) (x1 x2 : Int32) : a_Spec G sX6_two [.ref 0, .int x1, .int x2] μ (fun v ν => v = some (.int (aTwo X x1 x2)) ∧ a_eqx [3, 22, 23, 24, 25] μ ν) := by
  have hp16 := pow16 hd
  refine w_X6_two_0 _ _ (r_X6_isPlace _ _ ⟨_, rfl, br_b (fun h1 => ?_) (fun h1 => r_X6_isPlace _ _ ⟨_, rfl, br_n (fun h2 => br_d (fun h3 => ?_) (fun h3 => ?_)) (fun h2 => ?_)⟩)⟩)
  · have e : aTwo X x1 x2 = -1 := by simp [aTwo, h1]
    rw [e]; exact ⟨rfl, a_eqx.rf _ _⟩
  · have e : aTwo X x1 x2 = twoV X x1.toNatClampNeg x2.toNatClampNeg := by simp [aTwo, h1, h2, h3]
    rw [e]
    obtain ⟨e1, -, b1⟩ := inB_cl (by decide) (by decide) h1
    obtain ⟨e2, -, b2⟩ := inB_cl (by decide) (by decide) h2
    generalize x1.toNatClampNeg = a at *
    generalize x2.toNatClampNeg = b at *
    subst e1
    subst e2
    have ha : a < 10 := by omega
    have hb : b < 10 := by omega
    refine w_X3_leastLengthOfTwo_0 _ _ (r_X0_allBits hd hcd _ ⟨_, rfl, (r_X3_open hd hcd (s := 2 ^ X 0 0 - 1) (by omega)).mono ?_⟩)
    rintro v ν ⟨rfl, c, c', rfl, g1, g2⟩
    have pc : ∀ d, d < X 0 0 → prO X (fun d => (2 ^ X 0 0 - 1).testBit d) d = prO X (fun _ => true) d := fun d hd => by unfold prO; simp only [low_bit hd]
    have g1 : rZ c (prO X (fun _ => true)) (X 0 0) := fun i hi => by rw [← pc i hi]; exact g1 i hi
    have g2 : rZ c' (prO X (fun _ => true)) (X 0 0) := fun i hi => by rw [← pc i hi]; exact g2 i hi
    have hcd' : cD (va_up (va_up μ.1 22 c) 23 c', μ.2) X := hcd.kept (fun k hk => by show va_up (va_up μ.1 22 c) 23 c' k = _; rw [va_up_ne _ _ (by omega), va_up_ne _ _ (by omega)])
    have pbd : ∀ k, k < X 0 0 → prO X (fun _ => true) k = BIG ∨ (-4000 ≤ prO X (fun _ => true) k ∧ prO X (fun _ => true) k ≤ 4000) := fun k hk => by rcases prO_bd hd (fun _ => true) hk with h | h; exact Or.inl h; right; omega
    refine ⟨rfl, (r_X3_spread (μ := (va_up (va_up μ.1 22 c) 23 c', μ.2)) (π := fun _ => 0) hd hcd' (pf := prO X (fun _ => true)) (pb := prO X (fun _ => true)) g1 g2 pbd pbd (asO_ok hd _) (asO_pot hd _) hb).mono ?_⟩
    rintro v ν ⟨rfl, c2, rfl, g3⟩
    have g3 : rZ c2 (tT X b) 10 := g3
    have hform := tT_form hd hb
    have hB : (nI 1000000).toInt = BIG := by decide
    have e24 : ((va_up (va_up (va_up μ.1 22 c) 23 c') 24 c2, μ.2) : aMem).1 24 a = c2 a := rfl
    rw [q_in (by omega), q_cl (by omega)]
    refine ⟨rfl, ha, ?_⟩
    show (¬ c2 a = nI 1000000 → _) ∧ (c2 a = nI 1000000 → _)
    rw [z_eqI (c2 a) (nI 1000000), g3 a ha, hB]
    have hk : ∀ k, k ≠ 22 → k ≠ 23 → k ≠ 24 → (va_up (va_up (va_up μ.1 22 c) 23 c') 24 c2) k = μ.1 k := fun k h h' h'' => by rw [va_up_ne _ _ h'', va_up_ne _ _ h', va_up_ne _ _ h]
    refine ⟨fun h4 => ⟨ha, ?_⟩, fun h4 => ⟨_, rfl, ?_, fun k h => ⟨?_, rfl⟩⟩⟩
    · obtain ⟨p1, p2, p3⟩ := two_path hd hb h4
      obtain ⟨l1, l2⟩ := two_dist hd hb h4
      refine (r_X3_walk (μ := (va_up (va_up (va_up μ.1 22 c) 23 c') 24 c2, μ.2)) (X := X) (pf := prO X (fun _ => true)) (pb := prO X (fun _ => true)) (T := tT X b) (p := a) (g := b) (n := tN X a b) hd (hcd.kept (fun k h => hk k (by omega) (by omega) (by omega))) g1 g2 pbd pbd g3 ?_ ha hb p1 p2 (fun i hi => ⟨(p3 i hi).1, l1 i hi⟩)).mono ?_
      · exact fun v => by rcases hform v with h | h; exact Or.inl h; right; omega
      rintro v ν ⟨rfl, c25, e3, rfl, g5, g6⟩
      generalize hM : va_up (va_up (va_up (va_up (va_up μ.1 22 c) 23 c') 24 c2) 25 c25) 3 e3 = M
      have hM' : ∀ k, k ≠ 22 → k ≠ 23 → k ≠ 24 → k ≠ 25 → k ≠ 3 → M k = μ.1 k := fun k h h' h'' h3 h0 => by rw [← hM, va_up_ne _ _ h0, va_up_ne _ _ h3, va_up_ne _ _ h'', va_up_ne _ _ h', va_up_ne _ _ h]
      have m3 : M 3 5 = nI (tN X a b) := by rw [← hM, va_up_self]; exact g5
      have m25 : M 25 = c25 := by rw [← hM, va_up_ne _ _ (by decide), va_up_self]
      have m22 : M 22 = c := by rw [← hM]; rfl
      have m23 : M 23 = c' := by rw [← hM]; rfl
      refine ⟨rfl, (r_X3_turnSteps (μ := (M, μ.2)) hd (hcd.kept (fun k h => hM' k (by omega) (by omega) (by omega) (by omega) (by omega))) ha hb h4 m3 (fun k h => by show M 25 k = _; rw [m25]; exact g6 k h) ?_ ?_).mono ?_⟩
      · show rZ (M 22) _ _; rw [m22]; exact g1
      · show rZ (M 23) _ _; rw [m23]; exact g2
      rintro v ν ⟨rfl, d, d', rfl, k1, k2⟩
      obtain ⟨z1, z2, z3⟩ := tZ_flw hd hb h4
      have has := arcs_rsd (X := X) (c := c32 X) (z := tZ X a b (tN X a b)) (c32_bd hd)
      refine ⟨rfl, (r_X3_spread (μ := (va_up (va_up M 22 d) 23 d', μ.2)) (π := tT X b) hd ?_ (pf := rf (c32 X) (tZ X a b (tN X a b))) (pb := rb (c32 X) (tZ X a b (tN X a b))) k1 k2 (rf_bd hd) (rb_bd hd) (fun e he => rsd_ok hd (c32_bd hd) ((has e).mp he)) (fun e he => z3 e ((has e).mp he)) hb).mono ?_⟩
      · exact hcd.kept (fun k h => by show va_up (va_up M 22 d) 23 d' k = _; rw [va_up_ne _ _ (by omega), va_up_ne _ _ (by omega)]; exact hM' k (by omega) (by omega) (by omega) (by omega) (by omega))
      rintro v ν ⟨rfl, c4, rfl, k3⟩
      have k3 : rZ c4 (tU X a b) 10 := k3
      have hkk : ∀ k, k ∉ [3, 22, 23, 24, 25] → ((va_up (va_up (va_up M 22 d) 23 d') 24 c4, μ.2) : aMem).1 k = μ.1 k ∧ ((va_up (va_up (va_up M 22 d) 23 d') 24 c4, μ.2) : aMem).2 k = μ.2 k := fun k h => by
        simp only [List.mem_cons, List.not_mem_nil, or_false, not_or] at h
        refine ⟨?_, rfl⟩
        show va_up (va_up (va_up M 22 d) 23 d') 24 c4 k = _
        rw [va_up_ne _ _ (by omega), va_up_ne _ _ (by omega), va_up_ne _ _ (by omega)]
        exact hM' k (by omega) (by omega) (by omega) (by omega) (by omega)
      refine ⟨rfl, ha, ?_⟩
      show (¬ c4 a = nI 1000000 → _ ∧ _ ∧ (∃ v3 : Int32, some (Value.int ((c2 a + c4 a) / nI 32)) = some (Value.int v3) ∧ some (Value.int v3) = some (Value.int (twoV X a b)) ∧ a_eqx [3, 22, 23, 24, 25] μ (va_up (va_up (va_up M 22 d) 23 d') 24 c4, μ.2))) ∧ (c4 a = nI 1000000 → _)
      rw [z_eqI (c4 a) (nI 1000000), k3 a ha, hB]
      unfold twoV
      rw [if_neg h4]
      refine ⟨fun h5 => ⟨ha, by decide, _, rfl, ?_, hkk⟩, fun h5 => ⟨_, rfl, by rw [if_pos h5], hkk⟩⟩
      rw [if_neg h5]
      have nn := (two_C hd ha hb).2 h4 h5
      have b1 := (hform a).resolve_left h4
      have b2 : tU X a b a = BIG ∨ (-36000 ≤ tU X a b a ∧ tU X a b a ≤ 36000) := bf_bound (fun e he => rsd_ok hd (c32_bd hd) ((has e).mp he)) (fun e he => z3 e ((has e).mp he)) hb 9 a
      have b2 := b2.resolve_left h5
      obtain ⟨n, hn⟩ : ∃ n : Nat, tT X b a + tU X a b a = n := ⟨(tT X b a + tU X a b a).toNat, by omega⟩
      have es : c2 a + c4 a = nI n := by
        have w1 := g3 a ha
        have w2 := k3 a ha
        rw [← Int32.toInt_inj, fb_addI (by omega) (by omega), w1, w2, z_nI (by omega)]; exact hn
      rw [es, pk_div (by omega) (by decide) (by decide), hn]
      rfl
    · unfold twoV; rw [if_pos h4]
    · simp only [List.mem_cons, List.not_mem_nil, or_false, not_or] at h
      exact hk k (by omega) (by omega) (by omega)
  · have e : aTwo X x1 x2 = -3 := by subst h3; simp [aTwo, h1]
    rw [e]; exact ⟨rfl, a_eqx.rf _ _⟩
  · have e : aTwo X x1 x2 = -1 := by simp [aTwo, h1, h2]
    rw [e]; exact ⟨rfl, a_eqx.rf _ _⟩
end TWOC
end
section
/-! ===== labels with a pointer at each place: the pointers lead to the goal; pure ===== -/
def pInv (as : List Arc) (g : Nat) (T : Nat → Int) (c : Nat → Int32) : Prop := ∀ v, T v ≠ BIG → ∃ es, wk as v es g ∧ ∀ e ∈ es, c e.1 = nI e.2.2.2 ∧ e.2.2.1 + T e.2.1 ≤ T e.1 ∧ T e.2.1 ≠ BIG
section PTR
variable {as : List Arc} {g : Nat} {π : Nat → Int}
theorem ptr_mono (hπ : ∀ e ∈ as, π e.1 ≤ e.2.2.1 + π e.2.1) {T : Nat → Int} : ∀ {es : List Arc} {p : Nat}, wk as p es g → (∀ e ∈ es, e.2.2.1 + T e.2.1 ≤ T e.1) → ∀ y ∈ vs p es, T y - π y ≤ T p - π p := by
  intro es
  induction es with
  | nil =>
    intro p _ _ y hy
    have : y = p := by simpa [vs] using hy
    subst this; exact Int.le_refl _
  | cons e es ih =>
    intro p hw hp y hy
    obtain ⟨w1, w2, w3⟩ := hw
    have hy : y ∈ p :: vs e.2.1 es := hy
    rcases List.mem_cons.mp hy with rfl | hy
    · exact Int.le_refl _
    · have h1 := ih w3 (fun e' he' => hp e' (List.mem_cons_of_mem _ he')) y hy
      have h2 := hp e List.mem_cons_self
      have h3 := hπ e w1
      rw [w2] at h2 h3
      omega
theorem pInv_0 {c : Nat → Int32} : pInv as g (lab0 g) c := by
  intro v hv
  unfold lab0 at hv
  by_cases h : v = g
  · exact ⟨[], h, fun e he => by cases he⟩
  · rw [if_neg h] at hv; exact absurd rfl hv
theorem pInv_relax (hπ : ∀ e ∈ as, π e.1 ≤ e.2.2.1 + π e.2.1) {T : Nat → Int} {c : Nat → Int32} (hle : ∀ v, T v ≤ BIG) (h : pInv as g T c) {e : Arc} (he : e ∈ as) (h1 : T e.2.1 ≠ BIG) (h2 : e.2.2.1 + T e.2.1 < T e.1) : pInv as g (upZ T e.1 (e.2.2.1 + T e.2.1)) (upd c e.1 (nI e.2.2.2)) := by
  obtain ⟨eu, w1, w2⟩ := h e.2.1 h1
  have hno : ∀ y ∈ vs e.2.1 eu, y ≠ e.1 := fun y hy hc => by
    have q := ptr_mono hπ w1 (fun e he => (w2 e he).2.1) y hy
    have := hπ e he
    rw [hc] at q
    omega
  have hle' : ∀ v, upZ T e.1 (e.2.2.1 + T e.2.1) v ≤ T v := fun v => by
    unfold upZ; split
    · rename_i q; rw [q]; omega
    · exact Int.le_refl _
  have new : wk as e.1 (e :: eu) g ∧ ∀ a ∈ e :: eu, upd c e.1 (nI e.2.2.2) a.1 = nI a.2.2.2 ∧ a.2.2.1 + upZ T e.1 (e.2.2.1 + T e.2.1) a.2.1 ≤ upZ T e.1 (e.2.2.1 + T e.2.1) a.1 ∧ upZ T e.1 (e.2.2.1 + T e.2.1) a.2.1 ≠ BIG := by
    refine ⟨⟨he, rfl, w1⟩, fun a ha => ?_⟩
    rcases List.mem_cons.mp ha with rfl | ha
    · rw [pk_us, upZ_s, upZ_n _ _ (hno _ (vs_head _ _))]
      exact ⟨rfl, Int.le_refl _, h1⟩
    · obtain ⟨v1, v2, _⟩ := wk_vs w1 a ha
      rw [pk_un (hno _ v1), upZ_n _ _ (hno _ v1), upZ_n _ _ (hno _ v2)]
      exact w2 a ha
  have move : ∀ (es : List Arc) (x : Nat), wk as x es g → (∀ a ∈ es, c a.1 = nI a.2.2.2 ∧ a.2.2.1 + T a.2.1 ≤ T a.1 ∧ T a.2.1 ≠ BIG) → ∃ es', wk as x es' g ∧ ∀ a ∈ es', upd c e.1 (nI e.2.2.2) a.1 = nI a.2.2.2 ∧ a.2.2.1 + upZ T e.1 (e.2.2.1 + T e.2.1) a.2.1 ≤ upZ T e.1 (e.2.2.1 + T e.2.1) a.1 ∧ upZ T e.1 (e.2.2.1 + T e.2.1) a.2.1 ≠ BIG := by
    intro es
    induction es with
    | nil => intro x hw _; exact ⟨[], hw, fun a ha => by cases ha⟩
    | cons a es ih =>
      intro x hw hp
      obtain ⟨a1, a2, a3⟩ := hw
      by_cases hx : x = e.1
      · rw [hx]; exact ⟨_, new⟩
      · obtain ⟨es', b1, b2⟩ := ih _ a3 (fun q hq => hp q (List.mem_cons_of_mem _ hq))
        refine ⟨a :: es', ⟨a1, a2, b1⟩, fun q hq => ?_⟩
        rcases List.mem_cons.mp hq with rfl | hq
        · obtain ⟨c1, c2, c3⟩ := hp q List.mem_cons_self
          have hx : q.1 ≠ e.1 := by rw [a2]; exact hx
          rw [pk_un hx, upZ_n T (k := e.1) (i := q.1) _ hx]
          have l1 := hle' q.2.1
          have l2 := hle q.2.1
          exact ⟨c1, by omega, by omega⟩
        · exact b2 q hq
  intro v hv
  by_cases hx : v = e.1
  · rw [hx]; exact ⟨_, new⟩
  · rw [upZ_n _ _ hx] at hv
    obtain ⟨es, b1, b2⟩ := h v hv
    exact move es v b1 b2
theorem wk_end : ∀ {es : List Arc} {p : Nat}, wk as p es g → g ∈ vs p es
  | [], p, h => by have h : p = g := h
                   subst h; exact vs_head _ _
  | e :: es, p, h => List.mem_cons_of_mem _ (wk_end h.2.2)
theorem wk_suf : ∀ {es : List Arc} {q p : Nat}, p ∈ vs q es → wk as q es g → (vs q es).Nodup → ∃ suf, wk as p suf g ∧ (∀ e ∈ suf, e ∈ es) ∧ (vs p suf).Nodup
  | [], q, p, hp, hw, hn => by
    have : p = q := by simpa [vs] using hp
    subst this
    exact ⟨[], hw, fun e he => he, hn⟩
  | a :: es, q, p, hp, hw, hn => by
    by_cases e : p = q
    · subst e; exact ⟨a :: es, hw, fun e he => he, hn⟩
    · have hp : p ∈ q :: vs a.2.1 es := hp
      have hn : (q :: vs a.2.1 es).Nodup := hn
      rcases List.mem_cons.mp hp with h | h
      · exact absurd h e
      · obtain ⟨suf, s1, s2, s3⟩ := wk_suf h hw.2.2 (List.nodup_cons.mp hn).2
        exact ⟨suf, s1, fun e he => List.mem_cons_of_mem _ (s2 e he), s3⟩
theorem wk_erase : ∀ {es : List Arc} {p : Nat}, wk as p es g → ∃ es', wk as p es' g ∧ (∀ e ∈ es', e ∈ es) ∧ (vs p es').Nodup
  | [], p, h => ⟨[], h, fun e he => he, by show [p].Nodup; simp⟩
  | a :: es, p, h => by
    obtain ⟨es', h1, h2, h3⟩ := wk_erase h.2.2
    by_cases hp : p ∈ vs a.2.1 es'
    · obtain ⟨suf, s1, s2, s3⟩ := wk_suf hp h1 h3
      exact ⟨suf, s1, fun e he => List.mem_cons_of_mem _ (h2 e (s2 e he)), s3⟩
    · refine ⟨a :: es', ⟨h.1, h.2.1, h1⟩, fun e he => ?_, List.nodup_cons.mpr ⟨hp, h3⟩⟩
      rcases List.mem_cons.mp he with rfl | he
      · exact List.mem_cons_self
      · exact List.mem_cons_of_mem _ (h2 e he)
theorem wk_tight {T : Nat → Int} : ∀ {es : List Arc} {p : Nat}, wk as p es g → (∀ e ∈ es, T e.1 = e.2.2.1 + T e.2.1) → T p = cst es + T g
  | [], p, h, _ => by have h : p = g := h
                      subst h; show T p = 0 + T p; omega
  | e :: es, p, h, ht => by
    have h1 := wk_tight h.2.2 (fun q hq => ht q (List.mem_cons_of_mem _ hq))
    have h2 := ht e List.mem_cons_self
    rw [h.2.1] at h2
    show T p = e.2.2.1 + cst es + T g
    omega
end PTR
/-- the reference's arcs: (to, from), the step from one to other first -/
def arcR (X : aX) (c z : Nat → Int) (k : Nat) : List Arc := (if z k = -1 then [] else [(X 2 k, X 1 k, rb c z k, k)]) ++ (if z k = 1 then [] else [(X 1 k, X 2 k, rf c z k, k)])
def arcsR (X : aX) (c z : Nat → Int) : Nat → List Arc
  | 0 => []
  | n + 1 => arcsR X c z n ++ arcR X c z n
theorem arcsR_in {X : aX} {c z : Nat → Int} {e : Arc} : ∀ {n : Nat}, e ∈ arcsR X c z n ↔ ∃ k, k < n ∧ ((z k ≠ 1 ∧ e = (X 1 k, X 2 k, rf c z k, k)) ∨ (z k ≠ -1 ∧ e = (X 2 k, X 1 k, rb c z k, k)))
  | 0 => by
    constructor
    · intro h; cases h
    · rintro ⟨k, h, _⟩; omega
  | n + 1 => by
    have key : e ∈ arcR X c z n ↔ ((z n ≠ 1 ∧ e = (X 1 n, X 2 n, rf c z n, n)) ∨ (z n ≠ -1 ∧ e = (X 2 n, X 1 n, rb c z n, n))) := by
      unfold arcR
      rw [List.mem_append]
      by_cases h1 : z n = -1 <;> by_cases h2 : z n = 1 <;> simp [h1, h2]
      exact Or.comm
    show e ∈ arcsR X c z n ++ arcR X c z n ↔ _
    rw [List.mem_append, arcsR_in, key]
    constructor
    · rintro (⟨k, h1, h2⟩ | h)
      · exact ⟨k, by omega, h2⟩
      · exact ⟨n, by omega, h⟩
    · rintro ⟨k, h1, h2⟩
      by_cases ek : k = n
      · subst ek; exact Or.inr h2
      · exact Or.inl ⟨k, by omega, h2⟩
theorem arcsR_rsd {X : aX} {c z : Nat → Int} (e : Arc) : e ∈ arcsR X c z (X 0 0) ↔ rsd X c z e := arcsR_in
end
section
/-! ===== two, the reference ===== -/
def gN (v : Int) : Nat := if v = -1 then 1 else if v = 1 then 2 else 0
def gR (X : aX) (c : Nat → Int32) (z : Nat → Int) : Prop := ∀ d, d < X 0 0 → c d = nI (gN (z d))
section TWOM
variable {G : aG} {μ : aMem} {X : aX}
theorem r_X7_tryStep {as : List Arc} {g : Nat} {π : Nat → Int} (hA : arcOK as) (hπ : ∀ e ∈ as, π e.1 ≤ e.2.2.1 + π e.2.1) {T : Nat → Int} (hT : rZ (μ.1 50) T 10) (hI : bfI as g T) (hP : pInv as g T (μ.1 53)) {d u v : Nat} {p : Int} {x : Int32} (hx : x.toInt = p) (he : (v, u, p, d) ∈ as) (hu : u < 10) (hv : v < 10) :
    a_Spec G sX7_tryStep [.ref 36, .int (nI d), .int (nI u), .int (nI v), .int x] μ (fun r ν => r = none ∧ ∃ c c', ν = (va_up (va_up μ.1 50 c) 53 c', μ.2) ∧ rZ c (relax T (v, u, p, d)) 10 ∧ pInv as g (relax T (v, u, p, d)) c') := by
  have hbd := bfI_bd hA hI
  have hB : (nI 1000000).toInt = 1000000 := by decide
  have hBB : BIG = 1000000 := rfl
  have e0 : μ = (va_up (va_up μ.1 50 (μ.1 50)) 53 (μ.1 53), μ.2) := by rw [a_self1 μ.1 50, a_self1 μ.1 53]
  have hp := (hA _ he).2.2
  have hp : -4000 ≤ p ∧ p ≤ 4000 := hp
  have bu := hbd u
  have bv := hbd v
  refine w_X7_tryStep_0 _ _ _ _ ?_
  rw [q_in (by omega), q_cl (by omega), q_in (by omega), q_cl (by omega), z_leI (nI 1000000), hB, hT u hu]
  refine ⟨hu, fun h => ?_, fun h => ⟨hu, hv, ?_⟩⟩
  · have h : T u = BIG := by omega
    have e : relax T (v, u, p, d) = T := by unfold relax; exact if_pos h
    rw [e]
    exact ⟨rfl, _, _, e0, hT, hP⟩
  · have h : T u ≠ BIG := by omega
    have ea : (μ.1 50 u + x).toInt = T u + p := by
      have := hT u hu
      rw [fb_addI (by omega) (by omega), this, hx]
    rw [z_leI, ea, hT v hv]
    refine ⟨fun h2 => ?_, fun h2 => ⟨hu, hv, hv, rfl, _, _, rfl, ?_, ?_⟩⟩
    · have e : relax T (v, u, p, d) = T := by unfold relax; rw [if_neg h]; exact if_neg (by show ¬ p + T u < T v; omega)
      rw [e]
      exact ⟨rfl, _, _, e0, hT, hP⟩
    · have e : relax T (v, u, p, d) = upZ T v (p + T u) := by unfold relax; rw [if_neg h]; exact if_pos (by show p + T u < T v; omega)
      rw [e]
      exact rZ_at hT (by rw [ea]; omega)
    · have e : relax T (v, u, p, d) = upZ T v (p + T u) := by unfold relax; rw [if_neg h]; exact if_pos (by show p + T u < T v; omega)
      rw [e]
      exact pInv_relax hπ (fun w => (hI w).1) hP he h (by show p + T u < T v; omega)
/-- the flow is changed along the pointers -/
theorem r_X7_addWay_198 (hd : xD X) (hmd : mD μ X) {as : List Arc} {a : Nat} (ha : a < 10) {c : Nat → Int} {post : aPost} : ∀ {es : List Arc} {z : Nat → Int} {p : Nat} {c52 : Nat → Int32}, p < 10 → zOK X z → (∀ e ∈ es, rsd X c z e) → es.Pairwise (fun x y => y.2.2.2 ≠ x.2.2.2) → wk as p es a → (vs p es).Nodup → (∀ e ∈ es, μ.1 53 e.1 = nI e.2.2.2) → gR X c52 z → (∀ c', gR X c' (aug X z es) → post (some (.int (nI 1))) (va_up μ.1 52 c', μ.2)) →
    a_Runs G sX7_addWay 198 [(0, .ref 36), (1, .int (nI a)), (3, .int (nI p))] [] (va_up μ.1 52 c52, μ.2) post := by
  have hn := hd.1
  intro es
  induction es with
  | nil =>
    intro z p c52 hp hz _ _ hw _ _ hc hpost
    have hw : p = a := hw
    subst hw
    exact w_X7_addWay_198 _ _ ⟨fun _ => ⟨nI_11, hpost _ hc⟩, fun h => absurd rfl h⟩
  | cons e es ih =>
    intro z p c52 hp hz hr hpw hw hnd h53 hc hpost
    obtain ⟨w1, w2, w3⟩ := hw
    have hnd : (p :: vs e.2.1 es).Nodup := hnd
    obtain ⟨n1, n2⟩ := List.nodup_cons.mp hnd
    obtain ⟨p1, p2⟩ := List.pairwise_cons.mp hpw
    have hpa : p ≠ a := fun h => n1 (by rw [h]; exact wk_end w3)
    have hre := hr e List.mem_cons_self
    obtain ⟨r0, r1⟩ := rsd_v hd hre
    have hx := hd.2 _ r0
    have e53 : ((va_up μ.1 52 c52, μ.2) : aMem).1 53 p = nI e.2.2.2 := by rw [← w2]; exact h53 e List.mem_cons_self
    have e52 : ((va_up μ.1 52 c52, μ.2) : aMem).1 52 = c52 := rfl
    have e37 : ((va_up μ.1 52 c52, μ.2) : aMem).1 37 e.2.2.2 = nI (X 1 e.2.2.2) := hmd.2.1 _ r0
    have hq : e.2.1 < 10 := by rcases r1 with ⟨_, _, _, h, _⟩ | ⟨_, _, _, h, _⟩ <;> omega
    refine w_X7_addWay_198 _ _ ⟨fun h => absurd h (by rw [q_eq (by omega) (by omega)]; exact hpa), fun _ => ?_⟩
    rw [q_in (by omega), q_cl (by omega), e53]
    refine ⟨hp, r_X7_across (μ := (va_up μ.1 52 c52, μ.2)) hd hmd r0 (by omega) _ ⟨_, rfl, ?_⟩⟩
    have hor : X 1 e.2.2.2 = p ∨ X 2 e.2.2.2 = p := by rw [← w2]; omega
    have hac : acr X e.2.2.2 p = e.2.1 := by
      unfold acr; rw [← w2]
      rcases r1 with ⟨_, _, h, h', _⟩ | ⟨_, _, h, h', _⟩
      · rw [if_pos h.symm, h']
      · rw [if_neg (by omega), h']
    rw [if_pos hor, hac, q_in (by omega), q_cl (by omega), e52, e37, hc _ r0, q_le0 (by unfold gN; split <;> (try split) <;> omega), q_eq (by omega) (by omega)]
    have em : ∀ f, ((va_up (va_up μ.1 52 c52) 52 f, μ.2) : aMem) = (va_up μ.1 52 f, μ.2) := fun f => by rw [bx_uu]
    have hzd := hz _ r0
    have go : ∀ x : Int32, x = nI (gN (z e.2.2.2 + dlt X e)) → a_Runs G sX7_addWay 198 [(0, .ref 36), (1, .int (nI a)), (3, .int (nI e.2.1))] [] (va_up (va_up μ.1 52 c52) 52 (upd c52 e.2.2.2 x), μ.2) post := fun x hxx => by
      rw [em]
      refine ih (z := aug1 X z e) hq (push hd hz hre).1 (fun e' he' => rsd_cg (aug1_n (p1 e' he')) (hr e' (List.mem_cons_of_mem _ he'))) p2 w3 n2 (fun e' he' => h53 e' (List.mem_cons_of_mem _ he')) (fun d hdd => ?_) hpost
      by_cases ed : d = e.2.2.2
      · rw [ed, pk_us, aug1_s]; exact hxx
      · rw [pk_un ed, aug1_n ed]; exact hc d hdd
    refine ⟨by omega, fun h => ⟨by omega, fun h2 => ⟨by omega, go _ ?_⟩, fun h2 => ⟨by omega, go _ ?_⟩⟩, fun h => ⟨by omega, go _ ?_⟩⟩
    · have z0 : z e.2.2.2 = 0 := by unfold gN at h; rcases hzd with q | q | q <;> rw [q] at h <;> simp at h ⊢ <;> exact q
      rcases r1 with ⟨_, h3, h4, h5, _⟩ | ⟨_, h3, h4, h5, _⟩
      · rw [z0, h3]; rfl
      · exact absurd h5 h2
    · have z0 : z e.2.2.2 = 0 := by unfold gN at h; rcases hzd with q | q | q <;> rw [q] at h <;> simp at h ⊢ <;> exact q
      rcases r1 with ⟨_, h3, h4, h5, _⟩ | ⟨_, h3, h4, h5, _⟩
      · omega
      · rw [z0, h3]; rfl
    · have zn : z e.2.2.2 + dlt X e = 0 := by
        have : z e.2.2.2 ≠ 0 := fun q => h (by rw [q]; rfl)
        rcases r1 with ⟨h2, h3, _⟩ | ⟨h2, h3, _⟩ <;> omega
      rw [zn]; rfl
end TWOM
end
section
section ADDWAY
variable {G : aG} {μ : aMem} {X : aX}
def raT (X : aX) (z : Nat → Int) (a : Nat) : Nat → Int := rnds (arcsR X (lenZ X) z (X 0 0)) 10 (lab0 a)
theorem r_X7_addWay (hd : xD X) (hmd : mD μ X) {z : Nat → Int} (hz : zOK X z) (h52 : gR X (μ.1 52) z) {π : Nat → Int} (hπ0 : potO X (lenZ X) z π) {a b : Nat} (ha : a < 10) (hb : b < 10) :
    a_Spec G sX7_addWay [.ref 36, .int (nI a), .int (nI b)] μ (fun v ν => ∃ c50 c53 c52, ν = (va_up (va_up (va_up μ.1 50 c50) 53 c53) 52 c52, μ.2) ∧ ((v = some (.int (nI 0)) ∧ raT X z a b = BIG) ∨ (v = some (.int (nI 1)) ∧ raT X z a b ≠ BIG ∧ ∃ es, (∀ e ∈ es, rsd X (lenZ X) z e) ∧ es.Pairwise (fun x y => y.2.2.2 ≠ x.2.2.2) ∧ wk (arcsR X (lenZ X) z (X 0 0)) b es a ∧ (∀ e ∈ es, raT X z a e.1 = e.2.2.1 + raT X z a e.2.1) ∧ gR X c52 (aug X z es)))) := by
  have hn := hd.1
  obtain ⟨c0, c1, c2, c3, -⟩ := id hmd
  have hA : arcOK (arcsR X (lenZ X) z (X 0 0)) := fun e he => rsd_ok hd (lenZ_bd hd) ((arcsR_rsd e).mp he)
  have hπ : ∀ e ∈ arcsR X (lenZ X) z (X 0 0), π e.1 ≤ e.2.2.1 + π e.2.1 := fun e he => hπ0 e ((arcsR_rsd e).mp he)
  have hsub : ∀ i, i ≤ X 0 0 → ∀ e ∈ arcsR X (lenZ X) z i, e ∈ arcsR X (lenZ X) z (X 0 0) := fun i hi e he => by
    obtain ⟨k, k1, k2⟩ := arcsR_in.mp he
    exact arcsR_in.mpr ⟨k, by omega, k2⟩
  have hI := bfI_rnds hA hπ ha
  have hBB : BIG = 1000000 := rfl
  have hB : (nI 1000000).toInt = 1000000 := by decide
  generalize hpo : (fun (v : Option Value) (ν : aMem) => ∃ c50 c53 c52, ν = (va_up (va_up (va_up μ.1 50 c50) 53 c53) 52 c52, μ.2) ∧ ((v = some (.int (nI 0)) ∧ raT X z a b = BIG) ∨ (v = some (.int (nI 1)) ∧ raT X z a b ≠ BIG ∧ ∃ es, (∀ e ∈ es, rsd X (lenZ X) z e) ∧ es.Pairwise (fun x y => y.2.2.2 ≠ x.2.2.2) ∧ wk (arcsR X (lenZ X) z (X 0 0)) b es a ∧ (∀ e ∈ es, raT X z a e.1 = e.2.2.1 + raT X z a e.2.1) ∧ gR X c52 (aug X z es)))) = post
  refine w_X7_addWay_0 _ _ ?_
  have main := a_for (fun i (c : Nat → Int32) => a_Runs G sX7_addWay 2 [(0, .ref 36), (1, .int (nI a)), (2, .int (nI b)), (3, .int (nI i))] [] (va_up μ.1 50 c, μ.2) post) (fun i c => ∀ k, k < i → (c k).toInt = lab0 a k) 10 ?_ ?_ 0 (μ.1 50) (by omega) (fun k h => by omega)
  · rw [a_self μ 50]; exact main
  · intro c hc
    refine w_X7_addWay_2 _ _ _ ⟨fun _ => ?_, fun h => absurd (by rw [q_le] <;> omega) h⟩
    have main := a_for (fun r (s : (Nat → Int32) × (Nat → Int32)) => a_Runs G sX7_addWay 33 [(0, .ref 36), (1, .int (nI a)), (2, .int (nI b)), (3, .int (nI r))] [] (va_up (va_up μ.1 50 s.1) 53 s.2, μ.2) post) (fun r s => rZ s.1 (rnds (arcsR X (lenZ X) z (X 0 0)) r (lab0 a)) 10 ∧ pInv (arcsR X (lenZ X) z (X 0 0)) a (rnds (arcsR X (lenZ X) z (X 0 0)) r (lab0 a)) s.2) 10 ?_ ?_ 0 (c, μ.1 53) (by omega) ⟨fun i hi => hc i hi, pInv_0⟩
    · have e0 : ((va_up μ.1 50 c, μ.2) : aMem) = (va_up (va_up μ.1 50 c) 53 (μ.1 53), μ.2) := by
        have : va_up (va_up μ.1 50 c) 53 (μ.1 53) = va_up μ.1 50 c := by
          have := a_self1 (va_up μ.1 50 c) 53
          rw [va_up_ne μ.1 c (by decide : 53 ≠ 50)] at this; exact this
        rw [this]
      rw [e0]; exact main
    · rintro ⟨c50, c53⟩ ⟨g1, g2⟩
      have g1 : rZ c50 (raT X z a) 10 := g1
      have g2 : pInv (arcsR X (lenZ X) z (X 0 0)) a (raT X z a) c53 := g2
      have bb : raT X z a b = BIG ∨ (-36000 ≤ raT X z a b ∧ raT X z a b ≤ 36000) := bf_bound hA hπ ha 10 b
      refine w_X7_addWay_33 _ _ _ ⟨fun _ => ?_, fun h => absurd (by rw [q_le] <;> omega) h⟩
      rw [q_in (by omega), q_cl (by omega)]
      refine ⟨hb, ?_⟩
      show (c50 b < nI 1000000 → _) ∧ (¬ c50 b < nI 1000000 → _)
      rw [z_ltI, g1 b hb, hB]
      refine ⟨fun h => ?_, fun h => ⟨nI_00, ?_⟩⟩
      · have h : raT X z a b ≠ BIG := by omega
        obtain ⟨es0, w1, w2⟩ := g2 b h
        obtain ⟨es, s1, s2, s3⟩ := wk_erase w1
        have hr : ∀ e ∈ es, rsd X (lenZ X) z e := fun e he => (arcsR_rsd e).mp (wk_vs s1 e he).2.2
        have hpw := simple_ducts hd (fun e he => (arcsR_rsd e).mp he) s1 s3
        have ht : ∀ e ∈ es, raT X z a e.1 = e.2.2.1 + raT X z a e.2.1 := fun e he => by
          obtain ⟨_, q2, q3⟩ := w2 e (s2 e he)
          have f := bf_fix hA hπ ha (k := 10) (by decide) (by decide) e (wk_vs s1 e he).2.2 q3
          have f : raT X z a e.1 ≤ e.2.2.1 + raT X z a e.2.1 := f
          omega
        have e52 : (va_up (va_up μ.1 50 c50) 53 c53) = va_up (va_up (va_up μ.1 50 c50) 53 c53) 52 (μ.1 52) := (a_self1 (va_up (va_up μ.1 50 c50) 53 c53) 52).symm
        rw [e52]
        refine r_X7_addWay_198 (μ := (va_up (va_up μ.1 50 c50) 53 c53, μ.2)) hd hmd ha (c := lenZ X) hb hz hr hpw s1 s3 (fun e he => (w2 e (s2 e he)).1) h52 (fun c' hc' => ?_)
        rw [← hpo]
        exact ⟨c50, c53, c', rfl, Or.inr ⟨rfl, h, es, hr, hpw, s1, ht, hc'⟩⟩
      · rw [← hpo]
        exact ⟨c50, c53, μ.1 52, by rw [show va_up (va_up (va_up μ.1 50 c50) 53 c53) 52 (μ.1 52) = va_up (va_up μ.1 50 c50) 53 c53 from a_self1 (va_up (va_up μ.1 50 c50) 53 c53) 52], Or.inl ⟨rfl, by omega⟩⟩
    · rintro r ⟨c50, c53⟩ hr ⟨g1, g2⟩ ih
      have g1 : rZ c50 (rnds (arcsR X (lenZ X) z (X 0 0)) r (lab0 a)) 10 := g1
      have g2 : pInv (arcsR X (lenZ X) z (X 0 0)) a (rnds (arcsR X (lenZ X) z (X 0 0)) r (lab0 a)) c53 := g2
      refine w_X7_addWay_33 _ _ _ ⟨fun h => ?_, fun _ => ?_⟩
      · rw [q_le (by omega) (by omega)] at h; omega
      generalize hT0 : rnds (arcsR X (lenZ X) z (X 0 0)) r (lab0 a) = T0 at g1 g2
      have hI0 : bfI (arcsR X (lenZ X) z (X 0 0)) a T0 := by rw [← hT0]; exact hI r
      refine a_for (fun i (s : (Nat → Int32) × (Nat → Int32)) => a_Runs G sX7_addWay 42 [(0, .ref 36), (1, .int (nI a)), (2, .int (nI b)), (3, .int (nI r)), (4, .int (nI i))] [] (va_up (va_up μ.1 50 s.1) 53 s.2, μ.2) post) (fun i s => rZ s.1 ((arcsR X (lenZ X) z i).foldl relax T0) 10 ∧ pInv (arcsR X (lenZ X) z (X 0 0)) a ((arcsR X (lenZ X) z i).foldl relax T0) s.2) (X 0 0) ?_ ?_ 0 (c50, c53) (by omega) ⟨g1, g2⟩
      · rintro ⟨d50, d53⟩ ⟨k1, k2⟩
        refine w_X7_addWay_42 _ _ _ _ ⟨fun _ => ?_, fun h => absurd (by show μ.1 36 0 ≤ _; rw [c0, q_le] <;> omega) h⟩
        rw [nI_add]
        refine ih (d50, d53) ?_
        show rZ d50 (rnd (arcsR X (lenZ X) z (X 0 0)) (rnds (arcsR X (lenZ X) z (X 0 0)) r (lab0 a))) 10 ∧ pInv _ a (rnd (arcsR X (lenZ X) z (X 0 0)) (rnds (arcsR X (lenZ X) z (X 0 0)) r (lab0 a))) d53
        rw [hT0]; exact ⟨k1, k2⟩
      · rintro i ⟨d50, d53⟩ hi ⟨k1, k2⟩ ih2
        have hIi := bfI_fold hA hπ (arcsR X (lenZ X) z i) (hsub i (by omega)) hI0
        generalize hTi : (arcsR X (lenZ X) z i).foldl relax T0 = Ti at k1 k2 hIi
        have hnext : (arcsR X (lenZ X) z (i + 1)).foldl relax T0 = (arcR X (lenZ X) z i).foldl relax Ti := by
          show (arcsR X (lenZ X) z i ++ arcR X (lenZ X) z i).foldl relax T0 = _
          rw [List.foldl_append, hTi]
        rw [hnext] at ih2
        have hl := hd.2 i hi
        have e52 : ∀ d50 d53, ((va_up (va_up μ.1 50 d50) 53 d53, μ.2) : aMem).1 52 i = nI (gN (z i)) := fun _ _ => h52 i hi
        have e37 : ∀ d50 d53, ((va_up (va_up μ.1 50 d50) 53 d53, μ.2) : aMem).1 37 i = nI (X 1 i) := fun _ _ => c1 i hi
        have e38 : ∀ d50 d53, ((va_up (va_up μ.1 50 d50) 53 d53, μ.2) : aMem).1 38 i = nI (X 2 i) := fun _ _ => c2 i hi
        have e39 : ∀ d50 d53, ((va_up (va_up μ.1 50 d50) 53 d53, μ.2) : aMem).1 39 i = nI (X 3 i) := fun _ _ => c3 i hi
        have em : ∀ c c' : Nat → Int32, ((va_up (va_up (va_up (va_up μ.1 50 d50) 53 d53) 50 c) 53 c', μ.2) : aMem) = (va_up (va_up μ.1 50 c) 53 c', μ.2) := fun c c' => by rw [va_up4]
        have zp : (nI (X 3 i)).toInt = lenZ X i := z_nI (by omega)
        have zm : (-(nI (X 3 i))).toInt = - lenZ X i := by rw [fb_negI (by rw [zp]; unfold lenZ; omega), zp]
        refine w_X7_addWay_42 _ _ _ _ ⟨fun h => ?_, fun _ => ?_⟩
        · have h : μ.1 36 0 ≤ nI i := h
          rw [c0, q_le (by omega) (by omega)] at h; omega
        rw [q_in (by omega), q_cl (by omega), e52, e37, e38, e39, nI_add]
        have vi : i < 16 := by omega
        have n12 : ¬ nI 1 = nI 2 := by decide
        have n01 : ¬ nI 0 = nI 1 := by decide
        have n02 : ¬ nI 0 = nI 2 := by decide
        have n21 : ¬ nI 2 = nI 1 := by decide
        refine ⟨vi, ?_⟩
        rcases hz i hi with hzi | hzi | hzi
        · have eg : gN (z i) = 1 := by rw [hzi]; rfl
          have ea : arcR X (lenZ X) z i = [(X 1 i, X 2 i, - lenZ X i, i)] := by unfold arcR rf; rw [hzi]; simp
          have hin : (X 1 i, X 2 i, - lenZ X i, i) ∈ arcsR X (lenZ X) z (X 0 0) := arcsR_in.mpr ⟨i, hi, Or.inl ⟨by rw [hzi]; decide, by unfold rf; rw [hzi]; simp⟩⟩
          rw [ea] at ih2
          rw [eg]
          refine ⟨fun _ => ⟨vi, fun h => absurd h n12, fun _ => ⟨vi, vi, vi, fun h => absurd rfl h, fun _ => ⟨vi, ?_⟩⟩⟩, fun h => absurd rfl h⟩
          refine (r_X7_tryStep (μ := (va_up (va_up μ.1 50 d50) 53 d53, μ.2)) hA hπ k1 hIi k2 zm hin (by omega) (by omega)).mono ?_
          rintro v ν ⟨rfl, c, c', rfl, j1, j2⟩
          rw [em]
          exact ⟨rfl, ih2 (c, c') ⟨j1, j2⟩⟩
        · have eg : gN (z i) = 0 := by rw [hzi]; rfl
          have ea : arcR X (lenZ X) z i = [(X 2 i, X 1 i, lenZ X i, i), (X 1 i, X 2 i, lenZ X i, i)] := by unfold arcR rf rb; rw [hzi]; simp
          have hin : (X 1 i, X 2 i, lenZ X i, i) ∈ arcsR X (lenZ X) z (X 0 0) := arcsR_in.mpr ⟨i, hi, Or.inl ⟨by rw [hzi]; decide, by unfold rf; rw [hzi]; simp⟩⟩
          have hin2 : (X 2 i, X 1 i, lenZ X i, i) ∈ arcsR X (lenZ X) z (X 0 0) := arcsR_in.mpr ⟨i, hi, Or.inr ⟨by rw [hzi]; decide, by unfold rb; rw [hzi]; simp⟩⟩
          rw [ea] at ih2
          rw [eg]
          refine ⟨fun h => absurd h n01, fun _ => ⟨vi, vi, vi, fun _ => ⟨vi, ?_⟩, fun h => absurd h n02⟩⟩
          refine (r_X7_tryStep (μ := (va_up (va_up μ.1 50 d50) 53 d53, μ.2)) hA hπ k1 hIi k2 zp hin2 (by omega) (by omega)).mono ?_
          rintro v ν ⟨rfl, c, c', rfl, j1, j2⟩
          rw [em, e52, eg, e37, e38, e39]
          refine ⟨rfl, vi, fun h => absurd h n02, fun _ => ⟨vi, vi, vi, fun _ => ⟨vi, ?_⟩, fun h => absurd h n01⟩⟩
          refine (r_X7_tryStep (μ := (va_up (va_up μ.1 50 c) 53 c', μ.2)) hA hπ j1 (bfI_relax hA hπ hIi hin2) j2 zp hin (by omega) (by omega)).mono ?_
          rintro v ν ⟨rfl, d, d', rfl, j3, j4⟩
          have em2 : ((va_up (va_up (va_up (va_up μ.1 50 c) 53 c') 50 d) 53 d', μ.2) : aMem) = (va_up (va_up μ.1 50 d) 53 d', μ.2) := by rw [va_up4]
          rw [em2]
          exact ⟨rfl, ih2 (d, d') ⟨j3, j4⟩⟩
        · have eg : gN (z i) = 2 := by rw [hzi]; rfl
          have ea : arcR X (lenZ X) z i = [(X 2 i, X 1 i, - lenZ X i, i)] := by unfold arcR rb; rw [hzi]; simp
          have hin : (X 2 i, X 1 i, - lenZ X i, i) ∈ arcsR X (lenZ X) z (X 0 0) := arcsR_in.mpr ⟨i, hi, Or.inr ⟨by rw [hzi]; decide, by unfold rb; rw [hzi]; simp⟩⟩
          rw [ea] at ih2
          rw [eg]
          refine ⟨fun h => absurd h n21, fun _ => ⟨vi, vi, vi, fun h => absurd rfl h, fun _ => ⟨vi, ?_⟩⟩⟩
          refine (r_X7_tryStep (μ := (va_up (va_up μ.1 50 d50) 53 d53, μ.2)) hA hπ k1 hIi k2 zm hin (by omega) (by omega)).mono ?_
          rintro v ν ⟨rfl, c, c', rfl, j1, j2⟩
          rw [em, e52, eg]
          exact ⟨rfl, vi, fun _ => ih2 (c, c') ⟨j1, j2⟩, fun h => absurd rfl h⟩
  · rintro i c hi hc ih
    have e50 : ((va_up μ.1 50 c, μ.2) : aMem).1 50 = c := rfl
    refine w_X7_addWay_2 _ _ _ ⟨fun h => ?_, fun _ => ?_⟩
    · rw [q_le (by omega) (by omega)] at h; omega
    rw [q_eq (by omega) (by omega), q_in (by omega), q_cl (by omega), e50, nI_add]
    have em : ∀ f, ((va_up (va_up μ.1 50 c) 50 f, μ.2) : aMem) = (va_up μ.1 50 f, μ.2) := fun f => by rw [bx_uu]
    refine ⟨fun h => ⟨hi, ?_⟩, fun h => ⟨hi, ?_⟩⟩
    · show a_Runs G sX7_addWay 2 _ [] (va_up (va_up μ.1 50 c) 50 _, μ.2) post
      rw [em]
      refine ih _ (fun k hk => ?_)
      by_cases ek : k = i
      · rw [ek, pk_us]; unfold lab0; rw [if_neg h]; rfl
      · rw [pk_un ek]; exact hc k (by omega)
    · show a_Runs G sX7_addWay 2 _ [] (va_up (va_up μ.1 50 c) 50 _, μ.2) post
      rw [em]
      refine ih _ (fun k hk => ?_)
      by_cases ek : k = i
      · rw [ek, pk_us]; unfold lab0; rw [if_pos h]; rfl
      · rw [pk_un ek]; exact hc k (by omega)
end ADDWAY
end
section
section MTWO
variable {G : aG} {μ : aMem} {X : aX}
theorem pot_00 (hd : xD X) : potO X (lenZ X) (fun _ => 0) (fun _ => 0) := by
  intro e he
  obtain ⟨d, hdd, ⟨_, rfl⟩ | ⟨_, rfl⟩⟩ := he
  · have := lenZ_bd hd d hdd
    show (0 : Int) ≤ lenZ X d + 0
    omega
  · have := lenZ_bd hd d hdd
    show (0 : Int) ≤ lenZ X d + 0
    omega
theorem raT_nn (hd : xD X) {a : Nat} (ha : a < 10) (v : Nat) : 0 ≤ raT X (fun _ => 0) a v := by
  have hA : arcOK (arcsR X (lenZ X) (fun _ => 0) (X 0 0)) := fun e he => rsd_ok hd (lenZ_bd hd) ((arcsR_rsd e).mp he)
  have hπ : ∀ e ∈ arcsR X (lenZ X) (fun _ => 0) (X 0 0), (fun _ => (0 : Int)) e.1 ≤ e.2.2.1 + (fun _ => (0 : Int)) e.2.1 := fun e he => pot_00 hd e ((arcsR_rsd e).mp he)
  have hI := bfI_rnds (π := fun _ => 0) hA hπ ha 10 v
  by_cases h : raT X (fun _ => 0) a v = BIG
  · rw [h]; decide
  · obtain ⟨-, es, w1, w2, -⟩ := hI.2 h
    have := wk_pot (π := fun _ => 0) hπ w1
    have w2 : cst es = raT X (fun _ => 0) a v := w2
    omega
theorem raT_pot (hd : xD X) {a : Nat} (ha : a < 10) : potO X (lenZ X) (fun _ => 0) (raT X (fun _ => 0) a) := by
  have hA : arcOK (arcsR X (lenZ X) (fun _ => 0) (X 0 0)) := fun e he => rsd_ok hd (lenZ_bd hd) ((arcsR_rsd e).mp he)
  have hπ : ∀ e ∈ arcsR X (lenZ X) (fun _ => 0) (X 0 0), (fun _ => (0 : Int)) e.1 ≤ e.2.2.1 + (fun _ => (0 : Int)) e.2.1 := fun e he => pot_00 hd e ((arcsR_rsd e).mp he)
  intro e he
  have f := bf_fix (π := fun _ => 0) hA hπ ha (k := 10) (by decide) (by decide) e ((arcsR_rsd e).mpr he)
  have f : raT X (fun _ => 0) a e.2.1 ≠ BIG → raT X (fun _ => 0) a e.1 ≤ e.2.2.1 + raT X (fun _ => 0) a e.2.1 := f
  have hl : raT X (fun _ => 0) a e.1 ≤ BIG := (bfI_rnds (π := fun _ => 0) hA hπ ha 10 e.1).1
  have p0 := pot_00 hd e he
  have p0 : (0 : Int) ≤ e.2.2.1 + 0 := p0
  by_cases h : raT X (fun _ => 0) a e.2.1 = BIG
  · omega
  · exact f h
theorem gN_0 {v : Int} (h : v = -1 ∨ v = 0 ∨ v = 1) : gN v = 0 ↔ v * v = 0 := by
  rcases h with rfl | rfl | rfl <;> decide
theorem m_two (hd : xD X) (hmd : mD μ X) (x1 x2 : Int32) : a_Spec G sX7_two [.ref 36, .int x1, .int x2] μ (fun v ν => v = some (.int (aTwo X x1 x2)) ∧ a_eqx [50, 52, 53] μ ν) := by
  have hn := hd.1
  refine w_X7_two_0 _ _ (r_X7_isPlace _ _ ⟨_, rfl, br_b (fun h1 => ?_) (fun h1 => r_X7_isPlace _ _ ⟨_, rfl, br_n (fun h2 => br_d (fun h3 => ?_) (fun h3 => ?_)) (fun h2 => ?_)⟩)⟩)
  · have e : aTwo X x1 x2 = -1 := by simp [aTwo, h1]
    rw [e]; exact ⟨rfl, a_eqx.rf _ _⟩
  · have e : aTwo X x1 x2 = twoV X x1.toNatClampNeg x2.toNatClampNeg := by simp [aTwo, h1, h2, h3]
    rw [e]
    obtain ⟨e1, -, b1⟩ := inB_cl (by decide) (by decide) h1
    obtain ⟨e2, -, b2⟩ := inB_cl (by decide) (by decide) h2
    generalize x1.toNatClampNeg = a at *
    generalize x2.toNatClampNeg = b at *
    subst e1
    subst e2
    have ha : a < 10 := by omega
    have hb : b < 10 := by omega
    have hC := (two_C hd ha hb).1
    generalize hpo : (fun (v : Option Value) (ν : aMem) => v = some (.int (twoV X a b)) ∧ a_eqx [50, 52, 53] μ ν) = post
    have hpost : ∀ (r : Int32) (f g h : Nat → Int32), is2 X b a r → post (some (.int r)) (va_up (va_up (va_up μ.1 50 f) 53 g) 52 h, μ.2) := fun r f g h hr => by
      rw [← hpo, is2_u hC (is2_neg hr)]
      refine ⟨rfl, fun k hk => ⟨?_, rfl⟩⟩
      simp only [List.mem_cons, List.not_mem_nil, or_false, not_or] at hk
      show va_up (va_up (va_up μ.1 50 f) 53 g) 52 h k = _
      rw [va_up_ne _ _ (by omega), va_up_ne _ _ (by omega), va_up_ne _ _ (by omega)]
    clear hpo
    have main := a_for (fun i (c : Nat → Int32) => a_Runs G sX7_two 26 [(0, .ref 36), (1, .int (nI a)), (2, .int (nI b)), (3, .int (nI i))] [] (va_up μ.1 52 c, μ.2) post) (fun i c => ∀ k, k < i → c k = nI 0) 16 ?_ ?_ 0 (μ.1 52) (by omega) (fun k h => by omega)
    · rw [a_self μ 52]; exact main
    · intro c hc
      refine w_X7_two_26 _ _ _ ⟨fun _ => ?_, fun h => absurd (by rw [q_le] <;> omega) h⟩
      refine (r_X7_addWay (μ := (va_up μ.1 52 c, μ.2)) hd hmd (z := fun _ => 0) (flw_0 0 0).1 (fun d hdd => hc d (by omega)) (pot_00 hd) ha hb).mono ?_
      rintro v ν ⟨c50, c53, c52, rfl, hcase⟩
      have em : ∀ f g h : Nat → Int32, va_up (va_up (va_up (va_up μ.1 52 c) 50 f) 53 g) 52 h = va_up (va_up (va_up μ.1 50 f) 53 g) 52 h := fun f g h => by
        funext k
        by_cases k1 : k = 52
        · rw [k1, va_up_self, va_up_self]
        · rw [va_up_ne _ _ k1, va_up_ne _ _ k1]
          by_cases k2 : k = 53
          · rw [k2, va_up_self, va_up_self]
          · rw [va_up_ne _ _ k2, va_up_ne _ _ k2]
            by_cases k3 : k = 50
            · rw [k3, va_up_self, va_up_self]
            · rw [va_up_ne _ _ k3, va_up_ne _ _ k3, va_up_ne _ _ k1]
      have em2 : ∀ f g h f' g' h' : Nat → Int32, va_up (va_up (va_up (va_up (va_up (va_up μ.1 50 f) 53 g) 52 h) 50 f') 53 g') 52 h' = va_up (va_up (va_up μ.1 50 f') 53 g') 52 h' := fun f g h f' g' h' => by
        funext k
        by_cases k1 : k = 52
        · rw [k1, va_up_self, va_up_self]
        · rw [va_up_ne _ _ k1, va_up_ne _ _ k1]
          by_cases k2 : k = 53
          · rw [k2, va_up_self, va_up_self]
          · rw [va_up_ne _ _ k2, va_up_ne _ _ k2]
            by_cases k3 : k = 50
            · rw [k3, va_up_self, va_up_self]
            · rw [va_up_ne _ _ k3, va_up_ne _ _ k3, va_up_ne _ _ k1, va_up_ne _ _ k2, va_up_ne _ _ k3]
      show ∃ v1 : Int32, v = some (.int v1) ∧ ((v1 = 0 → post (some (.int (-9))) (va_up (va_up (va_up (va_up μ.1 52 c) 50 c50) 53 c53) 52 c52, μ.2)) ∧ (¬ v1 = 0 → a_Spec G sX7_addWay [.ref 36, .int (nI a), .int (nI b)] (va_up (va_up (va_up (va_up μ.1 52 c) 50 c50) 53 c53) 52 c52, μ.2) _))
      rw [em]
      rcases hcase with ⟨rfl, hT⟩ | ⟨rfl, hT, es, r1, r2, r3, r4, r5⟩
      · refine ⟨_, rfl, fun _ => hpost _ _ _ _ (Or.inl ⟨rfl, fun y hy => ?_⟩), fun h => absurd n00 h⟩
        exact (lower2 hd (lenZ_bd hd) (Or.inl rfl) (flw_0 b a) (arcsR_rsd (X := X) (c := lenZ X) (z := fun _ => 0)) (pot_00 hd) (fun _ => Int.le_refl _) ha (m := 10) (by decide) (by decide) hy).1 hT
      · refine ⟨_, rfl, fun h => absurd h n10, fun _ => ?_⟩
        obtain ⟨y1, y2, y3⟩ := aug_ok hd (flw_0 (X := X) 0 0).1 r1 r2 r3
        have hz1 : flw X (aug X (fun _ => 0) es) 1 b a := ⟨y1, fun π => by rw [y2, (flw_0 (X := X) b a).2]; omega⟩
        have hπ1 := pot_aug hd (fun d hdd => (lenZ_bd hd d hdd).1) (flw_0 (X := X) 0 0).1 (raT_pot hd ha) r1 r2 r4
        generalize aug X (fun _ => 0) es = z1 at *
        refine (r_X7_addWay (μ := (va_up (va_up (va_up μ.1 50 c50) 53 c53) 52 c52, μ.2)) hd hmd (z := z1) y1 (fun d hdd => r5 d hdd) hπ1 ha hb).mono ?_
        rintro v ν ⟨f50, f53, f52, rfl, hcase⟩
        show ∃ v2 : Int32, v = some (.int v2) ∧ ((¬ v2 = 0 → a_Runs G sX7_two 71 [(0, .ref 36), (3, .int (nI 0)), (4, .int (nI 0))] [] (va_up (va_up (va_up (va_up (va_up (va_up μ.1 50 c50) 53 c53) 52 c52) 50 f50) 53 f53) 52 f52, μ.2) post) ∧ (v2 = 0 → post (some (.int (-9))) (va_up (va_up (va_up (va_up (va_up (va_up μ.1 50 c50) 53 c53) 52 c52) 50 f50) 53 f53) 52 f52, μ.2)))
        rw [em2]
        rcases hcase with ⟨rfl, hT1⟩ | ⟨rfl, hT1, es2, s1, s2, s3, s4, s5⟩
        · refine ⟨_, rfl, fun h => absurd n00 h, fun _ => hpost _ _ _ _ (Or.inl ⟨rfl, fun y hy => ?_⟩)⟩
          exact (lower2 hd (lenZ_bd hd) (Or.inr rfl) hz1 (arcsR_rsd (X := X) (c := lenZ X) (z := z1)) hπ1 (raT_nn hd ha) ha (m := 10) (by decide) (by decide) hy).1 hT1
        · refine ⟨_, rfl, fun _ => ?_, fun h => absurd h n10⟩
          obtain ⟨u1, u2, u3⟩ := aug_ok hd y1 s1 s2 s3
          have hz2 : flw X (aug X z1 es2) 2 b a := ⟨u1, fun π => by rw [u2, hz1.2]; omega⟩
          have hcst := wk_tight s3 s4
          have hgoal : raT X z1 a a = 0 := bf_goal (fun e he => rsd_ok hd (lenZ_bd hd) ((arcsR_rsd e).mp he)) (fun e he => hπ1 e ((arcsR_rsd e).mp he)) ha 10 (by decide)
          have hmin : ∀ y', flw X y' 2 b a → fC X (lenZ X) (aug X z1 es2) ≤ fC X (lenZ X) y' := fun y' hy' => by
            have lo := (lower2 hd (lenZ_bd hd) (Or.inr rfl) hz1 (arcsR_rsd (X := X) (c := lenZ X) (z := z1)) hπ1 (raT_nn hd ha) ha (m := 10) (by decide) (by decide) hy').2 rfl
            have lo : fC X (lenZ X) z1 + raT X z1 a b ≤ fC X (lenZ X) y' := lo
            omega
          generalize aug X z1 es2 = z2 at *
          have hsb : ∀ i, i ≤ X 0 0 → 0 ≤ sZ (fun d => lenZ X d * (z2 d * z2 d)) i ∧ sZ (fun d => lenZ X d * (z2 d * z2 d)) i ≤ i * 99 := fun i hi => by
            have q1 := sZ_le (f := fun _ => 0) (g := fun d => lenZ X d * (z2 d * z2 d)) (n := i) (fun d hdd => by
              have := lenZ_bd hd d (by omega)
              show 0 ≤ lenZ X d * (z2 d * z2 d)
              rcases u1 d (by omega) with h | h | h <;> rw [h] <;> omega)
            have q2 := sZ_le (f := fun d => lenZ X d * (z2 d * z2 d)) (g := fun _ => 99) (n := i) (fun d hdd => by
              have := hd.2 d (by omega)
              show (X 3 d : Int) * (z2 d * z2 d) ≤ 99
              rcases u1 d (by omega) with h | h | h <;> rw [h] <;> omega)
            rw [sZ_const] at q1 q2
            omega
          refine a_for (fun i (x : Int32) => a_Runs G sX7_two 71 [(0, .ref 36), (3, .int x), (4, .int (nI i))] [] (va_up (va_up (va_up μ.1 50 f50) 53 f53) 52 f52, μ.2) post) (fun i x => x.toInt = sZ (fun d => lenZ X d * (z2 d * z2 d)) i) (X 0 0) ?_ ?_ 0 (nI 0) (by omega) rfl
          · intro x hx
            refine w_X7_two_71 _ _ ⟨fun _ => ?_, fun h => absurd (by show μ.1 36 0 ≤ _; rw [hmd.1, q_le] <;> omega) h⟩
            refine hpost _ _ _ _ (Or.inr ⟨z2, hz2, ?_, hmin⟩)
            have q := hsb (X 0 0) (Nat.le_refl _)
            have hf : fC X (lenZ X) z2 = sZ (fun d => lenZ X d * (z2 d * z2 d)) (X 0 0) := rfl
            rw [← Int32.toInt_inj, hx, z_nI (by rw [hf]; omega), hf]; omega
          · intro i x hi hx ih
            have q := hsb (i + 1) (by omega)
            have q0 := hsb i (by omega)
            have hs : sZ (fun d => lenZ X d * (z2 d * z2 d)) (i + 1) = sZ (fun d => lenZ X d * (z2 d * z2 d)) i + lenZ X i * (z2 i * z2 i) := rfl
            have hl := hd.2 i hi
            have e52 : ((va_up (va_up (va_up μ.1 50 f50) 53 f53) 52 f52, μ.2) : aMem).1 52 i = nI (gN (z2 i)) := s5 i hi
            have e39 : ((va_up (va_up (va_up μ.1 50 f50) 53 f53) 52 f52, μ.2) : aMem).1 39 i = nI (X 3 i) := hmd.2.2.2.1 i hi
            refine w_X7_two_71 _ _ ⟨fun h => ?_, fun _ => ?_⟩
            · have h : μ.1 36 0 ≤ nI i := h
              rw [hmd.1, q_le (by omega) (by omega)] at h; omega
            rw [q_in (by omega), q_cl (by omega), e52, e39, q_le0 (by unfold gN; split <;> (try split) <;> omega), gN_0 (u1 i hi), nI_add]
            refine ⟨by omega, fun h => ih _ ?_, fun h => ⟨by omega, ih _ ?_⟩⟩
            · rw [h] at hs
              rw [fb_addI (by rw [hx, z_nI (by decide)]; omega) (by rw [hx, z_nI (by decide)]; omega), hx, z_nI (by decide)]; omega
            · have h1 : z2 i * z2 i = 1 := by rcases u1 i hi with q | q | q <;> rw [q] at h ⊢ <;> first | rfl | exact absurd rfl h
              rw [h1] at hs
              have hl3 : lenZ X i = (X 3 i : Int) := rfl
              rw [fb_addI (by rw [hx, z_nI (by omega)]; omega) (by rw [hx, z_nI (by omega)]; omega), hx, z_nI (by omega)]; omega
    · rintro i c hi hc ih
      have e52 : ((va_up μ.1 52 c, μ.2) : aMem).1 52 = c := rfl
      refine w_X7_two_26 _ _ _ ⟨fun h => ?_, fun _ => ?_⟩
      · rw [q_le (by omega) (by omega)] at h; omega
      rw [q_in (by omega), q_cl (by omega), e52, nI_add]
      refine ⟨hi, ?_⟩
      show a_Runs G sX7_two 26 _ [] (va_up (va_up μ.1 52 c) 52 _, μ.2) post
      rw [bx_uu]
      refine ih _ (fun k hk => ?_)
      by_cases ek : k = i
      · rw [ek, pk_us]
      · rw [pk_un ek]; exact hc k (by omega)
  · have e : aTwo X x1 x2 = -3 := by subst h3; simp [aTwo, h1]
    rw [e]; exact ⟨rfl, a_eqx.rf _ _⟩
  · have e : aTwo X x1 x2 = -1 := by simp [aTwo, h1, h2]
    rw [e]; exact ⟨rfl, a_eqx.rf _ _⟩
end MTWO
end
section
/-! ===== the shortest tree of a set, ducts by length: pure, and the class's ===== -/
abbrev kS : Type := (Nat → Nat) × Nat × Nat
def mrg (q : Nat → Nat) (a b : Nat) : Nat → Nat := fun p => if q p = q a then q b else q p
def jn (X : aX) (s : Nat) (q : Nat → Nat) (d : Nat) : Bool := s.testBit (X 1 d) && s.testBit (X 2 d) && decide (q (X 1 d) ≠ q (X 2 d))
def kst (X : aX) (s d : Nat) (σ : kS) : kS := if σ.2.1 = 0 then σ else if jn X s σ.1 d then (mrg σ.1 (X 1 d) (X 2 d), σ.2.1 - 1, σ.2.2 + X 3 d) else σ
def krs (X : aX) (s : Nat) : Nat → kS
  | 0 => (fun p => p, pop s - 1, 0)
  | i + 1 => kst X s (srt (X 3) (X 0 0) i) (krs X s i)
def trV (X : aX) (s : Nat) : Nat := if (krs X s (X 0 0)).2.1 = 0 then (krs X s (X 0 0)).2.2 else 1000000
theorem krs_stop {X : aX} {s i : Nat} (h : (krs X s i).2.1 = 0) : ∀ k, krs X s (i + k) = krs X s i
  | 0 => rfl
  | k + 1 => by
    show kst X s _ (krs X s (i + k)) = _
    rw [krs_stop h k]
    unfold kst; rw [if_pos h]
theorem krs_in {X : aX} (hd : xD X) (s : Nat) : ∀ i, i ≤ X 0 0 → (∀ p, p < 10 → (krs X s i).1 p < 10) ∧ (krs X s i).2.1 ≤ pop s - 1 ∧ (krs X s i).2.2 ≤ 99 * i
  | 0, _ => ⟨fun p hp => hp, Nat.le_refl _, Nat.le_refl _⟩
  | i + 1, h => by
    obtain ⟨h1, h2, h3⟩ := krs_in hd s i (by omega)
    have hl := hd.2 _ (srt_in (X 3) (X 0 0) i (by omega))
    show (∀ p, p < 10 → (kst X s (srt (X 3) (X 0 0) i) (krs X s i)).1 p < 10) ∧ (kst X s (srt (X 3) (X 0 0) i) (krs X s i)).2.1 ≤ _ ∧ (kst X s (srt (X 3) (X 0 0) i) (krs X s i)).2.2 ≤ _
    generalize krs X s i = σ at *
    generalize srt (X 3) (X 0 0) i = d at *
    unfold kst
    split
    · exact ⟨h1, h2, by omega⟩
    · split
      · refine ⟨fun p hp => ?_, by show σ.2.1 - 1 ≤ _; omega, by show σ.2.2 + X 3 d ≤ _; omega⟩
        show mrg σ.1 (X 1 d) (X 2 d) p < 10
        unfold mrg; split
        · exact h1 _ (by omega)
        · exact h1 p hp
      · exact ⟨h1, h2, by omega⟩
theorem trV_le {X : aX} (hd : xD X) (s : Nat) : trV X s ≤ 1000000 ∧ (trV X s < 2000 ∨ trV X s = 1000000) := by
  have := (krs_in hd s (X 0 0) (Nat.le_refl _)).2.2
  have := hd.1
  unfold trV; split <;> omega
theorem pop10 : ∀ s, s < 1024 → pop s ≤ 10 := by decide +kernel
/-- a forest: f leads to the heads q, by at most k steps -/
def frs (f q : Nat → Nat) (k : Nat) : Prop := ∃ D : Nat → Nat, ∀ p, p < 10 → f p < 10 ∧ q p < 10 ∧ D p ≤ k ∧ f (q p) = q p ∧ q (f p) = q p ∧ (f p = p → q p = p ∧ D p = 0) ∧ (f p ≠ p → D (f p) < D p)
theorem frs_0 : frs (fun p => p) (fun p => p) 0 := ⟨fun _ => 0, fun p hp => ⟨hp, hp, Nat.le_refl _, rfl, rfl, fun _ => ⟨rfl, rfl⟩, fun h => absurd rfl h⟩⟩
theorem frs_m {f q : Nat → Nat} {k a b : Nat} (h : frs f q k) (ha : a < 10) (hb : b < 10) (hn : q a ≠ q b) : frs (upN f (q a) (q b)) (mrg q a b) (k + 1) := by
  obtain ⟨D, h⟩ := h
  refine ⟨fun p => if q p = q a then D p + 1 else D p, fun p hp => ?_⟩
  obtain ⟨h1, h2, h3, h4, h5, h6, h7⟩ := h p hp
  obtain ⟨a1, a2, a3, a4, a5, a6, a7⟩ := h a ha
  obtain ⟨b1, b2, b3, b4, b5, b6, b7⟩ := h b hb
  obtain ⟨r1, r2, r3, r4, r5, r6, r7⟩ := h (q a) a2
  obtain ⟨t1, t2, t3, t4, t5, t6, t7⟩ := h (q b) b2
  have ra := r6 a4
  have rb := t6 b4
  unfold mrg
  by_cases hpa : p = q a
  · subst hpa
    rw [upN_s]
    simp only [ra.1, rb.1, if_true, if_neg (Ne.symm hn)]
    refine ⟨b2, b2, by omega, ?_, trivial, fun hc => absurd hc (Ne.symm hn), fun _ => by omega⟩
    rw [upN_n _ _ (Ne.symm hn)]; exact b4
  · rw [upN_n _ _ hpa]
    simp only [h5]
    refine ⟨h1, by split <;> assumption, by split <;> omega, ?_, trivial, fun hc => ?_, fun hc => ?_⟩
    · by_cases e : q p = q a
      · rw [if_pos e, upN_n _ _ (Ne.symm hn)]; exact b4
      · rw [if_neg e, upN_n _ _ e]; exact h4
    · have := h6 hc
      rw [if_neg (by rw [this.1]; exact hpa), if_neg (by rw [this.1]; exact hpa)]; exact this
    · have := h7 hc
      split <;> omega
section TREE
variable {G : aG} {μ : aMem} {X : aX}
theorem r_X4_headOf {f q : Nat → Nat} {k : Nat} (hf : frs f q k) (hk : k ≤ 9) (h26 : rp (μ.1 26) f 10) {p : Nat} (hp : p < 10) : a_Ret G sX4_headOf [.ref 4, .int (nI p)] μ (some (.int (nI (q p)))) μ := by
  intro post hpo
  obtain ⟨D, h⟩ := hf
  refine w_X4_headOf_0 _ ?_
  have main := a_for (fun i (u : Nat) => a_Runs G sX4_headOf 4 [(0, .ref 4), (2, .int (nI u)), (3, .int (nI i))] [] μ post) (fun i u => u < 10 ∧ q u = q p ∧ D u + i ≤ 9) 10 ?_ ?_ 0 p (by omega) ⟨hp, rfl, by have := (h p hp).2.2.1; omega⟩
  · exact main
  · rintro u ⟨_, _, h3⟩; omega
  · rintro i u hi ⟨h1, h2, h3⟩ ih
    obtain ⟨g1, g2, g3, g4, g5, g6, g7⟩ := h u h1
    refine w_X4_headOf_4 _ _ ⟨fun hc => ?_, fun _ => ?_⟩
    · rw [q_le (by omega) (by omega)] at hc; omega
    rw [q_in (by omega), q_cl (by omega), h26 u h1, q_eq (by omega) (by omega), nI_add]
    refine ⟨h1, fun hc => ?_, fun hc => ⟨h1, ih _ ⟨g1, by rw [g5]; exact h2, by have := g7 hc; omega⟩⟩⟩
    have := (g6 hc).1
    rw [← h2, this] at hpo; exact hpo
theorem ends_in {s a b : Nat} (ha : a < 10) (hb : b < 10) : ((2 ^ a ||| 2 ^ b) &&& (s ^^^ (2 ^ 32 - 1)) = 0) ↔ (s.testBit a = true ∧ s.testBit b = true) := by
  constructor
  · intro h
    have h1 := congrArg (fun n => n.testBit a) h
    have h2 := congrArg (fun n => n.testBit b) h
    simp only [Nat.testBit_and, Nat.testBit_or, Nat.testBit_xor, Nat.testBit_two_pow_sub_one, Nat.testBit_two_pow, Nat.zero_testBit] at h1 h2
    have a32 : a < 32 := by omega
    have b32 : b < 32 := by omega
    simp [a32] at h1
    simp [b32] at h2
    exact ⟨h1, h2⟩
  · rintro ⟨h1, h2⟩
    refine Nat.eq_of_testBit_eq (fun i => ?_)
    simp only [Nat.testBit_and, Nat.testBit_or, Nat.testBit_xor, Nat.testBit_two_pow_sub_one, Nat.testBit_two_pow, Nat.zero_testBit]
    by_cases ea : a = i
    · subst ea
      have a32 : a < 32 := by omega
      simp [h1, a32]
    · by_cases eb : b = i
      · subst eb
        have b32 : b < 32 := by omega
        simp [h2, b32]
      · simp [ea, eb]
theorem r_X4_joins (hd : xD X) (hcd : cD μ X) {f q : Nat → Nat} {k : Nat} (hf : frs f q k) (hk : k ≤ 9) (h26 : rp (μ.1 26) f 10) {d s : Nat} (hdd : d < X 0 0) (hs : s < 1024) :
    a_Spec G sX4_joins [.ref 4, .int (nI d), .int (nI s)] μ (fun v ν => v = some (.int (bI (jn X s q d))) ∧ ∃ c f', ν = (va_up μ.1 26 c, μ.2) ∧ rp c f' 10 ∧ (jn X s q d = false → frs f' q k) ∧ (jn X s q d = true → frs f' (mrg q (X 1 d) (X 2 d)) (k + 1))) := by
  have hn := hd.1
  have hl := hd.2 d hdd
  obtain ⟨D, hD⟩ := id hf
  have qa := (hD _ hl.1)
  have qb := (hD _ hl.2.1)
  refine w_X4_joins_0 _ _ ?_
  have e9 : μ.1 9 d = nI (2 ^ X 1 d ||| 2 ^ X 2 d) := hcd.2.2.2.1 d hdd
  have em1 : (-1 : Int32) = nI (2 ^ 32 - 1) := by decide
  have hlt : (2 ^ X 1 d ||| 2 ^ X 2 d) < 2 ^ 10 := Nat.or_lt_two_pow (Nat.pow_lt_pow_right (by decide) (by omega)) (Nat.pow_lt_pow_right (by decide) (by omega))
  have hlt2 : (2 ^ X 1 d ||| 2 ^ X 2 d) &&& (s ^^^ (2 ^ 32 - 1)) < 2 ^ 10 := Nat.lt_of_le_of_lt Nat.and_le_left hlt
  rw [q_in (by omega), q_cl (by omega), e9, em1, nx_xor, fa_and, q_e0 (by omega), ends_in hl.1 hl.2.1, hcd.2.1 d hdd]
  refine ⟨by omega, fun h => ⟨by omega, ?_⟩, fun h => ⟨nI_00, ?_⟩⟩
  · refine r_X4_headOf hf hk h26 hl.1 _ ⟨_, rfl, by omega, ?_⟩
    rw [hcd.2.2.1 d hdd]
    refine r_X4_headOf hf hk h26 hl.2.1 _ ⟨_, rfl, ?_⟩
    rw [q_in (by omega), q_cl (by omega), q_eq (by omega) (by omega)]
    refine ⟨by omega, fun hc => ⟨nI_00, ?_⟩, fun hc => ⟨nI_11, ?_⟩⟩
    · have ej : jn X s q d = false := by unfold jn; rw [h.1, h.2]; simpa using hc
      rw [ej]
      refine ⟨rfl, _, f, rfl, fun i hi => ?_, fun _ => hf, fun h => by cases h⟩
      by_cases ei : i = q (X 1 d)
      · rw [ei, pk_us, ← hc, qa.2.2.2.1]
      · rw [pk_un ei]; exact h26 i hi
    · have ej : jn X s q d = true := by unfold jn; rw [h.1, h.2]; simpa using hc
      rw [ej]
      exact ⟨rfl, _, _, rfl, rp_at (k := q (X 1 d)) (v := q (X 2 d)) h26 rfl, (fun h => by cases h), fun _ => frs_m hf hl.1 hl.2.1 hc⟩
  · have ej : jn X s q d = false := by
      unfold jn
      refine Bool.eq_false_iff.mpr (fun hc => h ?_)
      simp only [Bool.and_eq_true] at hc
      exact hc.1
    rw [ej]
    exact ⟨rfl, μ.1 26, f, a_self μ 26, h26, fun _ => hf, fun h => by cases h⟩
theorem r_X4_treeLength (hd : xD X) (hcd : cD μ X) {s : Nat} (hs : s < 1024) (hp : 1 ≤ pop s) : a_Spec G sX4_treeLength [.ref 4, .int (nI s)] μ (fun v ν => v = some (.int (nI (trV X s))) ∧ ∃ c, ν = (va_up μ.1 26 c, μ.2)) := by
  have hn := hd.1
  have hp10 := pop10 s hs
  generalize hpo : (fun (v : Option Value) (ν : aMem) => v = some (.int (nI (trV X s))) ∧ ∃ c, ν = (va_up μ.1 26 c, μ.2)) = post
  have hpost : ∀ c, post (some (.int (nI (trV X s)))) (va_up μ.1 26 c, μ.2) := fun c => by rw [← hpo]; exact ⟨rfl, c, rfl⟩
  refine w_X4_treeLength_0 _ ?_
  have main := a_for (fun i (c : Nat → Int32) => a_Runs G sX4_treeLength 2 [(0, .ref 4), (1, .int (nI s)), (2, .int (nI i))] [] (va_up μ.1 26 c, μ.2) post) (fun i c => rp c (fun p => p) i) 10 ?_ ?_ 0 (μ.1 26) (by omega) (fun k h => by omega)
  · rw [a_self μ 26]; exact main
  · intro c hc
    refine w_X4_treeLength_2 _ _ ⟨fun _ => ?_, fun h => absurd (by rw [q_le] <;> omega) h⟩
    refine r_J6_bitCount (by omega) _ ⟨_, rfl, ?_⟩
    rw [q_sub hp]
    have main := a_for (fun i (c : Nat → Int32) => a_Runs G sX4_treeLength 33 [(0, .ref 4), (1, .int (nI s)), (2, .int (nI (krs X s i).2.1)), (3, .int (nI (krs X s i).2.2)), (4, .int (nI i))] [] (va_up μ.1 26 c, μ.2) post) (fun i c => ∃ f k, rp c f 10 ∧ frs f (krs X s i).1 k ∧ k + (krs X s i).2.1 = pop s - 1) (X 0 0) ?_ ?_ 0 c (by omega) ⟨_, 0, hc, frs_0, by show 0 + (pop s - 1) = _; omega⟩
    · exact main
    · rintro c ⟨f, k, h1, h2, h3⟩
      refine w_X4_treeLength_33 _ _ _ _ ⟨fun _ => ?_, fun h => absurd (by show μ.1 1 0 ≤ _; rw [hcd.1, q_le] <;> omega) h⟩
      rw [q_e0 (by omega)]
      have hp := hpost c
      unfold trV at hp
      refine ⟨fun h => ?_, fun h => ?_⟩
      · rw [if_neg h] at hp; exact hp
      · rw [if_pos h] at hp; exact hp
    · rintro i c hi ⟨f, k, h1, h2, h3⟩ ih
      have hb := krs_in hd s i (by omega)
      have hsi := srt_in (X 3) (X 0 0) i hi
      have hcd' : ∀ c, cD (va_up μ.1 26 c, μ.2) X := fun c => hcd.kept (fun k hk => va_up_ne _ _ (by omega))
      refine w_X4_treeLength_33 _ _ _ _ ⟨fun h => ?_, fun _ => ?_⟩
      · have h : μ.1 1 0 ≤ nI i := h
        rw [hcd.1, q_le (by omega) (by omega)] at h; omega
      rw [q_le0 (by omega), q_e0 (by omega)]
      refine ⟨fun h => ⟨fun h' => absurd h h', fun _ => ?_⟩, fun h => ?_⟩
      · have := krs_stop h (X 0 0 - i)
        rw [show i + (X 0 0 - i) = X 0 0 by omega] at this
        have hp := hpost c
        unfold trV at hp
        rw [this, if_pos h] at hp; exact hp
      · have e12 : ((va_up μ.1 26 c, μ.2) : aMem).1 12 i = nI (srt (X 3) (X 0 0) i) := hcd.2.2.2.2.2.2 i hi
        rw [q_in (by omega), q_cl (by omega), e12]
        refine ⟨by omega, (r_X4_joins (μ := (va_up μ.1 26 c, μ.2)) hd (hcd' c) h2 (by omega) h1 hsi hs).mono ?_⟩
        rintro v ν ⟨rfl, c', f', rfl, g1, g2, g3⟩
        have em : ((va_up (va_up μ.1 26 c) 26 c', μ.2) : aMem) = (va_up μ.1 26 c', μ.2) := by rw [bx_uu]
        have e10 : ((va_up (va_up μ.1 26 c) 26 c', μ.2) : aMem).1 10 (srt (X 3) (X 0 0) i) = nI (X 3 (srt (X 3) (X 0 0) i)) := hcd.2.2.2.2.1 _ hsi
        have ek : krs X s (i + 1) = if jn X s (krs X s i).1 (srt (X 3) (X 0 0) i) then (mrg (krs X s i).1 (X 1 (srt (X 3) (X 0 0) i)) (X 2 (srt (X 3) (X 0 0) i)), (krs X s i).2.1 - 1, (krs X s i).2.2 + X 3 (srt (X 3) (X 0 0) i)) else krs X s i := by
          show kst X s _ (krs X s i) = _
          unfold kst; rw [if_neg h]
        refine ⟨_, rfl, br_b (fun hj => ?_) (fun hj => ?_)⟩
        · rw [hj, if_neg (by decide)] at ek
          rw [ek] at ih
          show a_Runs G sX4_treeLength 33 _ [] (va_up (va_up μ.1 26 c) 26 c', μ.2) post
          rw [em, nI_add]
          exact ih c' ⟨f', k, g1, g2 hj, h3⟩
        · rw [hj, if_pos rfl] at ek
          rw [ek] at ih
          rw [q_in (by omega), q_cl (by omega), e10, nI_add, nI_add, q_m1 (by omega)]
          refine ⟨by omega, ?_⟩
          show a_Runs G sX4_treeLength 33 _ [] (va_up (va_up μ.1 26 c) 26 c', μ.2) post
          rw [em]
          exact ih c' ⟨f', k + 1, g1, g3 hj, by show k + 1 + ((krs X s i).2.1 - 1) = _; omega⟩
  · intro i c hi hc ih
    refine w_X4_treeLength_2 _ _ ⟨fun h => ?_, fun _ => ?_⟩
    · rw [q_le (by omega) (by omega)] at h; omega
    rw [q_in (by omega), q_cl (by omega), nI_add]
    refine ⟨hi, ?_⟩
    show a_Runs G sX4_treeLength 2 _ [] (va_up (va_up μ.1 26 c) 26 (upd c i (nI i)), μ.2) post
    rw [bx_uu]
    refine ih _ (fun k hk => ?_)
    by_cases ek : k = i
    · rw [ek, pk_us]
    · rw [pk_un ek]; exact hc k (by omega)
end TREE
end
section
/-! ===== net and splice, the class ===== -/
def mnF (c : Nat → Bool) (v : Nat → Nat) : Nat → Nat
  | 0 => 1000000
  | t + 1 => if c t then min (mnF c v t) (v t) else mnF c v t
theorem mnF_le (c : Nat → Bool) (v : Nat → Nat) : ∀ t, mnF c v t ≤ 1000000
  | 0 => Nat.le_refl _
  | t + 1 => by
    have := mnF_le c v t
    show (if c t then min (mnF c v t) (v t) else mnF c v t) ≤ _
    split <;> omega
theorem mnF_0 {c : Nat → Bool} {v : Nat → Nat} : ∀ {t : Nat}, (∀ k, k < t → c k = false) → mnF c v t = 1000000
  | 0, _ => rfl
  | t + 1, h => by
    show (if c t then min (mnF c v t) (v t) else mnF c v t) = _
    rw [h t (by omega), if_neg (by decide)]
    exact mnF_0 (fun k hk => h k (by omega))
def cS (s t : Nat) : Bool := decide (t &&& s = s)
def cP (s p t : Nat) : Bool := cS s t && !t.testBit p
def netV (X : aX) (s : Nat) : Nat := mnF (cS s) (trV X) 1024
def lwV (X : aX) (s p : Nat) : Nat := mnF (cP s p) (trV X) 1024
def splB (X : aX) (s p : Nat) : Bool := !s.testBit p && decide (netV X s < lwV X s p)
def netOK (x : Int32) : Bool := inB x (nI 0) (nI 1023) && decide (2 ≤ pop x.toNatClampNeg)
def aNet (X : aX) (x : Int32) : Int32 := if netOK x then if netV X x.toNatClampNeg = 1000000 then -9 else nI (netV X x.toNatClampNeg) else -2
def aSpl (X : aX) (x : Int32) : Int32 := if netOK x then if netV X x.toNatClampNeg = 1000000 then -9 else if fa_first (splB X x.toNatClampNeg) 10 < 10 then nI (fa_first (splB X x.toNatClampNeg) 10) else -9 else -2
theorem pop_sub {s t : Nat} (h : t &&& s = s) : pop s ≤ pop t := fb_ct_sub (fun k _ hk => by
  have := congrArg (fun n => n.testBit k) h
  simp only [Nat.testBit_and] at this
  rw [hk, Bool.and_true] at this
  exact this)
theorem a_eqx.t2 {ks : List Nat} {μ ν ξ : aMem} (h : a_eqx ks μ ν) (h2 : a_eqx ks ν ξ) : a_eqx ks μ ξ := fun k hk => ⟨(h2 k hk).1.trans (h k hk).1, (h2 k hk).2.trans (h k hk).2⟩
theorem a_eqx.u1 {ks : List Nat} (μ : aMem) (k : Nat) (f : Nat → Int32) (hk : k ∈ ks) : a_eqx ks μ (va_up μ.1 k f, μ.2) := (a_eqx.up μ k f).sub (fun j hj => by
  have : j = k := by simpa using hj
  rw [this]; exact hk)
section NET
variable {G : aG} {μ : aMem} {X : aX}
theorem r_fill27 : a_Spec G sJ7_fill_53178 [.ref 27, .int (nI 1000000)] μ (fun v ν => v = none ∧ ∃ c, ν = (va_up μ.1 27 c, μ.2) ∧ ∀ i, i < 10 → c i = nI 1000000) := by
  generalize hpo : (fun (v : Option Value) (ν : aMem) => v = none ∧ ∃ c, ν = (va_up μ.1 27 c, μ.2) ∧ ∀ i, i < 10 → c i = nI 1000000) = post
  refine w_J7_fillb_0 _ ?_
  have main := a_for (fun i (c : Nat → Int32) => a_Runs G sJ7_fill_53178 5 [(0, .ref 27), (1, .int (nI 1000000)), (2, .int (nI i)), (3, .int (Int32.ofNat 10))] [] (va_up μ.1 27 c, μ.2) post) (fun i c => ∀ j, j < i → c j = nI 1000000) 10 ?_ ?_ 0 (μ.1 27) (by omega) (fun j hj => by omega)
  · rw [a_self μ 27]; exact main
  · intro c hc
    refine w_J7_fillb_5 _ _ _ ⟨fun _ => by rw [← hpo]; exact ⟨rfl, c, rfl, hc⟩, fun h => absurd (show nI 10 ≤ nI 10 by rw [q_le] <;> omega) h⟩
  · intro i c hi hc ih
    refine w_J7_fillb_5 _ _ _ ⟨fun h => ?_, fun _ => ?_⟩
    · have h : nI 10 ≤ nI i := h
      rw [q_le (by omega) (by omega)] at h; omega
    · rw [q_in (by omega), q_cl (by omega), nI_add]
      refine ⟨by omega, ?_⟩
      show a_Runs G sJ7_fill_53178 5 _ [] (va_up (va_up μ.1 27 c) 27 (upd c i (nI 1000000)), μ.2) _
      rw [bx_uu]
      refine ih _ (fun j hj => ?_)
      by_cases ej : j = i
      · rw [ej, pk_us]
      · rw [pk_un ej]; exact hc j (by omega)
theorem r_X4_note {t L l : Nat} {M : Nat → Nat} (ht : t < 1024) (hl : l ≤ 1000000) (hL : L ≤ 1000000) (hM : ∀ p, M p ≤ 1000000) (h4 : μ.1 4 3 = nI L) (h27 : rp (μ.1 27) M 10) :
    a_Spec G sX4_note [.ref 4, .int (nI t), .int (nI l)] μ (fun v ν => v = none ∧ a_eqx [4, 26, 27] μ ν ∧ ν.1 4 3 = nI (min L l) ∧ rp (ν.1 27) (fun p => if t.testBit p then M p else min (M p) l) 10) := by
  generalize hpo : (fun (v : Option Value) (ν : aMem) => v = none ∧ a_eqx [4, 26, 27] μ ν ∧ ν.1 4 3 = nI (min L l) ∧ rp (ν.1 27) (fun p => if t.testBit p then M p else min (M p) l) 10) = post
  refine w_X4_note_0 _ _ ?_
  rw [q_eq (by omega) (by omega)]
  refine ⟨fun h => ?_, fun h => ?_⟩
  · have e4 : (if nI l < μ.1 4 3 then nI l else μ.1 4 3) = nI (min L l) := by
      rw [h4]
      by_cases hh : l < L
      · rw [if_pos (by rw [q_lt (by omega) (by omega)]; exact hh)]; congr 1; omega
      · rw [if_neg (by rw [q_lt (by omega) (by omega)]; exact hh)]; congr 1; omega
    rw [e4]
    generalize hN : ((va_up μ.1 4 (upd (μ.1 4) 3 (nI (min L l))), μ.2) : aMem) = N
    have n1 : a_eqx [4, 26, 27] μ N := by rw [← hN]; exact a_eqx.u1 μ 4 _ (by simp)
    have n2 : N.1 4 3 = nI (min L l) := by rw [← hN]; exact pk_us (f := μ.1 4) (k := 3) (x := nI (min L l))
    have n3 : N.1 27 = μ.1 27 := by rw [← hN]; rfl
    have main := a_for (fun i (c : Nat → Int32) => a_Runs G sX4_note 21 [(0, .ref 4), (1, .int (nI t)), (2, .int (nI l)), (3, .int (nI i))] [] (va_up N.1 27 c, N.2) post) (fun i c => ∀ p, p < 10 → c p = nI (if p < i ∧ t.testBit p = false then min (M p) l else M p)) 10 ?_ ?_ 0 (N.1 27) (by omega) (fun p hp => by rw [n3, if_neg (by omega)]; exact h27 p hp)
    · rw [a_self N 27]; exact main
    · intro c hc
      refine w_X4_note_21 _ _ _ ⟨fun _ => ?_, fun h => absurd (by rw [q_le] <;> omega) h⟩
      rw [← hpo]
      refine ⟨rfl, n1.t2 (a_eqx.u1 N 27 c (by simp)), n2, fun p hp => ?_⟩
      show c p = _
      rw [hc p hp]
      cases hb : t.testBit p <;> simp [hb, hp]
    · intro i c hi hc ih
      refine w_X4_note_21 _ _ _ ⟨fun h => ?_, fun _ => ?_⟩
      · rw [q_le (by omega) (by omega)] at h; omega
      have same : ∀ p, p ≠ i → (if p < i + 1 ∧ t.testBit p = false then min (M p) l else M p) = (if p < i ∧ t.testBit p = false then min (M p) l else M p) := fun p hp => by
        by_cases h : p < i ∧ t.testBit p = false
        · rw [if_pos h, if_pos ⟨by omega, h.2⟩]
        · rw [if_neg h, if_neg (fun q => h ⟨by omega, q.2⟩)]
      have ci := hc i hi
      rw [if_neg (by omega)] at ci
      have hMi := hM i
      refine r_X6_has (by omega) (by omega) _ ⟨_, rfl, br_n (fun hb => ?_) (fun hb => ?_)⟩
      · rw [nI_add]
        refine ih c (fun p hp => ?_)
        by_cases ep : p = i
        · subst ep; rw [ci, if_neg (fun q => by rw [hb] at q; cases q.2)]
        · rw [same p ep]; exact hc p hp
      · have e27 : ((va_up N.1 27 c, N.2) : aMem).1 27 = c := va_up_self N.1 27 c
        rw [q_in (by omega), q_cl (by omega), e27, ci, q_le (by omega) (by omega), nI_add]
        refine ⟨hi, fun h => ?_, fun h => ⟨hi, ?_⟩⟩
        · refine ih c (fun p hp => ?_)
          by_cases ep : p = i
          · subst ep; rw [ci, if_pos ⟨by omega, hb⟩]; congr 1; omega
          · rw [same p ep]; exact hc p hp
        · show a_Runs G sX4_note 21 _ [] (va_up (va_up N.1 27 c) 27 _, N.2) post
          rw [bx_uu]
          refine ih _ (fun p hp => ?_)
          by_cases ep : p = i
          · subst ep; rw [pk_us, if_pos ⟨by omega, hb⟩]; congr 1; omega
          · rw [pk_un ep, same p ep]; exact hc p hp
  · subst h
    rw [← hpo]
    refine ⟨rfl, a_eqx.rf _ _, by rw [h4]; congr 1; omega, fun p hp => ?_⟩
    rw [h27 p hp]
    have := hM p
    show nI (M p) = nI (if t.testBit p then M p else min (M p) 1000000)
    congr 1
    split <;> omega
theorem r_X4_compare (hd : xD X) (hcd : cD μ X) {s : Nat} (hs : s < 1024) (hp : 2 ≤ pop s) : a_Spec G sX4_compare [.ref 4, .int (nI s)] μ (fun v ν => v = none ∧ a_eqx [4, 26, 27] μ ν ∧ ν.1 4 3 = nI (netV X s) ∧ rp (ν.1 27) (lwV X s) 10) := by
  generalize hpo : (fun (v : Option Value) (ν : aMem) => v = none ∧ a_eqx [4, 26, 27] μ ν ∧ ν.1 4 3 = nI (netV X s) ∧ rp (ν.1 27) (lwV X s) 10) = post
  refine w_X4_compare_0 _ (r_fill27.mono ?_)
  rintro v ν ⟨rfl, c, rfl, hc⟩
  refine ⟨rfl, ?_⟩
  refine a_for (fun t (N : aMem) => a_Runs G sX4_compare 17 [(0, .ref 4), (1, .int (nI s)), (2, .int (nI t))] [] N post) (fun t N => a_eqx [4, 26, 27] μ N ∧ N.1 4 3 = nI (mnF (cS s) (trV X) t) ∧ rp (N.1 27) (fun p => mnF (cP s p) (trV X) t) 10) 1024 ?_ ?_ 0 _ (by omega) ⟨(a_eqx.u1 μ 4 _ (by simp)).t2 (a_eqx.u1 _ 27 c (by simp)), ?_, ?_⟩
  · rintro N ⟨h1, h2, h3⟩
    refine w_X4_compare_17 _ _ ⟨fun _ => ?_, fun h => absurd (by rw [q_le] <;> omega) h⟩
    rw [← hpo]; exact ⟨rfl, h1, h2, h3⟩
  · rintro t N ht ⟨h1, h2, h3⟩ ih
    have hcdN : cD N X := hcd.kept (fun k hk => (h1 k (by simp; omega)).1)
    refine w_X4_compare_17 _ _ ⟨fun h => ?_, fun _ => ?_⟩
    · rw [q_le (by omega) (by omega)] at h; omega
    have hand : t &&& s ≤ t := Nat.and_le_left
    rw [fa_and, q_eq (by omega) (by omega), nI_add]
    refine ⟨fun h => ih N ⟨h1, ?_, ?_⟩, fun h => ?_⟩
    · have ec : cS s t = false := by unfold cS; exact decide_eq_false h
      rw [h2]; congr 1
      show _ = if cS s t then min (mnF (cS s) (trV X) t) (trV X t) else mnF (cS s) (trV X) t
      rw [ec]; rfl
    · have ec : ∀ p, cP s p t = false := fun p => by unfold cP cS; rw [decide_eq_false h]; rfl
      intro p hp
      rw [h3 p hp]; congr 1
      show _ = if cP s p t then min (mnF (cP s p) (trV X) t) (trV X t) else mnF (cP s p) (trV X) t
      rw [ec]; rfl
    · have hpt := pop_sub h
      have htv := trV_le hd t
      have ec : cS s t = true := decide_eq_true h
      refine (r_X4_treeLength hd hcdN ht (by omega)).mono ?_
      rintro v ν ⟨rfl, c, rfl⟩
      refine ⟨_, rfl, (r_X4_note (μ := (va_up N.1 26 c, N.2)) (t := t) (L := mnF (cS s) (trV X) t) (l := trV X t) (M := fun p => mnF (cP s p) (trV X) t) ht htv.1 (mnF_le _ _ _) (fun p => mnF_le _ _ _) h2 h3).mono ?_⟩
      rintro v ν ⟨rfl, g1, g2, g3⟩
      refine ⟨rfl, ih ν ⟨(h1.t2 (a_eqx.u1 N 26 c (by simp))).t2 g1, ?_, ?_⟩⟩
      · rw [g2]; congr 1
        show _ = if cS s t then min (mnF (cS s) (trV X) t) (trV X t) else mnF (cS s) (trV X) t
        rw [ec]; rfl
      · intro p hp
        rw [g3 p hp]; congr 1
        show _ = if cP s p t then min (mnF (cP s p) (trV X) t) (trV X t) else mnF (cP s p) (trV X) t
        unfold cP; rw [ec]
        cases hb : t.testBit p <;> simp [hb]
  · exact pk_us (f := μ.1 4) (k := 3) (x := nI 1000000)
  · intro p hp
    exact hc p hp
theorem r_X6_isNetP (x : Int32) : a_Ret G sX6_isNetOfPlaces [.int x] μ (some (.int (bI (netOK x)))) μ := by
  intro post hp
  unfold netOK at hp
  refine w_X6_isNetOfPlaces_0 _ (r_X6_isWithin _ _ _ _ ⟨_, rfl, br_b (fun h1 => ⟨nI_00, ?_⟩) (fun h1 => ?_)⟩)
  · rw [h1] at hp; exact hp
  · obtain ⟨e1, -, b1⟩ := inB_cl (by decide) (by decide) h1
    rw [h1, Bool.true_and] at hp
    generalize x.toNatClampNeg = s at *
    subst e1
    have h20 := pop_le s
    refine r_J6_bitCount (by omega) _ ⟨_, rfl, ?_⟩
    rw [q_lt (by omega) (by omega)]
    refine ⟨fun h => ⟨nI_00, ?_⟩, fun h => ⟨nI_11, ?_⟩⟩
    · rw [decide_eq_false (by omega)] at hp; exact hp
    · rw [decide_eq_true (by omega)] at hp; exact hp
theorem netOK_i {x : Int32} (h : netOK x = true) : x = nI x.toNatClampNeg ∧ x.toNatClampNeg < 1024 ∧ 2 ≤ pop x.toNatClampNeg := by
  unfold netOK at h
  rw [Bool.and_eq_true] at h
  obtain ⟨e1, -, b1⟩ := inB_cl (by decide) (by decide) h.1
  exact ⟨e1, by omega, of_decide_eq_true h.2⟩
theorem c_net (hd : xD X) (hcd : cD μ X) (x : Int32) : a_Spec G sX6_net [.ref 0, .int x] μ (fun v ν => v = some (.int (aNet X x)) ∧ a_eqx [4, 26, 27] μ ν) := by
  refine w_X6_net_0 _ (r_X6_isNetP _ _ ⟨_, rfl, br_n (fun h => ?_) (fun h => ?_)⟩)
  · obtain ⟨e1, b1, b2⟩ := netOK_i h
    have e : aNet X x = if netV X x.toNatClampNeg = 1000000 then -9 else nI (netV X x.toNatClampNeg) := by unfold aNet; rw [if_pos h]
    rw [e]
    generalize x.toNatClampNeg = s at *
    subst e1
    have hle := mnF_le (cS s) (trV X) 1024
    refine (r_X4_compare hd hcd b1 b2).mono ?_
    rintro v ν ⟨rfl, g1, g2, g3⟩
    have hle : netV X s ≤ 1000000 := hle
    rw [g2, q_eq (by omega) (by omega)]
    exact ⟨rfl, fun h => ⟨by rw [if_neg h], g1⟩, fun h => ⟨by rw [if_pos h], g1⟩⟩
  · have e : aNet X x = -2 := by unfold aNet; rw [h]; rfl
    rw [e]; exact ⟨rfl, a_eqx.rf _ _⟩
theorem c_splice (hd : xD X) (hcd : cD μ X) (x : Int32) : a_Spec G sX6_splice [.ref 0, .int x] μ (fun v ν => v = some (.int (aSpl X x)) ∧ a_eqx [4, 26, 27] μ ν) := by
  refine w_X6_splice_0 _ (r_X6_isNetP _ _ ⟨_, rfl, br_n (fun h => ?_) (fun h => ?_)⟩)
  · obtain ⟨e1, b1, b2⟩ := netOK_i h
    have e : aSpl X x = if netV X x.toNatClampNeg = 1000000 then -9 else if fa_first (splB X x.toNatClampNeg) 10 < 10 then nI (fa_first (splB X x.toNatClampNeg) 10) else -9 := by unfold aSpl; rw [if_pos h]
    rw [e]
    generalize x.toNatClampNeg = s at *
    subst e1
    have hle : netV X s ≤ 1000000 := mnF_le (cS s) (trV X) 1024
    refine (r_X4_compare hd hcd b1 b2).mono ?_
    rintro v ν ⟨rfl, g1, g2, g3⟩
    refine ⟨rfl, w_X4_firstNeeded_0 _ ?_⟩
    rw [g2, q_eq (by omega) (by omega)]
    refine ⟨fun h => ?_, fun h => ⟨_, rfl, by rw [if_pos h], g1⟩⟩
    rw [if_neg h]
    have hno := fa_first_no (splB X s) 10
    have hyes := fa_first_yes (splB X s) 10
    have hf10 := fa_first_le (splB X s) 10
    generalize fa_first (splB X s) 10 = F at *
    refine a_for (fun i (_ : Unit) => a_Runs G sX4_firstNeeded 14 [(0, .ref 4), (1, .int (nI s)), (2, .int (nI i))] [] ν _) (fun _ _ => True) F ?_ ?_ 0 () (by omega) trivial
    · intro _ _
      refine w_X4_firstNeeded_14 _ _ ⟨fun hc => ?_, fun hc => ?_⟩
      · rw [q_le (by omega) (by omega)] at hc
        exact ⟨_, rfl, by rw [if_neg (by omega)], g1⟩
      · rw [q_le (by omega) (by omega)] at hc
        have hF : F < 10 := by omega
        have hy := hyes hF
        unfold splB at hy
        rw [Bool.and_eq_true, Bool.not_eq_true'] at hy
        have hlw : lwV X s F ≤ 1000000 := mnF_le _ _ _
        have hdc := of_decide_eq_true hy.2
        refine r_X6_has (by omega) (by omega) _ ⟨_, rfl, br_n (fun hb => by rw [hy.1] at hb; cases hb) (fun hb => ?_)⟩
        rw [q_in (by omega), q_cl (by omega), g3 F hF, g2, q_le (by omega) (by omega)]
        exact ⟨hF, fun hc => absurd hc (by omega), fun _ => ⟨_, rfl, by rw [if_pos hF], g1⟩⟩
    · intro i _ hi _ ih
      have hn := hno i hi
      have hlw : lwV X s i ≤ 1000000 := mnF_le _ _ _
      refine w_X4_firstNeeded_14 _ _ ⟨fun hc => ?_, fun _ => ?_⟩
      · rw [q_le (by omega) (by omega)] at hc; omega
      · refine r_X6_has (by omega) (by omega) _ ⟨_, rfl, br_n (fun hb => by rw [nI_add]; exact ih () trivial) (fun hb => ?_)⟩
        unfold splB at hn
        rw [hb, Bool.not_false, Bool.true_and] at hn
        have hn := of_decide_eq_false hn
        rw [q_in (by omega), q_cl (by omega), g3 i (by omega), g2, q_le (by omega) (by omega), nI_add]
        exact ⟨by omega, fun _ => ih () trivial, fun hc => absurd (by omega) hc⟩
  · have e : aSpl X x = -2 := by unfold aSpl; rw [h]; rfl
    rw [e]; exact ⟨rfl, a_eqx.rf _ _⟩
end NET
end
section
/-! ===== net and splice, the reference ===== -/
theorem pop_pos : ∀ s, s < 1024 → s ≠ 0 → 1 ≤ pop s := by decide +kernel
theorem bit2 {s a b : Nat} : ((s >>> a &&& s >>> b) &&& 1 = 1) ↔ (s.testBit a = true ∧ s.testBit b = true) := by
  have h : ((s >>> a &&& s >>> b) &&& 1 = 1) ↔ (s >>> a &&& s >>> b).testBit 0 = true := by
    rw [Nat.testBit_zero, Nat.and_one_is_mod, decide_eq_true_eq]
  rw [h, Nat.testBit_and, Nat.testBit_shiftRight, Nat.testBit_shiftRight, Nat.add_zero, Nat.add_zero, Bool.and_eq_true]
section MNET
variable {G : aG} {μ : aMem} {X : aX}
theorem r_X7_treeOf (hd : xD X) (hmd : mD μ X) (h55 : rp (μ.1 55) (srt (X 3) (X 0 0)) (X 0 0)) {s : Nat} (hs : s < 1024) (hp : 1 ≤ pop s) : a_Spec G sX7_treeOf [.ref 36, .int (nI s)] μ (fun v ν => v = some (.int (nI (trV X s))) ∧ ∃ c, ν = (va_up μ.1 56 c, μ.2)) := by
  have hn := hd.1
  have hp10 := pop10 s hs
  obtain ⟨c0, c1, c2, c3, -⟩ := id hmd
  generalize hpo : (fun (v : Option Value) (ν : aMem) => v = some (.int (nI (trV X s))) ∧ ∃ c, ν = (va_up μ.1 56 c, μ.2)) = post
  have hpost : ∀ c, post (some (.int (nI (trV X s)))) (va_up μ.1 56 c, μ.2) := fun c => by rw [← hpo]; exact ⟨rfl, c, rfl⟩
  refine w_X7_treeOf_0 _ (r_X7_ones (by omega) _ ⟨_, rfl, ?_⟩)
  rw [q_sub hp]
  have main := a_for (fun i (c : Nat → Int32) => a_Runs G sX7_treeOf 12 [(0, .ref 36), (1, .int (nI s)), (2, .int (nI (pop s - 1))), (3, .int (nI 0)), (4, .int (nI i))] [] (va_up μ.1 56 c, μ.2) post) (fun i c => rp c (fun p => p) i) 10 ?_ ?_ 0 (μ.1 56) (by omega) (fun k h => by omega)
  · rw [a_self μ 56]; exact main
  · intro c hc
    refine w_X7_treeOf_12 _ _ _ _ ⟨fun _ => ?_, fun h => absurd (by rw [q_le] <;> omega) h⟩
    have main := a_for (fun i (c : Nat → Int32) => a_Runs G sX7_treeOf 37 [(0, .ref 36), (1, .int (nI s)), (2, .int (nI (krs X s i).2.1)), (3, .int (nI (krs X s i).2.2)), (4, .int (nI i))] [] (va_up μ.1 56 c, μ.2) post) (fun i c => rp c (krs X s i).1 10) (X 0 0) ?_ ?_ 0 c (by omega) hc
    · exact main
    · intro c h1
      have hb := krs_in hd s (X 0 0) (Nat.le_refl _)
      refine w_X7_treeOf_37 _ _ _ _ ⟨fun _ => ?_, fun h => absurd (by show μ.1 36 0 ≤ _; rw [c0, q_le] <;> omega) h⟩
      rw [q_le0 (by omega)]
      have hp := hpost c
      unfold trV at hp
      refine ⟨fun h => ?_, fun h => ?_⟩
      · rw [if_pos h] at hp; exact hp
      · rw [if_neg h] at hp; exact hp
    · intro i c hi h1 ih
      have hb := krs_in hd s i (by omega)
      have hsi := srt_in (X 3) (X 0 0) i hi
      have hl := hd.2 _ hsi
      refine w_X7_treeOf_37 _ _ _ _ ⟨fun h => ?_, fun _ => ?_⟩
      · have h : μ.1 36 0 ≤ nI i := h
        rw [c0, q_le (by omega) (by omega)] at h; omega
      rw [q_le0 (by omega)]
      refine ⟨fun h => ⟨fun _ => ?_, fun h' => absurd h h'⟩, fun h => ?_⟩
      · have := krs_stop h (X 0 0 - i)
        rw [show i + (X 0 0 - i) = X 0 0 by omega] at this
        have hp := hpost c
        unfold trV at hp
        rw [this, if_pos h] at hp; exact hp
      · have ek : krs X s (i + 1) = if jn X s (krs X s i).1 (srt (X 3) (X 0 0) i) then (mrg (krs X s i).1 (X 1 (srt (X 3) (X 0 0) i)) (X 2 (srt (X 3) (X 0 0) i)), (krs X s i).2.1 - 1, (krs X s i).2.2 + X 3 (srt (X 3) (X 0 0) i)) else krs X s i := by
          show kst X s _ (krs X s i) = _
          unfold kst; rw [if_neg h]
        have e55 : ((va_up μ.1 56 c, μ.2) : aMem).1 55 i = nI (srt (X 3) (X 0 0) i) := h55 i hi
        have e37 : ((va_up μ.1 56 c, μ.2) : aMem).1 37 (srt (X 3) (X 0 0) i) = nI (X 1 (srt (X 3) (X 0 0) i)) := c1 _ hsi
        have e38 : ((va_up μ.1 56 c, μ.2) : aMem).1 38 (srt (X 3) (X 0 0) i) = nI (X 2 (srt (X 3) (X 0 0) i)) := c2 _ hsi
        have e39 : ∀ c, ((va_up μ.1 56 c, μ.2) : aMem).1 39 (srt (X 3) (X 0 0) i) = nI (X 3 (srt (X 3) (X 0 0) i)) := fun c => c3 _ hsi
        have e56 : ∀ c, ((va_up μ.1 56 c, μ.2) : aMem).1 56 = c := fun c => va_up_self μ.1 56 c
        generalize srt (X 3) (X 0 0) i = d at *
        generalize hσ : krs X s i = σ at *
        have qa := hb.1 _ hl.1
        have qb := hb.1 _ hl.2.1
        have hsh : ∀ k, s >>> k < 1024 := fun k => Nat.lt_of_le_of_lt (by rw [Nat.shiftRight_eq_div_pow]; exact Nat.div_le_self _ _) hs
        have hand : (s >>> X 1 d &&& s >>> X 2 d) &&& 1 < 2 := Nat.lt_of_le_of_lt Nat.and_le_right (by decide)
        rw [q_in (by omega), q_cl (by omega), e55, q_in (by omega), q_cl (by omega), e37, q_in (by omega), q_cl (by omega), e38, q_in (by omega), q_cl (by omega), e56, h1 _ hl.1, h1 _ hl.2.1, q_shr (by omega) (by omega), q_shr (by omega) (by omega), fa_and, fa_and, q_eq (by omega) (by omega), q_eq (by omega) (by omega), bit2, nI_add]
        refine ⟨by omega, by omega, hl.1, by omega, hl.2.1, by omega, by omega, fun hb2 => ?_, fun hb2 => ⟨fun hq => ?_, fun hq => ?_⟩⟩
        · have ej : jn X s σ.1 d = false := by
            unfold jn
            refine Bool.eq_false_iff.mpr (fun hc => hb2 ?_)
            simp only [Bool.and_eq_true] at hc
            exact hc.1
          rw [ej, if_neg (by decide)] at ek
          rw [ek] at ih
          exact ih c h1
        · have ej : jn X s σ.1 d = false := by unfold jn; rw [hb2.1, hb2.2]; simpa using hq
          rw [ej, if_neg (by decide)] at ek
          rw [ek] at ih
          exact ih c h1
        · have ej : jn X s σ.1 d = true := by unfold jn; rw [hb2.1, hb2.2]; simpa using hq
          rw [ej, if_pos rfl] at ek
          rw [ek] at ih
          refine a_for (fun j (c : Nat → Int32) => a_Runs G sX7_treeOf 122 [(0, .ref 36), (1, .int (nI s)), (2, .int (nI σ.2.1)), (3, .int (nI σ.2.2)), (4, .int (nI i)), (5, .int (nI d)), (6, .int (nI (σ.1 (X 1 d)))), (7, .int (nI (σ.1 (X 2 d)))), (8, .int (nI j))] [] (va_up μ.1 56 c, μ.2) post) (fun j c => ∀ p, p < 10 → c p = nI (if p < j then mrg σ.1 (X 1 d) (X 2 d) p else σ.1 p)) 10 ?_ ?_ 0 c (by omega) (fun p hp => by rw [if_neg (by omega)]; exact h1 p hp)
          · intro c hc
            refine w_X7_treeOf_122 _ _ _ _ _ _ _ _ ⟨fun _ => ?_, fun h => absurd (by rw [q_le] <;> omega) h⟩
            rw [q_in (by omega), q_cl (by omega), e39, nI_add, nI_add, q_m1 (by omega)]
            exact ⟨by omega, ih c (fun p hp => by rw [hc p hp, if_pos hp])⟩
          · intro j c hj hc ih2
            have cj := hc j hj
            rw [if_neg (by omega)] at cj
            have qj := hb.1 j hj
            refine w_X7_treeOf_122 _ _ _ _ _ _ _ _ ⟨fun h => ?_, fun _ => ?_⟩
            · rw [q_le (by omega) (by omega)] at h; omega
            rw [q_in (by omega), q_cl (by omega), e56, cj, q_eq (by omega) (by omega), nI_add]
            have same : ∀ p, p ≠ j → (if p < j + 1 then mrg σ.1 (X 1 d) (X 2 d) p else σ.1 p) = (if p < j then mrg σ.1 (X 1 d) (X 2 d) p else σ.1 p) := fun p hp => by
              by_cases h : p < j
              · rw [if_pos h, if_pos (by omega)]
              · rw [if_neg h, if_neg (by omega)]
            have go : ∀ x : Int32, x = nI (mrg σ.1 (X 1 d) (X 2 d) j) → a_Runs G sX7_treeOf 122 [(0, .ref 36), (1, .int (nI s)), (2, .int (nI σ.2.1)), (3, .int (nI σ.2.2)), (4, .int (nI i)), (5, .int (nI d)), (6, .int (nI (σ.1 (X 1 d)))), (7, .int (nI (σ.1 (X 2 d)))), (8, .int (nI (j + 1)))] [] (va_up (va_up μ.1 56 c) 56 (upd c j x), μ.2) post := fun x hx => by
              rw [bx_uu]
              refine ih2 _ (fun p hp => ?_)
              by_cases ep : p = j
              · subst ep; rw [pk_us, if_pos (by omega)]; exact hx
              · rw [pk_un ep, same p ep]; exact hc p hp
            refine ⟨hj, fun h => ⟨hj, hj, go _ ?_⟩, fun h => ⟨hj, go _ ?_⟩⟩
            · unfold mrg; rw [if_neg h]
            · unfold mrg; rw [if_pos h]
  · intro i c hi hc ih
    refine w_X7_treeOf_12 _ _ _ _ ⟨fun h => ?_, fun _ => ?_⟩
    · rw [q_le (by omega) (by omega)] at h; omega
    rw [q_in (by omega), q_cl (by omega), nI_add]
    refine ⟨hi, ?_⟩
    show a_Runs G sX7_treeOf 12 _ [] (va_up (va_up μ.1 56 c) 56 (upd c i (nI i)), μ.2) post
    rw [bx_uu]
    refine ih _ (fun k hk => ?_)
    by_cases ek : k = i
    · rw [ek, pk_us]
    · rw [pk_un ek]; exact hc k (by omega)
theorem r_X7_layTrees (hd : xD X) (hmd : mD μ X) : a_Spec G sX7_layTrees [.ref 36] μ (fun v ν => v = none ∧ a_eqx [54, 55, 56] μ ν ∧ ∀ t, t ≠ 0 → t < 1024 → ν.1 54 t = nI (trV X t)) := by
  have hn := hd.1
  obtain ⟨c0, c1, c2, c3, -⟩ := id hmd
  have hlb : ∀ i, i < X 0 0 → X 3 i < 2 ^ 31 := fun i hi => by have := hd.2 i hi; omega
  generalize hpo : (fun (v : Option Value) (ν : aMem) => v = none ∧ a_eqx [54, 55, 56] μ ν ∧ ∀ t, t ≠ 0 → t < 1024 → ν.1 54 t = nI (trV X t)) = post
  refine w_X7_layTrees_0 ?_
  have main := a_for (fun i (c : Nat → Int32) => a_Runs G sX7_layTrees 2 [(0, .ref 36), (1, .int (nI i))] [] (va_up μ.1 55 c, μ.2) post) (fun i c => rp c (srt (X 3) i) i) (X 0 0) ?_ ?_ 0 (μ.1 55) (by omega) (fun k h => by omega)
  · rw [a_self μ 55]; exact main
  · intro c hc
    refine w_X7_layTrees_2 _ ⟨fun _ => ?_, fun h => absurd (by show μ.1 36 0 ≤ _; rw [c0, q_le] <;> omega) h⟩
    have main := a_for (fun t (N : aMem) => a_Runs G sX7_layTrees 73 [(0, .ref 36), (1, .int (nI t))] [] N post) (fun t N => 1 ≤ t ∧ a_eqx [54, 55, 56] μ N ∧ rp (N.1 55) (srt (X 3) (X 0 0)) (X 0 0) ∧ ∀ u, u ≠ 0 → u < t → N.1 54 u = nI (trV X u)) 1024 ?_ ?_ 1 (va_up μ.1 55 c, μ.2) (by omega) ⟨Nat.le_refl _, a_eqx.u1 μ 55 c (by simp), hc, fun u h h' => by omega⟩
    · exact main
    · rintro N ⟨_, h1, h2, h3⟩
      refine w_X7_layTrees_73 _ ⟨fun _ => ?_, fun h => absurd (by rw [q_le] <;> omega) h⟩
      rw [← hpo]; exact ⟨rfl, h1, h3⟩
    · rintro t N ht ⟨h0, h1, h2, h3⟩ ih
      have hmdN : mD N X := by
        have q : ∀ k, k = 36 ∨ k = 37 ∨ k = 38 ∨ k = 39 ∨ k = 40 → N.1 k = μ.1 k := fun k h => (h1 k (by simp; omega)).1
        unfold mD
        rw [q 36 (by omega), q 37 (by omega), q 38 (by omega), q 39 (by omega), q 40 (by omega)]
        exact hmd
      refine w_X7_layTrees_73 _ ⟨fun h => ?_, fun _ => ?_⟩
      · rw [q_le (by omega) (by omega)] at h; omega
      refine (r_X7_treeOf hd hmdN h2 ht (pop_pos t ht (by omega))).mono ?_
      rintro v ν ⟨rfl, c, rfl⟩
      rw [q_in (by omega), q_cl (by omega), nI_add]
      refine ⟨_, rfl, ht, ih _ ⟨by omega, ((h1.t2 (a_eqx.u1 N 56 c (by simp))).t2 (a_eqx.u1 _ 54 _ (by simp))), h2, fun u hu hu2 => ?_⟩⟩
      show upd (N.1 54) t (nI (trV X t)) u = _
      by_cases eu : u = t
      · rw [eu, pk_us]
      · rw [pk_un eu]; exact h3 u hu (by omega)
  · intro i c hi hc ih
    have e39 : ∀ c k, k < X 0 0 → ((va_up μ.1 55 c, μ.2) : aMem).1 39 k = nI (X 3 k) := fun c k hk => c3 k hk
    have e55 : ∀ c, ((va_up μ.1 55 c, μ.2) : aMem).1 55 = c := fun c => va_up_self μ.1 55 c
    refine w_X7_layTrees_2 _ ⟨fun h => ?_, fun _ => ?_⟩
    · have h : μ.1 36 0 ≤ nI i := h
      rw [c0, q_le (by omega) (by omega)] at h; omega
    have key : ∀ (s : Nat) (f : Nat → Nat) (c : Nat → Int32), s ≤ i → (∀ j, j ≤ i → j ≠ s → c j = nI (f j)) → (∀ j, j ≤ i → j ≠ s → f j < i) → (∀ g, rp g (insS (X 3) i s f) (i + 1) → a_Runs G sX7_layTrees 2 [(0, .ref 36), (1, .int (nI (i + 1)))] [] (va_up μ.1 55 g, μ.2) post) → a_Runs G sX7_layTrees 12 [(0, .ref 36), (1, .int (nI i)), (2, .int (nI s))] [] (va_up μ.1 55 c, μ.2) post := by
      intro s
      induction s with
      | zero =>
        intro f c _ hc hfl hp
        refine w_X7_layTrees_12 _ _ ⟨fun _ => ?_, fun h => absurd (by rw [q_le0] <;> omega) h⟩
        rw [q_in (by omega), q_cl (by omega), e55, nI_add]
        refine ⟨by omega, ?_⟩
        show a_Runs G sX7_layTrees 2 _ [] (va_up (va_up μ.1 55 c) 55 _, μ.2) post
        rw [bx_uu]
        refine hp _ (fun j hj => ?_)
        unfold insS
        by_cases ej : j = 0
        · subst ej; rw [pk_us, upN_s]
        · rw [pk_un ej, upN_n _ _ ej]; exact hc j (by omega) ej
      | succ s ihs =>
        intro f c hs hc hfl hp
        have hfs := hfl s (by omega) (by omega)
        have b1 := hlb (f s) (by omega)
        have b2 := hlb i hi
        refine w_X7_layTrees_12 _ _ ⟨fun h => ?_, fun _ => ?_⟩
        · rw [q_le0 (by omega)] at h; omega
        rw [q_sub (by omega), Nat.add_sub_cancel, q_in (by omega), q_cl (by omega), e55, hc s (by omega) (by omega), q_in (by omega), q_cl (by omega), e39 c _ (by omega), q_in (by omega), q_cl (by omega), e39 c _ hi, q_le (by omega) (by omega), q_in (by omega), q_cl (by omega), q_m1 (by omega), Nat.add_sub_cancel, nI_add]
        refine ⟨by omega, by omega, by omega, fun h => ⟨by omega, ?_⟩, fun h => ⟨by omega, by omega, ?_⟩⟩
        · show a_Runs G sX7_layTrees 2 _ [] (va_up (va_up μ.1 55 c) 55 _, μ.2) post
          rw [bx_uu]
          refine hp _ (fun j hj => ?_)
          unfold insS
          rw [if_neg (by omega)]
          by_cases ej : j = s + 1
          · subst ej; rw [pk_us, upN_s]
          · rw [pk_un ej, upN_n _ _ ej]; exact hc j (by omega) ej
        · show a_Runs G sX7_layTrees 12 _ [] (va_up (va_up μ.1 55 c) 55 _, μ.2) post
          rw [bx_uu]
          refine ihs (upN f (s + 1) (f s)) _ (by omega) (fun j hj hjs => ?_) (fun j hj hjs => ?_) (fun g hg => hp g ?_)
          · by_cases ej : j = s + 1
            · subst ej; rw [pk_us, upN_s]
            · rw [pk_un ej, upN_n _ _ ej]; exact hc j hj ej
          · by_cases ej : j = s + 1
            · subst ej; rw [upN_s]; exact hfs
            · rw [upN_n _ _ ej]; exact hfl j hj ej
          · unfold insS; rw [if_pos (by omega)]; exact hg
    exact key i (srt (X 3) i) c (Nat.le_refl _) (fun j hj hji => hc j (by omega)) (fun j hj hji => srt_in (X 3) i j (by omega)) (fun g hg => ih g hg)
theorem r_X7_leastNet {s : Nat} (hs : s < 1024) (hs0 : s ≠ 0) (h54 : ∀ t, t ≠ 0 → t < 1024 → μ.1 54 t = nI (trV X t)) (hd : xD X) {x : Int32} {c : Nat → Bool} (hx : (x = -9 ∧ c = cS s) ∨ ∃ p, p < 10 ∧ x = nI p ∧ c = cP s p) : a_Ret G sX7_leastNet [.ref 36, .int (nI s), .int x] μ (some (.int (nI (mnF c (trV X) 1024)))) μ := by
  intro post hp
  refine w_X7_leastNet_0 _ _ ?_
  have hlow : ∀ k, k < s → c k = false := fun k hk => by
    have hn : ¬ k &&& s = s := fun h => by have : k &&& s ≤ k := Nat.and_le_left; omega
    rcases hx with ⟨_, rfl⟩ | ⟨p, _, _, rfl⟩
    · exact decide_eq_false hn
    · unfold cP cS; rw [decide_eq_false hn]; rfl
  have main := a_for (fun t (_ : Unit) => a_Runs G sX7_leastNet 6 [(0, .ref 36), (1, .int (nI s)), (2, .int x), (3, .int (nI (mnF c (trV X) t))), (4, .int (nI t))] [] μ post) (fun t _ => s ≤ t) 1024 ?_ ?_ s () (by omega) (Nat.le_refl _)
  · rw [mnF_0 hlow] at main; exact main
  · intro _ _
    exact w_X7_leastNet_6 _ _ _ _ ⟨fun _ => hp, fun h => absurd (by rw [q_le] <;> omega) h⟩
  · intro t _ ht hst ih
    have hand : t &&& s ≤ t := Nat.and_le_left
    have htv := (trV_le hd t).1
    have hml := mnF_le c (trV X) t
    refine w_X7_leastNet_6 _ _ _ _ ⟨fun h => ?_, fun _ => ?_⟩
    · rw [q_le (by omega) (by omega)] at h; omega
    have eM : mnF c (trV X) (t + 1) = if c t then min (mnF c (trV X) t) (trV X t) else mnF c (trV X) t := rfl
    have skip : c t = false → a_Runs G sX7_leastNet 6 [(0, .ref 36), (1, .int (nI s)), (2, .int x), (3, .int (nI (mnF c (trV X) t))), (4, .int (nI (t + 1)))] [] μ post := fun h => by
      have q := ih () (by omega)
      rw [eM, h, if_neg (by decide)] at q; exact q
    have take : c t = true → t < 1024 ∧ ((mnF c (trV X) t ≤ trV X t → a_Runs G sX7_leastNet 6 [(0, .ref 36), (1, .int (nI s)), (2, .int x), (3, .int (nI (mnF c (trV X) t))), (4, .int (nI (t + 1)))] [] μ post) ∧ (¬ mnF c (trV X) t ≤ trV X t → t < 1024 ∧ a_Runs G sX7_leastNet 6 [(0, .ref 36), (1, .int (nI s)), (2, .int x), (3, .int (nI (trV X t))), (4, .int (nI (t + 1)))] [] μ post)) := fun h => by
      have q := ih () (by omega)
      rw [eM, h, if_pos rfl] at q
      refine ⟨ht, fun hc => ?_, fun hc => ⟨ht, ?_⟩⟩
      · rw [show min (mnF c (trV X) t) (trV X t) = mnF c (trV X) t by omega] at q; exact q
      · rw [show min (mnF c (trV X) t) (trV X t) = trV X t by omega] at q; exact q
    have h54t := h54 t (by omega) ht
    rw [fa_and, q_eq (by omega) (by omega), q_in (by omega), q_cl (by omega), h54t, q_le (by omega) (by omega), nI_add]
    refine ⟨fun h => ⟨fun _ => skip ?_, fun h => absurd n00 h⟩, fun h => ?_⟩
    · rcases hx with ⟨_, rfl⟩ | ⟨p, _, _, rfl⟩
      · exact decide_eq_false h
      · unfold cP cS; rw [decide_eq_false h]; rfl
    · rcases hx with ⟨rfl, rfl⟩ | ⟨p, hp10, rfl, rfl⟩
      · exact ⟨fun _ => ⟨fun h => absurd h n10, fun _ => take (decide_eq_true h)⟩, fun h => absurd rfl h⟩
      · refine ⟨fun hc => absurd hc (nI_nm9 (by omega)), fun _ => ?_⟩
        rw [q_bit (by omega) (by omega)]
        refine br_n (fun hb => ⟨fun _ => skip ?_, fun h => absurd n00 h⟩) (fun hb => ⟨fun h => absurd h n10, fun _ => take ?_⟩)
        · unfold cP; rw [hb]; simp
        · unfold cP cS; rw [hb, decide_eq_true h]; rfl
theorem r_X7_isNetP (x : Int32) : a_Ret G sX7_isNet [.int x] μ (some (.int (bI (netOK x)))) μ := by
  intro post hp
  refine w_X7_isNet_0 _ (r_X7_in _ _ _ _ ⟨_, rfl, br_b (fun h1 => ⟨nI_00, ?_⟩) (fun h1 => ?_)⟩)
  · have e : netOK x = false := by
      refine Bool.eq_false_iff.mpr (fun hc => ?_)
      obtain ⟨e1, b1, b2⟩ := netOK_i hc
      generalize x.toNatClampNeg = s at *
      subst e1
      rw [inB_nI (by omega) (by omega) (by omega)] at h1
      have : s = 0 := by
        rcases Nat.eq_zero_or_pos s with h | h
        · exact h
        · rw [decide_eq_true (by omega), decide_eq_true (by omega)] at h1; cases h1
      subst this
      have : pop 0 = 0 := by decide
      omega
    rw [e] at hp; exact hp
  · obtain ⟨e1, b0, b1⟩ := inB_cl (by decide) (by decide) h1
    have e : netOK x = decide (2 ≤ pop x.toNatClampNeg) := by
      unfold netOK
      have : inB x (nI 0) (nI 1023) = true := by
        rw [e1, inB_nI (by omega) (by omega) (by omega), decide_eq_true (by omega), decide_eq_true (by omega)]; rfl
      rw [this, Bool.true_and]
    rw [e] at hp
    generalize x.toNatClampNeg = s at *
    subst e1
    have h20 := pop_le s
    refine r_X7_ones (by omega) _ ⟨_, rfl, ?_⟩
    rw [q_le (by omega) (by omega)]
    refine ⟨fun h => ⟨nI_00, ?_⟩, fun h => ⟨nI_11, ?_⟩⟩
    · rw [decide_eq_false (by omega)] at hp; exact hp
    · rw [decide_eq_true (by omega)] at hp; exact hp
theorem m_net (hd : xD X) (hmd : mD μ X) (x : Int32) : a_Spec G sX7_net [.ref 36, .int x] μ (fun v ν => v = some (.int (aNet X x)) ∧ a_eqx [54, 55, 56] μ ν) := by
  refine w_X7_net_0 _ (r_X7_isNetP _ _ ⟨_, rfl, br_n (fun h => ?_) (fun h => ?_)⟩)
  · obtain ⟨e1, b1, b2⟩ := netOK_i h
    have e : aNet X x = if netV X x.toNatClampNeg = 1000000 then -9 else nI (netV X x.toNatClampNeg) := by unfold aNet; rw [if_pos h]
    rw [e]
    generalize x.toNatClampNeg = s at *
    subst e1
    have hle : netV X s ≤ 1000000 := mnF_le (cS s) (trV X) 1024
    have hs0 : s ≠ 0 := fun h => by subst h; have : pop 0 = 0 := by decide
                                    omega
    refine (r_X7_layTrees hd hmd).mono ?_
    rintro v ν ⟨rfl, g1, g2⟩
    refine ⟨rfl, r_X7_leastNet b1 hs0 g2 hd (Or.inl ⟨rfl, rfl⟩) _ ⟨_, rfl, ?_⟩⟩
    show (¬ nI (netV X s) = nI 1000000 → _) ∧ (nI (netV X s) = nI 1000000 → _)
    rw [q_eq (by omega) (by omega)]
    refine ⟨fun h => ⟨?_, g1⟩, fun h => ⟨by rw [if_pos h], g1⟩⟩
    rw [if_neg h]; rfl
  · have e : aNet X x = -2 := by unfold aNet; rw [h]; rfl
    rw [e]; exact ⟨rfl, a_eqx.rf _ _⟩
theorem m_splice (hd : xD X) (hmd : mD μ X) (x : Int32) : a_Spec G sX7_splice [.ref 36, .int x] μ (fun v ν => v = some (.int (aSpl X x)) ∧ a_eqx [54, 55, 56] μ ν) := by
  refine w_X7_splice_0 _ (r_X7_isNetP _ _ ⟨_, rfl, br_n (fun h => ?_) (fun h => ?_)⟩)
  · obtain ⟨e1, b1, b2⟩ := netOK_i h
    have e : aSpl X x = if netV X x.toNatClampNeg = 1000000 then -9 else if fa_first (splB X x.toNatClampNeg) 10 < 10 then nI (fa_first (splB X x.toNatClampNeg) 10) else -9 := by unfold aSpl; rw [if_pos h]
    rw [e]
    generalize x.toNatClampNeg = s at *
    subst e1
    have hle : netV X s ≤ 1000000 := mnF_le (cS s) (trV X) 1024
    have hs0 : s ≠ 0 := fun h => by subst h; have : pop 0 = 0 := by decide
                                    omega
    refine (r_X7_layTrees hd hmd).mono ?_
    rintro v ν ⟨rfl, g1, g2⟩
    refine ⟨rfl, r_X7_leastNet b1 hs0 g2 hd (Or.inl ⟨rfl, rfl⟩) _ ⟨_, rfl, ?_⟩⟩
    show a_Runs G sX7_splice 24 [(0, .ref 36), (1, .int (nI s)), (2, .int (nI (netV X s))), (3, .int (nI 0))] [] ν _
    by_cases h : netV X s = 1000000
    · rw [if_pos h]
      refine w_X7_splice_24 _ _ _ ⟨fun _ => ⟨rfl, g1⟩, fun _ => ⟨fun _ => ⟨rfl, g1⟩, fun hc => ?_⟩⟩
      rw [q_le (by omega) (by omega)] at hc; omega
    rw [if_neg h]
    have hno := fa_first_no (splB X s) 10
    have hyes := fa_first_yes (splB X s) 10
    have hf10 := fa_first_le (splB X s) 10
    generalize fa_first (splB X s) 10 = F at *
    refine a_for (fun i (_ : Unit) => a_Runs G sX7_splice 24 [(0, .ref 36), (1, .int (nI s)), (2, .int (nI (netV X s))), (3, .int (nI i))] [] ν _) (fun _ _ => True) F ?_ ?_ 0 () (by omega) trivial
    · intro _ _
      refine w_X7_splice_24 _ _ _ ⟨fun hc => ?_, fun hc => ?_⟩
      · rw [q_le (by omega) (by omega)] at hc
        exact ⟨by rw [if_neg (by omega)], g1⟩
      · rw [q_le (by omega) (by omega)] at hc
        have hF : F < 10 := by omega
        have hy := hyes hF
        unfold splB at hy
        rw [Bool.and_eq_true, Bool.not_eq_true'] at hy
        have hlw : lwV X s F ≤ 1000000 := mnF_le _ _ _
        have hdc := of_decide_eq_true hy.2
        rw [q_le (by omega) (by omega), q_bit (by omega) (by omega)]
        refine ⟨fun hc => by omega, fun _ => br_n (fun hb => by rw [hy.1] at hb; cases hb) (fun hb => ?_)⟩
        refine r_X7_leastNet b1 hs0 g2 hd (Or.inr ⟨F, hF, rfl, rfl⟩) _ ⟨_, rfl, ?_⟩
        show (nI (lwV X s F) ≤ nI (netV X s) → _) ∧ (¬ nI (lwV X s F) ≤ nI (netV X s) → _)
        rw [q_le (by omega) (by omega)]
        exact ⟨fun hc => absurd hc (by omega), fun _ => ⟨by rw [if_pos hF], g1⟩⟩
    · intro i _ hi _ ih
      have hn := hno i hi
      have hlw : lwV X s i ≤ 1000000 := mnF_le _ _ _
      refine w_X7_splice_24 _ _ _ ⟨fun hc => ?_, fun _ => ?_⟩
      · rw [q_le (by omega) (by omega)] at hc; omega
      · rw [q_le (by omega) (by omega), q_bit (by omega) (by omega), nI_add]
        refine ⟨fun hc => by omega, fun _ => br_n (fun hb => ih () trivial) (fun hb => ?_)⟩
        unfold splB at hn
        rw [hb, Bool.not_false, Bool.true_and] at hn
        have hn := of_decide_eq_false hn
        refine r_X7_leastNet b1 hs0 g2 hd (Or.inr ⟨i, by omega, rfl, rfl⟩) _ ⟨_, rfl, ?_⟩
        show (nI (lwV X s i) ≤ nI (netV X s) → _) ∧ (¬ nI (lwV X s i) ≤ nI (netV X s) → _)
        rw [q_le (by omega) (by omega)]
        exact ⟨fun _ => ih () trivial, fun hc => absurd (by omega) hc⟩
  · have e : aSpl X x = -2 := by unfold aSpl; rw [h]; rfl
    rw [e]; exact ⟨rfl, a_eqx.rf _ _⟩
end MNET
end
section
/-! ===== plans: sets of orders, the best plan of a set by its first loom; pure ===== -/
def lw (S : Nat) : Nat := S &&& (256 - S)
def fo (S : Nat) : Nat := fa_first (fun i => S.testBit i) 8
def oth (S : Nat) : Nat := S ^^^ lw S
theorem lw_fo : ∀ S, S < 256 → S ≠ 0 → fo S < 8 ∧ lw S = 2 ^ fo S ∧ oth S < S ∧ oth S < 256 := by decide +kernel
theorem lw_i : ∀ S, S < 256 → nI S &&& -(nI S) = nI (lw S) := by decide +kernel
def bsq (o : Nat) : Nat → Nat
  | 0 => o
  | i + 1 => if bsq o i = 0 then o else (bsq o i - 1) &&& o
def blst (o : Nat) : Nat → Nat → List Nat
  | 0, _ => []
  | n + 1, b => b :: blst o n (if b = 0 then o else (b - 1) &&& o)
def covB (o : Nat) : Bool := (List.range 256).all (fun B => !(Nat.beq (B &&& o) B) || (blst o (2 ^ pop o) o).any (Nat.beq B))
theorem cov_all : ∀ o, o < 256 → covB o = true := by decide +kernel
theorem blst_in {o x : Nat} : ∀ {n k : Nat}, x ∈ blst o n (bsq o k) → ∃ i, i < n ∧ x = bsq o (k + i)
  | 0, k, h => by cases h
  | n + 1, k, h => by
    have h : x ∈ bsq o k :: blst o n (bsq o (k + 1)) := h
    rcases List.mem_cons.mp h with h | h
    · exact ⟨0, by omega, h⟩
    · obtain ⟨i, h1, h2⟩ := blst_in h
      exact ⟨i + 1, by omega, by rw [h2]; congr 1; omega⟩
theorem bs_cov {o B : Nat} (ho : o < 256) (hB : B &&& o = B) : ∃ i, i < 2 ^ pop o ∧ bsq o i = B := by
  have h := cov_all o ho
  unfold covB at h
  rw [List.all_eq_true] at h
  have hl : B < 256 := by have : B &&& o ≤ o := Nat.and_le_right
                          omega
  have q := h B (List.mem_range.mpr hl)
  rw [Bool.or_eq_true] at q
  rcases q with q | q
  · rw [hB] at q; simp at q
  · rw [List.any_eq_true] at q
    obtain ⟨x, x1, x2⟩ := q
    obtain ⟨i, i1, i2⟩ := blst_in (k := 0) x1
    rw [Nat.zero_add] at i2
    exact ⟨i, i1, by rw [← i2]; exact (Nat.eq_of_beq_eq_true x2).symm⟩
theorem bsq_sub (o : Nat) : ∀ i, bsq o i &&& o = bsq o i
  | 0 => Nat.and_self o
  | i + 1 => by
    show (if bsq o i = 0 then o else (bsq o i - 1) &&& o) &&& o = if bsq o i = 0 then o else (bsq o i - 1) &&& o
    split
    · exact Nat.and_self o
    · rw [Nat.and_assoc, Nat.and_self]
theorem pow8 {k : Nat} (h : k < 8) : 2 ^ k < 256 := Nat.lt_of_lt_of_le (Nat.pow_lt_pow_right (by decide) h) (by decide)
theorem xor8 {a b : Nat} (ha : a < 256) (hb : b < 256) : a ^^^ b < 256 := by
  have h := Nat.xor_lt_two_pow (n := 8) (x := a) (y := b) (by omega) (by omega)
  omega
theorem or8 {a b : Nat} (ha : a < 256) (hb : b < 256) : a ||| b < 256 := by
  have h := Nat.or_lt_two_pow (n := 8) (x := a) (y := b) (by omega) (by omega)
  omega
end
section
def uS (S : Nat) : Nat := fb_sm (fun o => if S.testBit o then 8 ^ (7 - o) else 0) 8
def mnL (v : Nat → Nat) : Nat → Nat
  | 0 => 9223372036854775807
  | n + 1 => min (v n) (mnL v n)
theorem mnL_le (v : Nat → Nat) : ∀ {n i : Nat}, i < n → mnL v n ≤ v i
  | 0, i, h => by omega
  | n + 1, i, h => by
    show min (v n) (mnL v n) ≤ v i
    by_cases e : i = n
    · subst e; omega
    · have := mnL_le v (n := n) (i := i) (by omega); omega
theorem mnL_ex (v : Nat → Nat) : ∀ {n : Nat}, (∃ i, i < n ∧ mnL v n = v i) ∨ mnL v n = 9223372036854775807
  | 0 => Or.inr rfl
  | n + 1 => by
    show (∃ i, i < n + 1 ∧ min (v n) (mnL v n) = v i) ∨ min (v n) (mnL v n) = _
    by_cases h : v n ≤ mnL v n
    · exact Or.inl ⟨n, by omega, by omega⟩
    · rcases mnL_ex v (n := n) with ⟨i, h1, h2⟩ | h2
      · exact Or.inl ⟨i, by omega, by omega⟩
      · exact Or.inr (by omega)
theorem mnL_cong {v w : Nat → Nat} : ∀ {n : Nat}, (∀ i, i < n → v i = w i) → mnL v n = mnL w n
  | 0, _ => rfl
  | n + 1, h => by show min (v n) (mnL v n) = min (w n) (mnL w n); rw [h n (by omega), mnL_cong (fun i hi => h i (by omega))]
def vlP (K p : Nat → Nat) (S B : Nat) : Nat := K (lw S ||| B) * 2 ^ 28 + 2 ^ 24 + p (oth S ^^^ B) + uS (oth S ^^^ B)
def lpP (K p : Nat → Nat) (S : Nat) : Nat := mnL (fun i => vlP K p S (bsq (oth S) i)) (2 ^ pop (oth S))
def pT (K : Nat → Nat) : Nat → (Nat → Nat)
  | 0 => fun _ => 0
  | t + 1 => if t = 0 then fun _ => 0 else upN (pT K t) t (lpP K (pT K t) t)
def plP (K : Nat → Nat) (S : Nat) : Nat := pT K (S + 1) S
theorem pT_keep (K : Nat → Nat) : ∀ {t s : Nat}, s < t → pT K t s = plP K s
  | 0, s, h => by omega
  | t + 1, s, h => by
    by_cases e : s = t
    · subst e; rfl
    · show (if t = 0 then fun _ => 0 else upN (pT K t) t (lpP K (pT K t) t)) s = _
      rw [if_neg (by omega), upN_n _ _ e]
      exact pT_keep K (by omega)
theorem set_ext {A B : Nat} (hA : A < 256) (hB : B < 256) (h : ∀ o, o < 8 → A.testBit o = B.testBit o) : A = B := by
  refine Nat.eq_of_testBit_eq (fun i => ?_)
  by_cases hi : i < 8
  · exact h i hi
  · have hp : 2 ^ 8 ≤ 2 ^ i := Nat.pow_le_pow_right (by decide) (by omega)
    have hp : 256 ≤ 2 ^ i := hp
    rw [Nat.testBit_lt_two_pow (Nat.lt_of_lt_of_le hA hp), Nat.testBit_lt_two_pow (Nat.lt_of_lt_of_le hB hp)]
theorem sub_le {A o : Nat} (h : A &&& o = A) : A ≤ o := by rw [← h]; exact Nat.and_le_right
theorem sub_bit {A o i : Nat} (h : A &&& o = A) (hi : A.testBit i = true) : o.testBit i = true := by
  rw [← h, Nat.testBit_and, Bool.and_eq_true] at hi; exact hi.2
theorem xor_sub {o B : Nat} (h : B &&& o = B) : (o ^^^ B) &&& o = o ^^^ B := by
  refine Nat.eq_of_testBit_eq (fun i => ?_)
  rw [Nat.testBit_and, Nat.testBit_xor]
  cases ho : o.testBit i
  · cases hb : B.testBit i
    · rfl
    · rw [sub_bit h hb] at ho; cases ho
  · rw [Bool.and_true]
theorem plP_0 (K : Nat → Nat) : plP K 0 = 0 := rfl
theorem plP_e (K : Nat → Nat) {S : Nat} (hS : S < 256) (h0 : S ≠ 0) : plP K S = lpP K (plP K) S := by
  have hl := lw_fo S hS h0
  have e : plP K S = lpP K (pT K S) S := by
    show (if S = 0 then fun _ => 0 else upN (pT K S) S (lpP K (pT K S) S)) S = _
    rw [if_neg h0, upN_s]
  rw [e]
  refine mnL_cong (fun i _ => ?_)
  unfold vlP
  have := sub_le (xor_sub (bsq_sub (oth S) i))
  rw [pT_keep K (by omega)]
theorem uS_0 : uS 0 = 0 := by decide
theorem uS_le (S : Nat) : uS S ≤ 2396745 := by
  have h := fb_sm_le (f := fun o => if S.testBit o then 8 ^ (7 - o) else 0) (g := fun o => 8 ^ (7 - o)) (n := 8) (fun k _ => by split; exact Nat.le_refl _; exact Nat.zero_le _)
  have e : fb_sm (fun o => 8 ^ (7 - o)) 8 = 2396745 := by decide
  unfold uS; omega
section PLAN
variable {K : Nat → Nat}
theorem plP_bd (hK : ∀ A, A < 256 → K A ≤ 8200000) {S : Nat} (hS : S < 256) : plP K S ≤ 2 ^ 52 := by
  by_cases h0 : S = 0
  · rw [h0, plP_0]; decide
  · obtain ⟨l1, l2, l3, l4⟩ := lw_fo S hS h0
    rw [plP_e K hS h0]
    have h := mnL_le (fun i => vlP K (plP K) S (bsq (oth S) i)) (n := 2 ^ pop (oth S)) (i := 0) (Nat.two_pow_pos _)
    have e : vlP K (plP K) S (bsq (oth S) 0) = K (lw S ||| oth S) * 2 ^ 28 + 2 ^ 24 + 0 + 0 := by
      show K (lw S ||| oth S) * 2 ^ 28 + 2 ^ 24 + plP K (oth S ^^^ oth S) + uS (oth S ^^^ oth S) = _
      rw [Nat.xor_self, plP_0, uS_0]
    have hk := hK (lw S ||| oth S) (or8 (by rw [l2]; exact pow8 l1) l4)
    have h : lpP K (plP K) S ≤ vlP K (plP K) S (bsq (oth S) 0) := h
    rw [e] at h
    omega
theorem plP_is (hK : ∀ A, A < 256 → K A ≤ 8200000) {S : Nat} (hS : S < 256) (h0 : S ≠ 0) : (∃ B, B &&& oth S = B ∧ plP K S = vlP K (plP K) S B) ∧ ∀ B, B &&& oth S = B → plP K S ≤ vlP K (plP K) S B := by
  obtain ⟨l1, l2, l3, l4⟩ := lw_fo S hS h0
  have hb := plP_bd hK hS
  rw [plP_e K hS h0] at hb ⊢
  refine ⟨?_, fun B hB => ?_⟩
  · rcases mnL_ex (fun i => vlP K (plP K) S (bsq (oth S) i)) (n := 2 ^ pop (oth S)) with ⟨i, h1, h2⟩ | h2
    · exact ⟨bsq (oth S) i, bsq_sub _ _, h2⟩
    · have h2 : lpP K (plP K) S = 9223372036854775807 := h2
      omega
  · obtain ⟨i, i1, i2⟩ := bs_cov l4 hB
    have := mnL_le (fun i => vlP K (plP K) S (bsq (oth S) i)) i1
    rw [← i2]; exact this
-- rows that grow
def stL (S : Nat) (r : Nat → Nat) (l : Nat) : Nat := orF (fun o => if S.testBit o && decide (r o = l) then 2 ^ o else 0) 8
def Wf (K : Nat → Nat) (A : Nat) : Nat := if A = 0 then 0 else K A * 2 ^ 28 + 2 ^ 24
def dgS (S : Nat) (r : Nat → Nat) : Nat := fb_sm (fun o => if S.testBit o then r o * 8 ^ (7 - o) else 0) 8
def vR (K : Nat → Nat) (N S : Nat) (r : Nat → Nat) : Nat := fb_sm (fun l => Wf K (stL S r l)) N + dgS S r
def gr (S : Nat) (r : Nat → Nat) : Prop := ∀ o, o < 8 → S.testBit o = true → r o = 0 ∨ ∃ i, i < o ∧ S.testBit i = true ∧ r i + 1 = r o
theorem stL_lt (S : Nat) (r : Nat → Nat) (l : Nat) : stL S r l < 256 := by
  have h : stL S r l < 2 ^ 8 := orF_lt (b := 8) (fun i hi => by
    show (if S.testBit i && decide (r i = l) then 2 ^ i else 0) < 2 ^ 8
    split
    · exact Nat.pow_lt_pow_right (by decide) hi
    · decide)
  omega
theorem stL_bit {S : Nat} {r : Nat → Nat} {l o : Nat} (h : o < 8) : (stL S r l).testBit o = (S.testBit o && decide (r o = l)) := orF_if (b := fun o => S.testBit o && decide (r o = l)) h
theorem stL_cong {S : Nat} {r r' : Nat → Nat} (h : ∀ o, o < 8 → S.testBit o = true → r o = r' o) (l : Nat) : stL S r l = stL S r' l := orF_cong (fun o ho => by
  cases hb : S.testBit o
  · rfl
  · rw [h o ho hb])
theorem vR_cong {N S : Nat} {r r' : Nat → Nat} (h : ∀ o, o < 8 → S.testBit o = true → r o = r' o) : vR K N S r = vR K N S r' := by
  have e1 : fb_sm (fun l => Wf K (stL S r l)) N = fb_sm (fun l => Wf K (stL S r' l)) N := fb_sm_cong (fun l _ => by show Wf K _ = Wf K _; rw [stL_cong h])
  have e2 : dgS S r = dgS S r' := fb_sm_cong (fun o ho => by
    show (if S.testBit o then r o * 8 ^ (7 - o) else 0) = if S.testBit o then r' o * 8 ^ (7 - o) else 0
    cases hb : S.testBit o
    · rfl
    · rw [h o ho hb])
  unfold vR
  rw [e1, e2]
theorem gr_le {S : Nat} {r : Nat → Nat} (h : gr S r) : ∀ n o, o ≤ n → o < 8 → S.testBit o = true → r o ≤ o := by
  intro n
  induction n with
  | zero =>
    intro o ho h8 hb
    rcases h o h8 hb with q | ⟨i, i1, _⟩ <;> omega
  | succ n ih =>
    intro o ho h8 hb
    rcases h o h8 hb with q | ⟨i, i1, i2, i3⟩
    · omega
    · have := ih i (by omega) (by omega) i2; omega
theorem vR_step {N S : Nat} {r : Nat → Nat} (hS : S < 256) (h0 : S ≠ 0) (hg : gr S r) :
    vR K (N + 1) S r = K (stL S r 0) * 2 ^ 28 + 2 ^ 24 + vR K N (S ^^^ stL S r 0) (fun o => r o - 1) + uS (S ^^^ stL S r 0) ∧ gr (S ^^^ stL S r 0) (fun o => r o - 1) ∧ (∀ o, o < 8 → (S ^^^ stL S r 0).testBit o = (S.testBit o && decide (r o ≠ 0))) ∧ (stL S r 0 ^^^ lw S) &&& oth S = stL S r 0 ^^^ lw S ∧ lw S ||| (stL S r 0 ^^^ lw S) = stL S r 0 ∧ oth S ^^^ (stL S r 0 ^^^ lw S) = S ^^^ stL S r 0 := by
  obtain ⟨l1, l2, l3, l4⟩ := lw_fo S hS h0
  have hf : S.testBit (fo S) = true := fa_first_yes (fun i => S.testBit i) 8 l1
  have hfn : ∀ i, i < fo S → S.testBit i = false := fa_first_no (fun i => S.testBit i) 8
  have hr0 : r (fo S) = 0 := by
    rcases hg (fo S) l1 hf with h | ⟨i, i1, i2, _⟩
    · exact h
    · rw [hfn i i1] at i2; cases i2
  have hRb : ∀ o, o < 8 → (S ^^^ stL S r 0).testBit o = (S.testBit o && decide (r o ≠ 0)) := fun o ho => by
    rw [Nat.testBit_xor, stL_bit ho]
    cases S.testBit o <;> by_cases q : r o = 0 <;> simp [q]
  have hlw : lw S < 256 := by rw [l2]; exact pow8 l1
  have hA := stL_lt S r 0
  have hAf : (stL S r 0).testBit (fo S) = true := by rw [stL_bit l1, hf, hr0]; rfl
  have hlb : ∀ o, (lw S).testBit o = decide (fo S = o) := fun o => by rw [l2, Nat.testBit_two_pow]
  have hob : ∀ o, o < 8 → (oth S).testBit o = (S.testBit o && decide (fo S ≠ o)) := fun o ho => by
    unfold oth
    rw [Nat.testBit_xor, hlb]
    by_cases q : fo S = o
    · subst q; simp [hf]
    · simp [q]
  have hAne : stL S r 0 ≠ 0 := fun h => by rw [h] at hAf; simp at hAf
  have hxl : stL S r 0 ^^^ lw S < 256 := xor8 hA hlw
  refine ⟨?_, fun o ho hb => ?_, hRb, ?_, ?_, ?_⟩
  · unfold vR
    rw [Nat.add_comm N 1, fb_sm_split]
    have e1 : fb_sm (fun l => Wf K (stL S r l)) 1 = K (stL S r 0) * 2 ^ 28 + 2 ^ 24 := by
      show 0 + Wf K (stL S r 0) = _
      unfold Wf; rw [if_neg hAne, Nat.zero_add]
    have e2 : fb_sm (fun k => Wf K (stL S r (1 + k))) N = fb_sm (fun l => Wf K (stL (S ^^^ stL S r 0) (fun o => r o - 1) l)) N := fb_sm_cong (fun l _ => by
      show Wf K _ = Wf K _
      congr 1
      refine set_ext (stL_lt _ _ _) (stL_lt _ _ _) (fun o ho => ?_)
      rw [stL_bit ho, stL_bit ho, hRb o ho]
      cases S.testBit o
      · rfl
      · simp only [Bool.true_and]
        by_cases q : r o = 1 + l
        · rw [q]; simp
        · by_cases q2 : r o = 0
          · simp [q2]; omega
          · simp [q, q2]; omega)
    have e3 : dgS S r = dgS (S ^^^ stL S r 0) (fun o => r o - 1) + uS (S ^^^ stL S r 0) := by
      unfold dgS uS
      rw [← fb_sm_add]
      refine fb_sm_cong (fun o ho => ?_)
      show (if S.testBit o then r o * 8 ^ (7 - o) else 0) = (if (S ^^^ stL S r 0).testBit o then (r o - 1) * 8 ^ (7 - o) else 0) + if (S ^^^ stL S r 0).testBit o then 8 ^ (7 - o) else 0
      rw [hRb o ho]
      cases S.testBit o
      · rfl
      · by_cases q : r o = 0
        · simp [q]
        · obtain ⟨k, hk⟩ : ∃ k, r o = k + 1 := ⟨r o - 1, by omega⟩
          rw [hk]; simp [Nat.add_mul]
    rw [e1, e2, e3]; omega
  · rw [hRb o ho, Bool.and_eq_true] at hb
    obtain ⟨b1, b2⟩ := hb
    have b2 := of_decide_eq_true b2
    rcases hg o ho b1 with h | ⟨i, i1, i2, i3⟩
    · exact absurd h b2
    · by_cases q : r i = 0
      · left; show r o - 1 = 0; omega
      · right
        refine ⟨i, i1, ?_, by show r i - 1 + 1 = r o - 1; omega⟩
        rw [hRb i (by omega), i2, decide_eq_true q]; rfl
  · refine set_ext (Nat.lt_of_le_of_lt Nat.and_le_left hxl) hxl (fun o ho => ?_)
    rw [Nat.testBit_and, Nat.testBit_xor, hlb, hob o ho, stL_bit ho]
    by_cases q : fo S = o
    · subst q; simp [hf, hr0]
    · cases S.testBit o <;> simp [q]
  · refine set_ext (or8 hlw hxl) hA (fun o ho => ?_)
    rw [Nat.testBit_or, Nat.testBit_xor, hlb, stL_bit ho]
    by_cases q : fo S = o
    · subst q; simp [hf, hr0]
    · simp [q]
  · unfold oth
    rw [Nat.xor_comm (stL S r 0) (lw S), ← Nat.xor_assoc, Nat.xor_assoc S, Nat.xor_self, Nat.xor_zero]
/-- every row costs at least the plan -/
theorem plP_lo (hK : ∀ A, A < 256 → K A ≤ 8200000) : ∀ (N S : Nat) (r : Nat → Nat), S < 256 → gr S r → (∀ o, o < 8 → S.testBit o = true → r o < N) → plP K S ≤ vR K N S r := by
  intro N
  induction N with
  | zero =>
    intro S r hS hg hN
    have : S = 0 := by
      refine set_ext hS (by decide) (fun o ho => ?_)
      rw [Nat.zero_testBit]
      refine Bool.eq_false_iff.mpr (fun hb => ?_)
      have := hN o ho hb; omega
    rw [this, plP_0]; exact Nat.zero_le _
  | succ N ih =>
    intro S r hS hg hN
    by_cases h0 : S = 0
    · rw [h0, plP_0]; exact Nat.zero_le _
    · obtain ⟨v1, v2, v3, v4, v5, v6⟩ := vR_step (K := K) (N := N) hS h0 hg
      have h1 := (plP_is hK hS h0).2 _ v4
      unfold vlP at h1
      rw [v5, v6] at h1
      have h2 := ih (S ^^^ stL S r 0) (fun o => r o - 1) (xor8 hS (stL_lt _ _ _)) v2 (fun o ho hb => by
        rw [v3 o ho, Bool.and_eq_true] at hb
        have := hN o ho hb.1
        have := of_decide_eq_true hb.2
        show r o - 1 < N
        omega)
      rw [v1]; omega
/-- and one row costs just that -/
theorem plP_at (hK : ∀ A, A < 256 → K A ≤ 8200000) : ∀ (n S : Nat), S ≤ n → S < 256 → ∃ r, gr S r ∧ ∀ N, (∀ o, o < 8 → S.testBit o = true → r o < N) → vR K N S r = plP K S := by
  have zero : ∃ r, gr 0 r ∧ ∀ N, (∀ o, o < 8 → Nat.testBit 0 o = true → r o < N) → vR K N 0 r = plP K 0 := by
    refine ⟨fun _ => 0, (fun o _ hb => by rw [Nat.zero_testBit] at hb; cases hb), fun N _ => ?_⟩
    have e : ∀ l, stL 0 (fun _ => 0) l = 0 := fun l => set_ext (stL_lt _ _ _) (by decide) (fun o ho => by rw [stL_bit ho, Nat.zero_testBit]; rfl)
    unfold vR
    rw [fb_sm_cong (g := fun _ => 0) (fun l _ => by show Wf K _ = 0; rw [e]; rfl), fb_sm_const, plP_0]
    have : dgS 0 (fun _ => 0) = 0 := by decide
    omega
  intro n
  induction n with
  | zero =>
    intro S hn hS
    have : S = 0 := by omega
    subst this; exact zero
  | succ n ih =>
    intro S hn hS
    by_cases h0 : S = 0
    · subst h0; exact zero
    · obtain ⟨l1, l2, l3, l4⟩ := lw_fo S hS h0
      obtain ⟨B, hB, hP⟩ := (plP_is hK hS h0).1
      have hf : S.testBit (fo S) = true := fa_first_yes (fun i => S.testBit i) 8 l1
      have hfn : ∀ i, i < fo S → S.testBit i = false := fa_first_no (fun i => S.testBit i) 8
      have hlb : ∀ o, (lw S).testBit o = decide (fo S = o) := fun o => by rw [l2, Nat.testBit_two_pow]
      have hob : ∀ o, (oth S).testBit o = (S.testBit o ^^ decide (fo S = o)) := fun o => by unfold oth; rw [Nat.testBit_xor, hlb]
      have hRs := xor_sub hB
      have hRle := sub_le hRs
      have hRS : ∀ o, (oth S ^^^ B).testBit o = true → S.testBit o = true ∧ fo S ≠ o := fun o hb => by
        have h := sub_bit hRs hb
        rw [hob] at h
        by_cases q : fo S = o
        · subst q; rw [hf] at h; simp at h
        · refine ⟨?_, q⟩
          simpa [q] using h
      obtain ⟨r', g1, g2⟩ := ih (oth S ^^^ B) (by omega) (by omega)
      have hgS : gr S (fun o => if (oth S ^^^ B).testBit o then r' o + 1 else 0) := by
        intro o ho hb
        show (if (oth S ^^^ B).testBit o then r' o + 1 else 0) = 0 ∨ ∃ i, i < o ∧ S.testBit i = true ∧ (if (oth S ^^^ B).testBit i then r' i + 1 else 0) + 1 = (if (oth S ^^^ B).testBit o then r' o + 1 else 0)
        cases hR : (oth S ^^^ B).testBit o
        · left; rfl
        · right
          rw [if_pos rfl]
          rcases g1 o ho hR with h | ⟨i, i1, i2, i3⟩
          · refine ⟨fo S, ?_, hf, ?_⟩
            · rcases Nat.lt_trichotomy (fo S) o with q | q | q
              · exact q
              · exact absurd q (hRS o hR).2
              · rw [hfn o q] at hb; cases hb
            · have : (oth S ^^^ B).testBit (fo S) = false := Bool.eq_false_iff.mpr (fun hc => (hRS _ hc).2 rfl)
              rw [this, h]; rfl
          · exact ⟨i, i1, (hRS i i2).1, by rw [i2, if_pos rfl, i3]⟩
      refine ⟨_, hgS, fun N hN => ?_⟩
      obtain ⟨N, rfl⟩ : ∃ M, N = M + 1 := ⟨N - 1, by have := hN (fo S) l1 hf; omega⟩
      obtain ⟨v1, v2, v3, v4, v5, v6⟩ := vR_step (K := K) (N := N) hS h0 hgS
      have eR : S ^^^ stL S (fun o => if (oth S ^^^ B).testBit o then r' o + 1 else 0) 0 = oth S ^^^ B := by
        refine set_ext (xor8 hS (stL_lt _ _ _)) (by omega) (fun o ho => ?_)
        rw [v3 o ho]
        cases hR : (oth S ^^^ B).testBit o
        · simp
        · simp [(hRS o hR).1]
      have eA : stL S (fun o => if (oth S ^^^ B).testBit o then r' o + 1 else 0) 0 = lw S ||| B := by
        have hlw : lw S < 256 := by rw [l2]; exact pow8 l1
        have hBle := sub_le hB
        refine set_ext (stL_lt _ _ _) (or8 hlw (by omega)) (fun o ho => ?_)
        rw [stL_bit ho, Nat.testBit_or, hlb, Nat.testBit_xor, hob]
        cases hb : B.testBit o
        · by_cases q : fo S = o
          · subst q; simp [hf]
          · cases S.testBit o <;> simp [q]
        · have h := sub_bit hB hb
          rw [hob] at h
          rw [h]
          by_cases q : fo S = o
          · subst q; rw [hf] at h; simp at h
          · have : S.testBit o = true := by simpa [q] using h
            simp [this]
      rw [v1, eR, eA]
      have e2 : vR K N (oth S ^^^ B) (fun o => (if (oth S ^^^ B).testBit o then r' o + 1 else 0) - 1) = vR K N (oth S ^^^ B) r' := vR_cong (fun o _ hb => by rw [if_pos hb]; rfl)
      rw [e2, g2 N (fun o ho hb => by
        have := hN o ho (hRS o hb).1
        have this : (if (oth S ^^^ B).testBit o then r' o + 1 else 0) < N + 1 := this
        rw [if_pos hb] at this; omega), hP]
      unfold vlP; omega
end PLAN
end
section
/-! ===== best and loom, the class ===== -/
def pcs (X : aX) (A : Nat) : Nat := fb_sm (fun o => if A.testBit o then X 16 o else 0) (X 14 0)
def kX (X : aX) (A : Nat) : Nat := X 17 0 + pcs X A * wgt X A
def plX (X : aX) : Nat := plP (kX X) (2 ^ X 14 0 - 1)
def aBest (X : aX) : Int64 := lN (plX X / 2 ^ 28)
def aLoom (X : aX) (x : Int32) : Int32 := if inB x (nI 0) (nI (X 14 0) - nI 1) then nI (plX X / 8 ^ (7 - x.toNatClampNeg) % 8) else -1
/-- the plan as it is kept -/
def cQ (μ : aMem) (X : aX) : Prop := μ.1 30 0 = nI 0 ∧ μ.1 31 0 = nI 0 ∧ μ.1 33 0 = nI 0 ∧ (μ.1 5 2 = 0 → μ.2 34 (2 ^ X 14 0 - 1) = lN (plX X))
theorem s64 : ∀ k, k < 64 → (((nI k).toInt64 &&& 63).toBitVec.smod 64).toNat = k := by decide +kernel
theorem pk_shr64 (a s : Int64) (k : Nat) (hs : (s.toBitVec.smod 64).toNat = k) : (a >>> s).toInt = a.toInt >>> k := by
  show (a.toBitVec.sshiftRight (s.toBitVec.smod 64).toNat).toInt = _
  rw [hs, BitVec.toInt_sshiftRight]
  rfl
theorem q_shr64 {n k : Nat} (hn : n < 2 ^ 63) (hk : k < 64) : lN n >>> ((nI k).toInt64 &&& 63) = lN (n / 2 ^ k) := by
  apply Int64.toInt_inj.mp
  have h2 : n / 2 ^ k ≤ n := Nat.div_le_self _ _
  rw [pk_shr64 _ _ k (s64 k hk), pk_lT hn, pk_lT (by omega), Int.shiftRight_eq_div_pow]
  rfl
theorem pcs_le {X : aX} (ho : xO X) (A : Nat) : pcs X A ≤ 8000 := by
  have h := fb_sm_bound (f := fun o => if A.testBit o then X 16 o else 0) (c := 1000) (n := X 14 0) (fun i hi => by
    show (if A.testBit i then X 16 i else 0) ≤ 1000
    have := ho.2.1 i hi; split <;> omega)
  have := ho.1
  unfold pcs; omega
theorem kX_le {X : aX} (hx : xW X) (ho : xO X) (A : Nat) : kX X A ≤ 8200000 ∧ pcs X A * wgt X A ≤ 8000000 := by
  have h1 := pcs_le ho A
  have h2 := wgt_le hx A
  have h3 := ho.2.2
  have h4 : pcs X A * wgt X A ≤ 8000 * 1000 := Nat.mul_le_mul h1 h2
  unfold kX; omega
theorem orF_add {g : Nat → Nat} {t i m : Nat} (hi : i < m) : orF (fun o => if (t ||| 2 ^ i).testBit o then g o else 0) m = orF (fun o => if t.testBit o then g o else 0) m ||| g i := by
  refine Nat.eq_of_testBit_eq (fun b => ?_)
  rw [Nat.testBit_or, Bool.eq_iff_iff, Bool.or_eq_true, orF_bit, orF_bit]
  constructor
  · rintro ⟨j, h1, h2⟩
    by_cases e : i = j
    · subst e
      right
      rw [Nat.testBit_or, Nat.testBit_two_pow] at h2; simpa using h2
    · left
      refine ⟨j, h1, ?_⟩
      rw [Nat.testBit_or, Nat.testBit_two_pow] at h2; simpa [e] using h2
  · rintro (⟨j, h1, h2⟩ | h)
    · refine ⟨j, h1, ?_⟩
      rw [Nat.testBit_or]
      cases hb : t.testBit j
      · rw [hb] at h2; simp at h2
      · rw [hb] at h2; simpa using h2
    · exact ⟨i, hi, by rw [Nat.testBit_or, Nat.testBit_two_pow]; simpa using h⟩
theorem sm_add {a : Nat → Nat} {t i m : Nat} (hi : i < m) (hb : t.testBit i = false) : fb_sm (fun o => if (t ||| 2 ^ i).testBit o then a o else 0) m = fb_sm (fun o => if t.testBit o then a o else 0) m + a i := by
  have h := fb_sm_upd (fun o => if t.testBit o then a o else 0) (a i) (i := i) (n := m) hi
  rw [hb] at h
  have e : fb_sm (fun o => if (t ||| 2 ^ i).testBit o then a o else 0) m = fb_sm (fun k => if k = i then a i else (if t.testBit k then a k else 0)) m := fb_sm_cong (fun o _ => by
    show (if (t ||| 2 ^ i).testBit o then a o else 0) = if o = i then a i else (if t.testBit o then a o else 0)
    rw [Nat.testBit_or, Nat.testBit_two_pow]
    by_cases q : o = i
    · subst q; simp
    · have q2 : ¬ i = o := fun h => q h.symm
      simp [q, q2])
  rw [e]
  have h : fb_sm (fun k => if k = i then a i else if t.testBit k then a k else 0) m + 0 = fb_sm (fun o => if t.testBit o then a o else 0) m + a i := h
  omega
theorem low_nb {t i : Nat} (h : t < 2 ^ i) : t.testBit i = false := Nat.testBit_lt_two_pow h
theorem or_plus {t i : Nat} (h : t < 2 ^ i) : t ||| 2 ^ i = 2 ^ i + t := by
  have := Nat.two_pow_add_eq_or_of_lt h 1
  rw [Nat.mul_one] at this
  rw [Nat.or_comm]; exact this.symm
theorem p38 (a : Nat) : 2 ^ (a * 3) = 8 ^ a := by rw [Nat.mul_comm, Nat.pow_mul]
theorem p24 : (2 : Nat) ^ 24 = 16777216 := by decide
theorem q_minL {V M : Nat} (hV : V < 2 ^ 63) (hM : M < 2 ^ 63) : (if lN V < lN M then lN V else lN M) = lN (min V M) := by
  by_cases hc : V < M
  · rw [if_pos ((pk_lLT hV hM).mpr hc), Nat.min_eq_left (by omega)]
  · rw [if_neg (fun h => hc ((pk_lLT hV hM).mp h)), Nat.min_eq_right (by omega)]
section CPLAN
variable {G : aG} {μ : aMem} {X : aX}
def gsI (X : aX) (N : aMem) (s : Nat) : Prop := N.1 30 s = nI (wfM X s) ∧ N.1 31 s = nI (pcs X s) ∧ N.1 33 s = nI (uS s)
theorem r_X1_gatherSums (hx : xW X) (ho : xO X) (hcw : cW μ X) (hco : cO μ X) (h30 : μ.1 30 0 = nI 0) (h31 : μ.1 31 0 = nI 0) (h33 : μ.1 33 0 = nI 0) : a_Spec G sX1_gatherSums [.ref 5] μ (fun v ν => v = none ∧ a_eqx [30, 31, 33] μ ν ∧ ∀ s, s < 2 ^ X 14 0 → gsI X ν s) := by
  have hm := ho.1
  generalize hpo : (fun (v : Option Value) (ν : aMem) => v = none ∧ a_eqx [30, 31, 33] μ ν ∧ ∀ s, s < 2 ^ X 14 0 → gsI X ν s) = post
  refine w_X1_gatherSums_0 ?_
  refine a_for (fun i (N : aMem) => a_Runs G sX1_gatherSums 2 [(0, .ref 5), (1, .int (nI i))] [] N post) (fun i N => a_eqx [30, 31, 33] μ N ∧ ∀ s, s < 2 ^ i → gsI X N s) (X 14 0) ?_ ?_ 0 μ (by omega) ⟨a_eqx.rf _ _, ?_⟩
  · rintro N ⟨h1, h2⟩
    have e5 : N.1 5 = μ.1 5 := (h1 5 (by simp)).1
    refine w_X1_gatherSums_2 _ ⟨fun _ => by rw [← hpo]; exact ⟨rfl, h1, h2⟩, fun h => absurd (by rw [e5, hco.1, q_le] <;> omega) h⟩
  · rintro i N hi ⟨h1, h2⟩ ih
    have e5 : N.1 5 = μ.1 5 := (h1 5 (by simp)).1
    have e28 : N.1 28 i = nI (X 15 i) := by rw [(h1 28 (by simp)).1]; exact hco.2.2.1 i hi
    have hcwN : cW N X := hcw.kept (fun k hk => (h1 k (by simp; omega)).1)
    have hp8 : 2 ^ i < 256 := pow8 (by omega)
    have hp9 : 2 ^ (i + 1) ≤ 2 ^ 8 := Nat.pow_le_pow_right (by decide) (by omega)
    rw [Nat.pow_succ] at hp9
    refine w_X1_gatherSums_2 _ ⟨fun h => ?_, fun _ => ?_⟩
    · rw [e5, hco.1, q_le (by omega) (by omega)] at h; omega
    rw [q_in (by omega), q_cl (by omega), e28]
    refine ⟨by omega, r_X5_neededWith hx hcwN _ _ ⟨_, rfl, ?_⟩⟩
    rw [q_pow (by omega)]
    refine a_for (fun t (N : aMem) => a_Runs G sX1_gatherSums 31 [(0, .ref 5), (1, .int (nI i)), (2, .int (nI (2 ^ i))), (3, .int (nI (ndM X (X 15 i)))), (4, .int (nI t))] [] N post) (fun t N => a_eqx [30, 31, 33] μ N ∧ ∀ s, s < 2 ^ i + t → gsI X N s) (2 ^ i) ?_ ?_ 0 N (Nat.zero_le _) ⟨h1, fun s hs => h2 s (by omega)⟩
    · rintro N ⟨g1, g2⟩
      refine w_X1_gatherSums_31 _ _ _ _ ⟨fun _ => ?_, fun h => absurd (by rw [q_le] <;> omega) h⟩
      rw [nI_add]
      exact ih N ⟨g1, fun s hs => g2 s (by rw [Nat.pow_succ] at hs; omega)⟩
    · rintro t N ht ⟨g1, g2⟩ ih2
      have hu := or_plus ht
      obtain ⟨k1, k2, k3⟩ := g2 t (by omega)
      have e29 : N.1 29 i = nI (X 16 i) := by rw [(g1 29 (by simp)).1]; exact hco.2.2.2 i hi
      have hbit := low_nb ht
      refine w_X1_gatherSums_31 _ _ _ _ ⟨fun h => ?_, fun _ => ?_⟩
      · rw [q_le (by omega) (by omega)] at h; omega
      rw [fa_or, hu, q_in (by omega), q_cl (by omega), q_in (by omega), q_cl (by omega), q_in (by omega), q_cl (by omega), k1, k2, k3, e29, fa_or, nI_add]
      refine ⟨by omega, by omega, by omega, by omega, by omega, by omega, w_X1_loomShift_0 _ ⟨_, rfl, by omega, ?_⟩⟩
      rw [q_sub (by omega), pk_mul, q_pow (by omega), nI_add, nI_add]
      refine ih2 _ ⟨((g1.t2 (a_eqx.u1 N 30 _ (by simp))).t2 (a_eqx.u1 _ 31 _ (by simp))).t2 (a_eqx.u1 _ 33 _ (by simp)), fun s hs => ?_⟩
      have hw : wfM X (2 ^ i + t) = wfM X t ||| ndM X (X 15 i) := by rw [← hu]; exact orF_add hi
      have hpc : pcs X (2 ^ i + t) = pcs X t + X 16 i := by rw [← hu]; exact sm_add hi hbit
      have hus : uS (2 ^ i + t) = uS t + 8 ^ (7 - i) := by rw [← hu]; exact sm_add (a := fun o => 8 ^ (7 - o)) (by omega) hbit
      by_cases es : s = 2 ^ i + t
      · subst es
        refine ⟨?_, ?_, ?_⟩
        · show upd (N.1 30) (2 ^ i + t) _ (2 ^ i + t) = _
          rw [pk_us, hw]
        · show upd (N.1 31) (2 ^ i + t) _ (2 ^ i + t) = _
          rw [pk_us, hpc]
        · show upd (N.1 33) (2 ^ i + t) _ (2 ^ i + t) = _
          rw [pk_us, hus, p38]
      · obtain ⟨j1, j2, j3⟩ := g2 s (by omega)
        refine ⟨?_, ?_, ?_⟩
        · show upd (N.1 30) (2 ^ i + t) _ s = _
          rw [pk_un es]; exact j1
        · show upd (N.1 31) (2 ^ i + t) _ s = _
          rw [pk_un es]; exact j2
        · show upd (N.1 33) (2 ^ i + t) _ s = _
          rw [pk_un es]; exact j3
  · intro s hs
    have : s = 0 := by omega
    subst this
    have w0 : wfM X 0 = 0 := by
      refine Nat.eq_of_testBit_eq (fun b => ?_)
      rw [Nat.zero_testBit]
      refine Bool.eq_false_iff.mpr (fun h => ?_)
      obtain ⟨j, _, h2⟩ := orF_bit.mp h
      simp at h2
    have p0 : pcs X 0 = 0 := by
      unfold pcs
      rw [fb_sm_cong (g := fun _ => 0) (fun k _ => by simp), fb_sm_const]; omega
    exact ⟨by rw [w0]; exact h30, by rw [p0]; exact h31, by rw [uS_0]; exact h33⟩
theorem vp_updL_s (f : Nat → Int64) (k : Nat) (v : Int64) : vp_updL f k v k = v := by simp [vp_updL]
theorem vp_updL_n (f : Nat → Int64) {k i : Nat} (v : Int64) (h : i ≠ k) : vp_updL f k v i = f i := by simp [vp_updL, h]
theorem r_X1_leastPlan (hx : xW X) (ho : xO X) {S : Nat} (hS : S < 2 ^ X 14 0) (h0 : S ≠ 0) (h32 : ∀ A, A ≠ 0 → A < 2 ^ X 14 0 → μ.1 32 A = nI (kX X A)) (h33 : ∀ A, A < 2 ^ X 14 0 → μ.1 33 A = nI (uS A)) (h34 : ∀ A, A < S → μ.2 34 A = lN (plP (kX X) A)) : a_Ret G sX1_leastPlan [.ref 5, .int (nI S)] μ (some (.long (lN (plP (kX X) S)))) μ := by
  intro post hp
  have hm := ho.1
  have hm8 : 2 ^ X 14 0 ≤ 2 ^ 8 := Nat.pow_le_pow_right (by decide) hm
  have hS8 : S < 256 := by omega
  obtain ⟨l1, l2, l3, l4⟩ := lw_fo S hS8 h0
  have hK : ∀ A, A < 256 → kX X A ≤ 8200000 := fun A _ => (kX_le hx ho A).1
  have hlw8 : lw S < 256 := by rw [l2]; exact pow8 l1
  have hlwn : lw S ≠ 0 := by rw [l2]; exact Nat.ne_of_gt (Nat.two_pow_pos _)
  have hpo := pop_le (oth S)
  have hpo8 : pop (oth S) ≤ 10 := pop10 _ (by omega)
  have hpp : 2 ^ pop (oth S) ≤ 2 ^ 10 := Nat.pow_le_pow_right (by decide) hpo8
  rw [plP_e (kX X) hS8 h0] at hp
  refine w_X1_leastPlan_0 _ ?_
  rw [lw_i S hS8, nx_xor]
  refine r_J6_bitCount (by show oth S < 65536; omega) _ ⟨_, rfl, ?_⟩
  rw [q_pow (by show pop (oth S) < 31; omega)]
  show a_Runs G sX1_leastPlan 28 [(0, .ref 5), (2, .int (nI (lw S))), (3, .int (nI (oth S))), (4, .int (nI (2 ^ pop (oth S)))), (5, .int (nI (bsq (oth S) 0))), (6, .long (lN (mnL (fun i => vlP (kX X) (plP (kX X)) S (bsq (oth S) i)) 0))), (8, .int (nI 0))] [] μ post
  refine a_for (fun i (_ : Unit) => a_Runs G sX1_leastPlan 28 [(0, .ref 5), (2, .int (nI (lw S))), (3, .int (nI (oth S))), (4, .int (nI (2 ^ pop (oth S)))), (5, .int (nI (bsq (oth S) i))), (6, .long (lN (mnL (fun i => vlP (kX X) (plP (kX X)) S (bsq (oth S) i)) i))), (8, .int (nI i))] [] μ post) (fun _ _ => True) (2 ^ pop (oth S)) ?_ ?_ 0 () (Nat.zero_le _) trivial
  · intro _ _
    exact w_X1_leastPlan_28 _ _ _ _ _ _ ⟨fun _ => hp, fun h => absurd (by rw [q_le] <;> omega) h⟩
  · intro i _ hi _ ih
    have hb := bsq_sub (oth S) i
    have hble := sub_le hb
    have hrs := xor_sub hb
    have hrle := sub_le hrs
    have ihn := ih () trivial
    have hbs : bsq (oth S) (i + 1) = if bsq (oth S) i = 0 then oth S else (bsq (oth S) i - 1) &&& oth S := rfl
    have hmn : mnL (fun i => vlP (kX X) (plP (kX X)) S (bsq (oth S) i)) (i + 1) = min (vlP (kX X) (plP (kX X)) S (bsq (oth S) i)) (mnL (fun i => vlP (kX X) (plP (kX X)) S (bsq (oth S) i)) i) := rfl
    have hml : ∀ n, mnL (fun i => vlP (kX X) (plP (kX X)) S (bsq (oth S) i)) n ≤ 9223372036854775807 := fun n => by
      induction n with
      | zero => exact Nat.le_refl _
      | succ n ih => exact Nat.le_trans (Nat.min_le_right _ _) ih
    have hml := hml i
    rw [hbs, hmn] at ihn
    generalize hbb : bsq (oth S) i = b at *
    have hor : lw S ||| b < 2 ^ X 14 0 := by
      have hle : lw S ||| b ≤ S := by
        refine sub_le (Nat.eq_of_testBit_eq (fun k => ?_))
        rw [Nat.testBit_and, Nat.testBit_or]
        have hf : S.testBit (fo S) = true := fa_first_yes (fun i => S.testBit i) 8 l1
        cases hl : (lw S).testBit k
        · cases hbk : b.testBit k
          · rfl
          · have := sub_bit hb hbk
            unfold oth at this
            rw [Nat.testBit_xor, hl] at this
            simpa using this
        · have : fo S = k := by rw [l2, Nat.testBit_two_pow] at hl; simpa using hl
          rw [← this, hf]; rfl
      omega
    have hor0 : lw S ||| b ≠ 0 := fun h => by
      have : lw S ≤ lw S ||| b := Nat.left_le_or
      omega
    have hkk := (kX_le hx ho (lw S ||| b)).1
    have hpl := plP_bd hK (S := oth S ^^^ b) (by omega)
    have hu := uS_le (oth S ^^^ b)
    refine w_X1_leastPlan_28 _ _ _ _ _ _ ⟨fun h => ?_, fun _ => ?_⟩
    · rw [q_le (by omega) (by omega)] at h; omega
    rw [fa_or, nx_xor, q_in (by omega), q_in (by omega), q_cl (by omega), q_cl (by omega), h32 _ hor0 hor, h33 _ (by omega), h34 _ (by omega), nI_l (n := kX X (lw S ||| b)) (by omega), nI_l (n := uS (oth S ^^^ b)) (by omega), wb_shl _ (k := 28) (by decide), nI_add]
    have ev : lN (kX X (lw S ||| b) * 2 ^ 28) + (16777216 : Int64) + lN (plP (kX X) (oth S ^^^ b)) + lN (uS (oth S ^^^ b)) = lN (vlP (kX X) (plP (kX X)) S b) := by
      rw [fa_litL 16777216, lN_add, lN_add, lN_add]
      unfold vlP
      rw [p24]
    rw [ev]
    have hvl : vlP (kX X) (plP (kX X)) S b < 2 ^ 62 := by unfold vlP; omega
    generalize vlP (kX X) (plP (kX X)) S b = V at *
    generalize mnL (fun i => vlP (kX X) (plP (kX X)) S (bsq (oth S) i)) i = M at *
    rw [q_minL (by omega) (by omega)]
    have e5 : (nI b - nI 1) &&& nI (oth S) = nI (if b = 0 then oth S else (b - 1) &&& oth S) := by
      by_cases hb0 : b = 0
      · rw [if_pos hb0, hb0]
        have : (nI 0 - nI 1) = nI (2 ^ 32 - 1) := by decide
        rw [this, fa_and, Nat.and_comm, Nat.and_two_pow_sub_one_eq_mod, Nat.mod_eq_of_lt (by omega)]
      · rw [if_neg hb0, q_sub (by omega), fa_and]
    rw [e5]
    exact ⟨by omega, by omega, by omega, ihn⟩
end CPLAN
end
section
section CBEST
variable {G : aG} {μ : aMem} {X : aX}
theorem pow14 (ho : xO X) : 2 ^ X 14 0 ≤ 256 ∧ 1 ≤ 2 ^ X 14 0 := by
  have h : 2 ^ X 14 0 ≤ 2 ^ 8 := Nat.pow_le_pow_right (by decide) ho.1
  have := Nat.two_pow_pos (X 14 0)
  omega
theorem a_eqx.ul {ks : List Nat} (μ : aMem) (k : Nat) (f : Nat → Int64) (hk : k ∈ ks) : a_eqx ks μ (μ.1, va_up μ.2 k f) := (a_eqx.upl μ k f).sub (fun j hj => by
  have : j = k := by simpa using hj
  rw [this]; exact hk)
theorem cO.kept {μ ν : aMem} {X : aX} (h : cO μ X) (h0 : ν.1 5 0 = μ.1 5 0) (h1 : ν.1 5 1 = μ.1 5 1) (h28 : ν.1 28 = μ.1 28) (h29 : ν.1 29 = μ.1 29) : cO ν X := by
  unfold cO; rw [h0, h1, h28, h29]; exact h
theorem r_X1_refresh (hx : xW X) (ho : xO X) (hcw : cW μ X) (hco : cO μ X) (hq : cQ μ X) : a_Spec G sX1_refresh [.ref 5] μ (fun v ν => v = none ∧ a_eqx [5, 30, 31, 32, 33, 34] μ ν ∧ cO ν X ∧ cQ ν X ∧ ν.2 34 (2 ^ X 14 0 - 1) = lN (plX X)) := by
  obtain ⟨p1, p2⟩ := pow14 ho
  obtain ⟨q1, q2, q3, q4⟩ := id hq
  have hK : ∀ A, A < 256 → kX X A ≤ 8200000 := fun A _ => (kX_le hx ho A).1
  generalize hpo : (fun (v : Option Value) (ν : aMem) => v = none ∧ a_eqx [5, 30, 31, 32, 33, 34] μ ν ∧ cO ν X ∧ cQ ν X ∧ ν.2 34 (2 ^ X 14 0 - 1) = lN (plX X)) = post
  refine w_X1_refresh_0 ⟨fun _ => ?_, fun h => ?_⟩
  · refine (r_X1_gatherSums hx ho hcw hco q1 q2 q3).mono ?_
    rintro v ν ⟨rfl, g1, g2⟩
    have e5 : ν.1 5 = μ.1 5 := (g1 5 (by simp)).1
    rw [e5, hco.1, q_pow (by have := ho.1; omega)]
    refine ⟨rfl, ?_⟩
    have g1' : a_eqx [30, 31, 32, 33, 34] μ ν := g1.sub (fun k hk => by simp at hk ⊢; omega)
    have main := a_for (fun t (N : aMem) => a_Runs G sX1_refresh 21 [(0, .ref 5), (1, .int (nI (2 ^ X 14 0))), (2, .int (nI t))] [] N post) (fun t N => 1 ≤ t ∧ a_eqx [30, 31, 32, 33, 34] μ N ∧ (∀ s, s < 2 ^ X 14 0 → gsI X N s) ∧ ∀ A, A ≠ 0 → A < t → N.1 32 A = nI (kX X A)) (2 ^ X 14 0) ?_ ?_ 1 ν (by omega) ⟨Nat.le_refl _, g1', g2, fun A h h' => by omega⟩
    · exact main
    · rintro N ⟨_, h1, h2, h3⟩
      refine w_X1_refresh_21 _ _ ⟨fun _ => ?_, fun h => absurd (by rw [q_le] <;> omega) h⟩
      rw [q_in (by omega), q_cl (by omega)]
      refine ⟨by omega, ?_⟩
      have main := a_for (fun t (N : aMem) => a_Runs G sX1_refresh 74 [(0, .ref 5), (1, .int (nI (2 ^ X 14 0))), (2, .int (nI t))] [] N post) (fun t N => 1 ≤ t ∧ a_eqx [30, 31, 32, 33, 34] μ N ∧ (∀ s, s < 2 ^ X 14 0 → gsI X N s) ∧ (∀ A, A ≠ 0 → A < 2 ^ X 14 0 → N.1 32 A = nI (kX X A)) ∧ ∀ A, A < t → N.2 34 A = lN (plP (kX X) A)) (2 ^ X 14 0) ?_ ?_ 1 (N.1, va_up N.2 34 (vp_updL (N.2 34) 0 (0 : Int64))) (by omega) ⟨Nat.le_refl _, h1.t2 (a_eqx.ul N 34 _ (by simp)), h2, h3, fun A h => ?_⟩
      · exact main
      · rintro N ⟨_, k1, k2, k3, k4⟩
        refine w_X1_refresh_74 _ _ ⟨fun _ => ⟨nI_00, ?_⟩, fun h => absurd (by rw [q_le] <;> omega) h⟩
        have e5 : N.1 5 = μ.1 5 := (k1 5 (by simp)).1
        rw [← hpo]
        have hpl : N.2 34 (2 ^ X 14 0 - 1) = lN (plX X) := k4 _ (by omega)
        have z := k2 0 (by omega)
        refine ⟨rfl, (k1.sub (fun k hk => by simp at hk ⊢; omega)).t2 (a_eqx.u1 N 5 _ (by simp)), ?_, ?_, hpl⟩
        · refine hco.kept ?_ ?_ ?_ ?_
          · show upd (N.1 5) 2 (nI 0) 0 = _
            rw [pk_un (by decide), e5]
          · show upd (N.1 5) 2 (nI 0) 1 = _
            rw [pk_un (by decide), e5]
          · exact (k1 28 (by simp)).1
          · exact (k1 29 (by simp)).1
        · have w30 : N.1 30 0 = nI 0 := by
            rw [z.1]; congr 1
            refine Nat.eq_of_testBit_eq (fun b => ?_)
            rw [Nat.zero_testBit]
            refine Bool.eq_false_iff.mpr (fun h => ?_)
            obtain ⟨j, _, h2⟩ := orF_bit.mp h
            simp at h2
          have w31 : N.1 31 0 = nI 0 := by
            rw [z.2.1]; congr 1
            unfold pcs
            rw [fb_sm_cong (g := fun _ => 0) (fun k _ => by simp), fb_sm_const]; omega
          have w33 : N.1 33 0 = nI 0 := by rw [z.2.2, uS_0]
          exact ⟨w30, w31, w33, fun _ => hpl⟩
      · rintro t N ht ⟨k0, k1, k2, k3, k4⟩ ih
        refine w_X1_refresh_74 _ _ ⟨fun h => ?_, fun _ => ?_⟩
        · rw [q_le (by omega) (by omega)] at h; omega
        refine r_X1_leastPlan hx ho ht (by omega) k3 (fun A hA => (k2 A hA).2.2) k4 _ ⟨_, rfl, ?_⟩
        rw [q_in (by omega), q_cl (by omega), nI_add]
        refine ⟨by omega, ih _ ⟨by omega, k1.t2 (a_eqx.ul N 34 _ (by simp)), k2, k3, fun A hA => ?_⟩⟩
        show vp_updL (N.2 34) t _ A = _
        by_cases e : A = t
        · rw [e, vp_updL_s]
        · rw [vp_updL_n _ _ e]; exact k4 A (by omega)
      · have : A = 0 := by omega
        subst this
        show vp_updL (N.2 34) 0 (0 : Int64) 0 = _
        rw [vp_updL_s, plP_0]; rfl
    · rintro t N ht ⟨k0, h1, h2, h3⟩ ih
      have hcwN : cW N X := hcw.kept (fun k hk => (h1 k (by simp; omega)).1)
      have e5 : N.1 5 1 = nI (X 17 0) := by rw [(h1 5 (by simp)).1]; exact hco.2.1
      obtain ⟨s1, s2, s3⟩ := h2 t ht
      have hwf := wfM_lt hx t
      have hkk := kX_le hx ho t
      refine w_X1_refresh_21 _ _ ⟨fun h => ?_, fun _ => ?_⟩
      · rw [q_le (by omega) (by omega)] at h; omega
      rw [q_in (by omega), q_cl (by omega), s1]
      refine ⟨by omega, r_X5_weightOf hx hcwN (by omega) _ ⟨_, rfl, ?_⟩⟩
      rw [wg_eq, e5, s2, pk_mul, nI_add, nI_add]
      refine ⟨by omega, by omega, ih _ ⟨by omega, h1.t2 (a_eqx.u1 N 32 _ (by simp)), h2, fun A hA hA2 => ?_⟩⟩
      show upd (N.1 32) t _ A = _
      by_cases e : A = t
      · rw [e, pk_us]; rfl
      · rw [pk_un e]; exact h3 A hA (by omega)
  · rw [← hpo]
    exact ⟨rfl, a_eqx.rf _ _, hco, hq, q4 h⟩
theorem plX_bd (hx : xW X) (ho : xO X) : plX X ≤ 2 ^ 52 := plP_bd (fun A _ => (kX_le hx ho A).1) (by have := pow14 ho; omega)
theorem c_best (hx : xW X) (ho : xO X) (hcw : cW μ X) (hco : cO μ X) (hq : cQ μ X) : a_Spec G sX6_best [.ref 0] μ (fun v ν => v = some (.long (aBest X)) ∧ a_eqx [5, 30, 31, 32, 33, 34] μ ν ∧ cO ν X ∧ cQ ν X) := by
  have p := pow14 ho
  have hb := plX_bd hx ho
  refine w_X6_best_0 (w_X1_bestCost_0 ((r_X1_refresh hx ho hcw hco hq).mono ?_))
  rintro v ν ⟨rfl, g1, g2, g3, g4⟩
  refine ⟨rfl, r_X1_allBits ho g2 _ ⟨_, rfl, ?_⟩⟩
  rw [q_in (by omega), q_cl (by omega), g4, q_shr64 (by omega) (by decide)]
  exact ⟨by omega, _, rfl, rfl, g1, g2, g3⟩
theorem c_loom (hx : xW X) (ho : xO X) (hcw : cW μ X) (hco : cO μ X) (hq : cQ μ X) (x : Int32) : a_Spec G sX6_loom [.ref 0, .int x] μ (fun v ν => v = some (.int (aLoom X x)) ∧ a_eqx [5, 30, 31, 32, 33, 34] μ ν ∧ cO ν X ∧ cQ ν X) := by
  have p := pow14 ho
  have hm := ho.1
  have hb := plX_bd hx ho
  refine w_X6_loom_0 _ (r_X6_isWithin _ _ _ _ ⟨_, rfl, ?_⟩)
  rw [hco.1]
  refine br_n (fun h1 => ?_) (fun h1 => ?_)
  · obtain ⟨e1, b1⟩ := inB_wi (by omega) h1
    have e : aLoom X x = nI (plX X / 8 ^ (7 - x.toNatClampNeg) % 8) := by unfold aLoom; rw [if_pos h1]
    rw [e]
    generalize x.toNatClampNeg = o at *
    subst e1
    refine w_X1_loomOf_0 _ ((r_X1_refresh hx ho hcw hco hq).mono ?_)
    rintro v ν ⟨rfl, g1, g2, g3, g4⟩
    refine ⟨rfl, r_X1_allBits ho g2 _ ⟨_, rfl, ?_⟩⟩
    rw [q_in (by omega), q_cl (by omega), g4]
    refine ⟨by omega, w_X1_loomShift_0 _ ⟨_, rfl, _, rfl, ?_, g1, g2, g3⟩⟩
    have hle : plX X / 2 ^ ((7 - o) * 3) ≤ plX X := Nat.div_le_self _ _
    rw [q_sub (by omega), pk_mul, q_shr64 (by omega) (by omega), lN_i, fa_and, p38]
    congr 2
    have := Nat.and_two_pow_sub_one_eq_mod (plX X / 8 ^ (7 - o)) 3
    show nI (plX X / 8 ^ (7 - o) &&& (2 ^ 3 - 1)) = _
    rw [this]
  · have e : aLoom X x = -1 := by unfold aLoom; rw [h1]; rfl
    rw [e]; exact ⟨rfl, a_eqx.rf _ _, hco, hq⟩
end CBEST
end
