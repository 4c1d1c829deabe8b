-- ===== PART A: goes FIRST, ahead of the names: the tables' words, and 'selects' of the private methods out of them =====
/-- a private method of a class that the tables say can be made, by its rows of tables_1 -/
def lw_okq (q : MethodName × Nat) : Prop := (q.1.cls ≠ "java/lang/invoke/MethodHandle" ∧ q.1.cls ≠ "java/lang/invoke/VarHandle") ∧ Cond.instantiable q.1.cls q.2 ∈ tables_1 ∧ Cond.privateMethod q.1 ∈ tables_1 ∧ Cond.instanceMethod q.1 ∈ tables_1
theorem lw_p0 : lw_okq (⟨"CableLooms$Ducts", "sortIn", "(I)V"⟩, 7) := ⟨⟨by decide +kernel, by decide +kernel⟩, List.mem_of_getElem? (i := 21) (by decide +kernel), List.mem_of_getElem? (i := 241) (by decide +kernel), List.mem_of_getElem? (i := 242) (by decide +kernel)⟩
theorem lw_p1 : lw_okq (⟨"CableLooms", "isWire", "(I)Z"⟩, 6) := ⟨⟨by decide +kernel, by decide +kernel⟩, List.mem_of_getElem? (i := 13) (by decide +kernel), List.mem_of_getElem? (i := 275) (by decide +kernel), List.mem_of_getElem? (i := 276) (by decide +kernel)⟩
theorem lw_p2 : lw_okq (⟨"CableLooms", "openDucts", "(I)I"⟩, 6) := ⟨⟨by decide +kernel, by decide +kernel⟩, List.mem_of_getElem? (i := 13) (by decide +kernel), List.mem_of_getElem? (i := 283) (by decide +kernel), List.mem_of_getElem? (i := 284) (by decide +kernel)⟩
theorem lw_p3 : lw_okq (⟨"CableLooms$Search", "spread", "(I)V"⟩, 6) := ⟨⟨by decide +kernel, by decide +kernel⟩, List.mem_of_getElem? (i := 105) (by decide +kernel), List.mem_of_getElem? (i := 302) (by decide +kernel), List.mem_of_getElem? (i := 303) (by decide +kernel)⟩
theorem lw_p4 : lw_okq (⟨"CableLooms$Search", "lower", "(III)Z"⟩, 6) := ⟨⟨by decide +kernel, by decide +kernel⟩, List.mem_of_getElem? (i := 105) (by decide +kernel), List.mem_of_getElem? (i := 309) (by decide +kernel), List.mem_of_getElem? (i := 310) (by decide +kernel)⟩
theorem lw_p5 : lw_okq (⟨"CableLooms$Search", "firstStep", "(I)I"⟩, 6) := ⟨⟨by decide +kernel, by decide +kernel⟩, List.mem_of_getElem? (i := 105) (by decide +kernel), List.mem_of_getElem? (i := 317) (by decide +kernel), List.mem_of_getElem? (i := 318) (by decide +kernel)⟩
theorem lw_p6 : lw_okq (⟨"CableLooms$Search", "priceFrom", "(II)I"⟩, 6) := ⟨⟨by decide +kernel, by decide +kernel⟩, List.mem_of_getElem? (i := 105) (by decide +kernel), List.mem_of_getElem? (i := 321) (by decide +kernel), List.mem_of_getElem? (i := 322) (by decide +kernel)⟩
theorem lw_p7 : lw_okq (⟨"CableLooms$Search", "turnSteps", "(I)V"⟩, 6) := ⟨⟨by decide +kernel, by decide +kernel⟩, List.mem_of_getElem? (i := 105) (by decide +kernel), List.mem_of_getElem? (i := 405) (by decide +kernel), List.mem_of_getElem? (i := 406) (by decide +kernel)⟩
theorem lw_p8 : lw_okq (⟨"CableLooms$Splices", "treeLength", "(I)I"⟩, 4) := ⟨⟨by decide +kernel, by decide +kernel⟩, List.mem_of_getElem? (i := 132) (by decide +kernel), List.mem_of_getElem? (i := 422) (by decide +kernel), List.mem_of_getElem? (i := 423) (by decide +kernel)⟩
theorem lw_p9 : lw_okq (⟨"CableLooms$Splices", "joins", "(II)Z"⟩, 4) := ⟨⟨by decide +kernel, by decide +kernel⟩, List.mem_of_getElem? (i := 132) (by decide +kernel), List.mem_of_getElem? (i := 427) (by decide +kernel), List.mem_of_getElem? (i := 428) (by decide +kernel)⟩
theorem lw_p10 : lw_okq (⟨"CableLooms$Splices", "headOf", "(I)I"⟩, 4) := ⟨⟨by decide +kernel, by decide +kernel⟩, List.mem_of_getElem? (i := 132) (by decide +kernel), List.mem_of_getElem? (i := 431) (by decide +kernel), List.mem_of_getElem? (i := 432) (by decide +kernel)⟩
theorem lw_p11 : lw_okq (⟨"CableLooms$Splices", "note", "(II)V"⟩, 4) := ⟨⟨by decide +kernel, by decide +kernel⟩, List.mem_of_getElem? (i := 132) (by decide +kernel), List.mem_of_getElem? (i := 435) (by decide +kernel), List.mem_of_getElem? (i := 436) (by decide +kernel)⟩
theorem lw_p12 : lw_okq (⟨"CableLooms$Orders", "refresh", "()V"⟩, 11) := ⟨⟨by decide +kernel, by decide +kernel⟩, List.mem_of_getElem? (i := 153) (by decide +kernel), List.mem_of_getElem? (i := 498) (by decide +kernel), List.mem_of_getElem? (i := 499) (by decide +kernel)⟩
theorem lw_p13 : lw_okq (⟨"CableLooms$Orders", "gatherSums", "()V"⟩, 11) := ⟨⟨by decide +kernel, by decide +kernel⟩, List.mem_of_getElem? (i := 153) (by decide +kernel), List.mem_of_getElem? (i := 502) (by decide +kernel), List.mem_of_getElem? (i := 503) (by decide +kernel)⟩
theorem lw_p14 : lw_okq (⟨"CableLooms$Orders", "leastPlan", "(I)J"⟩, 11) := ⟨⟨by decide +kernel, by decide +kernel⟩, List.mem_of_getElem? (i := 153) (by decide +kernel), List.mem_of_getElem? (i := 510) (by decide +kernel), List.mem_of_getElem? (i := 511) (by decide +kernel)⟩
theorem lw_p15 : lw_okq (⟨"CableLoomsModel", "isWire", "(I)Z"⟩, 31) := ⟨⟨by decide +kernel, by decide +kernel⟩, List.mem_of_getElem? (i := 594) (by decide +kernel), List.mem_of_getElem? (i := 717) (by decide +kernel), List.mem_of_getElem? (i := 718) (by decide +kernel)⟩
def lw_privs_1 : List (MethodName × Nat) := [(⟨"CableLooms$Ducts", "sortIn", "(I)V"⟩, 7), (⟨"CableLooms", "isWire", "(I)Z"⟩, 6), (⟨"CableLooms", "openDucts", "(I)I"⟩, 6), (⟨"CableLooms$Search", "spread", "(I)V"⟩, 6), (⟨"CableLooms$Search", "lower", "(III)Z"⟩, 6), (⟨"CableLooms$Search", "firstStep", "(I)I"⟩, 6), (⟨"CableLooms$Search", "priceFrom", "(II)I"⟩, 6), (⟨"CableLooms$Search", "turnSteps", "(I)V"⟩, 6), (⟨"CableLooms$Splices", "treeLength", "(I)I"⟩, 4), (⟨"CableLooms$Splices", "joins", "(II)Z"⟩, 4), (⟨"CableLooms$Splices", "headOf", "(I)I"⟩, 4), (⟨"CableLooms$Splices", "note", "(II)V"⟩, 4), (⟨"CableLooms$Orders", "refresh", "()V"⟩, 11), (⟨"CableLooms$Orders", "gatherSums", "()V"⟩, 11), (⟨"CableLooms$Orders", "leastPlan", "(I)J"⟩, 11), (⟨"CableLoomsModel", "isWire", "(I)Z"⟩, 31)]
theorem lw_r1 : ∀ q ∈ lw_privs_1, lw_okq q := List.forall_mem_cons.mpr ⟨lw_p0, List.forall_mem_cons.mpr ⟨lw_p1, List.forall_mem_cons.mpr ⟨lw_p2, List.forall_mem_cons.mpr ⟨lw_p3, List.forall_mem_cons.mpr ⟨lw_p4, List.forall_mem_cons.mpr ⟨lw_p5, List.forall_mem_cons.mpr ⟨lw_p6, List.forall_mem_cons.mpr ⟨lw_p7, List.forall_mem_cons.mpr ⟨lw_p8, List.forall_mem_cons.mpr ⟨lw_p9, List.forall_mem_cons.mpr ⟨lw_p10, List.forall_mem_cons.mpr ⟨lw_p11, List.forall_mem_cons.mpr ⟨lw_p12, List.forall_mem_cons.mpr ⟨lw_p13, List.forall_mem_cons.mpr ⟨lw_p14, List.forall_mem_cons.mpr ⟨lw_p15, fun _ h => absurd h List.not_mem_nil⟩⟩⟩⟩⟩⟩⟩⟩⟩⟩⟩⟩⟩⟩⟩⟩
theorem lw_p16 : lw_okq (⟨"CableLoomsModel", "mayGo", "(II)Z"⟩, 31) := ⟨⟨by decide +kernel, by decide +kernel⟩, List.mem_of_getElem? (i := 594) (by decide +kernel), List.mem_of_getElem? (i := 721) (by decide +kernel), List.mem_of_getElem? (i := 722) (by decide +kernel)⟩
theorem lw_p17 : lw_okq (⟨"CableLoomsModel", "full", "(I)I"⟩, 31) := ⟨⟨by decide +kernel, by decide +kernel⟩, List.mem_of_getElem? (i := 594) (by decide +kernel), List.mem_of_getElem? (i := 725) (by decide +kernel), List.mem_of_getElem? (i := 726) (by decide +kernel)⟩
theorem lw_p18 : lw_okq (⟨"CableLoomsModel", "goesBy", "(II)Z"⟩, 31) := ⟨⟨by decide +kernel, by decide +kernel⟩, List.mem_of_getElem? (i := 594) (by decide +kernel), List.mem_of_getElem? (i := 729) (by decide +kernel), List.mem_of_getElem? (i := 730) (by decide +kernel)⟩
theorem lw_p19 : lw_okq (⟨"CableLoomsModel", "measure", "(I)V"⟩, 31) := ⟨⟨by decide +kernel, by decide +kernel⟩, List.mem_of_getElem? (i := 594) (by decide +kernel), List.mem_of_getElem? (i := 733) (by decide +kernel), List.mem_of_getElem? (i := 734) (by decide +kernel)⟩
theorem lw_p20 : lw_okq (⟨"CableLoomsModel", "better", "(III)V"⟩, 31) := ⟨⟨by decide +kernel, by decide +kernel⟩, List.mem_of_getElem? (i := 594) (by decide +kernel), List.mem_of_getElem? (i := 738) (by decide +kernel), List.mem_of_getElem? (i := 739) (by decide +kernel)⟩
theorem lw_p21 : lw_okq (⟨"CableLoomsModel", "next", "(I)I"⟩, 31) := ⟨⟨by decide +kernel, by decide +kernel⟩, List.mem_of_getElem? (i := 594) (by decide +kernel), List.mem_of_getElem? (i := 742) (by decide +kernel), List.mem_of_getElem? (i := 743) (by decide +kernel)⟩
theorem lw_p22 : lw_okq (⟨"CableLoomsModel", "across", "(II)I"⟩, 31) := ⟨⟨by decide +kernel, by decide +kernel⟩, List.mem_of_getElem? (i := 594) (by decide +kernel), List.mem_of_getElem? (i := 746) (by decide +kernel), List.mem_of_getElem? (i := 747) (by decide +kernel)⟩
theorem lw_p23 : lw_okq (⟨"CableLoomsModel", "lengthOf", "(I)I"⟩, 31) := ⟨⟨by decide +kernel, by decide +kernel⟩, List.mem_of_getElem? (i := 594) (by decide +kernel), List.mem_of_getElem? (i := 750) (by decide +kernel), List.mem_of_getElem? (i := 751) (by decide +kernel)⟩
theorem lw_p24 : lw_okq (⟨"CableLoomsModel", "isDuct", "(I)Z"⟩, 31) := ⟨⟨by decide +kernel, by decide +kernel⟩, List.mem_of_getElem? (i := 594) (by decide +kernel), List.mem_of_getElem? (i := 770) (by decide +kernel), List.mem_of_getElem? (i := 771) (by decide +kernel)⟩
theorem lw_p25 : lw_okq (⟨"CableLoomsModel", "isClash", "(I)Z"⟩, 31) := ⟨⟨by decide +kernel, by decide +kernel⟩, List.mem_of_getElem? (i := 594) (by decide +kernel), List.mem_of_getElem? (i := 782) (by decide +kernel), List.mem_of_getElem? (i := 783) (by decide +kernel)⟩
theorem lw_p26 : lw_okq (⟨"CableLoomsModel", "openAll", "()V"⟩, 31) := ⟨⟨by decide +kernel, by decide +kernel⟩, List.mem_of_getElem? (i := 594) (by decide +kernel), List.mem_of_getElem? (i := 790) (by decide +kernel), List.mem_of_getElem? (i := 791) (by decide +kernel)⟩
theorem lw_p27 : lw_okq (⟨"CableLoomsModel", "addWay", "(II)Z"⟩, 31) := ⟨⟨by decide +kernel, by decide +kernel⟩, List.mem_of_getElem? (i := 594) (by decide +kernel), List.mem_of_getElem? (i := 798) (by decide +kernel), List.mem_of_getElem? (i := 799) (by decide +kernel)⟩
theorem lw_p28 : lw_okq (⟨"CableLoomsModel", "tryStep", "(IIII)V"⟩, 31) := ⟨⟨by decide +kernel, by decide +kernel⟩, List.mem_of_getElem? (i := 594) (by decide +kernel), List.mem_of_getElem? (i := 802) (by decide +kernel), List.mem_of_getElem? (i := 803) (by decide +kernel)⟩
theorem lw_p29 : lw_okq (⟨"CableLoomsModel", "layTrees", "()V"⟩, 31) := ⟨⟨by decide +kernel, by decide +kernel⟩, List.mem_of_getElem? (i := 594) (by decide +kernel), List.mem_of_getElem? (i := 816) (by decide +kernel), List.mem_of_getElem? (i := 817) (by decide +kernel)⟩
theorem lw_p30 : lw_okq (⟨"CableLoomsModel", "treeOf", "(I)I"⟩, 31) := ⟨⟨by decide +kernel, by decide +kernel⟩, List.mem_of_getElem? (i := 594) (by decide +kernel), List.mem_of_getElem? (i := 820) (by decide +kernel), List.mem_of_getElem? (i := 821) (by decide +kernel)⟩
theorem lw_p31 : lw_okq (⟨"CableLoomsModel", "leastNet", "(II)I"⟩, 31) := ⟨⟨by decide +kernel, by decide +kernel⟩, List.mem_of_getElem? (i := 594) (by decide +kernel), List.mem_of_getElem? (i := 824) (by decide +kernel), List.mem_of_getElem? (i := 825) (by decide +kernel)⟩
def lw_privs_2 : List (MethodName × Nat) := [(⟨"CableLoomsModel", "mayGo", "(II)Z"⟩, 31), (⟨"CableLoomsModel", "full", "(I)I"⟩, 31), (⟨"CableLoomsModel", "goesBy", "(II)Z"⟩, 31), (⟨"CableLoomsModel", "measure", "(I)V"⟩, 31), (⟨"CableLoomsModel", "better", "(III)V"⟩, 31), (⟨"CableLoomsModel", "next", "(I)I"⟩, 31), (⟨"CableLoomsModel", "across", "(II)I"⟩, 31), (⟨"CableLoomsModel", "lengthOf", "(I)I"⟩, 31), (⟨"CableLoomsModel", "isDuct", "(I)Z"⟩, 31), (⟨"CableLoomsModel", "isClash", "(I)Z"⟩, 31), (⟨"CableLoomsModel", "openAll", "()V"⟩, 31), (⟨"CableLoomsModel", "addWay", "(II)Z"⟩, 31), (⟨"CableLoomsModel", "tryStep", "(IIII)V"⟩, 31), (⟨"CableLoomsModel", "layTrees", "()V"⟩, 31), (⟨"CableLoomsModel", "treeOf", "(I)I"⟩, 31), (⟨"CableLoomsModel", "leastNet", "(II)I"⟩, 31)]
theorem lw_r2 : ∀ q ∈ lw_privs_2, lw_okq q := List.forall_mem_cons.mpr ⟨lw_p16, List.forall_mem_cons.mpr ⟨lw_p17, List.forall_mem_cons.mpr ⟨lw_p18, List.forall_mem_cons.mpr ⟨lw_p19, List.forall_mem_cons.mpr ⟨lw_p20, List.forall_mem_cons.mpr ⟨lw_p21, List.forall_mem_cons.mpr ⟨lw_p22, List.forall_mem_cons.mpr ⟨lw_p23, List.forall_mem_cons.mpr ⟨lw_p24, List.forall_mem_cons.mpr ⟨lw_p25, List.forall_mem_cons.mpr ⟨lw_p26, List.forall_mem_cons.mpr ⟨lw_p27, List.forall_mem_cons.mpr ⟨lw_p28, List.forall_mem_cons.mpr ⟨lw_p29, List.forall_mem_cons.mpr ⟨lw_p30, List.forall_mem_cons.mpr ⟨lw_p31, fun _ h => absurd h List.not_mem_nil⟩⟩⟩⟩⟩⟩⟩⟩⟩⟩⟩⟩⟩⟩⟩⟩
theorem lw_p32 : lw_okq (⟨"CableLoomsModel", "weightOf", "(I)I"⟩, 31) := ⟨⟨by decide +kernel, by decide +kernel⟩, List.mem_of_getElem? (i := 594) (by decide +kernel), List.mem_of_getElem? (i := 849) (by decide +kernel), List.mem_of_getElem? (i := 850) (by decide +kernel)⟩
theorem lw_p33 : lw_okq (⟨"CableLoomsModel", "needs", "(II)Z"⟩, 31) := ⟨⟨by decide +kernel, by decide +kernel⟩, List.mem_of_getElem? (i := 594) (by decide +kernel), List.mem_of_getElem? (i := 853) (by decide +kernel), List.mem_of_getElem? (i := 854) (by decide +kernel)⟩
theorem lw_p34 : lw_okq (⟨"CableLoomsModel", "layPlan", "()V"⟩, 31) := ⟨⟨by decide +kernel, by decide +kernel⟩, List.mem_of_getElem? (i := 594) (by decide +kernel), List.mem_of_getElem? (i := 861) (by decide +kernel), List.mem_of_getElem? (i := 862) (by decide +kernel)⟩
theorem lw_p35 : lw_okq (⟨"CableLoomsModel", "mostAhead", "(I)I"⟩, 31) := ⟨⟨by decide +kernel, by decide +kernel⟩, List.mem_of_getElem? (i := 594) (by decide +kernel), List.mem_of_getElem? (i := 866) (by decide +kernel), List.mem_of_getElem? (i := 867) (by decide +kernel)⟩
theorem lw_p36 : lw_okq (⟨"CableLoomsModel", "nextRow", "()Z"⟩, 31) := ⟨⟨by decide +kernel, by decide +kernel⟩, List.mem_of_getElem? (i := 594) (by decide +kernel), List.mem_of_getElem? (i := 870) (by decide +kernel), List.mem_of_getElem? (i := 871) (by decide +kernel)⟩
theorem lw_p37 : lw_okq (⟨"CableLoomsModel", "areAlike", "(II)Z"⟩, 31) := ⟨⟨by decide +kernel, by decide +kernel⟩, List.mem_of_getElem? (i := 594) (by decide +kernel), List.mem_of_getElem? (i := 882) (by decide +kernel), List.mem_of_getElem? (i := 883) (by decide +kernel)⟩
theorem lw_p38 : lw_okq (⟨"CableLoomsModel", "testMany", "()I"⟩, 31) := ⟨⟨by decide +kernel, by decide +kernel⟩, List.mem_of_getElem? (i := 594) (by decide +kernel), List.mem_of_getElem? (i := 897) (by decide +kernel), List.mem_of_getElem? (i := 898) (by decide +kernel)⟩
theorem lw_p39 : lw_okq (⟨"CableLoomsModel", "hasPins", "(I)Z"⟩, 31) := ⟨⟨by decide +kernel, by decide +kernel⟩, List.mem_of_getElem? (i := 594) (by decide +kernel), List.mem_of_getElem? (i := 909) (by decide +kernel), List.mem_of_getElem? (i := 910) (by decide +kernel)⟩
theorem lw_p40 : lw_okq (⟨"CableLoomsModel", "nets", "()I"⟩, 31) := ⟨⟨by decide +kernel, by decide +kernel⟩, List.mem_of_getElem? (i := 594) (by decide +kernel), List.mem_of_getElem? (i := 913) (by decide +kernel), List.mem_of_getElem? (i := 914) (by decide +kernel)⟩
def lw_privs_3 : List (MethodName × Nat) := [(⟨"CableLoomsModel", "weightOf", "(I)I"⟩, 31), (⟨"CableLoomsModel", "needs", "(II)Z"⟩, 31), (⟨"CableLoomsModel", "layPlan", "()V"⟩, 31), (⟨"CableLoomsModel", "mostAhead", "(I)I"⟩, 31), (⟨"CableLoomsModel", "nextRow", "()Z"⟩, 31), (⟨"CableLoomsModel", "areAlike", "(II)Z"⟩, 31), (⟨"CableLoomsModel", "testMany", "()I"⟩, 31), (⟨"CableLoomsModel", "hasPins", "(I)Z"⟩, 31), (⟨"CableLoomsModel", "nets", "()I"⟩, 31)]
theorem lw_r3 : ∀ q ∈ lw_privs_3, lw_okq q := List.forall_mem_cons.mpr ⟨lw_p32, List.forall_mem_cons.mpr ⟨lw_p33, List.forall_mem_cons.mpr ⟨lw_p34, List.forall_mem_cons.mpr ⟨lw_p35, List.forall_mem_cons.mpr ⟨lw_p36, List.forall_mem_cons.mpr ⟨lw_p37, List.forall_mem_cons.mpr ⟨lw_p38, List.forall_mem_cons.mpr ⟨lw_p39, List.forall_mem_cons.mpr ⟨lw_p40, fun _ h => absurd h List.not_mem_nil⟩⟩⟩⟩⟩⟩⟩⟩⟩
def lw_privs : List (MethodName × Nat) := lw_privs_1 ++ (lw_privs_2 ++ (lw_privs_3))
def lw_tbl : List Cond := k2_sels lw_privs ++ tables_1
theorem lw_privs_ok : ∀ q ∈ lw_privs, lw_okq q := by
  show ∀ q ∈ lw_privs_1 ++ (lw_privs_2 ++ (lw_privs_3)), lw_okq q
  exact List.forall_mem_append.mpr ⟨lw_r1, List.forall_mem_append.mpr ⟨lw_r2, lw_r3⟩⟩
-- ===== end of PART A =====
def RX0 : String := "CableLooms$Ducts"
def TX0 : u_T := fun k => match k with
  | 0 => ("CableLooms$Ducts", "made", "I", false)
  | 1 => ("CableLooms$Ducts", "one", "[I", true)
  | 2 => ("CableLooms$Ducts", "other", "[I", true)
  | 3 => ("CableLooms$Ducts", "ends", "[I", true)
  | 4 => ("CableLooms$Ducts", "lengths", "[I", true)
  | 5 => ("CableLooms$Ducts", "rooms", "[I", true)
  | _ => ("CableLooms$Ducts", "shortestFirst", "[I", true)
def tyX0 : Nat → FieldType := fun k => match k with
  | 0 => .int
  | 1 => .array .int
  | 2 => .array .int
  | 3 => .array .int
  | 4 => .array .int
  | 5 => .array .int
  | _ => .array .int
theorem nmX0 : ∀ a, a < 7 → ∀ b, b < 7 → a ≠ b → (TX0 a).2.1 ≠ (TX0 b).2.1 := by decide +kernel
theorem tyX0_ok : ∀ k, k < 7 → parseFieldDescriptor (TX0 k).2.2.1 = some (tyX0 k) := by decide +kernel
abbrev cX0_init : ByteArray := prog_2_method_1_code
def yX0_init : MethodName := ⟨RX0, "<init>", "()V"⟩
abbrev cX0_add : ByteArray := prog_2_method_2_code
def yX0_add : MethodName := ⟨RX0, "add", "(IIII)I"⟩
abbrev cX0_sortIn : ByteArray := prog_2_method_3_code
def yX0_sortIn : MethodName := ⟨RX0, "sortIn", "(I)V"⟩
abbrev cX0_allBits : ByteArray := prog_2_method_4_code
def yX0_allBits : MethodName := ⟨RX0, "allBits", "()I"⟩
abbrev cX0_across : ByteArray := prog_2_method_5_code
def yX0_across : MethodName := ⟨RX0, "across", "(II)I"⟩
def RX1 : String := "CableLooms$Orders"
def TX1 : u_T := fun k => match k with
  | 0 => ("CableLooms$Orders", "made", "I", false)
  | 1 => ("CableLooms$Orders", "setupCost", "I", false)
  | 2 => ("CableLooms$Orders", "stale", "Z", false)
  | 3 => ("CableLooms$Orders", "wires", "LCableLooms$Wires;", true)
  | 4 => ("CableLooms$Orders", "options", "[I", true)
  | 5 => ("CableLooms$Orders", "pieces", "[I", true)
  | 6 => ("CableLooms$Orders", "wireSets", "[I", true)
  | 7 => ("CableLooms$Orders", "pieceSums", "[I", true)
  | 8 => ("CableLooms$Orders", "loomCosts", "[I", true)
  | 9 => ("CableLooms$Orders", "oneLoomUp", "[I", true)
  | _ => ("CableLooms$Orders", "plans", "[J", true)
def tyX1 : Nat → FieldType := fun k => match k with
  | 0 => .int
  | 1 => .int
  | 2 => .boolean
  | 3 => .object "CableLooms$Wires"
  | 4 => .array .int
  | 5 => .array .int
  | 6 => .array .int
  | 7 => .array .int
  | 8 => .array .int
  | 9 => .array .int
  | _ => .array .long
theorem nmX1 : ∀ a, a < 11 → ∀ b, b < 11 → a ≠ b → (TX1 a).2.1 ≠ (TX1 b).2.1 := by decide +kernel
theorem tyX1_ok : ∀ k, k < 11 → parseFieldDescriptor (TX1 k).2.2.1 = some (tyX1 k) := by decide +kernel
abbrev cX1_init : ByteArray := prog_3_method_1_code
def yX1_init : MethodName := ⟨RX1, "<init>", "(LCableLooms$Wires;)V"⟩
abbrev cX1_add : ByteArray := prog_3_method_2_code
def yX1_add : MethodName := ⟨RX1, "add", "(II)I"⟩
abbrev cX1_allBits : ByteArray := prog_3_method_3_code
def yX1_allBits : MethodName := ⟨RX1, "allBits", "()I"⟩
abbrev cX1_wiresFor : ByteArray := prog_3_method_4_code
def yX1_wiresFor : MethodName := ⟨RX1, "wiresFor", "(I)I"⟩
abbrev cX1_hasTwin : ByteArray := prog_3_method_5_code
def yX1_hasTwin : MethodName := ⟨RX1, "hasTwin", "(I)Z"⟩
abbrev cX1_bestCost : ByteArray := prog_3_method_6_code
def yX1_bestCost : MethodName := ⟨RX1, "bestCost", "()J"⟩
abbrev cX1_loomOf : ByteArray := prog_3_method_7_code
def yX1_loomOf : MethodName := ⟨RX1, "loomOf", "(I)I"⟩
abbrev cX1_loomShift : ByteArray := prog_3_method_8_code
def yX1_loomShift : MethodName := ⟨RX1, "loomShift", "(I)I"⟩
abbrev cX1_refresh : ByteArray := prog_3_method_9_code
def yX1_refresh : MethodName := ⟨RX1, "refresh", "()V"⟩
abbrev cX1_gatherSums : ByteArray := prog_3_method_10_code
def yX1_gatherSums : MethodName := ⟨RX1, "gatherSums", "()V"⟩
abbrev cX1_leastPlan : ByteArray := prog_3_method_11_code
def yX1_leastPlan : MethodName := ⟨RX1, "leastPlan", "(I)J"⟩
def RX2 : String := "CableLooms$Pins"
def TX2 : u_T := fun k => match k with
  | _ => ("CableLooms$Pins", "netOf", "[I", true)
def tyX2 : Nat → FieldType := fun k => match k with
  | _ => .array .int
theorem nmX2 : ∀ a, a < 1 → ∀ b, b < 1 → a ≠ b → (TX2 a).2.1 ≠ (TX2 b).2.1 := by decide +kernel
theorem tyX2_ok : ∀ k, k < 1 → parseFieldDescriptor (TX2 k).2.2.1 = some (tyX2 k) := by decide +kernel
abbrev cX2_init : ByteArray := prog_4_method_1_code
def yX2_init : MethodName := ⟨RX2, "<init>", "()V"⟩
abbrev cX2_usedNets : ByteArray := prog_4_method_2_code
def yX2_usedNets : MethodName := ⟨RX2, "usedNets", "()I"⟩
abbrev cX2_isUsed : ByteArray := prog_4_method_3_code
def yX2_isUsed : MethodName := ⟨RX2, "isUsed", "(I)Z"⟩
abbrev cX2_testsNeeded : ByteArray := prog_4_method_4_code
def yX2_testsNeeded : MethodName := ⟨RX2, "testsNeeded", "()I"⟩
abbrev cX2_pairsUnlikeJustIn : ByteArray := prog_4_method_5_code
def yX2_pairsUnlikeJustIn : MethodName := ⟨RX2, "pairsUnlikeJustIn", "(I)I"⟩
def RX3 : String := "CableLooms$Search"
def TX3 : u_T := fun k => match k with
  | 0 => ("CableLooms$Search", "ducts", "LCableLooms$Ducts;", true)
  | 1 => ("CableLooms$Search", "priceForth", "[I", true)
  | 2 => ("CableLooms$Search", "priceBack", "[I", true)
  | 3 => ("CableLooms$Search", "toGoal", "[I", true)
  | 4 => ("CableLooms$Search", "steps", "[I", true)
  | _ => ("CableLooms$Search", "stepCount", "I", false)
def tyX3 : Nat → FieldType := fun k => match k with
  | 0 => .object "CableLooms$Ducts"
  | 1 => .array .int
  | 2 => .array .int
  | 3 => .array .int
  | 4 => .array .int
  | _ => .int
theorem nmX3 : ∀ a, a < 6 → ∀ b, b < 6 → a ≠ b → (TX3 a).2.1 ≠ (TX3 b).2.1 := by decide +kernel
theorem tyX3_ok : ∀ k, k < 6 → parseFieldDescriptor (TX3 k).2.2.1 = some (tyX3 k) := by decide +kernel
abbrev cX3_init : ByteArray := prog_5_method_1_code
def yX3_init : MethodName := ⟨RX3, "<init>", "(LCableLooms$Ducts;)V"⟩
abbrev cX3_open : ByteArray := prog_5_method_2_code
def yX3_open : MethodName := ⟨RX3, "open", "(I)V"⟩
abbrev cX3_leastLength : ByteArray := prog_5_method_3_code
def yX3_leastLength : MethodName := ⟨RX3, "leastLength", "(II)I"⟩
abbrev cX3_leastLengthOfTwo : ByteArray := prog_5_method_4_code
def yX3_leastLengthOfTwo : MethodName := ⟨RX3, "leastLengthOfTwo", "(II)I"⟩
abbrev cX3_walk : ByteArray := prog_5_method_5_code
def yX3_walk : MethodName := ⟨RX3, "walk", "(II)V"⟩
abbrev cX3_firstStep : ByteArray := prog_5_method_6_code
def yX3_firstStep : MethodName := ⟨RX3, "firstStep", "(I)I"⟩
abbrev cX3_priceFrom : ByteArray := prog_5_method_7_code
def yX3_priceFrom : MethodName := ⟨RX3, "priceFrom", "(II)I"⟩
abbrev cX3_turnSteps : ByteArray := prog_5_method_8_code
def yX3_turnSteps : MethodName := ⟨RX3, "turnSteps", "(I)V"⟩
abbrev cX3_spread : ByteArray := prog_5_method_9_code
def yX3_spread : MethodName := ⟨RX3, "spread", "(I)V"⟩
abbrev cX3_lower : ByteArray := prog_5_method_10_code
def yX3_lower : MethodName := ⟨RX3, "lower", "(III)Z"⟩
def RX4 : String := "CableLooms$Splices"
def TX4 : u_T := fun k => match k with
  | 0 => ("CableLooms$Splices", "ducts", "LCableLooms$Ducts;", true)
  | 1 => ("CableLooms$Splices", "joinedTo", "[I", true)
  | 2 => ("CableLooms$Splices", "leastWithout", "[I", true)
  | _ => ("CableLooms$Splices", "least", "I", false)
def tyX4 : Nat → FieldType := fun k => match k with
  | 0 => .object "CableLooms$Ducts"
  | 1 => .array .int
  | 2 => .array .int
  | _ => .int
theorem nmX4 : ∀ a, a < 4 → ∀ b, b < 4 → a ≠ b → (TX4 a).2.1 ≠ (TX4 b).2.1 := by decide +kernel
theorem tyX4_ok : ∀ k, k < 4 → parseFieldDescriptor (TX4 k).2.2.1 = some (tyX4 k) := by decide +kernel
abbrev cX4_init : ByteArray := prog_6_method_1_code
def yX4_init : MethodName := ⟨RX4, "<init>", "(LCableLooms$Ducts;)V"⟩
abbrev cX4_compare : ByteArray := prog_6_method_2_code
def yX4_compare : MethodName := ⟨RX4, "compare", "(I)V"⟩
abbrev cX4_firstNeeded : ByteArray := prog_6_method_3_code
def yX4_firstNeeded : MethodName := ⟨RX4, "firstNeeded", "(I)I"⟩
abbrev cX4_note : ByteArray := prog_6_method_4_code
def yX4_note : MethodName := ⟨RX4, "note", "(II)V"⟩
abbrev cX4_treeLength : ByteArray := prog_6_method_5_code
def yX4_treeLength : MethodName := ⟨RX4, "treeLength", "(I)I"⟩
abbrev cX4_joins : ByteArray := prog_6_method_6_code
def yX4_joins : MethodName := ⟨RX4, "joins", "(II)Z"⟩
abbrev cX4_headOf : ByteArray := prog_6_method_7_code
def yX4_headOf : MethodName := ⟨RX4, "headOf", "(I)I"⟩
def RX5 : String := "CableLooms$Wires"
def TX5 : u_T := fun k => match k with
  | 0 => ("CableLooms$Wires", "made", "I", false)
  | 1 => ("CableLooms$Wires", "from", "[I", true)
  | 2 => ("CableLooms$Wires", "to", "[I", true)
  | 3 => ("CableLooms$Wires", "thickness", "[I", true)
  | 4 => ("CableLooms$Wires", "kind", "[I", true)
  | 5 => ("CableLooms$Wires", "options", "[I", true)
  | 6 => ("CableLooms$Wires", "through", "[I", true)
  | 7 => ("CableLooms$Wires", "wayLength", "[I", true)
  | 8 => ("CableLooms$Wires", "waySteps", "[I", true)
  | _ => ("CableLooms$Wires", "apartFrom", "[I", true)
def tyX5 : Nat → FieldType := fun k => match k with
  | 0 => .int
  | 1 => .array .int
  | 2 => .array .int
  | 3 => .array .int
  | 4 => .array .int
  | 5 => .array .int
  | 6 => .array .int
  | 7 => .array .int
  | 8 => .array .int
  | _ => .array .int
theorem nmX5 : ∀ a, a < 10 → ∀ b, b < 10 → a ≠ b → (TX5 a).2.1 ≠ (TX5 b).2.1 := by decide +kernel
theorem tyX5_ok : ∀ k, k < 10 → parseFieldDescriptor (TX5 k).2.2.1 = some (tyX5 k) := by decide +kernel
abbrev cX5_init : ByteArray := prog_7_method_1_code
def yX5_init : MethodName := ⟨RX5, "<init>", "()V"⟩
abbrev cX5_add : ByteArray := prog_7_method_2_code
def yX5_add : MethodName := ⟨RX5, "add", "(IIII)I"⟩
abbrev cX5_areApart : ByteArray := prog_7_method_3_code
def yX5_areApart : MethodName := ⟨RX5, "areApart", "(II)Z"⟩
abbrev cX5_setApart : ByteArray := prog_7_method_4_code
def yX5_setApart : MethodName := ⟨RX5, "setApart", "(IIZ)V"⟩
abbrev cX5_isLaid : ByteArray := prog_7_method_5_code
def yX5_isLaid : MethodName := ⟨RX5, "isLaid", "(I)Z"⟩
abbrev cX5_putThrough : ByteArray := prog_7_method_6_code
def yX5_putThrough : MethodName := ⟨RX5, "putThrough", "(I[III)V"⟩
abbrev cX5_takeOut : ByteArray := prog_7_method_7_code
def yX5_takeOut : MethodName := ⟨RX5, "takeOut", "(I)V"⟩
abbrev cX5_step : ByteArray := prog_7_method_8_code
def yX5_step : MethodName := ⟨RX5, "step", "(II)I"⟩
abbrev cX5_mayGoThrough : ByteArray := prog_7_method_9_code
def yX5_mayGoThrough : MethodName := ⟨RX5, "mayGoThrough", "(III)Z"⟩
abbrev cX5_laidThrough : ByteArray := prog_7_method_10_code
def yX5_laidThrough : MethodName := ⟨RX5, "laidThrough", "(I)I"⟩
abbrev cX5_thicknessThrough : ByteArray := prog_7_method_11_code
def yX5_thicknessThrough : MethodName := ⟨RX5, "thicknessThrough", "(I)I"⟩
abbrev cX5_isClashing : ByteArray := prog_7_method_12_code
def yX5_isClashing : MethodName := ⟨RX5, "isClashing", "(I)Z"⟩
abbrev cX5_laid : ByteArray := prog_7_method_13_code
def yX5_laid : MethodName := ⟨RX5, "laid", "()I"⟩
abbrev cX5_laidLength : ByteArray := prog_7_method_14_code
def yX5_laidLength : MethodName := ⟨RX5, "laidLength", "()I"⟩
abbrev cX5_neededWith : ByteArray := prog_7_method_15_code
def yX5_neededWith : MethodName := ⟨RX5, "neededWith", "(I)I"⟩
abbrev cX5_weightOf : ByteArray := prog_7_method_16_code
def yX5_weightOf : MethodName := ⟨RX5, "weightOf", "(I)I"⟩
def RX6 : String := "CableLooms"
def TX6 : u_T := fun k => match k with
  | 0 => ("CableLooms", "allDucts", "LCableLooms$Ducts;", true)
  | 1 => ("CableLooms", "allWires", "LCableLooms$Wires;", true)
  | 2 => ("CableLooms", "search", "LCableLooms$Search;", true)
  | 3 => ("CableLooms", "splices", "LCableLooms$Splices;", true)
  | 4 => ("CableLooms", "allOrders", "LCableLooms$Orders;", true)
  | _ => ("CableLooms", "allPins", "LCableLooms$Pins;", true)
def tyX6 : Nat → FieldType := fun k => match k with
  | 0 => .object "CableLooms$Ducts"
  | 1 => .object "CableLooms$Wires"
  | 2 => .object "CableLooms$Search"
  | 3 => .object "CableLooms$Splices"
  | 4 => .object "CableLooms$Orders"
  | _ => .object "CableLooms$Pins"
theorem nmX6 : ∀ a, a < 6 → ∀ b, b < 6 → a ≠ b → (TX6 a).2.1 ≠ (TX6 b).2.1 := by decide +kernel
theorem tyX6_ok : ∀ k, k < 6 → parseFieldDescriptor (TX6 k).2.2.1 = some (tyX6 k) := by decide +kernel
abbrev cX6_init : ByteArray := prog_1_method_1_code
def yX6_init : MethodName := ⟨RX6, "<init>", "()V"⟩
abbrev cX6_duct : ByteArray := prog_1_method_2_code
def yX6_duct : MethodName := ⟨RX6, "duct", "(IIII)I"⟩
abbrev cX6_wire : ByteArray := prog_1_method_3_code
def yX6_wire : MethodName := ⟨RX6, "wire", "(IIII)I"⟩
abbrev cX6_apart : ByteArray := prog_1_method_4_code
def yX6_apart : MethodName := ⟨RX6, "apart", "(IIZ)I"⟩
abbrev cX6_lay : ByteArray := prog_1_method_5_code
def yX6_lay : MethodName := ⟨RX6, "lay", "(I)I"⟩
abbrev cX6_lift : ByteArray := prog_1_method_6_code
def yX6_lift : MethodName := ⟨RX6, "lift", "(I)I"⟩
abbrev cX6_way : ByteArray := prog_1_method_7_code
def yX6_way : MethodName := ⟨RX6, "way", "(II)I"⟩
abbrev cX6_length : ByteArray := prog_1_method_8_code
def yX6_length : MethodName := ⟨RX6, "length", "(I)I"⟩
abbrev cX6_left : ByteArray := prog_1_method_9_code
def yX6_left : MethodName := ⟨RX6, "left", "(IZ)I"⟩
abbrev cX6_loss : ByteArray := prog_1_method_10_code
def yX6_loss : MethodName := ⟨RX6, "loss", "(II)I"⟩
abbrev cX6_clashes : ByteArray := prog_1_method_11_code
def yX6_clashes : MethodName := ⟨RX6, "clashes", "()I"⟩
abbrev cX6_far : ByteArray := prog_1_method_12_code
def yX6_far : MethodName := ⟨RX6, "far", "(II)I"⟩
abbrev cX6_two : ByteArray := prog_1_method_13_code
def yX6_two : MethodName := ⟨RX6, "two", "(II)I"⟩
abbrev cX6_net : ByteArray := prog_1_method_14_code
def yX6_net : MethodName := ⟨RX6, "net", "(I)I"⟩
abbrev cX6_splice : ByteArray := prog_1_method_15_code
def yX6_splice : MethodName := ⟨RX6, "splice", "(I)I"⟩
abbrev cX6_option : ByteArray := prog_1_method_16_code
def yX6_option : MethodName := ⟨RX6, "option", "(II)I"⟩
abbrev cX6_order : ByteArray := prog_1_method_17_code
def yX6_order : MethodName := ⟨RX6, "order", "(II)I"⟩
abbrev cX6_setup : ByteArray := prog_1_method_18_code
def yX6_setup : MethodName := ⟨RX6, "setup", "(I)I"⟩
abbrev cX6_weight : ByteArray := prog_1_method_19_code
def yX6_weight : MethodName := ⟨RX6, "weight", "(I)I"⟩
abbrev cX6_best : ByteArray := prog_1_method_20_code
def yX6_best : MethodName := ⟨RX6, "best", "()J"⟩
abbrev cX6_loom : ByteArray := prog_1_method_21_code
def yX6_loom : MethodName := ⟨RX6, "loom", "(I)I"⟩
abbrev cX6_alike : ByteArray := prog_1_method_22_code
def yX6_alike : MethodName := ⟨RX6, "alike", "()I"⟩
abbrev cX6_pin : ByteArray := prog_1_method_23_code
def yX6_pin : MethodName := ⟨RX6, "pin", "(II)I"⟩
abbrev cX6_tests : ByteArray := prog_1_method_24_code
def yX6_tests : MethodName := ⟨RX6, "tests", "()I"⟩
abbrev cX6_side : ByteArray := prog_1_method_25_code
def yX6_side : MethodName := ⟨RX6, "side", "(II)I"⟩
abbrev cX6_shows : ByteArray := prog_1_method_26_code
def yX6_shows : MethodName := ⟨RX6, "shows", "(II)I"⟩
abbrev cX6_pairs : ByteArray := prog_1_method_27_code
def yX6_pairs : MethodName := ⟨RX6, "pairs", "(I)I"⟩
abbrev cX6_count : ByteArray := prog_1_method_28_code
def yX6_count : MethodName := ⟨RX6, "count", "(I)I"⟩
abbrev cX6_isWithin : ByteArray := prog_1_method_29_code
def yX6_isWithin : MethodName := ⟨RX6, "isWithin", "(III)Z"⟩
abbrev cX6_isPlace : ByteArray := prog_1_method_30_code
def yX6_isPlace : MethodName := ⟨RX6, "isPlace", "(I)Z"⟩
abbrev cX6_isKind : ByteArray := prog_1_method_31_code
def yX6_isKind : MethodName := ⟨RX6, "isKind", "(I)Z"⟩
abbrev cX6_isPin : ByteArray := prog_1_method_32_code
def yX6_isPin : MethodName := ⟨RX6, "isPin", "(I)Z"⟩
abbrev cX6_isNet : ByteArray := prog_1_method_33_code
def yX6_isNet : MethodName := ⟨RX6, "isNet", "(I)Z"⟩
abbrev cX6_isNetOfPlaces : ByteArray := prog_1_method_34_code
def yX6_isNetOfPlaces : MethodName := ⟨RX6, "isNetOfPlaces", "(I)Z"⟩
abbrev cX6_has : ByteArray := prog_1_method_35_code
def yX6_has : MethodName := ⟨RX6, "has", "(II)Z"⟩
abbrev cX6_dividedUp : ByteArray := prog_1_method_36_code
def yX6_dividedUp : MethodName := ⟨RX6, "dividedUp", "(II)I"⟩
abbrev cX6_isWire : ByteArray := prog_1_method_37_code
def yX6_isWire : MethodName := ⟨RX6, "isWire", "(I)Z"⟩
abbrev cX6_openDucts : ByteArray := prog_1_method_38_code
def yX6_openDucts : MethodName := ⟨RX6, "openDucts", "(I)I"⟩
def RX7 : String := "CableLoomsModel"
def TX7 : u_T := fun k => match k with
  | 0 => ("CableLoomsModel", "ducts", "I", false)
  | 1 => ("CableLoomsModel", "one", "[I", true)
  | 2 => ("CableLoomsModel", "other", "[I", true)
  | 3 => ("CableLoomsModel", "length", "[I", true)
  | 4 => ("CableLoomsModel", "room", "[I", true)
  | 5 => ("CableLoomsModel", "wires", "I", false)
  | 6 => ("CableLoomsModel", "from", "[I", true)
  | 7 => ("CableLoomsModel", "to", "[I", true)
  | 8 => ("CableLoomsModel", "thick", "[I", true)
  | 9 => ("CableLoomsModel", "kind", "[I", true)
  | 10 => ("CableLoomsModel", "options", "[I", true)
  | 11 => ("CableLoomsModel", "steps", "[I", true)
  | 12 => ("CableLoomsModel", "way", "[I", true)
  | 13 => ("CableLoomsModel", "isApart", "[Z", true)
  | 14 => ("CableLoomsModel", "isOpen", "[Z", true)
  | 15 => ("CableLoomsModel", "far", "[I", true)
  | 16 => ("CableLoomsModel", "by", "[I", true)
  | 17 => ("CableLoomsModel", "gone", "[I", true)
  | 18 => ("CableLoomsModel", "cameBy", "[I", true)
  | 19 => ("CableLoomsModel", "tree", "[I", true)
  | 20 => ("CableLoomsModel", "order", "[I", true)
  | 21 => ("CableLoomsModel", "part", "[I", true)
  | 22 => ("CableLoomsModel", "orders", "I", false)
  | 23 => ("CableLoomsModel", "wanted", "[I", true)
  | 24 => ("CableLoomsModel", "pieces", "[I", true)
  | 25 => ("CableLoomsModel", "setup", "I", false)
  | 26 => ("CableLoomsModel", "loom", "[I", true)
  | 27 => ("CableLoomsModel", "bestLoom", "[I", true)
  | 28 => ("CableLoomsModel", "cost", "[J", true)
  | 29 => ("CableLoomsModel", "bestCost", "J", false)
  | _ => ("CableLoomsModel", "netOf", "[I", true)
def tyX7 : Nat → FieldType := fun k => match k with
  | 0 => .int
  | 1 => .array .int
  | 2 => .array .int
  | 3 => .array .int
  | 4 => .array .int
  | 5 => .int
  | 6 => .array .int
  | 7 => .array .int
  | 8 => .array .int
  | 9 => .array .int
  | 10 => .array .int
  | 11 => .array .int
  | 12 => .array .int
  | 13 => .array .boolean
  | 14 => .array .boolean
  | 15 => .array .int
  | 16 => .array .int
  | 17 => .array .int
  | 18 => .array .int
  | 19 => .array .int
  | 20 => .array .int
  | 21 => .array .int
  | 22 => .int
  | 23 => .array .int
  | 24 => .array .int
  | 25 => .int
  | 26 => .array .int
  | 27 => .array .int
  | 28 => .array .long
  | 29 => .long
  | _ => .array .int
theorem nmX7 : ∀ a, a < 31 → ∀ b, b < 31 → a ≠ b → (TX7 a).2.1 ≠ (TX7 b).2.1 := by decide +kernel
theorem tyX7_ok : ∀ k, k < 31 → parseFieldDescriptor (TX7 k).2.2.1 = some (tyX7 k) := by decide +kernel
abbrev cX7_init : ByteArray := prog_9_method_1_code
def yX7_init : MethodName := ⟨RX7, "<init>", "()V"⟩
abbrev cX7_in : ByteArray := prog_9_method_3_code
def yX7_in : MethodName := ⟨RX7, "in", "(III)Z"⟩
abbrev cX7_isPlace : ByteArray := prog_9_method_4_code
def yX7_isPlace : MethodName := ⟨RX7, "isPlace", "(I)Z"⟩
abbrev cX7_ones : ByteArray := prog_9_method_5_code
def yX7_ones : MethodName := ⟨RX7, "ones", "(I)I"⟩
abbrev cX7_isDuct : ByteArray := prog_9_method_6_code
def yX7_isDuct : MethodName := ⟨RX7, "isDuct", "(I)Z"⟩
abbrev cX7_isWire : ByteArray := prog_9_method_7_code
def yX7_isWire : MethodName := ⟨RX7, "isWire", "(I)Z"⟩
abbrev cX7_duct : ByteArray := prog_9_method_8_code
def yX7_duct : MethodName := ⟨RX7, "duct", "(IIII)I"⟩
abbrev cX7_wire : ByteArray := prog_9_method_9_code
def yX7_wire : MethodName := ⟨RX7, "wire", "(IIII)I"⟩
abbrev cX7_apart : ByteArray := prog_9_method_10_code
def yX7_apart : MethodName := ⟨RX7, "apart", "(IIZ)I"⟩
abbrev cX7_goesBy : ByteArray := prog_9_method_11_code
def yX7_goesBy : MethodName := ⟨RX7, "goesBy", "(II)Z"⟩
abbrev cX7_full : ByteArray := prog_9_method_12_code
def yX7_full : MethodName := ⟨RX7, "full", "(I)I"⟩
abbrev cX7_mayGo : ByteArray := prog_9_method_13_code
def yX7_mayGo : MethodName := ⟨RX7, "mayGo", "(II)Z"⟩
abbrev cX7_across : ByteArray := prog_9_method_14_code
def yX7_across : MethodName := ⟨RX7, "across", "(II)I"⟩
abbrev cX7_measure : ByteArray := prog_9_method_15_code
def yX7_measure : MethodName := ⟨RX7, "measure", "(I)V"⟩
abbrev cX7_better : ByteArray := prog_9_method_16_code
def yX7_better : MethodName := ⟨RX7, "better", "(III)V"⟩
abbrev cX7_next : ByteArray := prog_9_method_17_code
def yX7_next : MethodName := ⟨RX7, "next", "(I)I"⟩
abbrev cX7_lengthOf : ByteArray := prog_9_method_18_code
def yX7_lengthOf : MethodName := ⟨RX7, "lengthOf", "(I)I"⟩
abbrev cX7_lay : ByteArray := prog_9_method_19_code
def yX7_lay : MethodName := ⟨RX7, "lay", "(I)I"⟩
abbrev cX7_lift : ByteArray := prog_9_method_20_code
def yX7_lift : MethodName := ⟨RX7, "lift", "(I)I"⟩
abbrev cX7_way : ByteArray := prog_9_method_21_code
def yX7_way : MethodName := ⟨RX7, "way", "(II)I"⟩
abbrev cX7_length : ByteArray := prog_9_method_22_code
def yX7_length : MethodName := ⟨RX7, "length", "(I)I"⟩
abbrev cX7_left : ByteArray := prog_9_method_23_code
def yX7_left : MethodName := ⟨RX7, "left", "(IZ)I"⟩
abbrev cX7_loss : ByteArray := prog_9_method_24_code
def yX7_loss : MethodName := ⟨RX7, "loss", "(II)I"⟩
abbrev cX7_isClash : ByteArray := prog_9_method_25_code
def yX7_isClash : MethodName := ⟨RX7, "isClash", "(I)Z"⟩
abbrev cX7_clashes : ByteArray := prog_9_method_26_code
def yX7_clashes : MethodName := ⟨RX7, "clashes", "()I"⟩
abbrev cX7_openAll : ByteArray := prog_9_method_27_code
def yX7_openAll : MethodName := ⟨RX7, "openAll", "()V"⟩
abbrev cX7_far : ByteArray := prog_9_method_28_code
def yX7_far : MethodName := ⟨RX7, "far", "(II)I"⟩
abbrev cX7_tryStep : ByteArray := prog_9_method_29_code
def yX7_tryStep : MethodName := ⟨RX7, "tryStep", "(IIII)V"⟩
abbrev cX7_addWay : ByteArray := prog_9_method_30_code
def yX7_addWay : MethodName := ⟨RX7, "addWay", "(II)Z"⟩
abbrev cX7_two : ByteArray := prog_9_method_31_code
def yX7_two : MethodName := ⟨RX7, "two", "(II)I"⟩
abbrev cX7_treeOf : ByteArray := prog_9_method_32_code
def yX7_treeOf : MethodName := ⟨RX7, "treeOf", "(I)I"⟩
abbrev cX7_layTrees : ByteArray := prog_9_method_33_code
def yX7_layTrees : MethodName := ⟨RX7, "layTrees", "()V"⟩
abbrev cX7_leastNet : ByteArray := prog_9_method_34_code
def yX7_leastNet : MethodName := ⟨RX7, "leastNet", "(II)I"⟩
abbrev cX7_isNet : ByteArray := prog_9_method_35_code
def yX7_isNet : MethodName := ⟨RX7, "isNet", "(I)Z"⟩
abbrev cX7_net : ByteArray := prog_9_method_36_code
def yX7_net : MethodName := ⟨RX7, "net", "(I)I"⟩
abbrev cX7_splice : ByteArray := prog_9_method_37_code
def yX7_splice : MethodName := ⟨RX7, "splice", "(I)I"⟩
abbrev cX7_option : ByteArray := prog_9_method_38_code
def yX7_option : MethodName := ⟨RX7, "option", "(II)I"⟩
abbrev cX7_order : ByteArray := prog_9_method_39_code
def yX7_order : MethodName := ⟨RX7, "order", "(II)I"⟩
abbrev cX7_setup : ByteArray := prog_9_method_40_code
def yX7_setup : MethodName := ⟨RX7, "setup", "(I)I"⟩
abbrev cX7_needs : ByteArray := prog_9_method_41_code
def yX7_needs : MethodName := ⟨RX7, "needs", "(II)Z"⟩
abbrev cX7_weightOf : ByteArray := prog_9_method_42_code
def yX7_weightOf : MethodName := ⟨RX7, "weightOf", "(I)I"⟩
abbrev cX7_weight : ByteArray := prog_9_method_43_code
def yX7_weight : MethodName := ⟨RX7, "weight", "(I)I"⟩
abbrev cX7_nextRow : ByteArray := prog_9_method_44_code
def yX7_nextRow : MethodName := ⟨RX7, "nextRow", "()Z"⟩
abbrev cX7_mostAhead : ByteArray := prog_9_method_45_code
def yX7_mostAhead : MethodName := ⟨RX7, "mostAhead", "(I)I"⟩
abbrev cX7_layPlan : ByteArray := prog_9_method_46_code
def yX7_layPlan : MethodName := ⟨RX7, "layPlan", "()V"⟩
abbrev cX7_best : ByteArray := prog_9_method_47_code
def yX7_best : MethodName := ⟨RX7, "best", "()J"⟩
abbrev cX7_loom : ByteArray := prog_9_method_48_code
def yX7_loom : MethodName := ⟨RX7, "loom", "(I)I"⟩
abbrev cX7_areAlike : ByteArray := prog_9_method_49_code
def yX7_areAlike : MethodName := ⟨RX7, "areAlike", "(II)Z"⟩
abbrev cX7_alike : ByteArray := prog_9_method_50_code
def yX7_alike : MethodName := ⟨RX7, "alike", "()I"⟩
abbrev cX7_isPin : ByteArray := prog_9_method_51_code
def yX7_isPin : MethodName := ⟨RX7, "isPin", "(I)Z"⟩
abbrev cX7_pin : ByteArray := prog_9_method_52_code
def yX7_pin : MethodName := ⟨RX7, "pin", "(II)I"⟩
abbrev cX7_nets : ByteArray := prog_9_method_53_code
def yX7_nets : MethodName := ⟨RX7, "nets", "()I"⟩
abbrev cX7_testMany : ByteArray := prog_9_method_54_code
def yX7_testMany : MethodName := ⟨RX7, "testMany", "()I"⟩
abbrev cX7_tests : ByteArray := prog_9_method_55_code
def yX7_tests : MethodName := ⟨RX7, "tests", "()I"⟩
abbrev cX7_side : ByteArray := prog_9_method_56_code
def yX7_side : MethodName := ⟨RX7, "side", "(II)I"⟩
abbrev cX7_hasPins : ByteArray := prog_9_method_57_code
def yX7_hasPins : MethodName := ⟨RX7, "hasPins", "(I)Z"⟩
abbrev cX7_shows : ByteArray := prog_9_method_58_code
def yX7_shows : MethodName := ⟨RX7, "shows", "(II)I"⟩
abbrev cX7_pairs : ByteArray := prog_9_method_59_code
def yX7_pairs : MethodName := ⟨RX7, "pairs", "(I)I"⟩
abbrev cX7_count : ByteArray := prog_9_method_60_code
def yX7_count : MethodName := ⟨RX7, "count", "(I)I"⟩
def RJ6 : String := "java/lang/Integer"
abbrev cJ6_bitCount_0f7a4 : ByteArray := prog_10_method_49_code
def yJ6_bitCount_0f7a4 : MethodName := ⟨RJ6, "bitCount", "(I)I"⟩
def RJ9 : String := "java/lang/Math"
abbrev cJ9_min_7cf53 : ByteArray := prog_11_method_69_code
def yJ9_min_7cf53 : MethodName := ⟨RJ9, "min", "(II)I"⟩
abbrev cJ9_min_f86c9 : ByteArray := prog_11_method_70_code
def yJ9_min_f86c9 : MethodName := ⟨RJ9, "min", "(JJ)J"⟩
def RJ7 : String := "java/util/Arrays"
abbrev cJ7_fill_53178 : ByteArray := prog_12_method_103_code
def yJ7_fill_53178 : MethodName := ⟨RJ7, "fill", "([II)V"⟩
def RL : String := "CableLoomsLaw"
abbrev cL_law : ByteArray := code
def yL_law : MethodName := ⟨RL, "law", "([I)Z"⟩
abbrev vwCl : List vw_C := [(RX0, TX0, 7), (RX1, TX1, 11), (RX2, TX2, 1), (RX3, TX3, 6), (RX4, TX4, 4), (RX5, TX5, 10), (RX6, TX6, 6), (RX7, TX7, 31)]
