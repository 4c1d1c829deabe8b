def pLs_18 : aPg := [(18, .iload_n 3, 1), (19, .aload_n 0, 1), (20, .arraylength, 1), (21, .iconst 5, 1), (22, .isub, 1), (23, .if_icmp .gt 933, 3), (26, .aload_n 0, 1), (27, .iload_n 3, 1), (28, .iaload, 1), (29, .bipush 31, 2), (31, .iand, 1), (32, .tableswitch 918 0 26 #[124, 177, 230, 289, 312, 335, 368, 391, 440, 473, 486, 519, 552, 575, 598, 631, 664, 687, 710, 724, 747, 760, 793, 806, 839, 872, 895], 124)]
set_option maxRecDepth 100000 in
theorem pLs_18_ok : (pLs_18.all fun q => decide (decode cL_law q.1 = .ok (q.2.1, q.2.2))) = true := by decide +kernel
set_option maxRecDepth 100000 in
set_option maxHeartbeats 4000000 in
theorem wl_18 {G : aG} {μ : aMem} {L : Nat} {xs : Nat → Int32} (x3 : Int32) (h :
    ((((Int32.ofNat L) - (nI 5)) < x3 →
      a_LR G L xs 956 [] [] μ) ∧
    (¬ ((Int32.ofNat L) - (nI 5)) < x3 →
      vp_in x3 L ∧
      ((((xs x3.toNatClampNeg) &&& (nI 31)).toInt < 0 ∨ 26 < ((xs x3.toNatClampNeg) &&& (nI 31)).toInt →
        a_LR G L xs 950 [(0, .ref 99), (1, .ref 0), (2, .ref 36), (3, .int x3)] [] μ) ∧
      (((xs x3.toNatClampNeg) &&& (nI 31)).toInt = 0 →
        a_LR G L xs 156 [(0, .ref 99), (1, .ref 0), (2, .ref 36), (3, .int x3)] [] μ) ∧
      (((xs x3.toNatClampNeg) &&& (nI 31)).toInt = 1 →
        a_LR G L xs 209 [(0, .ref 99), (1, .ref 0), (2, .ref 36), (3, .int x3)] [] μ) ∧
      (((xs x3.toNatClampNeg) &&& (nI 31)).toInt = 2 →
        a_LR G L xs 262 [(0, .ref 99), (1, .ref 0), (2, .ref 36), (3, .int x3)] [] μ) ∧
      (((xs x3.toNatClampNeg) &&& (nI 31)).toInt = 3 →
        a_LR G L xs 321 [(0, .ref 99), (1, .ref 0), (2, .ref 36), (3, .int x3)] [] μ) ∧
      (((xs x3.toNatClampNeg) &&& (nI 31)).toInt = 4 →
        a_LR G L xs 344 [(0, .ref 99), (1, .ref 0), (2, .ref 36), (3, .int x3)] [] μ) ∧
      (((xs x3.toNatClampNeg) &&& (nI 31)).toInt = 5 →
        a_LR G L xs 367 [(0, .ref 99), (1, .ref 0), (2, .ref 36), (3, .int x3)] [] μ) ∧
      (((xs x3.toNatClampNeg) &&& (nI 31)).toInt = 6 →
        a_LR G L xs 400 [(0, .ref 99), (1, .ref 0), (2, .ref 36), (3, .int x3)] [] μ) ∧
      (((xs x3.toNatClampNeg) &&& (nI 31)).toInt = 7 →
        a_LR G L xs 423 [(0, .ref 99), (1, .ref 0), (2, .ref 36), (3, .int x3)] [] μ) ∧
      (((xs x3.toNatClampNeg) &&& (nI 31)).toInt = 8 →
        a_LR G L xs 472 [(0, .ref 99), (1, .ref 0), (2, .ref 36), (3, .int x3)] [] μ) ∧
      (((xs x3.toNatClampNeg) &&& (nI 31)).toInt = 9 →
        a_LR G L xs 505 [(0, .ref 99), (1, .ref 0), (2, .ref 36), (3, .int x3)] [] μ) ∧
      (((xs x3.toNatClampNeg) &&& (nI 31)).toInt = 10 →
        a_LR G L xs 518 [(0, .ref 99), (1, .ref 0), (2, .ref 36), (3, .int x3)] [] μ) ∧
      (((xs x3.toNatClampNeg) &&& (nI 31)).toInt = 11 →
        a_LR G L xs 551 [(0, .ref 99), (1, .ref 0), (2, .ref 36), (3, .int x3)] [] μ) ∧
      (((xs x3.toNatClampNeg) &&& (nI 31)).toInt = 12 →
        a_LR G L xs 584 [(0, .ref 99), (1, .ref 0), (2, .ref 36), (3, .int x3)] [] μ) ∧
      (((xs x3.toNatClampNeg) &&& (nI 31)).toInt = 13 →
        a_LR G L xs 607 [(0, .ref 99), (1, .ref 0), (2, .ref 36), (3, .int x3)] [] μ) ∧
      (((xs x3.toNatClampNeg) &&& (nI 31)).toInt = 14 →
        a_LR G L xs 630 [(0, .ref 99), (1, .ref 0), (2, .ref 36), (3, .int x3)] [] μ) ∧
      (((xs x3.toNatClampNeg) &&& (nI 31)).toInt = 15 →
        a_LR G L xs 663 [(0, .ref 99), (1, .ref 0), (2, .ref 36), (3, .int x3)] [] μ) ∧
      (((xs x3.toNatClampNeg) &&& (nI 31)).toInt = 16 →
        a_LR G L xs 696 [(0, .ref 99), (1, .ref 0), (2, .ref 36), (3, .int x3)] [] μ) ∧
      (((xs x3.toNatClampNeg) &&& (nI 31)).toInt = 17 →
        a_LR G L xs 719 [(0, .ref 99), (1, .ref 0), (2, .ref 36), (3, .int x3)] [] μ) ∧
      (((xs x3.toNatClampNeg) &&& (nI 31)).toInt = 18 →
        a_LR G L xs 742 [(0, .ref 99), (1, .ref 0), (2, .ref 36), (3, .int x3)] [] μ) ∧
      (((xs x3.toNatClampNeg) &&& (nI 31)).toInt = 19 →
        a_LR G L xs 756 [(0, .ref 99), (1, .ref 0), (2, .ref 36), (3, .int x3)] [] μ) ∧
      (((xs x3.toNatClampNeg) &&& (nI 31)).toInt = 20 →
        a_LR G L xs 779 [(0, .ref 99), (1, .ref 0), (2, .ref 36), (3, .int x3)] [] μ) ∧
      (((xs x3.toNatClampNeg) &&& (nI 31)).toInt = 21 →
        a_LR G L xs 792 [(0, .ref 99), (1, .ref 0), (2, .ref 36), (3, .int x3)] [] μ) ∧
      (((xs x3.toNatClampNeg) &&& (nI 31)).toInt = 22 →
        a_LR G L xs 825 [(0, .ref 99), (1, .ref 0), (2, .ref 36), (3, .int x3)] [] μ) ∧
      (((xs x3.toNatClampNeg) &&& (nI 31)).toInt = 23 →
        a_LR G L xs 838 [(0, .ref 99), (1, .ref 0), (2, .ref 36), (3, .int x3)] [] μ) ∧
      (((xs x3.toNatClampNeg) &&& (nI 31)).toInt = 24 →
        a_LR G L xs 871 [(0, .ref 99), (1, .ref 0), (2, .ref 36), (3, .int x3)] [] μ) ∧
      (((xs x3.toNatClampNeg) &&& (nI 31)).toInt = 25 →
        a_LR G L xs 904 [(0, .ref 99), (1, .ref 0), (2, .ref 36), (3, .int x3)] [] μ) ∧
      (((xs x3.toNatClampNeg) &&& (nI 31)).toInt = 26 →
        a_LR G L xs 927 [(0, .ref 99), (1, .ref 0), (2, .ref 36), (3, .int x3)] [] μ) ∧ True)))) :
    a_LR G L xs 18 [(0, .ref 99), (1, .ref 0), (2, .ref 36), (3, .int x3)] [] μ := a_runL (pg := pLs_18) [(18, [0, 1, 2, 3]), (156, [0, 1, 2, 3]), (209, [0, 1, 2, 3]), (262, [0, 1, 2, 3]), (321, [0, 1, 2, 3]), (344, [0, 1, 2, 3]), (367, [0, 1, 2, 3]), (400, [0, 1, 2, 3]), (423, [0, 1, 2, 3]), (472, [0, 1, 2, 3]), (505, [0, 1, 2, 3]), (518, [0, 1, 2, 3]), (551, [0, 1, 2, 3]), (584, [0, 1, 2, 3]), (607, [0, 1, 2, 3]), (630, [0, 1, 2, 3]), (663, [0, 1, 2, 3]), (696, [0, 1, 2, 3]), (719, [0, 1, 2, 3]), (742, [0, 1, 2, 3]), (756, [0, 1, 2, 3]), (779, [0, 1, 2, 3]), (792, [0, 1, 2, 3]), (825, [0, 1, 2, 3]), (838, [0, 1, 2, 3]), (871, [0, 1, 2, 3]), (904, [0, 1, 2, 3]), (927, [0, 1, 2, 3]), (950, [0, 1, 2, 3]), (956, [])] 16 pLs_18_ok rfl h
def pLs_156 : aPg := [(156, .aload_n 1, 1), (157, .aload_n 0, 1), (158, .iload_n 3, 1), (159, .iconst 1, 1), (160, .iadd, 1), (161, .iaload, 1), (162, .aload_n 0, 1), (163, .iload_n 3, 1), (164, .iconst 2, 1), (165, .iadd, 1), (166, .iaload, 1), (167, .aload_n 0, 1), (168, .iload_n 3, 1), (169, .iconst 3, 1), (170, .iadd, 1), (171, .iaload, 1), (172, .aload_n 0, 1), (173, .iload_n 3, 1), (174, .iconst 4, 1), (175, .iadd, 1), (176, .iaload, 1), (177, .invokevirtual 13, 3), (180, .aload_n 2, 1), (181, .aload_n 0, 1), (182, .iload_n 3, 1), (183, .iconst 1, 1), (184, .iadd, 1), (185, .iaload, 1), (186, .aload_n 0, 1), (187, .iload_n 3, 1), (188, .iconst 2, 1), (189, .iadd, 1), (190, .iaload, 1), (191, .aload_n 0, 1), (192, .iload_n 3, 1), (193, .iconst 3, 1), (194, .iadd, 1), (195, .iaload, 1), (196, .aload_n 0, 1), (197, .iload_n 3, 1), (198, .iconst 4, 1), (199, .iadd, 1), (200, .iaload, 1), (201, .invokevirtual 17, 3), (204, .if_icmp .eq 746, 3), (207, .iconst 0, 1), (208, .ireturn, 1)]
set_option maxRecDepth 100000 in
theorem pLs_156_ok : (pLs_156.all fun q => decide (decode cL_law q.1 = .ok (q.2.1, q.2.2))) = true := by decide +kernel
set_option maxRecDepth 100000 in
set_option maxHeartbeats 4000000 in
theorem wl_156 {G : aG} {μ : aMem} {L : Nat} {xs : Nat → Int32} (x3 : Int32) (h :
    vp_in (x3 + (nI 1)) L ∧
    vp_in (x3 + (nI 2)) L ∧
    vp_in (x3 + (nI 3)) L ∧
    vp_in (x3 + (nI 4)) L ∧
    a_Spec G sX6_duct [.ref 0, .int (xs (x3 + (nI 1)).toNatClampNeg), .int (xs (x3 + (nI 2)).toNatClampNeg), .int (xs (x3 + (nI 3)).toNatClampNeg), .int (xs (x3 + (nI 4)).toNatClampNeg)] μ (fun r1 m1 => ∃ v1 : Int32, r1 = some (.int v1) ∧
    vp_in (x3 + (nI 1)) L ∧
    vp_in (x3 + (nI 2)) L ∧
    vp_in (x3 + (nI 3)) L ∧
    vp_in (x3 + (nI 4)) L ∧
    a_Spec G sX7_duct [.ref 36, .int (xs (x3 + (nI 1)).toNatClampNeg), .int (xs (x3 + (nI 2)).toNatClampNeg), .int (xs (x3 + (nI 3)).toNatClampNeg), .int (xs (x3 + (nI 4)).toNatClampNeg)] m1 (fun r2 m2 => ∃ v2 : Int32, r2 = some (.int v2) ∧
    ((v1 = v2 →
      a_LR G L xs 950 [(0, .ref 99), (1, .ref 0), (2, .ref 36), (3, .int x3)] [] m2) ∧
    (¬ v1 = v2 →
      ((nI 0) = 0 ∨ (nI 0) = 1) ∧ lawPost (some (.int (nI 0))) m2))))) :
    a_LR G L xs 156 [(0, .ref 99), (1, .ref 0), (2, .ref 36), (3, .int x3)] [] μ := a_runL (pg := pLs_156) [(18, [0, 1, 2, 3]), (156, [0, 1, 2, 3]), (209, [0, 1, 2, 3]), (262, [0, 1, 2, 3]), (321, [0, 1, 2, 3]), (344, [0, 1, 2, 3]), (367, [0, 1, 2, 3]), (400, [0, 1, 2, 3]), (423, [0, 1, 2, 3]), (472, [0, 1, 2, 3]), (505, [0, 1, 2, 3]), (518, [0, 1, 2, 3]), (551, [0, 1, 2, 3]), (584, [0, 1, 2, 3]), (607, [0, 1, 2, 3]), (630, [0, 1, 2, 3]), (663, [0, 1, 2, 3]), (696, [0, 1, 2, 3]), (719, [0, 1, 2, 3]), (742, [0, 1, 2, 3]), (756, [0, 1, 2, 3]), (779, [0, 1, 2, 3]), (792, [0, 1, 2, 3]), (825, [0, 1, 2, 3]), (838, [0, 1, 2, 3]), (871, [0, 1, 2, 3]), (904, [0, 1, 2, 3]), (927, [0, 1, 2, 3]), (950, [0, 1, 2, 3]), (956, [])] 50 pLs_156_ok rfl h
def pLs_209 : aPg := [(209, .aload_n 1, 1), (210, .aload_n 0, 1), (211, .iload_n 3, 1), (212, .iconst 1, 1), (213, .iadd, 1), (214, .iaload, 1), (215, .aload_n 0, 1), (216, .iload_n 3, 1), (217, .iconst 2, 1), (218, .iadd, 1), (219, .iaload, 1), (220, .aload_n 0, 1), (221, .iload_n 3, 1), (222, .iconst 3, 1), (223, .iadd, 1), (224, .iaload, 1), (225, .aload_n 0, 1), (226, .iload_n 3, 1), (227, .iconst 4, 1), (228, .iadd, 1), (229, .iaload, 1), (230, .invokevirtual 18, 3), (233, .aload_n 2, 1), (234, .aload_n 0, 1), (235, .iload_n 3, 1), (236, .iconst 1, 1), (237, .iadd, 1), (238, .iaload, 1), (239, .aload_n 0, 1), (240, .iload_n 3, 1), (241, .iconst 2, 1), (242, .iadd, 1), (243, .iaload, 1), (244, .aload_n 0, 1), (245, .iload_n 3, 1), (246, .iconst 3, 1), (247, .iadd, 1), (248, .iaload, 1), (249, .aload_n 0, 1), (250, .iload_n 3, 1), (251, .iconst 4, 1), (252, .iadd, 1), (253, .iaload, 1), (254, .invokevirtual 21, 3), (257, .if_icmp .eq 693, 3), (260, .iconst 0, 1), (261, .ireturn, 1)]
set_option maxRecDepth 100000 in
theorem pLs_209_ok : (pLs_209.all fun q => decide (decode cL_law q.1 = .ok (q.2.1, q.2.2))) = true := by decide +kernel
set_option maxRecDepth 100000 in
set_option maxHeartbeats 4000000 in
theorem wl_209 {G : aG} {μ : aMem} {L : Nat} {xs : Nat → Int32} (x3 : Int32) (h :
    vp_in (x3 + (nI 1)) L ∧
    vp_in (x3 + (nI 2)) L ∧
    vp_in (x3 + (nI 3)) L ∧
    vp_in (x3 + (nI 4)) L ∧
    a_Spec G sX6_wire [.ref 0, .int (xs (x3 + (nI 1)).toNatClampNeg), .int (xs (x3 + (nI 2)).toNatClampNeg), .int (xs (x3 + (nI 3)).toNatClampNeg), .int (xs (x3 + (nI 4)).toNatClampNeg)] μ (fun r1 m1 => ∃ v1 : Int32, r1 = some (.int v1) ∧
    vp_in (x3 + (nI 1)) L ∧
    vp_in (x3 + (nI 2)) L ∧
    vp_in (x3 + (nI 3)) L ∧
    vp_in (x3 + (nI 4)) L ∧
    a_Spec G sX7_wire [.ref 36, .int (xs (x3 + (nI 1)).toNatClampNeg), .int (xs (x3 + (nI 2)).toNatClampNeg), .int (xs (x3 + (nI 3)).toNatClampNeg), .int (xs (x3 + (nI 4)).toNatClampNeg)] m1 (fun r2 m2 => ∃ v2 : Int32, r2 = some (.int v2) ∧
    ((v1 = v2 →
      a_LR G L xs 950 [(0, .ref 99), (1, .ref 0), (2, .ref 36), (3, .int x3)] [] m2) ∧
    (¬ v1 = v2 →
      ((nI 0) = 0 ∨ (nI 0) = 1) ∧ lawPost (some (.int (nI 0))) m2))))) :
    a_LR G L xs 209 [(0, .ref 99), (1, .ref 0), (2, .ref 36), (3, .int x3)] [] μ := a_runL (pg := pLs_209) [(18, [0, 1, 2, 3]), (156, [0, 1, 2, 3]), (209, [0, 1, 2, 3]), (262, [0, 1, 2, 3]), (321, [0, 1, 2, 3]), (344, [0, 1, 2, 3]), (367, [0, 1, 2, 3]), (400, [0, 1, 2, 3]), (423, [0, 1, 2, 3]), (472, [0, 1, 2, 3]), (505, [0, 1, 2, 3]), (518, [0, 1, 2, 3]), (551, [0, 1, 2, 3]), (584, [0, 1, 2, 3]), (607, [0, 1, 2, 3]), (630, [0, 1, 2, 3]), (663, [0, 1, 2, 3]), (696, [0, 1, 2, 3]), (719, [0, 1, 2, 3]), (742, [0, 1, 2, 3]), (756, [0, 1, 2, 3]), (779, [0, 1, 2, 3]), (792, [0, 1, 2, 3]), (825, [0, 1, 2, 3]), (838, [0, 1, 2, 3]), (871, [0, 1, 2, 3]), (904, [0, 1, 2, 3]), (927, [0, 1, 2, 3]), (950, [0, 1, 2, 3]), (956, [])] 50 pLs_209_ok rfl h
def pLs_262 : aPg := [(262, .aload_n 1, 1), (263, .aload_n 0, 1), (264, .iload_n 3, 1), (265, .iconst 1, 1), (266, .iadd, 1), (267, .iaload, 1), (268, .aload_n 0, 1), (269, .iload_n 3, 1), (270, .iconst 2, 1), (271, .iadd, 1), (272, .iaload, 1), (273, .aload_n 0, 1), (274, .iload_n 3, 1), (275, .iconst 3, 1), (276, .iadd, 1), (277, .iaload, 1), (278, .ifCond .eq 7, 3), (281, .iconst 1, 1), (282, .goto 4, 3), (285, .iconst 0, 1), (286, .invokevirtual 22, 3), (289, .aload_n 2, 1), (290, .aload_n 0, 1), (291, .iload_n 3, 1), (292, .iconst 1, 1), (293, .iadd, 1), (294, .iaload, 1), (295, .aload_n 0, 1), (296, .iload_n 3, 1), (297, .iconst 2, 1), (298, .iadd, 1), (299, .iaload, 1), (300, .aload_n 0, 1), (301, .iload_n 3, 1), (302, .iconst 3, 1), (303, .iadd, 1), (304, .iaload, 1), (305, .ifCond .eq 7, 3), (308, .iconst 1, 1), (309, .goto 4, 3), (312, .iconst 0, 1), (313, .invokevirtual 26, 3), (316, .if_icmp .eq 634, 3), (319, .iconst 0, 1), (320, .ireturn, 1)]
set_option maxRecDepth 100000 in
theorem pLs_262_ok : (pLs_262.all fun q => decide (decode cL_law q.1 = .ok (q.2.1, q.2.2))) = true := by decide +kernel
set_option maxRecDepth 100000 in
set_option maxHeartbeats 4000000 in
theorem wl_262 {G : aG} {μ : aMem} {L : Nat} {xs : Nat → Int32} (x3 : Int32) (h :
    vp_in (x3 + (nI 1)) L ∧
    vp_in (x3 + (nI 2)) L ∧
    vp_in (x3 + (nI 3)) L ∧
    (((xs (x3 + (nI 3)).toNatClampNeg) = 0 →
      a_Spec G sX6_apart [.ref 0, .int (xs (x3 + (nI 1)).toNatClampNeg), .int (xs (x3 + (nI 2)).toNatClampNeg), .int (nI 0)] μ (fun r1 m1 => ∃ v1 : Int32, r1 = some (.int v1) ∧
      vp_in (x3 + (nI 1)) L ∧
      vp_in (x3 + (nI 2)) L ∧
      vp_in (x3 + (nI 3)) L ∧
      (((xs (x3 + (nI 3)).toNatClampNeg) = 0 →
        a_Spec G sX7_apart [.ref 36, .int (xs (x3 + (nI 1)).toNatClampNeg), .int (xs (x3 + (nI 2)).toNatClampNeg), .int (nI 0)] m1 (fun r2 m2 => ∃ v2 : Int32, r2 = some (.int v2) ∧
        ((v1 = v2 →
          a_LR G L xs 950 [(0, .ref 99), (1, .ref 0), (2, .ref 36), (3, .int x3)] [] m2) ∧
        (¬ v1 = v2 →
          ((nI 0) = 0 ∨ (nI 0) = 1) ∧ lawPost (some (.int (nI 0))) m2)))) ∧
      (¬ (xs (x3 + (nI 3)).toNatClampNeg) = 0 →
        a_Spec G sX7_apart [.ref 36, .int (xs (x3 + (nI 1)).toNatClampNeg), .int (xs (x3 + (nI 2)).toNatClampNeg), .int (nI 1)] m1 (fun r3 m3 => ∃ v3 : Int32, r3 = some (.int v3) ∧
        ((v1 = v3 →
          a_LR G L xs 950 [(0, .ref 99), (1, .ref 0), (2, .ref 36), (3, .int x3)] [] m3) ∧
        (¬ v1 = v3 →
          ((nI 0) = 0 ∨ (nI 0) = 1) ∧ lawPost (some (.int (nI 0))) m3))))))) ∧
    (¬ (xs (x3 + (nI 3)).toNatClampNeg) = 0 →
      a_Spec G sX6_apart [.ref 0, .int (xs (x3 + (nI 1)).toNatClampNeg), .int (xs (x3 + (nI 2)).toNatClampNeg), .int (nI 1)] μ (fun r4 m4 => ∃ v4 : Int32, r4 = some (.int v4) ∧
      vp_in (x3 + (nI 1)) L ∧
      vp_in (x3 + (nI 2)) L ∧
      vp_in (x3 + (nI 3)) L ∧
      (((xs (x3 + (nI 3)).toNatClampNeg) = 0 →
        a_Spec G sX7_apart [.ref 36, .int (xs (x3 + (nI 1)).toNatClampNeg), .int (xs (x3 + (nI 2)).toNatClampNeg), .int (nI 0)] m4 (fun r5 m5 => ∃ v5 : Int32, r5 = some (.int v5) ∧
        ((v4 = v5 →
          a_LR G L xs 950 [(0, .ref 99), (1, .ref 0), (2, .ref 36), (3, .int x3)] [] m5) ∧
        (¬ v4 = v5 →
          ((nI 0) = 0 ∨ (nI 0) = 1) ∧ lawPost (some (.int (nI 0))) m5)))) ∧
      (¬ (xs (x3 + (nI 3)).toNatClampNeg) = 0 →
        a_Spec G sX7_apart [.ref 36, .int (xs (x3 + (nI 1)).toNatClampNeg), .int (xs (x3 + (nI 2)).toNatClampNeg), .int (nI 1)] m4 (fun r6 m6 => ∃ v6 : Int32, r6 = some (.int v6) ∧
        ((v4 = v6 →
          a_LR G L xs 950 [(0, .ref 99), (1, .ref 0), (2, .ref 36), (3, .int x3)] [] m6) ∧
        (¬ v4 = v6 →
          ((nI 0) = 0 ∨ (nI 0) = 1) ∧ lawPost (some (.int (nI 0))) m6))))))))) :
    a_LR G L xs 262 [(0, .ref 99), (1, .ref 0), (2, .ref 36), (3, .int x3)] [] μ := a_runL (pg := pLs_262) [(18, [0, 1, 2, 3]), (156, [0, 1, 2, 3]), (209, [0, 1, 2, 3]), (262, [0, 1, 2, 3]), (321, [0, 1, 2, 3]), (344, [0, 1, 2, 3]), (367, [0, 1, 2, 3]), (400, [0, 1, 2, 3]), (423, [0, 1, 2, 3]), (472, [0, 1, 2, 3]), (505, [0, 1, 2, 3]), (518, [0, 1, 2, 3]), (551, [0, 1, 2, 3]), (584, [0, 1, 2, 3]), (607, [0, 1, 2, 3]), (630, [0, 1, 2, 3]), (663, [0, 1, 2, 3]), (696, [0, 1, 2, 3]), (719, [0, 1, 2, 3]), (742, [0, 1, 2, 3]), (756, [0, 1, 2, 3]), (779, [0, 1, 2, 3]), (792, [0, 1, 2, 3]), (825, [0, 1, 2, 3]), (838, [0, 1, 2, 3]), (871, [0, 1, 2, 3]), (904, [0, 1, 2, 3]), (927, [0, 1, 2, 3]), (950, [0, 1, 2, 3]), (956, [])] 46 pLs_262_ok rfl h
def pLs_321 : aPg := [(321, .aload_n 1, 1), (322, .aload_n 0, 1), (323, .iload_n 3, 1), (324, .iconst 1, 1), (325, .iadd, 1), (326, .iaload, 1), (327, .invokevirtual 27, 3), (330, .aload_n 2, 1), (331, .aload_n 0, 1), (332, .iload_n 3, 1), (333, .iconst 1, 1), (334, .iadd, 1), (335, .iaload, 1), (336, .invokevirtual 31, 3), (339, .if_icmp .eq 611, 3), (342, .iconst 0, 1), (343, .ireturn, 1)]
set_option maxRecDepth 100000 in
theorem pLs_321_ok : (pLs_321.all fun q => decide (decode cL_law q.1 = .ok (q.2.1, q.2.2))) = true := by decide +kernel
set_option maxRecDepth 100000 in
set_option maxHeartbeats 4000000 in
theorem wl_321 {G : aG} {μ : aMem} {L : Nat} {xs : Nat → Int32} (x3 : Int32) (h :
    vp_in (x3 + (nI 1)) L ∧
    a_Spec G sX6_lay [.ref 0, .int (xs (x3 + (nI 1)).toNatClampNeg)] μ (fun r1 m1 => ∃ v1 : Int32, r1 = some (.int v1) ∧
    vp_in (x3 + (nI 1)) L ∧
    a_Spec G sX7_lay [.ref 36, .int (xs (x3 + (nI 1)).toNatClampNeg)] m1 (fun r2 m2 => ∃ v2 : Int32, r2 = some (.int v2) ∧
    ((v1 = v2 →
      a_LR G L xs 950 [(0, .ref 99), (1, .ref 0), (2, .ref 36), (3, .int x3)] [] m2) ∧
    (¬ v1 = v2 →
      ((nI 0) = 0 ∨ (nI 0) = 1) ∧ lawPost (some (.int (nI 0))) m2))))) :
    a_LR G L xs 321 [(0, .ref 99), (1, .ref 0), (2, .ref 36), (3, .int x3)] [] μ := a_runL (pg := pLs_321) [(18, [0, 1, 2, 3]), (156, [0, 1, 2, 3]), (209, [0, 1, 2, 3]), (262, [0, 1, 2, 3]), (321, [0, 1, 2, 3]), (344, [0, 1, 2, 3]), (367, [0, 1, 2, 3]), (400, [0, 1, 2, 3]), (423, [0, 1, 2, 3]), (472, [0, 1, 2, 3]), (505, [0, 1, 2, 3]), (518, [0, 1, 2, 3]), (551, [0, 1, 2, 3]), (584, [0, 1, 2, 3]), (607, [0, 1, 2, 3]), (630, [0, 1, 2, 3]), (663, [0, 1, 2, 3]), (696, [0, 1, 2, 3]), (719, [0, 1, 2, 3]), (742, [0, 1, 2, 3]), (756, [0, 1, 2, 3]), (779, [0, 1, 2, 3]), (792, [0, 1, 2, 3]), (825, [0, 1, 2, 3]), (838, [0, 1, 2, 3]), (871, [0, 1, 2, 3]), (904, [0, 1, 2, 3]), (927, [0, 1, 2, 3]), (950, [0, 1, 2, 3]), (956, [])] 20 pLs_321_ok rfl h
def pLs_344 : aPg := [(344, .aload_n 1, 1), (345, .aload_n 0, 1), (346, .iload_n 3, 1), (347, .iconst 1, 1), (348, .iadd, 1), (349, .iaload, 1), (350, .invokevirtual 32, 3), (353, .aload_n 2, 1), (354, .aload_n 0, 1), (355, .iload_n 3, 1), (356, .iconst 1, 1), (357, .iadd, 1), (358, .iaload, 1), (359, .invokevirtual 35, 3), (362, .if_icmp .eq 588, 3), (365, .iconst 0, 1), (366, .ireturn, 1)]
set_option maxRecDepth 100000 in
theorem pLs_344_ok : (pLs_344.all fun q => decide (decode cL_law q.1 = .ok (q.2.1, q.2.2))) = true := by decide +kernel
set_option maxRecDepth 100000 in
set_option maxHeartbeats 4000000 in
theorem wl_344 {G : aG} {μ : aMem} {L : Nat} {xs : Nat → Int32} (x3 : Int32) (h :
    vp_in (x3 + (nI 1)) L ∧
    a_Spec G sX6_lift [.ref 0, .int (xs (x3 + (nI 1)).toNatClampNeg)] μ (fun r1 m1 => ∃ v1 : Int32, r1 = some (.int v1) ∧
    vp_in (x3 + (nI 1)) L ∧
    a_Spec G sX7_lift [.ref 36, .int (xs (x3 + (nI 1)).toNatClampNeg)] m1 (fun r2 m2 => ∃ v2 : Int32, r2 = some (.int v2) ∧
    ((v1 = v2 →
      a_LR G L xs 950 [(0, .ref 99), (1, .ref 0), (2, .ref 36), (3, .int x3)] [] m2) ∧
    (¬ v1 = v2 →
      ((nI 0) = 0 ∨ (nI 0) = 1) ∧ lawPost (some (.int (nI 0))) m2))))) :
    a_LR G L xs 344 [(0, .ref 99), (1, .ref 0), (2, .ref 36), (3, .int x3)] [] μ := a_runL (pg := pLs_344) [(18, [0, 1, 2, 3]), (156, [0, 1, 2, 3]), (209, [0, 1, 2, 3]), (262, [0, 1, 2, 3]), (321, [0, 1, 2, 3]), (344, [0, 1, 2, 3]), (367, [0, 1, 2, 3]), (400, [0, 1, 2, 3]), (423, [0, 1, 2, 3]), (472, [0, 1, 2, 3]), (505, [0, 1, 2, 3]), (518, [0, 1, 2, 3]), (551, [0, 1, 2, 3]), (584, [0, 1, 2, 3]), (607, [0, 1, 2, 3]), (630, [0, 1, 2, 3]), (663, [0, 1, 2, 3]), (696, [0, 1, 2, 3]), (719, [0, 1, 2, 3]), (742, [0, 1, 2, 3]), (756, [0, 1, 2, 3]), (779, [0, 1, 2, 3]), (792, [0, 1, 2, 3]), (825, [0, 1, 2, 3]), (838, [0, 1, 2, 3]), (871, [0, 1, 2, 3]), (904, [0, 1, 2, 3]), (927, [0, 1, 2, 3]), (950, [0, 1, 2, 3]), (956, [])] 20 pLs_344_ok rfl h
def pLs_367 : aPg := [(367, .aload_n 1, 1), (368, .aload_n 0, 1), (369, .iload_n 3, 1), (370, .iconst 1, 1), (371, .iadd, 1), (372, .iaload, 1), (373, .aload_n 0, 1), (374, .iload_n 3, 1), (375, .iconst 2, 1), (376, .iadd, 1), (377, .iaload, 1), (378, .invokevirtual 36, 3), (381, .aload_n 2, 1), (382, .aload_n 0, 1), (383, .iload_n 3, 1), (384, .iconst 1, 1), (385, .iadd, 1), (386, .iaload, 1), (387, .aload_n 0, 1), (388, .iload_n 3, 1), (389, .iconst 2, 1), (390, .iadd, 1), (391, .iaload, 1), (392, .invokevirtual 40, 3), (395, .if_icmp .eq 555, 3), (398, .iconst 0, 1), (399, .ireturn, 1)]
set_option maxRecDepth 100000 in
theorem pLs_367_ok : (pLs_367.all fun q => decide (decode cL_law q.1 = .ok (q.2.1, q.2.2))) = true := by decide +kernel
set_option maxRecDepth 100000 in
set_option maxHeartbeats 4000000 in
theorem wl_367 {G : aG} {μ : aMem} {L : Nat} {xs : Nat → Int32} (x3 : Int32) (h :
    vp_in (x3 + (nI 1)) L ∧
    vp_in (x3 + (nI 2)) L ∧
    a_Spec G sX6_way [.ref 0, .int (xs (x3 + (nI 1)).toNatClampNeg), .int (xs (x3 + (nI 2)).toNatClampNeg)] μ (fun r1 m1 => ∃ v1 : Int32, r1 = some (.int v1) ∧
    vp_in (x3 + (nI 1)) L ∧
    vp_in (x3 + (nI 2)) L ∧
    a_Spec G sX7_way [.ref 36, .int (xs (x3 + (nI 1)).toNatClampNeg), .int (xs (x3 + (nI 2)).toNatClampNeg)] m1 (fun r2 m2 => ∃ v2 : Int32, r2 = some (.int v2) ∧
    ((v1 = v2 →
      a_LR G L xs 950 [(0, .ref 99), (1, .ref 0), (2, .ref 36), (3, .int x3)] [] m2) ∧
    (¬ v1 = v2 →
      ((nI 0) = 0 ∨ (nI 0) = 1) ∧ lawPost (some (.int (nI 0))) m2))))) :
    a_LR G L xs 367 [(0, .ref 99), (1, .ref 0), (2, .ref 36), (3, .int x3)] [] μ := a_runL (pg := pLs_367) [(18, [0, 1, 2, 3]), (156, [0, 1, 2, 3]), (209, [0, 1, 2, 3]), (262, [0, 1, 2, 3]), (321, [0, 1, 2, 3]), (344, [0, 1, 2, 3]), (367, [0, 1, 2, 3]), (400, [0, 1, 2, 3]), (423, [0, 1, 2, 3]), (472, [0, 1, 2, 3]), (505, [0, 1, 2, 3]), (518, [0, 1, 2, 3]), (551, [0, 1, 2, 3]), (584, [0, 1, 2, 3]), (607, [0, 1, 2, 3]), (630, [0, 1, 2, 3]), (663, [0, 1, 2, 3]), (696, [0, 1, 2, 3]), (719, [0, 1, 2, 3]), (742, [0, 1, 2, 3]), (756, [0, 1, 2, 3]), (779, [0, 1, 2, 3]), (792, [0, 1, 2, 3]), (825, [0, 1, 2, 3]), (838, [0, 1, 2, 3]), (871, [0, 1, 2, 3]), (904, [0, 1, 2, 3]), (927, [0, 1, 2, 3]), (950, [0, 1, 2, 3]), (956, [])] 30 pLs_367_ok rfl h
def pLs_400 : aPg := [(400, .aload_n 1, 1), (401, .aload_n 0, 1), (402, .iload_n 3, 1), (403, .iconst 1, 1), (404, .iadd, 1), (405, .iaload, 1), (406, .invokevirtual 41, 3), (409, .aload_n 2, 1), (410, .aload_n 0, 1), (411, .iload_n 3, 1), (412, .iconst 1, 1), (413, .iadd, 1), (414, .iaload, 1), (415, .invokevirtual 44, 3), (418, .if_icmp .eq 532, 3), (421, .iconst 0, 1), (422, .ireturn, 1)]
set_option maxRecDepth 100000 in
theorem pLs_400_ok : (pLs_400.all fun q => decide (decode cL_law q.1 = .ok (q.2.1, q.2.2))) = true := by decide +kernel
set_option maxRecDepth 100000 in
set_option maxHeartbeats 4000000 in
theorem wl_400 {G : aG} {μ : aMem} {L : Nat} {xs : Nat → Int32} (x3 : Int32) (h :
    vp_in (x3 + (nI 1)) L ∧
    a_Spec G sX6_length [.ref 0, .int (xs (x3 + (nI 1)).toNatClampNeg)] μ (fun r1 m1 => ∃ v1 : Int32, r1 = some (.int v1) ∧
    vp_in (x3 + (nI 1)) L ∧
    a_Spec G sX7_length [.ref 36, .int (xs (x3 + (nI 1)).toNatClampNeg)] m1 (fun r2 m2 => ∃ v2 : Int32, r2 = some (.int v2) ∧
    ((v1 = v2 →
      a_LR G L xs 950 [(0, .ref 99), (1, .ref 0), (2, .ref 36), (3, .int x3)] [] m2) ∧
    (¬ v1 = v2 →
      ((nI 0) = 0 ∨ (nI 0) = 1) ∧ lawPost (some (.int (nI 0))) m2))))) :
    a_LR G L xs 400 [(0, .ref 99), (1, .ref 0), (2, .ref 36), (3, .int x3)] [] μ := a_runL (pg := pLs_400) [(18, [0, 1, 2, 3]), (156, [0, 1, 2, 3]), (209, [0, 1, 2, 3]), (262, [0, 1, 2, 3]), (321, [0, 1, 2, 3]), (344, [0, 1, 2, 3]), (367, [0, 1, 2, 3]), (400, [0, 1, 2, 3]), (423, [0, 1, 2, 3]), (472, [0, 1, 2, 3]), (505, [0, 1, 2, 3]), (518, [0, 1, 2, 3]), (551, [0, 1, 2, 3]), (584, [0, 1, 2, 3]), (607, [0, 1, 2, 3]), (630, [0, 1, 2, 3]), (663, [0, 1, 2, 3]), (696, [0, 1, 2, 3]), (719, [0, 1, 2, 3]), (742, [0, 1, 2, 3]), (756, [0, 1, 2, 3]), (779, [0, 1, 2, 3]), (792, [0, 1, 2, 3]), (825, [0, 1, 2, 3]), (838, [0, 1, 2, 3]), (871, [0, 1, 2, 3]), (904, [0, 1, 2, 3]), (927, [0, 1, 2, 3]), (950, [0, 1, 2, 3]), (956, [])] 20 pLs_400_ok rfl h
def pLs_423 : aPg := [(423, .aload_n 1, 1), (424, .aload_n 0, 1), (425, .iload_n 3, 1), (426, .iconst 1, 1), (427, .iadd, 1), (428, .iaload, 1), (429, .aload_n 0, 1), (430, .iload_n 3, 1), (431, .iconst 2, 1), (432, .iadd, 1), (433, .iaload, 1), (434, .ifCond .eq 7, 3), (437, .iconst 1, 1), (438, .goto 4, 3), (441, .iconst 0, 1), (442, .invokevirtual 45, 3), (445, .aload_n 2, 1), (446, .aload_n 0, 1), (447, .iload_n 3, 1), (448, .iconst 1, 1), (449, .iadd, 1), (450, .iaload, 1), (451, .aload_n 0, 1), (452, .iload_n 3, 1), (453, .iconst 2, 1), (454, .iadd, 1), (455, .iaload, 1), (456, .ifCond .eq 7, 3), (459, .iconst 1, 1), (460, .goto 4, 3), (463, .iconst 0, 1), (464, .invokevirtual 49, 3), (467, .if_icmp .eq 483, 3), (470, .iconst 0, 1), (471, .ireturn, 1)]
set_option maxRecDepth 100000 in
theorem pLs_423_ok : (pLs_423.all fun q => decide (decode cL_law q.1 = .ok (q.2.1, q.2.2))) = true := by decide +kernel
set_option maxRecDepth 100000 in
set_option maxHeartbeats 4000000 in
theorem wl_423 {G : aG} {μ : aMem} {L : Nat} {xs : Nat → Int32} (x3 : Int32) (h :
    vp_in (x3 + (nI 1)) L ∧
    vp_in (x3 + (nI 2)) L ∧
    (((xs (x3 + (nI 2)).toNatClampNeg) = 0 →
      a_Spec G sX6_left [.ref 0, .int (xs (x3 + (nI 1)).toNatClampNeg), .int (nI 0)] μ (fun r1 m1 => ∃ v1 : Int32, r1 = some (.int v1) ∧
      vp_in (x3 + (nI 1)) L ∧
      vp_in (x3 + (nI 2)) L ∧
      (((xs (x3 + (nI 2)).toNatClampNeg) = 0 →
        a_Spec G sX7_left [.ref 36, .int (xs (x3 + (nI 1)).toNatClampNeg), .int (nI 0)] m1 (fun r2 m2 => ∃ v2 : Int32, r2 = some (.int v2) ∧
        ((v1 = v2 →
          a_LR G L xs 950 [(0, .ref 99), (1, .ref 0), (2, .ref 36), (3, .int x3)] [] m2) ∧
        (¬ v1 = v2 →
          ((nI 0) = 0 ∨ (nI 0) = 1) ∧ lawPost (some (.int (nI 0))) m2)))) ∧
      (¬ (xs (x3 + (nI 2)).toNatClampNeg) = 0 →
        a_Spec G sX7_left [.ref 36, .int (xs (x3 + (nI 1)).toNatClampNeg), .int (nI 1)] m1 (fun r3 m3 => ∃ v3 : Int32, r3 = some (.int v3) ∧
        ((v1 = v3 →
          a_LR G L xs 950 [(0, .ref 99), (1, .ref 0), (2, .ref 36), (3, .int x3)] [] m3) ∧
        (¬ v1 = v3 →
          ((nI 0) = 0 ∨ (nI 0) = 1) ∧ lawPost (some (.int (nI 0))) m3))))))) ∧
    (¬ (xs (x3 + (nI 2)).toNatClampNeg) = 0 →
      a_Spec G sX6_left [.ref 0, .int (xs (x3 + (nI 1)).toNatClampNeg), .int (nI 1)] μ (fun r4 m4 => ∃ v4 : Int32, r4 = some (.int v4) ∧
      vp_in (x3 + (nI 1)) L ∧
      vp_in (x3 + (nI 2)) L ∧
      (((xs (x3 + (nI 2)).toNatClampNeg) = 0 →
        a_Spec G sX7_left [.ref 36, .int (xs (x3 + (nI 1)).toNatClampNeg), .int (nI 0)] m4 (fun r5 m5 => ∃ v5 : Int32, r5 = some (.int v5) ∧
        ((v4 = v5 →
          a_LR G L xs 950 [(0, .ref 99), (1, .ref 0), (2, .ref 36), (3, .int x3)] [] m5) ∧
        (¬ v4 = v5 →
          ((nI 0) = 0 ∨ (nI 0) = 1) ∧ lawPost (some (.int (nI 0))) m5)))) ∧
      (¬ (xs (x3 + (nI 2)).toNatClampNeg) = 0 →
        a_Spec G sX7_left [.ref 36, .int (xs (x3 + (nI 1)).toNatClampNeg), .int (nI 1)] m4 (fun r6 m6 => ∃ v6 : Int32, r6 = some (.int v6) ∧
        ((v4 = v6 →
          a_LR G L xs 950 [(0, .ref 99), (1, .ref 0), (2, .ref 36), (3, .int x3)] [] m6) ∧
        (¬ v4 = v6 →
          ((nI 0) = 0 ∨ (nI 0) = 1) ∧ lawPost (some (.int (nI 0))) m6))))))))) :
    a_LR G L xs 423 [(0, .ref 99), (1, .ref 0), (2, .ref 36), (3, .int x3)] [] μ := a_runL (pg := pLs_423) [(18, [0, 1, 2, 3]), (156, [0, 1, 2, 3]), (209, [0, 1, 2, 3]), (262, [0, 1, 2, 3]), (321, [0, 1, 2, 3]), (344, [0, 1, 2, 3]), (367, [0, 1, 2, 3]), (400, [0, 1, 2, 3]), (423, [0, 1, 2, 3]), (472, [0, 1, 2, 3]), (505, [0, 1, 2, 3]), (518, [0, 1, 2, 3]), (551, [0, 1, 2, 3]), (584, [0, 1, 2, 3]), (607, [0, 1, 2, 3]), (630, [0, 1, 2, 3]), (663, [0, 1, 2, 3]), (696, [0, 1, 2, 3]), (719, [0, 1, 2, 3]), (742, [0, 1, 2, 3]), (756, [0, 1, 2, 3]), (779, [0, 1, 2, 3]), (792, [0, 1, 2, 3]), (825, [0, 1, 2, 3]), (838, [0, 1, 2, 3]), (871, [0, 1, 2, 3]), (904, [0, 1, 2, 3]), (927, [0, 1, 2, 3]), (950, [0, 1, 2, 3]), (956, [])] 36 pLs_423_ok rfl h
def pLs_472 : aPg := [(472, .aload_n 1, 1), (473, .aload_n 0, 1), (474, .iload_n 3, 1), (475, .iconst 1, 1), (476, .iadd, 1), (477, .iaload, 1), (478, .aload_n 0, 1), (479, .iload_n 3, 1), (480, .iconst 2, 1), (481, .iadd, 1), (482, .iaload, 1), (483, .invokevirtual 50, 3), (486, .aload_n 2, 1), (487, .aload_n 0, 1), (488, .iload_n 3, 1), (489, .iconst 1, 1), (490, .iadd, 1), (491, .iaload, 1), (492, .aload_n 0, 1), (493, .iload_n 3, 1), (494, .iconst 2, 1), (495, .iadd, 1), (496, .iaload, 1), (497, .invokevirtual 53, 3), (500, .if_icmp .eq 450, 3), (503, .iconst 0, 1), (504, .ireturn, 1)]
set_option maxRecDepth 100000 in
theorem pLs_472_ok : (pLs_472.all fun q => decide (decode cL_law q.1 = .ok (q.2.1, q.2.2))) = true := by decide +kernel
set_option maxRecDepth 100000 in
set_option maxHeartbeats 4000000 in
theorem wl_472 {G : aG} {μ : aMem} {L : Nat} {xs : Nat → Int32} (x3 : Int32) (h :
    vp_in (x3 + (nI 1)) L ∧
    vp_in (x3 + (nI 2)) L ∧
    a_Spec G sX6_loss [.ref 0, .int (xs (x3 + (nI 1)).toNatClampNeg), .int (xs (x3 + (nI 2)).toNatClampNeg)] μ (fun r1 m1 => ∃ v1 : Int32, r1 = some (.int v1) ∧
    vp_in (x3 + (nI 1)) L ∧
    vp_in (x3 + (nI 2)) L ∧
    a_Spec G sX7_loss [.ref 36, .int (xs (x3 + (nI 1)).toNatClampNeg), .int (xs (x3 + (nI 2)).toNatClampNeg)] m1 (fun r2 m2 => ∃ v2 : Int32, r2 = some (.int v2) ∧
    ((v1 = v2 →
      a_LR G L xs 950 [(0, .ref 99), (1, .ref 0), (2, .ref 36), (3, .int x3)] [] m2) ∧
    (¬ v1 = v2 →
      ((nI 0) = 0 ∨ (nI 0) = 1) ∧ lawPost (some (.int (nI 0))) m2))))) :
    a_LR G L xs 472 [(0, .ref 99), (1, .ref 0), (2, .ref 36), (3, .int x3)] [] μ := a_runL (pg := pLs_472) [(18, [0, 1, 2, 3]), (156, [0, 1, 2, 3]), (209, [0, 1, 2, 3]), (262, [0, 1, 2, 3]), (321, [0, 1, 2, 3]), (344, [0, 1, 2, 3]), (367, [0, 1, 2, 3]), (400, [0, 1, 2, 3]), (423, [0, 1, 2, 3]), (472, [0, 1, 2, 3]), (505, [0, 1, 2, 3]), (518, [0, 1, 2, 3]), (551, [0, 1, 2, 3]), (584, [0, 1, 2, 3]), (607, [0, 1, 2, 3]), (630, [0, 1, 2, 3]), (663, [0, 1, 2, 3]), (696, [0, 1, 2, 3]), (719, [0, 1, 2, 3]), (742, [0, 1, 2, 3]), (756, [0, 1, 2, 3]), (779, [0, 1, 2, 3]), (792, [0, 1, 2, 3]), (825, [0, 1, 2, 3]), (838, [0, 1, 2, 3]), (871, [0, 1, 2, 3]), (904, [0, 1, 2, 3]), (927, [0, 1, 2, 3]), (950, [0, 1, 2, 3]), (956, [])] 30 pLs_472_ok rfl h
def pLs_505 : aPg := [(505, .aload_n 1, 1), (506, .invokevirtual 54, 3), (509, .aload_n 2, 1), (510, .invokevirtual 58, 3), (513, .if_icmp .eq 437, 3), (516, .iconst 0, 1), (517, .ireturn, 1)]
set_option maxRecDepth 100000 in
theorem pLs_505_ok : (pLs_505.all fun q => decide (decode cL_law q.1 = .ok (q.2.1, q.2.2))) = true := by decide +kernel
set_option maxRecDepth 100000 in
set_option maxHeartbeats 4000000 in
theorem wl_505 {G : aG} {μ : aMem} {L : Nat} {xs : Nat → Int32} (x3 : Int32) (h :
    a_Spec G sX6_clashes [.ref 0] μ (fun r1 m1 => ∃ v1 : Int32, r1 = some (.int v1) ∧
    a_Spec G sX7_clashes [.ref 36] m1 (fun r2 m2 => ∃ v2 : Int32, r2 = some (.int v2) ∧
    ((v1 = v2 →
      a_LR G L xs 950 [(0, .ref 99), (1, .ref 0), (2, .ref 36), (3, .int x3)] [] m2) ∧
    (¬ v1 = v2 →
      ((nI 0) = 0 ∨ (nI 0) = 1) ∧ lawPost (some (.int (nI 0))) m2))))) :
    a_LR G L xs 505 [(0, .ref 99), (1, .ref 0), (2, .ref 36), (3, .int x3)] [] μ := a_runL (pg := pLs_505) [(18, [0, 1, 2, 3]), (156, [0, 1, 2, 3]), (209, [0, 1, 2, 3]), (262, [0, 1, 2, 3]), (321, [0, 1, 2, 3]), (344, [0, 1, 2, 3]), (367, [0, 1, 2, 3]), (400, [0, 1, 2, 3]), (423, [0, 1, 2, 3]), (472, [0, 1, 2, 3]), (505, [0, 1, 2, 3]), (518, [0, 1, 2, 3]), (551, [0, 1, 2, 3]), (584, [0, 1, 2, 3]), (607, [0, 1, 2, 3]), (630, [0, 1, 2, 3]), (663, [0, 1, 2, 3]), (696, [0, 1, 2, 3]), (719, [0, 1, 2, 3]), (742, [0, 1, 2, 3]), (756, [0, 1, 2, 3]), (779, [0, 1, 2, 3]), (792, [0, 1, 2, 3]), (825, [0, 1, 2, 3]), (838, [0, 1, 2, 3]), (871, [0, 1, 2, 3]), (904, [0, 1, 2, 3]), (927, [0, 1, 2, 3]), (950, [0, 1, 2, 3]), (956, [])] 10 pLs_505_ok rfl h
def pLs_518 : aPg := [(518, .aload_n 1, 1), (519, .aload_n 0, 1), (520, .iload_n 3, 1), (521, .iconst 1, 1), (522, .iadd, 1), (523, .iaload, 1), (524, .aload_n 0, 1), (525, .iload_n 3, 1), (526, .iconst 2, 1), (527, .iadd, 1), (528, .iaload, 1), (529, .invokevirtual 59, 3), (532, .aload_n 2, 1), (533, .aload_n 0, 1), (534, .iload_n 3, 1), (535, .iconst 1, 1), (536, .iadd, 1), (537, .iaload, 1), (538, .aload_n 0, 1), (539, .iload_n 3, 1), (540, .iconst 2, 1), (541, .iadd, 1), (542, .iaload, 1), (543, .invokevirtual 62, 3), (546, .if_icmp .eq 404, 3), (549, .iconst 0, 1), (550, .ireturn, 1)]
set_option maxRecDepth 100000 in
theorem pLs_518_ok : (pLs_518.all fun q => decide (decode cL_law q.1 = .ok (q.2.1, q.2.2))) = true := by decide +kernel
set_option maxRecDepth 100000 in
set_option maxHeartbeats 4000000 in
theorem wl_518 {G : aG} {μ : aMem} {L : Nat} {xs : Nat → Int32} (x3 : Int32) (h :
    vp_in (x3 + (nI 1)) L ∧
    vp_in (x3 + (nI 2)) L ∧
    a_Spec G sX6_far [.ref 0, .int (xs (x3 + (nI 1)).toNatClampNeg), .int (xs (x3 + (nI 2)).toNatClampNeg)] μ (fun r1 m1 => ∃ v1 : Int32, r1 = some (.int v1) ∧
    vp_in (x3 + (nI 1)) L ∧
    vp_in (x3 + (nI 2)) L ∧
    a_Spec G sX7_far [.ref 36, .int (xs (x3 + (nI 1)).toNatClampNeg), .int (xs (x3 + (nI 2)).toNatClampNeg)] m1 (fun r2 m2 => ∃ v2 : Int32, r2 = some (.int v2) ∧
    ((v1 = v2 →
      a_LR G L xs 950 [(0, .ref 99), (1, .ref 0), (2, .ref 36), (3, .int x3)] [] m2) ∧
    (¬ v1 = v2 →
      ((nI 0) = 0 ∨ (nI 0) = 1) ∧ lawPost (some (.int (nI 0))) m2))))) :
    a_LR G L xs 518 [(0, .ref 99), (1, .ref 0), (2, .ref 36), (3, .int x3)] [] μ := a_runL (pg := pLs_518) [(18, [0, 1, 2, 3]), (156, [0, 1, 2, 3]), (209, [0, 1, 2, 3]), (262, [0, 1, 2, 3]), (321, [0, 1, 2, 3]), (344, [0, 1, 2, 3]), (367, [0, 1, 2, 3]), (400, [0, 1, 2, 3]), (423, [0, 1, 2, 3]), (472, [0, 1, 2, 3]), (505, [0, 1, 2, 3]), (518, [0, 1, 2, 3]), (551, [0, 1, 2, 3]), (584, [0, 1, 2, 3]), (607, [0, 1, 2, 3]), (630, [0, 1, 2, 3]), (663, [0, 1, 2, 3]), (696, [0, 1, 2, 3]), (719, [0, 1, 2, 3]), (742, [0, 1, 2, 3]), (756, [0, 1, 2, 3]), (779, [0, 1, 2, 3]), (792, [0, 1, 2, 3]), (825, [0, 1, 2, 3]), (838, [0, 1, 2, 3]), (871, [0, 1, 2, 3]), (904, [0, 1, 2, 3]), (927, [0, 1, 2, 3]), (950, [0, 1, 2, 3]), (956, [])] 30 pLs_518_ok rfl h
def pLs_551 : aPg := [(551, .aload_n 1, 1), (552, .aload_n 0, 1), (553, .iload_n 3, 1), (554, .iconst 1, 1), (555, .iadd, 1), (556, .iaload, 1), (557, .aload_n 0, 1), (558, .iload_n 3, 1), (559, .iconst 2, 1), (560, .iadd, 1), (561, .iaload, 1), (562, .invokevirtual 63, 3), (565, .aload_n 2, 1), (566, .aload_n 0, 1), (567, .iload_n 3, 1), (568, .iconst 1, 1), (569, .iadd, 1), (570, .iaload, 1), (571, .aload_n 0, 1), (572, .iload_n 3, 1), (573, .iconst 2, 1), (574, .iadd, 1), (575, .iaload, 1), (576, .invokevirtual 66, 3), (579, .if_icmp .eq 371, 3), (582, .iconst 0, 1), (583, .ireturn, 1)]
set_option maxRecDepth 100000 in
theorem pLs_551_ok : (pLs_551.all fun q => decide (decode cL_law q.1 = .ok (q.2.1, q.2.2))) = true := by decide +kernel
set_option maxRecDepth 100000 in
set_option maxHeartbeats 4000000 in
theorem wl_551 {G : aG} {μ : aMem} {L : Nat} {xs : Nat → Int32} (x3 : Int32) (h :
    vp_in (x3 + (nI 1)) L ∧
    vp_in (x3 + (nI 2)) L ∧
    a_Spec G sX6_two [.ref 0, .int (xs (x3 + (nI 1)).toNatClampNeg), .int (xs (x3 + (nI 2)).toNatClampNeg)] μ (fun r1 m1 => ∃ v1 : Int32, r1 = some (.int v1) ∧
    vp_in (x3 + (nI 1)) L ∧
    vp_in (x3 + (nI 2)) L ∧
    a_Spec G sX7_two [.ref 36, .int (xs (x3 + (nI 1)).toNatClampNeg), .int (xs (x3 + (nI 2)).toNatClampNeg)] m1 (fun r2 m2 => ∃ v2 : Int32, r2 = some (.int v2) ∧
    ((v1 = v2 →
      a_LR G L xs 950 [(0, .ref 99), (1, .ref 0), (2, .ref 36), (3, .int x3)] [] m2) ∧
    (¬ v1 = v2 →
      ((nI 0) = 0 ∨ (nI 0) = 1) ∧ lawPost (some (.int (nI 0))) m2))))) :
    a_LR G L xs 551 [(0, .ref 99), (1, .ref 0), (2, .ref 36), (3, .int x3)] [] μ := a_runL (pg := pLs_551) [(18, [0, 1, 2, 3]), (156, [0, 1, 2, 3]), (209, [0, 1, 2, 3]), (262, [0, 1, 2, 3]), (321, [0, 1, 2, 3]), (344, [0, 1, 2, 3]), (367, [0, 1, 2, 3]), (400, [0, 1, 2, 3]), (423, [0, 1, 2, 3]), (472, [0, 1, 2, 3]), (505, [0, 1, 2, 3]), (518, [0, 1, 2, 3]), (551, [0, 1, 2, 3]), (584, [0, 1, 2, 3]), (607, [0, 1, 2, 3]), (630, [0, 1, 2, 3]), (663, [0, 1, 2, 3]), (696, [0, 1, 2, 3]), (719, [0, 1, 2, 3]), (742, [0, 1, 2, 3]), (756, [0, 1, 2, 3]), (779, [0, 1, 2, 3]), (792, [0, 1, 2, 3]), (825, [0, 1, 2, 3]), (838, [0, 1, 2, 3]), (871, [0, 1, 2, 3]), (904, [0, 1, 2, 3]), (927, [0, 1, 2, 3]), (950, [0, 1, 2, 3]), (956, [])] 30 pLs_551_ok rfl h
def pLs_584 : aPg := [(584, .aload_n 1, 1), (585, .aload_n 0, 1), (586, .iload_n 3, 1), (587, .iconst 1, 1), (588, .iadd, 1), (589, .iaload, 1), (590, .invokevirtual 67, 3), (593, .aload_n 2, 1), (594, .aload_n 0, 1), (595, .iload_n 3, 1), (596, .iconst 1, 1), (597, .iadd, 1), (598, .iaload, 1), (599, .invokevirtual 70, 3), (602, .if_icmp .eq 348, 3), (605, .iconst 0, 1), (606, .ireturn, 1)]
set_option maxRecDepth 100000 in
theorem pLs_584_ok : (pLs_584.all fun q => decide (decode cL_law q.1 = .ok (q.2.1, q.2.2))) = true := by decide +kernel
set_option maxRecDepth 100000 in
set_option maxHeartbeats 4000000 in
theorem wl_584 {G : aG} {μ : aMem} {L : Nat} {xs : Nat → Int32} (x3 : Int32) (h :
    vp_in (x3 + (nI 1)) L ∧
    a_Spec G sX6_net [.ref 0, .int (xs (x3 + (nI 1)).toNatClampNeg)] μ (fun r1 m1 => ∃ v1 : Int32, r1 = some (.int v1) ∧
    vp_in (x3 + (nI 1)) L ∧
    a_Spec G sX7_net [.ref 36, .int (xs (x3 + (nI 1)).toNatClampNeg)] m1 (fun r2 m2 => ∃ v2 : Int32, r2 = some (.int v2) ∧
    ((v1 = v2 →
      a_LR G L xs 950 [(0, .ref 99), (1, .ref 0), (2, .ref 36), (3, .int x3)] [] m2) ∧
    (¬ v1 = v2 →
      ((nI 0) = 0 ∨ (nI 0) = 1) ∧ lawPost (some (.int (nI 0))) m2))))) :
    a_LR G L xs 584 [(0, .ref 99), (1, .ref 0), (2, .ref 36), (3, .int x3)] [] μ := a_runL (pg := pLs_584) [(18, [0, 1, 2, 3]), (156, [0, 1, 2, 3]), (209, [0, 1, 2, 3]), (262, [0, 1, 2, 3]), (321, [0, 1, 2, 3]), (344, [0, 1, 2, 3]), (367, [0, 1, 2, 3]), (400, [0, 1, 2, 3]), (423, [0, 1, 2, 3]), (472, [0, 1, 2, 3]), (505, [0, 1, 2, 3]), (518, [0, 1, 2, 3]), (551, [0, 1, 2, 3]), (584, [0, 1, 2, 3]), (607, [0, 1, 2, 3]), (630, [0, 1, 2, 3]), (663, [0, 1, 2, 3]), (696, [0, 1, 2, 3]), (719, [0, 1, 2, 3]), (742, [0, 1, 2, 3]), (756, [0, 1, 2, 3]), (779, [0, 1, 2, 3]), (792, [0, 1, 2, 3]), (825, [0, 1, 2, 3]), (838, [0, 1, 2, 3]), (871, [0, 1, 2, 3]), (904, [0, 1, 2, 3]), (927, [0, 1, 2, 3]), (950, [0, 1, 2, 3]), (956, [])] 20 pLs_584_ok rfl h
def pLs_607 : aPg := [(607, .aload_n 1, 1), (608, .aload_n 0, 1), (609, .iload_n 3, 1), (610, .iconst 1, 1), (611, .iadd, 1), (612, .iaload, 1), (613, .invokevirtual 71, 3), (616, .aload_n 2, 1), (617, .aload_n 0, 1), (618, .iload_n 3, 1), (619, .iconst 1, 1), (620, .iadd, 1), (621, .iaload, 1), (622, .invokevirtual 74, 3), (625, .if_icmp .eq 325, 3), (628, .iconst 0, 1), (629, .ireturn, 1)]
set_option maxRecDepth 100000 in
theorem pLs_607_ok : (pLs_607.all fun q => decide (decode cL_law q.1 = .ok (q.2.1, q.2.2))) = true := by decide +kernel
set_option maxRecDepth 100000 in
set_option maxHeartbeats 4000000 in
theorem wl_607 {G : aG} {μ : aMem} {L : Nat} {xs : Nat → Int32} (x3 : Int32) (h :
    vp_in (x3 + (nI 1)) L ∧
    a_Spec G sX6_splice [.ref 0, .int (xs (x3 + (nI 1)).toNatClampNeg)] μ (fun r1 m1 => ∃ v1 : Int32, r1 = some (.int v1) ∧
    vp_in (x3 + (nI 1)) L ∧
    a_Spec G sX7_splice [.ref 36, .int (xs (x3 + (nI 1)).toNatClampNeg)] m1 (fun r2 m2 => ∃ v2 : Int32, r2 = some (.int v2) ∧
    ((v1 = v2 →
      a_LR G L xs 950 [(0, .ref 99), (1, .ref 0), (2, .ref 36), (3, .int x3)] [] m2) ∧
    (¬ v1 = v2 →
      ((nI 0) = 0 ∨ (nI 0) = 1) ∧ lawPost (some (.int (nI 0))) m2))))) :
    a_LR G L xs 607 [(0, .ref 99), (1, .ref 0), (2, .ref 36), (3, .int x3)] [] μ := a_runL (pg := pLs_607) [(18, [0, 1, 2, 3]), (156, [0, 1, 2, 3]), (209, [0, 1, 2, 3]), (262, [0, 1, 2, 3]), (321, [0, 1, 2, 3]), (344, [0, 1, 2, 3]), (367, [0, 1, 2, 3]), (400, [0, 1, 2, 3]), (423, [0, 1, 2, 3]), (472, [0, 1, 2, 3]), (505, [0, 1, 2, 3]), (518, [0, 1, 2, 3]), (551, [0, 1, 2, 3]), (584, [0, 1, 2, 3]), (607, [0, 1, 2, 3]), (630, [0, 1, 2, 3]), (663, [0, 1, 2, 3]), (696, [0, 1, 2, 3]), (719, [0, 1, 2, 3]), (742, [0, 1, 2, 3]), (756, [0, 1, 2, 3]), (779, [0, 1, 2, 3]), (792, [0, 1, 2, 3]), (825, [0, 1, 2, 3]), (838, [0, 1, 2, 3]), (871, [0, 1, 2, 3]), (904, [0, 1, 2, 3]), (927, [0, 1, 2, 3]), (950, [0, 1, 2, 3]), (956, [])] 20 pLs_607_ok rfl h
def pLs_630 : aPg := [(630, .aload_n 1, 1), (631, .aload_n 0, 1), (632, .iload_n 3, 1), (633, .iconst 1, 1), (634, .iadd, 1), (635, .iaload, 1), (636, .aload_n 0, 1), (637, .iload_n 3, 1), (638, .iconst 2, 1), (639, .iadd, 1), (640, .iaload, 1), (641, .invokevirtual 75, 3), (644, .aload_n 2, 1), (645, .aload_n 0, 1), (646, .iload_n 3, 1), (647, .iconst 1, 1), (648, .iadd, 1), (649, .iaload, 1), (650, .aload_n 0, 1), (651, .iload_n 3, 1), (652, .iconst 2, 1), (653, .iadd, 1), (654, .iaload, 1), (655, .invokevirtual 78, 3), (658, .if_icmp .eq 292, 3), (661, .iconst 0, 1), (662, .ireturn, 1)]
set_option maxRecDepth 100000 in
theorem pLs_630_ok : (pLs_630.all fun q => decide (decode cL_law q.1 = .ok (q.2.1, q.2.2))) = true := by decide +kernel
set_option maxRecDepth 100000 in
set_option maxHeartbeats 4000000 in
theorem wl_630 {G : aG} {μ : aMem} {L : Nat} {xs : Nat → Int32} (x3 : Int32) (h :
    vp_in (x3 + (nI 1)) L ∧
    vp_in (x3 + (nI 2)) L ∧
    a_Spec G sX6_option [.ref 0, .int (xs (x3 + (nI 1)).toNatClampNeg), .int (xs (x3 + (nI 2)).toNatClampNeg)] μ (fun r1 m1 => ∃ v1 : Int32, r1 = some (.int v1) ∧
    vp_in (x3 + (nI 1)) L ∧
    vp_in (x3 + (nI 2)) L ∧
    a_Spec G sX7_option [.ref 36, .int (xs (x3 + (nI 1)).toNatClampNeg), .int (xs (x3 + (nI 2)).toNatClampNeg)] m1 (fun r2 m2 => ∃ v2 : Int32, r2 = some (.int v2) ∧
    ((v1 = v2 →
      a_LR G L xs 950 [(0, .ref 99), (1, .ref 0), (2, .ref 36), (3, .int x3)] [] m2) ∧
    (¬ v1 = v2 →
      ((nI 0) = 0 ∨ (nI 0) = 1) ∧ lawPost (some (.int (nI 0))) m2))))) :
    a_LR G L xs 630 [(0, .ref 99), (1, .ref 0), (2, .ref 36), (3, .int x3)] [] μ := a_runL (pg := pLs_630) [(18, [0, 1, 2, 3]), (156, [0, 1, 2, 3]), (209, [0, 1, 2, 3]), (262, [0, 1, 2, 3]), (321, [0, 1, 2, 3]), (344, [0, 1, 2, 3]), (367, [0, 1, 2, 3]), (400, [0, 1, 2, 3]), (423, [0, 1, 2, 3]), (472, [0, 1, 2, 3]), (505, [0, 1, 2, 3]), (518, [0, 1, 2, 3]), (551, [0, 1, 2, 3]), (584, [0, 1, 2, 3]), (607, [0, 1, 2, 3]), (630, [0, 1, 2, 3]), (663, [0, 1, 2, 3]), (696, [0, 1, 2, 3]), (719, [0, 1, 2, 3]), (742, [0, 1, 2, 3]), (756, [0, 1, 2, 3]), (779, [0, 1, 2, 3]), (792, [0, 1, 2, 3]), (825, [0, 1, 2, 3]), (838, [0, 1, 2, 3]), (871, [0, 1, 2, 3]), (904, [0, 1, 2, 3]), (927, [0, 1, 2, 3]), (950, [0, 1, 2, 3]), (956, [])] 30 pLs_630_ok rfl h
def pLs_663 : aPg := [(663, .aload_n 1, 1), (664, .aload_n 0, 1), (665, .iload_n 3, 1), (666, .iconst 1, 1), (667, .iadd, 1), (668, .iaload, 1), (669, .aload_n 0, 1), (670, .iload_n 3, 1), (671, .iconst 2, 1), (672, .iadd, 1), (673, .iaload, 1), (674, .invokevirtual 79, 3), (677, .aload_n 2, 1), (678, .aload_n 0, 1), (679, .iload_n 3, 1), (680, .iconst 1, 1), (681, .iadd, 1), (682, .iaload, 1), (683, .aload_n 0, 1), (684, .iload_n 3, 1), (685, .iconst 2, 1), (686, .iadd, 1), (687, .iaload, 1), (688, .invokevirtual 82, 3), (691, .if_icmp .eq 259, 3), (694, .iconst 0, 1), (695, .ireturn, 1)]
set_option maxRecDepth 100000 in
theorem pLs_663_ok : (pLs_663.all fun q => decide (decode cL_law q.1 = .ok (q.2.1, q.2.2))) = true := by decide +kernel
set_option maxRecDepth 100000 in
set_option maxHeartbeats 4000000 in
theorem wl_663 {G : aG} {μ : aMem} {L : Nat} {xs : Nat → Int32} (x3 : Int32) (h :
    vp_in (x3 + (nI 1)) L ∧
    vp_in (x3 + (nI 2)) L ∧
    a_Spec G sX6_order [.ref 0, .int (xs (x3 + (nI 1)).toNatClampNeg), .int (xs (x3 + (nI 2)).toNatClampNeg)] μ (fun r1 m1 => ∃ v1 : Int32, r1 = some (.int v1) ∧
    vp_in (x3 + (nI 1)) L ∧
    vp_in (x3 + (nI 2)) L ∧
    a_Spec G sX7_order [.ref 36, .int (xs (x3 + (nI 1)).toNatClampNeg), .int (xs (x3 + (nI 2)).toNatClampNeg)] m1 (fun r2 m2 => ∃ v2 : Int32, r2 = some (.int v2) ∧
    ((v1 = v2 →
      a_LR G L xs 950 [(0, .ref 99), (1, .ref 0), (2, .ref 36), (3, .int x3)] [] m2) ∧
    (¬ v1 = v2 →
      ((nI 0) = 0 ∨ (nI 0) = 1) ∧ lawPost (some (.int (nI 0))) m2))))) :
    a_LR G L xs 663 [(0, .ref 99), (1, .ref 0), (2, .ref 36), (3, .int x3)] [] μ := a_runL (pg := pLs_663) [(18, [0, 1, 2, 3]), (156, [0, 1, 2, 3]), (209, [0, 1, 2, 3]), (262, [0, 1, 2, 3]), (321, [0, 1, 2, 3]), (344, [0, 1, 2, 3]), (367, [0, 1, 2, 3]), (400, [0, 1, 2, 3]), (423, [0, 1, 2, 3]), (472, [0, 1, 2, 3]), (505, [0, 1, 2, 3]), (518, [0, 1, 2, 3]), (551, [0, 1, 2, 3]), (584, [0, 1, 2, 3]), (607, [0, 1, 2, 3]), (630, [0, 1, 2, 3]), (663, [0, 1, 2, 3]), (696, [0, 1, 2, 3]), (719, [0, 1, 2, 3]), (742, [0, 1, 2, 3]), (756, [0, 1, 2, 3]), (779, [0, 1, 2, 3]), (792, [0, 1, 2, 3]), (825, [0, 1, 2, 3]), (838, [0, 1, 2, 3]), (871, [0, 1, 2, 3]), (904, [0, 1, 2, 3]), (927, [0, 1, 2, 3]), (950, [0, 1, 2, 3]), (956, [])] 30 pLs_663_ok rfl h
def pLs_696 : aPg := [(696, .aload_n 1, 1), (697, .aload_n 0, 1), (698, .iload_n 3, 1), (699, .iconst 1, 1), (700, .iadd, 1), (701, .iaload, 1), (702, .invokevirtual 83, 3), (705, .aload_n 2, 1), (706, .aload_n 0, 1), (707, .iload_n 3, 1), (708, .iconst 1, 1), (709, .iadd, 1), (710, .iaload, 1), (711, .invokevirtual 86, 3), (714, .if_icmp .eq 236, 3), (717, .iconst 0, 1), (718, .ireturn, 1)]
set_option maxRecDepth 100000 in
theorem pLs_696_ok : (pLs_696.all fun q => decide (decode cL_law q.1 = .ok (q.2.1, q.2.2))) = true := by decide +kernel
set_option maxRecDepth 100000 in
set_option maxHeartbeats 4000000 in
theorem wl_696 {G : aG} {μ : aMem} {L : Nat} {xs : Nat → Int32} (x3 : Int32) (h :
    vp_in (x3 + (nI 1)) L ∧
    a_Spec G sX6_setup [.ref 0, .int (xs (x3 + (nI 1)).toNatClampNeg)] μ (fun r1 m1 => ∃ v1 : Int32, r1 = some (.int v1) ∧
    vp_in (x3 + (nI 1)) L ∧
    a_Spec G sX7_setup [.ref 36, .int (xs (x3 + (nI 1)).toNatClampNeg)] m1 (fun r2 m2 => ∃ v2 : Int32, r2 = some (.int v2) ∧
    ((v1 = v2 →
      a_LR G L xs 950 [(0, .ref 99), (1, .ref 0), (2, .ref 36), (3, .int x3)] [] m2) ∧
    (¬ v1 = v2 →
      ((nI 0) = 0 ∨ (nI 0) = 1) ∧ lawPost (some (.int (nI 0))) m2))))) :
    a_LR G L xs 696 [(0, .ref 99), (1, .ref 0), (2, .ref 36), (3, .int x3)] [] μ := a_runL (pg := pLs_696) [(18, [0, 1, 2, 3]), (156, [0, 1, 2, 3]), (209, [0, 1, 2, 3]), (262, [0, 1, 2, 3]), (321, [0, 1, 2, 3]), (344, [0, 1, 2, 3]), (367, [0, 1, 2, 3]), (400, [0, 1, 2, 3]), (423, [0, 1, 2, 3]), (472, [0, 1, 2, 3]), (505, [0, 1, 2, 3]), (518, [0, 1, 2, 3]), (551, [0, 1, 2, 3]), (584, [0, 1, 2, 3]), (607, [0, 1, 2, 3]), (630, [0, 1, 2, 3]), (663, [0, 1, 2, 3]), (696, [0, 1, 2, 3]), (719, [0, 1, 2, 3]), (742, [0, 1, 2, 3]), (756, [0, 1, 2, 3]), (779, [0, 1, 2, 3]), (792, [0, 1, 2, 3]), (825, [0, 1, 2, 3]), (838, [0, 1, 2, 3]), (871, [0, 1, 2, 3]), (904, [0, 1, 2, 3]), (927, [0, 1, 2, 3]), (950, [0, 1, 2, 3]), (956, [])] 20 pLs_696_ok rfl h
def pLs_719 : aPg := [(719, .aload_n 1, 1), (720, .aload_n 0, 1), (721, .iload_n 3, 1), (722, .iconst 1, 1), (723, .iadd, 1), (724, .iaload, 1), (725, .invokevirtual 87, 3), (728, .aload_n 2, 1), (729, .aload_n 0, 1), (730, .iload_n 3, 1), (731, .iconst 1, 1), (732, .iadd, 1), (733, .iaload, 1), (734, .invokevirtual 90, 3), (737, .if_icmp .eq 213, 3), (740, .iconst 0, 1), (741, .ireturn, 1)]
set_option maxRecDepth 100000 in
theorem pLs_719_ok : (pLs_719.all fun q => decide (decode cL_law q.1 = .ok (q.2.1, q.2.2))) = true := by decide +kernel
set_option maxRecDepth 100000 in
set_option maxHeartbeats 4000000 in
theorem wl_719 {G : aG} {μ : aMem} {L : Nat} {xs : Nat → Int32} (x3 : Int32) (h :
    vp_in (x3 + (nI 1)) L ∧
    a_Spec G sX6_weight [.ref 0, .int (xs (x3 + (nI 1)).toNatClampNeg)] μ (fun r1 m1 => ∃ v1 : Int32, r1 = some (.int v1) ∧
    vp_in (x3 + (nI 1)) L ∧
    a_Spec G sX7_weight [.ref 36, .int (xs (x3 + (nI 1)).toNatClampNeg)] m1 (fun r2 m2 => ∃ v2 : Int32, r2 = some (.int v2) ∧
    ((v1 = v2 →
      a_LR G L xs 950 [(0, .ref 99), (1, .ref 0), (2, .ref 36), (3, .int x3)] [] m2) ∧
    (¬ v1 = v2 →
      ((nI 0) = 0 ∨ (nI 0) = 1) ∧ lawPost (some (.int (nI 0))) m2))))) :
    a_LR G L xs 719 [(0, .ref 99), (1, .ref 0), (2, .ref 36), (3, .int x3)] [] μ := a_runL (pg := pLs_719) [(18, [0, 1, 2, 3]), (156, [0, 1, 2, 3]), (209, [0, 1, 2, 3]), (262, [0, 1, 2, 3]), (321, [0, 1, 2, 3]), (344, [0, 1, 2, 3]), (367, [0, 1, 2, 3]), (400, [0, 1, 2, 3]), (423, [0, 1, 2, 3]), (472, [0, 1, 2, 3]), (505, [0, 1, 2, 3]), (518, [0, 1, 2, 3]), (551, [0, 1, 2, 3]), (584, [0, 1, 2, 3]), (607, [0, 1, 2, 3]), (630, [0, 1, 2, 3]), (663, [0, 1, 2, 3]), (696, [0, 1, 2, 3]), (719, [0, 1, 2, 3]), (742, [0, 1, 2, 3]), (756, [0, 1, 2, 3]), (779, [0, 1, 2, 3]), (792, [0, 1, 2, 3]), (825, [0, 1, 2, 3]), (838, [0, 1, 2, 3]), (871, [0, 1, 2, 3]), (904, [0, 1, 2, 3]), (927, [0, 1, 2, 3]), (950, [0, 1, 2, 3]), (956, [])] 20 pLs_719_ok rfl h
def pLs_742 : aPg := [(742, .aload_n 1, 1), (743, .invokevirtual 91, 3), (746, .aload_n 2, 1), (747, .invokevirtual 95, 3), (750, .lcmp, 1), (751, .ifCond .eq 199, 3), (754, .iconst 0, 1), (755, .ireturn, 1)]
set_option maxRecDepth 100000 in
theorem pLs_742_ok : (pLs_742.all fun q => decide (decode cL_law q.1 = .ok (q.2.1, q.2.2))) = true := by decide +kernel
set_option maxRecDepth 100000 in
set_option maxHeartbeats 4000000 in
theorem wl_742 {G : aG} {μ : aMem} {L : Nat} {xs : Nat → Int32} (x3 : Int32) (h :
    a_Spec G sX6_best [.ref 0] μ (fun r1 m1 => ∃ v1 : Int64, r1 = some (.long v1) ∧
    a_Spec G sX7_best [.ref 36] m1 (fun r2 m2 => ∃ v2 : Int64, r2 = some (.long v2) ∧
    (((lg_cmp v1 v2) = 0 →
      a_LR G L xs 950 [(0, .ref 99), (1, .ref 0), (2, .ref 36), (3, .int x3)] [] m2) ∧
    (¬ (lg_cmp v1 v2) = 0 →
      ((nI 0) = 0 ∨ (nI 0) = 1) ∧ lawPost (some (.int (nI 0))) m2))))) :
    a_LR G L xs 742 [(0, .ref 99), (1, .ref 0), (2, .ref 36), (3, .int x3)] [] μ := a_runL (pg := pLs_742) [(18, [0, 1, 2, 3]), (156, [0, 1, 2, 3]), (209, [0, 1, 2, 3]), (262, [0, 1, 2, 3]), (321, [0, 1, 2, 3]), (344, [0, 1, 2, 3]), (367, [0, 1, 2, 3]), (400, [0, 1, 2, 3]), (423, [0, 1, 2, 3]), (472, [0, 1, 2, 3]), (505, [0, 1, 2, 3]), (518, [0, 1, 2, 3]), (551, [0, 1, 2, 3]), (584, [0, 1, 2, 3]), (607, [0, 1, 2, 3]), (630, [0, 1, 2, 3]), (663, [0, 1, 2, 3]), (696, [0, 1, 2, 3]), (719, [0, 1, 2, 3]), (742, [0, 1, 2, 3]), (756, [0, 1, 2, 3]), (779, [0, 1, 2, 3]), (792, [0, 1, 2, 3]), (825, [0, 1, 2, 3]), (838, [0, 1, 2, 3]), (871, [0, 1, 2, 3]), (904, [0, 1, 2, 3]), (927, [0, 1, 2, 3]), (950, [0, 1, 2, 3]), (956, [])] 11 pLs_742_ok rfl h
def pLs_756 : aPg := [(756, .aload_n 1, 1), (757, .aload_n 0, 1), (758, .iload_n 3, 1), (759, .iconst 1, 1), (760, .iadd, 1), (761, .iaload, 1), (762, .invokevirtual 96, 3), (765, .aload_n 2, 1), (766, .aload_n 0, 1), (767, .iload_n 3, 1), (768, .iconst 1, 1), (769, .iadd, 1), (770, .iaload, 1), (771, .invokevirtual 99, 3), (774, .if_icmp .eq 176, 3), (777, .iconst 0, 1), (778, .ireturn, 1)]
set_option maxRecDepth 100000 in
theorem pLs_756_ok : (pLs_756.all fun q => decide (decode cL_law q.1 = .ok (q.2.1, q.2.2))) = true := by decide +kernel
set_option maxRecDepth 100000 in
set_option maxHeartbeats 4000000 in
theorem wl_756 {G : aG} {μ : aMem} {L : Nat} {xs : Nat → Int32} (x3 : Int32) (h :
    vp_in (x3 + (nI 1)) L ∧
    a_Spec G sX6_loom [.ref 0, .int (xs (x3 + (nI 1)).toNatClampNeg)] μ (fun r1 m1 => ∃ v1 : Int32, r1 = some (.int v1) ∧
    vp_in (x3 + (nI 1)) L ∧
    a_Spec G sX7_loom [.ref 36, .int (xs (x3 + (nI 1)).toNatClampNeg)] m1 (fun r2 m2 => ∃ v2 : Int32, r2 = some (.int v2) ∧
    ((v1 = v2 →
      a_LR G L xs 950 [(0, .ref 99), (1, .ref 0), (2, .ref 36), (3, .int x3)] [] m2) ∧
    (¬ v1 = v2 →
      ((nI 0) = 0 ∨ (nI 0) = 1) ∧ lawPost (some (.int (nI 0))) m2))))) :
    a_LR G L xs 756 [(0, .ref 99), (1, .ref 0), (2, .ref 36), (3, .int x3)] [] μ := a_runL (pg := pLs_756) [(18, [0, 1, 2, 3]), (156, [0, 1, 2, 3]), (209, [0, 1, 2, 3]), (262, [0, 1, 2, 3]), (321, [0, 1, 2, 3]), (344, [0, 1, 2, 3]), (367, [0, 1, 2, 3]), (400, [0, 1, 2, 3]), (423, [0, 1, 2, 3]), (472, [0, 1, 2, 3]), (505, [0, 1, 2, 3]), (518, [0, 1, 2, 3]), (551, [0, 1, 2, 3]), (584, [0, 1, 2, 3]), (607, [0, 1, 2, 3]), (630, [0, 1, 2, 3]), (663, [0, 1, 2, 3]), (696, [0, 1, 2, 3]), (719, [0, 1, 2, 3]), (742, [0, 1, 2, 3]), (756, [0, 1, 2, 3]), (779, [0, 1, 2, 3]), (792, [0, 1, 2, 3]), (825, [0, 1, 2, 3]), (838, [0, 1, 2, 3]), (871, [0, 1, 2, 3]), (904, [0, 1, 2, 3]), (927, [0, 1, 2, 3]), (950, [0, 1, 2, 3]), (956, [])] 20 pLs_756_ok rfl h
def pLs_779 : aPg := [(779, .aload_n 1, 1), (780, .invokevirtual 100, 3), (783, .aload_n 2, 1), (784, .invokevirtual 103, 3), (787, .if_icmp .eq 163, 3), (790, .iconst 0, 1), (791, .ireturn, 1)]
set_option maxRecDepth 100000 in
theorem pLs_779_ok : (pLs_779.all fun q => decide (decode cL_law q.1 = .ok (q.2.1, q.2.2))) = true := by decide +kernel
set_option maxRecDepth 100000 in
set_option maxHeartbeats 4000000 in
theorem wl_779 {G : aG} {μ : aMem} {L : Nat} {xs : Nat → Int32} (x3 : Int32) (h :
    a_Spec G sX6_alike [.ref 0] μ (fun r1 m1 => ∃ v1 : Int32, r1 = some (.int v1) ∧
    a_Spec G sX7_alike [.ref 36] m1 (fun r2 m2 => ∃ v2 : Int32, r2 = some (.int v2) ∧
    ((v1 = v2 →
      a_LR G L xs 950 [(0, .ref 99), (1, .ref 0), (2, .ref 36), (3, .int x3)] [] m2) ∧
    (¬ v1 = v2 →
      ((nI 0) = 0 ∨ (nI 0) = 1) ∧ lawPost (some (.int (nI 0))) m2))))) :
    a_LR G L xs 779 [(0, .ref 99), (1, .ref 0), (2, .ref 36), (3, .int x3)] [] μ := a_runL (pg := pLs_779) [(18, [0, 1, 2, 3]), (156, [0, 1, 2, 3]), (209, [0, 1, 2, 3]), (262, [0, 1, 2, 3]), (321, [0, 1, 2, 3]), (344, [0, 1, 2, 3]), (367, [0, 1, 2, 3]), (400, [0, 1, 2, 3]), (423, [0, 1, 2, 3]), (472, [0, 1, 2, 3]), (505, [0, 1, 2, 3]), (518, [0, 1, 2, 3]), (551, [0, 1, 2, 3]), (584, [0, 1, 2, 3]), (607, [0, 1, 2, 3]), (630, [0, 1, 2, 3]), (663, [0, 1, 2, 3]), (696, [0, 1, 2, 3]), (719, [0, 1, 2, 3]), (742, [0, 1, 2, 3]), (756, [0, 1, 2, 3]), (779, [0, 1, 2, 3]), (792, [0, 1, 2, 3]), (825, [0, 1, 2, 3]), (838, [0, 1, 2, 3]), (871, [0, 1, 2, 3]), (904, [0, 1, 2, 3]), (927, [0, 1, 2, 3]), (950, [0, 1, 2, 3]), (956, [])] 10 pLs_779_ok rfl h
def pLs_792 : aPg := [(792, .aload_n 1, 1), (793, .aload_n 0, 1), (794, .iload_n 3, 1), (795, .iconst 1, 1), (796, .iadd, 1), (797, .iaload, 1), (798, .aload_n 0, 1), (799, .iload_n 3, 1), (800, .iconst 2, 1), (801, .iadd, 1), (802, .iaload, 1), (803, .invokevirtual 104, 3), (806, .aload_n 2, 1), (807, .aload_n 0, 1), (808, .iload_n 3, 1), (809, .iconst 1, 1), (810, .iadd, 1), (811, .iaload, 1), (812, .aload_n 0, 1), (813, .iload_n 3, 1), (814, .iconst 2, 1), (815, .iadd, 1), (816, .iaload, 1), (817, .invokevirtual 107, 3), (820, .if_icmp .eq 130, 3), (823, .iconst 0, 1), (824, .ireturn, 1)]
set_option maxRecDepth 100000 in
theorem pLs_792_ok : (pLs_792.all fun q => decide (decode cL_law q.1 = .ok (q.2.1, q.2.2))) = true := by decide +kernel
set_option maxRecDepth 100000 in
set_option maxHeartbeats 4000000 in
theorem wl_792 {G : aG} {μ : aMem} {L : Nat} {xs : Nat → Int32} (x3 : Int32) (h :
    vp_in (x3 + (nI 1)) L ∧
    vp_in (x3 + (nI 2)) L ∧
    a_Spec G sX6_pin [.ref 0, .int (xs (x3 + (nI 1)).toNatClampNeg), .int (xs (x3 + (nI 2)).toNatClampNeg)] μ (fun r1 m1 => ∃ v1 : Int32, r1 = some (.int v1) ∧
    vp_in (x3 + (nI 1)) L ∧
    vp_in (x3 + (nI 2)) L ∧
    a_Spec G sX7_pin [.ref 36, .int (xs (x3 + (nI 1)).toNatClampNeg), .int (xs (x3 + (nI 2)).toNatClampNeg)] m1 (fun r2 m2 => ∃ v2 : Int32, r2 = some (.int v2) ∧
    ((v1 = v2 →
      a_LR G L xs 950 [(0, .ref 99), (1, .ref 0), (2, .ref 36), (3, .int x3)] [] m2) ∧
    (¬ v1 = v2 →
      ((nI 0) = 0 ∨ (nI 0) = 1) ∧ lawPost (some (.int (nI 0))) m2))))) :
    a_LR G L xs 792 [(0, .ref 99), (1, .ref 0), (2, .ref 36), (3, .int x3)] [] μ := a_runL (pg := pLs_792) [(18, [0, 1, 2, 3]), (156, [0, 1, 2, 3]), (209, [0, 1, 2, 3]), (262, [0, 1, 2, 3]), (321, [0, 1, 2, 3]), (344, [0, 1, 2, 3]), (367, [0, 1, 2, 3]), (400, [0, 1, 2, 3]), (423, [0, 1, 2, 3]), (472, [0, 1, 2, 3]), (505, [0, 1, 2, 3]), (518, [0, 1, 2, 3]), (551, [0, 1, 2, 3]), (584, [0, 1, 2, 3]), (607, [0, 1, 2, 3]), (630, [0, 1, 2, 3]), (663, [0, 1, 2, 3]), (696, [0, 1, 2, 3]), (719, [0, 1, 2, 3]), (742, [0, 1, 2, 3]), (756, [0, 1, 2, 3]), (779, [0, 1, 2, 3]), (792, [0, 1, 2, 3]), (825, [0, 1, 2, 3]), (838, [0, 1, 2, 3]), (871, [0, 1, 2, 3]), (904, [0, 1, 2, 3]), (927, [0, 1, 2, 3]), (950, [0, 1, 2, 3]), (956, [])] 30 pLs_792_ok rfl h
def pLs_825 : aPg := [(825, .aload_n 1, 1), (826, .invokevirtual 108, 3), (829, .aload_n 2, 1), (830, .invokevirtual 111, 3), (833, .if_icmp .eq 117, 3), (836, .iconst 0, 1), (837, .ireturn, 1)]
set_option maxRecDepth 100000 in
theorem pLs_825_ok : (pLs_825.all fun q => decide (decode cL_law q.1 = .ok (q.2.1, q.2.2))) = true := by decide +kernel
set_option maxRecDepth 100000 in
set_option maxHeartbeats 4000000 in
theorem wl_825 {G : aG} {μ : aMem} {L : Nat} {xs : Nat → Int32} (x3 : Int32) (h :
    a_Spec G sX6_tests [.ref 0] μ (fun r1 m1 => ∃ v1 : Int32, r1 = some (.int v1) ∧
    a_Spec G sX7_tests [.ref 36] m1 (fun r2 m2 => ∃ v2 : Int32, r2 = some (.int v2) ∧
    ((v1 = v2 →
      a_LR G L xs 950 [(0, .ref 99), (1, .ref 0), (2, .ref 36), (3, .int x3)] [] m2) ∧
    (¬ v1 = v2 →
      ((nI 0) = 0 ∨ (nI 0) = 1) ∧ lawPost (some (.int (nI 0))) m2))))) :
    a_LR G L xs 825 [(0, .ref 99), (1, .ref 0), (2, .ref 36), (3, .int x3)] [] μ := a_runL (pg := pLs_825) [(18, [0, 1, 2, 3]), (156, [0, 1, 2, 3]), (209, [0, 1, 2, 3]), (262, [0, 1, 2, 3]), (321, [0, 1, 2, 3]), (344, [0, 1, 2, 3]), (367, [0, 1, 2, 3]), (400, [0, 1, 2, 3]), (423, [0, 1, 2, 3]), (472, [0, 1, 2, 3]), (505, [0, 1, 2, 3]), (518, [0, 1, 2, 3]), (551, [0, 1, 2, 3]), (584, [0, 1, 2, 3]), (607, [0, 1, 2, 3]), (630, [0, 1, 2, 3]), (663, [0, 1, 2, 3]), (696, [0, 1, 2, 3]), (719, [0, 1, 2, 3]), (742, [0, 1, 2, 3]), (756, [0, 1, 2, 3]), (779, [0, 1, 2, 3]), (792, [0, 1, 2, 3]), (825, [0, 1, 2, 3]), (838, [0, 1, 2, 3]), (871, [0, 1, 2, 3]), (904, [0, 1, 2, 3]), (927, [0, 1, 2, 3]), (950, [0, 1, 2, 3]), (956, [])] 10 pLs_825_ok rfl h
def pLs_838 : aPg := [(838, .aload_n 1, 1), (839, .aload_n 0, 1), (840, .iload_n 3, 1), (841, .iconst 1, 1), (842, .iadd, 1), (843, .iaload, 1), (844, .aload_n 0, 1), (845, .iload_n 3, 1), (846, .iconst 2, 1), (847, .iadd, 1), (848, .iaload, 1), (849, .invokevirtual 112, 3), (852, .aload_n 2, 1), (853, .aload_n 0, 1), (854, .iload_n 3, 1), (855, .iconst 1, 1), (856, .iadd, 1), (857, .iaload, 1), (858, .aload_n 0, 1), (859, .iload_n 3, 1), (860, .iconst 2, 1), (861, .iadd, 1), (862, .iaload, 1), (863, .invokevirtual 115, 3), (866, .if_icmp .eq 84, 3), (869, .iconst 0, 1), (870, .ireturn, 1)]
set_option maxRecDepth 100000 in
theorem pLs_838_ok : (pLs_838.all fun q => decide (decode cL_law q.1 = .ok (q.2.1, q.2.2))) = true := by decide +kernel
set_option maxRecDepth 100000 in
set_option maxHeartbeats 4000000 in
theorem wl_838 {G : aG} {μ : aMem} {L : Nat} {xs : Nat → Int32} (x3 : Int32) (h :
    vp_in (x3 + (nI 1)) L ∧
    vp_in (x3 + (nI 2)) L ∧
    a_Spec G sX6_side [.ref 0, .int (xs (x3 + (nI 1)).toNatClampNeg), .int (xs (x3 + (nI 2)).toNatClampNeg)] μ (fun r1 m1 => ∃ v1 : Int32, r1 = some (.int v1) ∧
    vp_in (x3 + (nI 1)) L ∧
    vp_in (x3 + (nI 2)) L ∧
    a_Spec G sX7_side [.ref 36, .int (xs (x3 + (nI 1)).toNatClampNeg), .int (xs (x3 + (nI 2)).toNatClampNeg)] m1 (fun r2 m2 => ∃ v2 : Int32, r2 = some (.int v2) ∧
    ((v1 = v2 →
      a_LR G L xs 950 [(0, .ref 99), (1, .ref 0), (2, .ref 36), (3, .int x3)] [] m2) ∧
    (¬ v1 = v2 →
      ((nI 0) = 0 ∨ (nI 0) = 1) ∧ lawPost (some (.int (nI 0))) m2))))) :
    a_LR G L xs 838 [(0, .ref 99), (1, .ref 0), (2, .ref 36), (3, .int x3)] [] μ := a_runL (pg := pLs_838) [(18, [0, 1, 2, 3]), (156, [0, 1, 2, 3]), (209, [0, 1, 2, 3]), (262, [0, 1, 2, 3]), (321, [0, 1, 2, 3]), (344, [0, 1, 2, 3]), (367, [0, 1, 2, 3]), (400, [0, 1, 2, 3]), (423, [0, 1, 2, 3]), (472, [0, 1, 2, 3]), (505, [0, 1, 2, 3]), (518, [0, 1, 2, 3]), (551, [0, 1, 2, 3]), (584, [0, 1, 2, 3]), (607, [0, 1, 2, 3]), (630, [0, 1, 2, 3]), (663, [0, 1, 2, 3]), (696, [0, 1, 2, 3]), (719, [0, 1, 2, 3]), (742, [0, 1, 2, 3]), (756, [0, 1, 2, 3]), (779, [0, 1, 2, 3]), (792, [0, 1, 2, 3]), (825, [0, 1, 2, 3]), (838, [0, 1, 2, 3]), (871, [0, 1, 2, 3]), (904, [0, 1, 2, 3]), (927, [0, 1, 2, 3]), (950, [0, 1, 2, 3]), (956, [])] 30 pLs_838_ok rfl h
def pLs_871 : aPg := [(871, .aload_n 1, 1), (872, .aload_n 0, 1), (873, .iload_n 3, 1), (874, .iconst 1, 1), (875, .iadd, 1), (876, .iaload, 1), (877, .aload_n 0, 1), (878, .iload_n 3, 1), (879, .iconst 2, 1), (880, .iadd, 1), (881, .iaload, 1), (882, .invokevirtual 116, 3), (885, .aload_n 2, 1), (886, .aload_n 0, 1), (887, .iload_n 3, 1), (888, .iconst 1, 1), (889, .iadd, 1), (890, .iaload, 1), (891, .aload_n 0, 1), (892, .iload_n 3, 1), (893, .iconst 2, 1), (894, .iadd, 1), (895, .iaload, 1), (896, .invokevirtual 119, 3), (899, .if_icmp .eq 51, 3), (902, .iconst 0, 1), (903, .ireturn, 1)]
set_option maxRecDepth 100000 in
theorem pLs_871_ok : (pLs_871.all fun q => decide (decode cL_law q.1 = .ok (q.2.1, q.2.2))) = true := by decide +kernel
set_option maxRecDepth 100000 in
set_option maxHeartbeats 4000000 in
theorem wl_871 {G : aG} {μ : aMem} {L : Nat} {xs : Nat → Int32} (x3 : Int32) (h :
    vp_in (x3 + (nI 1)) L ∧
    vp_in (x3 + (nI 2)) L ∧
    a_Spec G sX6_shows [.ref 0, .int (xs (x3 + (nI 1)).toNatClampNeg), .int (xs (x3 + (nI 2)).toNatClampNeg)] μ (fun r1 m1 => ∃ v1 : Int32, r1 = some (.int v1) ∧
    vp_in (x3 + (nI 1)) L ∧
    vp_in (x3 + (nI 2)) L ∧
    a_Spec G sX7_shows [.ref 36, .int (xs (x3 + (nI 1)).toNatClampNeg), .int (xs (x3 + (nI 2)).toNatClampNeg)] m1 (fun r2 m2 => ∃ v2 : Int32, r2 = some (.int v2) ∧
    ((v1 = v2 →
      a_LR G L xs 950 [(0, .ref 99), (1, .ref 0), (2, .ref 36), (3, .int x3)] [] m2) ∧
    (¬ v1 = v2 →
      ((nI 0) = 0 ∨ (nI 0) = 1) ∧ lawPost (some (.int (nI 0))) m2))))) :
    a_LR G L xs 871 [(0, .ref 99), (1, .ref 0), (2, .ref 36), (3, .int x3)] [] μ := a_runL (pg := pLs_871) [(18, [0, 1, 2, 3]), (156, [0, 1, 2, 3]), (209, [0, 1, 2, 3]), (262, [0, 1, 2, 3]), (321, [0, 1, 2, 3]), (344, [0, 1, 2, 3]), (367, [0, 1, 2, 3]), (400, [0, 1, 2, 3]), (423, [0, 1, 2, 3]), (472, [0, 1, 2, 3]), (505, [0, 1, 2, 3]), (518, [0, 1, 2, 3]), (551, [0, 1, 2, 3]), (584, [0, 1, 2, 3]), (607, [0, 1, 2, 3]), (630, [0, 1, 2, 3]), (663, [0, 1, 2, 3]), (696, [0, 1, 2, 3]), (719, [0, 1, 2, 3]), (742, [0, 1, 2, 3]), (756, [0, 1, 2, 3]), (779, [0, 1, 2, 3]), (792, [0, 1, 2, 3]), (825, [0, 1, 2, 3]), (838, [0, 1, 2, 3]), (871, [0, 1, 2, 3]), (904, [0, 1, 2, 3]), (927, [0, 1, 2, 3]), (950, [0, 1, 2, 3]), (956, [])] 30 pLs_871_ok rfl h
def pLs_904 : aPg := [(904, .aload_n 1, 1), (905, .aload_n 0, 1), (906, .iload_n 3, 1), (907, .iconst 1, 1), (908, .iadd, 1), (909, .iaload, 1), (910, .invokevirtual 120, 3), (913, .aload_n 2, 1), (914, .aload_n 0, 1), (915, .iload_n 3, 1), (916, .iconst 1, 1), (917, .iadd, 1), (918, .iaload, 1), (919, .invokevirtual 123, 3), (922, .if_icmp .eq 28, 3), (925, .iconst 0, 1), (926, .ireturn, 1)]
set_option maxRecDepth 100000 in
theorem pLs_904_ok : (pLs_904.all fun q => decide (decode cL_law q.1 = .ok (q.2.1, q.2.2))) = true := by decide +kernel
set_option maxRecDepth 100000 in
set_option maxHeartbeats 4000000 in
theorem wl_904 {G : aG} {μ : aMem} {L : Nat} {xs : Nat → Int32} (x3 : Int32) (h :
    vp_in (x3 + (nI 1)) L ∧
    a_Spec G sX6_pairs [.ref 0, .int (xs (x3 + (nI 1)).toNatClampNeg)] μ (fun r1 m1 => ∃ v1 : Int32, r1 = some (.int v1) ∧
    vp_in (x3 + (nI 1)) L ∧
    a_Spec G sX7_pairs [.ref 36, .int (xs (x3 + (nI 1)).toNatClampNeg)] m1 (fun r2 m2 => ∃ v2 : Int32, r2 = some (.int v2) ∧
    ((v1 = v2 →
      a_LR G L xs 950 [(0, .ref 99), (1, .ref 0), (2, .ref 36), (3, .int x3)] [] m2) ∧
    (¬ v1 = v2 →
      ((nI 0) = 0 ∨ (nI 0) = 1) ∧ lawPost (some (.int (nI 0))) m2))))) :
    a_LR G L xs 904 [(0, .ref 99), (1, .ref 0), (2, .ref 36), (3, .int x3)] [] μ := a_runL (pg := pLs_904) [(18, [0, 1, 2, 3]), (156, [0, 1, 2, 3]), (209, [0, 1, 2, 3]), (262, [0, 1, 2, 3]), (321, [0, 1, 2, 3]), (344, [0, 1, 2, 3]), (367, [0, 1, 2, 3]), (400, [0, 1, 2, 3]), (423, [0, 1, 2, 3]), (472, [0, 1, 2, 3]), (505, [0, 1, 2, 3]), (518, [0, 1, 2, 3]), (551, [0, 1, 2, 3]), (584, [0, 1, 2, 3]), (607, [0, 1, 2, 3]), (630, [0, 1, 2, 3]), (663, [0, 1, 2, 3]), (696, [0, 1, 2, 3]), (719, [0, 1, 2, 3]), (742, [0, 1, 2, 3]), (756, [0, 1, 2, 3]), (779, [0, 1, 2, 3]), (792, [0, 1, 2, 3]), (825, [0, 1, 2, 3]), (838, [0, 1, 2, 3]), (871, [0, 1, 2, 3]), (904, [0, 1, 2, 3]), (927, [0, 1, 2, 3]), (950, [0, 1, 2, 3]), (956, [])] 20 pLs_904_ok rfl h
def pLs_927 : aPg := [(927, .aload_n 1, 1), (928, .aload_n 0, 1), (929, .iload_n 3, 1), (930, .iconst 1, 1), (931, .iadd, 1), (932, .iaload, 1), (933, .invokevirtual 124, 3), (936, .aload_n 2, 1), (937, .aload_n 0, 1), (938, .iload_n 3, 1), (939, .iconst 1, 1), (940, .iadd, 1), (941, .iaload, 1), (942, .invokevirtual 127, 3), (945, .if_icmp .eq 5, 3), (948, .iconst 0, 1), (949, .ireturn, 1)]
set_option maxRecDepth 100000 in
theorem pLs_927_ok : (pLs_927.all fun q => decide (decode cL_law q.1 = .ok (q.2.1, q.2.2))) = true := by decide +kernel
set_option maxRecDepth 100000 in
set_option maxHeartbeats 4000000 in
theorem wl_927 {G : aG} {μ : aMem} {L : Nat} {xs : Nat → Int32} (x3 : Int32) (h :
    vp_in (x3 + (nI 1)) L ∧
    a_Spec G sX6_count [.ref 0, .int (xs (x3 + (nI 1)).toNatClampNeg)] μ (fun r1 m1 => ∃ v1 : Int32, r1 = some (.int v1) ∧
    vp_in (x3 + (nI 1)) L ∧
    a_Spec G sX7_count [.ref 36, .int (xs (x3 + (nI 1)).toNatClampNeg)] m1 (fun r2 m2 => ∃ v2 : Int32, r2 = some (.int v2) ∧
    ((v1 = v2 →
      a_LR G L xs 950 [(0, .ref 99), (1, .ref 0), (2, .ref 36), (3, .int x3)] [] m2) ∧
    (¬ v1 = v2 →
      ((nI 0) = 0 ∨ (nI 0) = 1) ∧ lawPost (some (.int (nI 0))) m2))))) :
    a_LR G L xs 927 [(0, .ref 99), (1, .ref 0), (2, .ref 36), (3, .int x3)] [] μ := a_runL (pg := pLs_927) [(18, [0, 1, 2, 3]), (156, [0, 1, 2, 3]), (209, [0, 1, 2, 3]), (262, [0, 1, 2, 3]), (321, [0, 1, 2, 3]), (344, [0, 1, 2, 3]), (367, [0, 1, 2, 3]), (400, [0, 1, 2, 3]), (423, [0, 1, 2, 3]), (472, [0, 1, 2, 3]), (505, [0, 1, 2, 3]), (518, [0, 1, 2, 3]), (551, [0, 1, 2, 3]), (584, [0, 1, 2, 3]), (607, [0, 1, 2, 3]), (630, [0, 1, 2, 3]), (663, [0, 1, 2, 3]), (696, [0, 1, 2, 3]), (719, [0, 1, 2, 3]), (742, [0, 1, 2, 3]), (756, [0, 1, 2, 3]), (779, [0, 1, 2, 3]), (792, [0, 1, 2, 3]), (825, [0, 1, 2, 3]), (838, [0, 1, 2, 3]), (871, [0, 1, 2, 3]), (904, [0, 1, 2, 3]), (927, [0, 1, 2, 3]), (950, [0, 1, 2, 3]), (956, [])] 20 pLs_927_ok rfl h
def pLs_950 : aPg := [(950, .iinc 3 5, 3), (953, .goto (-935), 3)]
set_option maxRecDepth 100000 in
theorem pLs_950_ok : (pLs_950.all fun q => decide (decode cL_law q.1 = .ok (q.2.1, q.2.2))) = true := by decide +kernel
set_option maxRecDepth 100000 in
set_option maxHeartbeats 4000000 in
theorem wl_950 {G : aG} {μ : aMem} {L : Nat} {xs : Nat → Int32} (x3 : Int32) (h :
    a_LR G L xs 18 [(0, .ref 99), (1, .ref 0), (2, .ref 36), (3, .int (x3 + nI 5))] [] μ) :
    a_LR G L xs 950 [(0, .ref 99), (1, .ref 0), (2, .ref 36), (3, .int x3)] [] μ := a_runL (pg := pLs_950) [(18, [0, 1, 2, 3]), (156, [0, 1, 2, 3]), (209, [0, 1, 2, 3]), (262, [0, 1, 2, 3]), (321, [0, 1, 2, 3]), (344, [0, 1, 2, 3]), (367, [0, 1, 2, 3]), (400, [0, 1, 2, 3]), (423, [0, 1, 2, 3]), (472, [0, 1, 2, 3]), (505, [0, 1, 2, 3]), (518, [0, 1, 2, 3]), (551, [0, 1, 2, 3]), (584, [0, 1, 2, 3]), (607, [0, 1, 2, 3]), (630, [0, 1, 2, 3]), (663, [0, 1, 2, 3]), (696, [0, 1, 2, 3]), (719, [0, 1, 2, 3]), (742, [0, 1, 2, 3]), (756, [0, 1, 2, 3]), (779, [0, 1, 2, 3]), (792, [0, 1, 2, 3]), (825, [0, 1, 2, 3]), (838, [0, 1, 2, 3]), (871, [0, 1, 2, 3]), (904, [0, 1, 2, 3]), (927, [0, 1, 2, 3]), (950, [0, 1, 2, 3]), (956, [])] 6 pLs_950_ok rfl h
def pLs_956 : aPg := [(956, .iconst 1, 1), (957, .ireturn, 1)]
set_option maxRecDepth 100000 in
theorem pLs_956_ok : (pLs_956.all fun q => decide (decode cL_law q.1 = .ok (q.2.1, q.2.2))) = true := by decide +kernel
set_option maxRecDepth 100000 in
set_option maxHeartbeats 4000000 in
theorem wl_956 {G : aG} {μ : aMem} {L : Nat} {xs : Nat → Int32} (h :
    ((nI 1) = 0 ∨ (nI 1) = 1) ∧ lawPost (some (.int (nI 1))) μ) :
    a_LR G L xs 956 [] [] μ := a_runL (pg := pLs_956) [(18, [0, 1, 2, 3]), (156, [0, 1, 2, 3]), (209, [0, 1, 2, 3]), (262, [0, 1, 2, 3]), (321, [0, 1, 2, 3]), (344, [0, 1, 2, 3]), (367, [0, 1, 2, 3]), (400, [0, 1, 2, 3]), (423, [0, 1, 2, 3]), (472, [0, 1, 2, 3]), (505, [0, 1, 2, 3]), (518, [0, 1, 2, 3]), (551, [0, 1, 2, 3]), (584, [0, 1, 2, 3]), (607, [0, 1, 2, 3]), (630, [0, 1, 2, 3]), (663, [0, 1, 2, 3]), (696, [0, 1, 2, 3]), (719, [0, 1, 2, 3]), (742, [0, 1, 2, 3]), (756, [0, 1, 2, 3]), (779, [0, 1, 2, 3]), (792, [0, 1, 2, 3]), (825, [0, 1, 2, 3]), (838, [0, 1, 2, 3]), (871, [0, 1, 2, 3]), (904, [0, 1, 2, 3]), (927, [0, 1, 2, 3]), (950, [0, 1, 2, 3]), (956, [])] 5 pLs_956_ok rfl h
