set_option maxRecDepth 100000 in
set_option maxHeartbeats 4000000 in
theorem w_X0_sortIn_0 {G : aG} {μ : aMem} {post : aPost} (x1 : Int32) (h :
    a_Runs G sX0_sortIn 2 [(0, .ref 1), (1, .int x1), (2, .int x1)] [] μ post) :
    a_Spec G sX0_sortIn [.ref 1, .int x1] μ post := a_enter (by decide +kernel) rfl (a_run (S := sX0_sortIn) (pg := pX0_sortIn) (tab := tX0) [(2, [0, 1, 2])] 5 (a_okT_e tX0_ok) pX0_sortIn_ok rfl h)
set_option maxRecDepth 100000 in
set_option maxHeartbeats 4000000 in
theorem w_X0_sortIn_2 {G : aG} {μ : aMem} {post : aPost} (x1 : Int32) (x2 : Int32) (h :
    ((x2 ≤ 0 →
      vp_in x2 16 ∧
      post none (va_up μ.1 12 (upd (μ.1 12) x2.toNatClampNeg x1), μ.2)) ∧
    (¬ x2 ≤ 0 →
      vp_in (x2 - (nI 1)) 16 ∧
      vp_in (μ.1 12 (x2 - (nI 1)).toNatClampNeg) 16 ∧
      vp_in x1 16 ∧
      (((μ.1 10 (μ.1 12 (x2 - (nI 1)).toNatClampNeg).toNatClampNeg) ≤ (μ.1 10 x1.toNatClampNeg) →
        vp_in x2 16 ∧
        post none (va_up μ.1 12 (upd (μ.1 12) x2.toNatClampNeg x1), μ.2)) ∧
      (¬ (μ.1 10 (μ.1 12 (x2 - (nI 1)).toNatClampNeg).toNatClampNeg) ≤ (μ.1 10 x1.toNatClampNeg) →
        vp_in (x2 - (nI 1)) 16 ∧
        vp_in x2 16 ∧
        a_Runs G sX0_sortIn 2 [(0, .ref 1), (1, .int x1), (2, .int (x2 + (-1)))] [] (va_up μ.1 12 (upd (μ.1 12) x2.toNatClampNeg (μ.1 12 (x2 - (nI 1)).toNatClampNeg)), μ.2) post))))) :
    a_Runs G sX0_sortIn 2 [(0, .ref 1), (1, .int x1), (2, .int x2)] [] μ post := a_run (S := sX0_sortIn) (pg := pX0_sortIn) (tab := tX0) [(2, [0, 1, 2])] 31 (a_okT_e tX0_ok) pX0_sortIn_ok rfl h
set_option maxRecDepth 100000 in
set_option maxHeartbeats 4000000 in
theorem w_X0_add_0 {G : aG} {μ : aMem} {post : aPost} (x1 : Int32) (x2 : Int32) (x3 : Int32) (x4 : Int32) (h :
    vp_in (μ.1 1 0) 16 ∧
    vp_in (μ.1 1 0) 16 ∧
    vp_in (μ.1 1 0) 16 ∧
    vp_in (μ.1 1 0) 16 ∧
    vp_in (μ.1 1 0) 16 ∧
    a_Spec G sX0_sortIn [.ref 1, .int (μ.1 1 0)] (va_up (va_up (va_up (va_up (va_up μ.1 7 (upd (μ.1 7) ((μ.1 1 0).toNatClampNeg) x1)) 8 (upd (μ.1 8) ((μ.1 1 0).toNatClampNeg) x2)) 9 (upd (μ.1 9) ((μ.1 1 0).toNatClampNeg) (((nI 1) <<< (x1 &&& 31)) ||| ((nI 1) <<< (x2 &&& 31))))) 10 (upd (μ.1 10) ((μ.1 1 0).toNatClampNeg) x3)) 11 (upd (μ.1 11) ((μ.1 1 0).toNatClampNeg) x4), μ.2) (fun r1 m1 => r1 = none ∧
    post (some (.int (μ.1 1 0))) (va_up m1.1 1 (upd (m1.1 1) 0 ((μ.1 1 0) + (nI 1))), m1.2))) :
    a_Spec G sX0_add [.ref 1, .int x1, .int x2, .int x3, .int x4] μ post := a_enter (by decide +kernel) rfl (a_run (S := sX0_add) (pg := pX0_add) (tab := tX0) [] 46 (a_okT_e tX0_ok) pX0_add_ok rfl h)
set_option maxRecDepth 100000 in
set_option maxHeartbeats 4000000 in
theorem w_X0_allBits_0 {G : aG} {μ : aMem} {post : aPost}  (h :
    post (some (.int (((nI 1) <<< ((μ.1 1 0) &&& 31)) - (nI 1)))) μ) :
    a_Spec G sX0_allBits [.ref 1] μ post := a_enter (by decide +kernel) rfl (a_run (S := sX0_allBits) (pg := pX0_allBits) (tab := tX0) [] 9 (a_okT_e tX0_ok) pX0_allBits_ok rfl h)
set_option maxRecDepth 100000 in
set_option maxHeartbeats 4000000 in
theorem w_X0_across_0 {G : aG} {μ : aMem} {post : aPost} (x1 : Int32) (x2 : Int32) (h :
    vp_in x1 16 ∧
    ((¬ (μ.1 7 x1.toNatClampNeg) = x2 →
      vp_in x1 16 ∧
      post (some (.int (μ.1 7 x1.toNatClampNeg))) μ) ∧
    ((μ.1 7 x1.toNatClampNeg) = x2 →
      vp_in x1 16 ∧
      post (some (.int (μ.1 8 x1.toNatClampNeg))) μ))) :
    a_Spec G sX0_across [.ref 1, .int x1, .int x2] μ post := a_enter (by decide +kernel) rfl (a_run (S := sX0_across) (pg := pX0_across) (tab := tX0) [] 14 (a_okT_e tX0_ok) pX0_across_ok rfl h)
set_option maxRecDepth 100000 in
set_option maxHeartbeats 4000000 in
theorem w_X1_add_0 {G : aG} {μ : aMem} {post : aPost} (x1 : Int32) (x2 : Int32) (h :
    vp_in (μ.1 5 0) 8 ∧
    vp_in (μ.1 5 0) 8 ∧
    ((nI 1) = 0 ∨ (nI 1) = 1) ∧
    post (some (.int (μ.1 5 0))) (va_up (va_up (va_up (va_up μ.1 28 (upd (μ.1 28) ((μ.1 5 0).toNatClampNeg) x1)) 29 (upd (μ.1 29) ((μ.1 5 0).toNatClampNeg) x2)) 5 (upd (μ.1 5) 0 ((μ.1 5 0) + (nI 1)))) 5 (upd (upd (μ.1 5) 0 ((μ.1 5 0) + (nI 1))) 2 (nI 1)), μ.2)) :
    a_Spec G sX1_add [.ref 5, .int x1, .int x2] μ post := a_enter (by decide +kernel) rfl (a_run (S := sX1_add) (pg := pX1_add) (tab := tX1) [] 25 (a_okT_e tX1_ok) pX1_add_ok rfl h)
set_option maxRecDepth 100000 in
set_option maxHeartbeats 4000000 in
theorem w_X1_allBits_0 {G : aG} {μ : aMem} {post : aPost}  (h :
    post (some (.int (((nI 1) <<< ((μ.1 5 0) &&& 31)) - (nI 1)))) μ) :
    a_Spec G sX1_allBits [.ref 5] μ post := a_enter (by decide +kernel) rfl (a_run (S := sX1_allBits) (pg := pX1_allBits) (tab := tX1) [] 9 (a_okT_e tX1_ok) pX1_allBits_ok rfl h)
set_option maxRecDepth 100000 in
set_option maxHeartbeats 4000000 in
theorem w_X6_has_0 {G : aG} {μ : aMem} {post : aPost} (x0 : Int32) (x1 : Int32) (h :
    ((¬ ((x0 >>> (x1 &&& 31)) &&& (nI 1)) = (nI 1) →
      ((nI 0) = 0 ∨ (nI 0) = 1) ∧ post (some (.int (nI 0))) μ) ∧
    (((x0 >>> (x1 &&& 31)) &&& (nI 1)) = (nI 1) →
      ((nI 1) = 0 ∨ (nI 1) = 1) ∧ post (some (.int (nI 1))) μ))) :
    a_Spec G sX6_has [.int x0, .int x1] μ post := a_enter (by decide +kernel) rfl (a_run (S := sX6_has) (pg := pX6_has) (tab := tX6) [] 12 (a_okT_e tX6_ok) pX6_has_ok rfl h)
set_option maxRecDepth 100000 in
set_option maxHeartbeats 4000000 in
theorem w_X5_neededWith_0 {G : aG} {μ : aMem} {post : aPost} (x1 : Int32) (h :
    a_Runs G sX5_neededWith 4 [(0, .ref 2), (1, .int x1), (2, .int (nI 0)), (3, .int (nI 0))] [] μ post) :
    a_Spec G sX5_neededWith [.ref 2, .int x1] μ post := a_enter (by decide +kernel) rfl (a_run (S := sX5_neededWith) (pg := pX5_neededWith) (tab := tX5) [(4, [0, 1, 2, 3])] 7 (a_okT_e tX5_ok) pX5_neededWith_ok rfl h)
set_option maxRecDepth 100000 in
set_option maxHeartbeats 4000000 in
theorem w_X5_neededWith_4 {G : aG} {μ : aMem} {post : aPost} (x1 : Int32) (x2 : Int32) (x3 : Int32) (h :
    (((μ.1 2 0) ≤ x3 →
      post (some (.int x2)) μ) ∧
    (¬ (μ.1 2 0) ≤ x3 →
      vp_in x3 20 ∧
      ((¬ ((μ.1 17 x3.toNatClampNeg) &&& (x1 ^^^ (-1))) = 0 →
        a_Runs G sX5_neededWith 4 [(0, .ref 2), (1, .int x1), (2, .int x2), (3, .int (x3 + nI 1))] [] μ post) ∧
      (((μ.1 17 x3.toNatClampNeg) &&& (x1 ^^^ (-1))) = 0 →
        a_Runs G sX5_neededWith 4 [(0, .ref 2), (1, .int x1), (2, .int (x2 ||| ((nI 1) <<< (x3 &&& 31)))), (3, .int (x3 + nI 1))] [] μ post))))) :
    a_Runs G sX5_neededWith 4 [(0, .ref 2), (1, .int x1), (2, .int x2), (3, .int x3)] [] μ post := a_run (S := sX5_neededWith) (pg := pX5_neededWith) (tab := tX5) [(4, [0, 1, 2, 3])] 24 (a_okT_e tX5_ok) pX5_neededWith_ok rfl h
set_option maxRecDepth 100000 in
set_option maxHeartbeats 4000000 in
theorem w_X1_wiresFor_0 {G : aG} {μ : aMem} {post : aPost} (x1 : Int32) (h :
    a_Runs G sX1_wiresFor 4 [(0, .ref 5), (1, .int x1), (2, .int (nI 0)), (3, .int (nI 0))] [] μ post) :
    a_Spec G sX1_wiresFor [.ref 5, .int x1] μ post := a_enter (by decide +kernel) rfl (a_run (S := sX1_wiresFor) (pg := pX1_wiresFor) (tab := tX1) [(4, [0, 1, 2, 3])] 7 (a_okT_e tX1_ok) pX1_wiresFor_ok rfl h)
set_option maxRecDepth 100000 in
set_option maxHeartbeats 4000000 in
theorem w_X1_wiresFor_4 {G : aG} {μ : aMem} {post : aPost} (x1 : Int32) (x2 : Int32) (x3 : Int32) (h :
    (((μ.1 5 0) ≤ x3 →
      post (some (.int x2)) μ) ∧
    (¬ (μ.1 5 0) ≤ x3 →
      a_Spec G sX6_has [.int x1, .int x3] μ (fun r1 m1 => ∃ v1 : Int32, r1 = some (.int v1) ∧
      ((v1 = 0 →
        a_Runs G sX1_wiresFor 4 [(0, .ref 5), (1, .int x1), (2, .int x2), (3, .int (x3 + nI 1))] [] m1 post) ∧
      (¬ v1 = 0 →
        vp_in x3 8 ∧
        a_Spec G sX5_neededWith [.ref 2, .int (m1.1 28 x3.toNatClampNeg)] m1 (fun r2 m2 => ∃ v2 : Int32, r2 = some (.int v2) ∧
        a_Runs G sX1_wiresFor 4 [(0, .ref 5), (1, .int x1), (2, .int (x2 ||| v2)), (3, .int (x3 + nI 1))] [] m2 post))))))) :
    a_Runs G sX1_wiresFor 4 [(0, .ref 5), (1, .int x1), (2, .int x2), (3, .int x3)] [] μ post := a_run (S := sX1_wiresFor) (pg := pX1_wiresFor) (tab := tX1) [(4, [0, 1, 2, 3])] 23 (a_okT_e tX1_ok) pX1_wiresFor_ok rfl h
set_option maxRecDepth 100000 in
set_option maxHeartbeats 4000000 in
theorem w_X1_hasTwin_0 {G : aG} {μ : aMem} {post : aPost} (x1 : Int32) (h :
    vp_in x1 8 ∧
    a_Spec G sX5_neededWith [.ref 2, .int (μ.1 28 x1.toNatClampNeg)] μ (fun r1 m1 => ∃ v1 : Int32, r1 = some (.int v1) ∧
    a_Runs G sX1_hasTwin 16 [(0, .ref 5), (1, .int x1), (2, .int v1), (3, .int (nI 0))] [] m1 post)) :
    a_Spec G sX1_hasTwin [.ref 5, .int x1] μ post := a_enter (by decide +kernel) rfl (a_run (S := sX1_hasTwin) (pg := pX1_hasTwin) (tab := tX1) [(16, [0, 1, 2, 3])] 13 (a_okT_e tX1_ok) pX1_hasTwin_ok rfl h)
set_option maxRecDepth 100000 in
set_option maxHeartbeats 4000000 in
theorem w_X1_hasTwin_16 {G : aG} {μ : aMem} {post : aPost} (x1 : Int32) (x2 : Int32) (x3 : Int32) (h :
    (((μ.1 5 0) ≤ x3 →
      ((nI 0) = 0 ∨ (nI 0) = 1) ∧ post (some (.int (nI 0))) μ) ∧
    (¬ (μ.1 5 0) ≤ x3 →
      ((x3 = x1 →
        a_Runs G sX1_hasTwin 16 [(0, .ref 5), (1, .int x1), (2, .int x2), (3, .int (x3 + nI 1))] [] μ post) ∧
      (¬ x3 = x1 →
        vp_in x3 8 ∧
        a_Spec G sX5_neededWith [.ref 2, .int (μ.1 28 x3.toNatClampNeg)] μ (fun r1 m1 => ∃ v1 : Int32, r1 = some (.int v1) ∧
        ((¬ v1 = x2 →
          a_Runs G sX1_hasTwin 16 [(0, .ref 5), (1, .int x1), (2, .int x2), (3, .int (x3 + nI 1))] [] m1 post) ∧
        (v1 = x2 →
          ((nI 1) = 0 ∨ (nI 1) = 1) ∧ post (some (.int (nI 1))) m1)))))))) :
    a_Runs G sX1_hasTwin 16 [(0, .ref 5), (1, .int x1), (2, .int x2), (3, .int x3)] [] μ post := a_run (S := sX1_hasTwin) (pg := pX1_hasTwin) (tab := tX1) [(16, [0, 1, 2, 3])] 21 (a_okT_e tX1_ok) pX1_hasTwin_ok rfl h
set_option maxRecDepth 100000 in
set_option maxHeartbeats 4000000 in
theorem w_X1_loomShift_0 {G : aG} {μ : aMem} {post : aPost} (x0 : Int32) (h :
    post (some (.int (((nI 7) - x0) * (nI 3)))) μ) :
    a_Spec G sX1_loomShift [.int x0] μ post := a_enter (by decide +kernel) rfl (a_run (S := sX1_loomShift) (pg := pX1_loomShift) (tab := tX1) [] 8 (a_okT_e tX1_ok) pX1_loomShift_ok rfl h)
set_option maxRecDepth 100000 in
set_option maxHeartbeats 4000000 in
theorem w_X1_gatherSums_0 {G : aG} {μ : aMem} {post : aPost}  (h :
    a_Runs G sX1_gatherSums 2 [(0, .ref 5), (1, .int (nI 0))] [] μ post) :
    a_Spec G sX1_gatherSums [.ref 5] μ post := a_enter (by decide +kernel) rfl (a_run (S := sX1_gatherSums) (pg := pX1_gatherSums) (tab := tX1) [(2, [0, 1]), (31, [0, 1, 2, 3, 4])] 5 (a_okT_e tX1_ok) pX1_gatherSums_ok rfl h)
set_option maxRecDepth 100000 in
set_option maxHeartbeats 4000000 in
theorem w_X1_gatherSums_2 {G : aG} {μ : aMem} {post : aPost} (x1 : Int32) (h :
    (((μ.1 5 0) ≤ x1 →
      post none μ) ∧
    (¬ (μ.1 5 0) ≤ x1 →
      vp_in x1 8 ∧
      a_Spec G sX5_neededWith [.ref 2, .int (μ.1 28 x1.toNatClampNeg)] μ (fun r1 m1 => ∃ v1 : Int32, r1 = some (.int v1) ∧
      a_Runs G sX1_gatherSums 31 [(0, .ref 5), (1, .int x1), (2, .int ((nI 1) <<< (x1 &&& 31))), (3, .int v1), (4, .int (nI 0))] [] m1 post)))) :
    a_Runs G sX1_gatherSums 2 [(0, .ref 5), (1, .int x1)] [] μ post := a_run (S := sX1_gatherSums) (pg := pX1_gatherSums) (tab := tX1) [(2, [0, 1]), (31, [0, 1, 2, 3, 4])] 21 (a_okT_e tX1_ok) pX1_gatherSums_ok rfl h
set_option maxRecDepth 100000 in
set_option maxHeartbeats 4000000 in
theorem w_X1_gatherSums_31 {G : aG} {μ : aMem} {post : aPost} (x1 : Int32) (x2 : Int32) (x3 : Int32) (x4 : Int32) (h :
    ((x2 ≤ x4 →
      a_Runs G sX1_gatherSums 2 [(0, .ref 5), (1, .int (x1 + nI 1))] [] μ post) ∧
    (¬ x2 ≤ x4 →
      vp_in x4 256 ∧
      vp_in (x4 ||| x2) 256 ∧
      vp_in x4 256 ∧
      vp_in x1 8 ∧
      vp_in (x4 ||| x2) 256 ∧
      vp_in x4 256 ∧
      a_Spec G sX1_loomShift [.int x1] (va_up (va_up μ.1 30 (upd (μ.1 30) ((x4 ||| x2).toNatClampNeg) ((μ.1 30 x4.toNatClampNeg) ||| x3))) 31 (upd (μ.1 31) ((x4 ||| x2).toNatClampNeg) ((μ.1 31 x4.toNatClampNeg) + (μ.1 29 x1.toNatClampNeg))), μ.2) (fun r1 m1 => ∃ v1 : Int32, r1 = some (.int v1) ∧
      vp_in (x4 ||| x2) 256 ∧
      a_Runs G sX1_gatherSums 31 [(0, .ref 5), (1, .int x1), (2, .int x2), (3, .int x3), (4, .int (x4 + nI 1))] [] (va_up m1.1 33 (upd (m1.1 33) ((x4 ||| x2).toNatClampNeg) ((μ.1 33 x4.toNatClampNeg) + ((nI 1) <<< (v1 &&& 31)))), m1.2) post)))) :
    a_Runs G sX1_gatherSums 31 [(0, .ref 5), (1, .int x1), (2, .int x2), (3, .int x3), (4, .int x4)] [] μ post := a_run (S := sX1_gatherSums) (pg := pX1_gatherSums) (tab := tX1) [(2, [0, 1]), (31, [0, 1, 2, 3, 4])] 50 (a_okT_e tX1_ok) pX1_gatherSums_ok rfl h
set_option maxRecDepth 100000 in
set_option maxHeartbeats 4000000 in
theorem w_X5_weightOf_0 {G : aG} {μ : aMem} {post : aPost} (x1 : Int32) (h :
    a_Runs G sX5_weightOf 4 [(0, .ref 2), (1, .int x1), (2, .int (nI 0)), (3, .int (nI 0))] [] μ post) :
    a_Spec G sX5_weightOf [.ref 2, .int x1] μ post := a_enter (by decide +kernel) rfl (a_run (S := sX5_weightOf) (pg := pX5_weightOf) (tab := tX5) [(4, [0, 1, 2, 3])] 7 (a_okT_e tX5_ok) pX5_weightOf_ok rfl h)
set_option maxRecDepth 100000 in
set_option maxHeartbeats 4000000 in
theorem w_X5_weightOf_4 {G : aG} {μ : aMem} {post : aPost} (x1 : Int32) (x2 : Int32) (x3 : Int32) (h :
    (((μ.1 2 0) ≤ x3 →
      post (some (.int x2)) μ) ∧
    (¬ (μ.1 2 0) ≤ x3 →
      a_Spec G sX6_has [.int x1, .int x3] μ (fun r1 m1 => ∃ v1 : Int32, r1 = some (.int v1) ∧
      ((v1 = 0 →
        a_Runs G sX5_weightOf 4 [(0, .ref 2), (1, .int x1), (2, .int x2), (3, .int (x3 + nI 1))] [] m1 post) ∧
      (¬ v1 = 0 →
        vp_in x3 20 ∧
        a_Runs G sX5_weightOf 4 [(0, .ref 2), (1, .int x1), (2, .int (x2 + (m1.1 15 x3.toNatClampNeg))), (3, .int (x3 + nI 1))] [] m1 post)))))) :
    a_Runs G sX5_weightOf 4 [(0, .ref 2), (1, .int x1), (2, .int x2), (3, .int x3)] [] μ post := a_run (S := sX5_weightOf) (pg := pX5_weightOf) (tab := tX5) [(4, [0, 1, 2, 3])] 20 (a_okT_e tX5_ok) pX5_weightOf_ok rfl h
set_option maxRecDepth 100000 in
set_option maxHeartbeats 4000000 in
theorem w_J6_bitCount_0 {G : aG} {μ : aMem} {post : aPost} (x0 : Int32) (h :
    post (some (.int ((((((((x0 - (((x0.toUInt32 >>> ((nI 1).toUInt32 &&& Int32.toUInt32 31)).toInt32) &&& (nI 1431655765))) &&& (nI 858993459)) + ((((x0 - (((x0.toUInt32 >>> ((nI 1).toUInt32 &&& Int32.toUInt32 31)).toInt32) &&& (nI 1431655765))).toUInt32 >>> ((nI 2).toUInt32 &&& Int32.toUInt32 31)).toInt32) &&& (nI 858993459))) + (((((x0 - (((x0.toUInt32 >>> ((nI 1).toUInt32 &&& Int32.toUInt32 31)).toInt32) &&& (nI 1431655765))) &&& (nI 858993459)) + ((((x0 - (((x0.toUInt32 >>> ((nI 1).toUInt32 &&& Int32.toUInt32 31)).toInt32) &&& (nI 1431655765))).toUInt32 >>> ((nI 2).toUInt32 &&& Int32.toUInt32 31)).toInt32) &&& (nI 858993459))).toUInt32 >>> ((nI 4).toUInt32 &&& Int32.toUInt32 31)).toInt32)) &&& (nI 252645135)) + (((((((x0 - (((x0.toUInt32 >>> ((nI 1).toUInt32 &&& Int32.toUInt32 31)).toInt32) &&& (nI 1431655765))) &&& (nI 858993459)) + ((((x0 - (((x0.toUInt32 >>> ((nI 1).toUInt32 &&& Int32.toUInt32 31)).toInt32) &&& (nI 1431655765))).toUInt32 >>> ((nI 2).toUInt32 &&& Int32.toUInt32 31)).toInt32) &&& (nI 858993459))) + (((((x0 - (((x0.toUInt32 >>> ((nI 1).toUInt32 &&& Int32.toUInt32 31)).toInt32) &&& (nI 1431655765))) &&& (nI 858993459)) + ((((x0 - (((x0.toUInt32 >>> ((nI 1).toUInt32 &&& Int32.toUInt32 31)).toInt32) &&& (nI 1431655765))).toUInt32 >>> ((nI 2).toUInt32 &&& Int32.toUInt32 31)).toInt32) &&& (nI 858993459))).toUInt32 >>> ((nI 4).toUInt32 &&& Int32.toUInt32 31)).toInt32)) &&& (nI 252645135)).toUInt32 >>> ((nI 8).toUInt32 &&& Int32.toUInt32 31)).toInt32)) + ((((((((x0 - (((x0.toUInt32 >>> ((nI 1).toUInt32 &&& Int32.toUInt32 31)).toInt32) &&& (nI 1431655765))) &&& (nI 858993459)) + ((((x0 - (((x0.toUInt32 >>> ((nI 1).toUInt32 &&& Int32.toUInt32 31)).toInt32) &&& (nI 1431655765))).toUInt32 >>> ((nI 2).toUInt32 &&& Int32.toUInt32 31)).toInt32) &&& (nI 858993459))) + (((((x0 - (((x0.toUInt32 >>> ((nI 1).toUInt32 &&& Int32.toUInt32 31)).toInt32) &&& (nI 1431655765))) &&& (nI 858993459)) + ((((x0 - (((x0.toUInt32 >>> ((nI 1).toUInt32 &&& Int32.toUInt32 31)).toInt32) &&& (nI 1431655765))).toUInt32 >>> ((nI 2).toUInt32 &&& Int32.toUInt32 31)).toInt32) &&& (nI 858993459))).toUInt32 >>> ((nI 4).toUInt32 &&& Int32.toUInt32 31)).toInt32)) &&& (nI 252645135)) + (((((((x0 - (((x0.toUInt32 >>> ((nI 1).toUInt32 &&& Int32.toUInt32 31)).toInt32) &&& (nI 1431655765))) &&& (nI 858993459)) + ((((x0 - (((x0.toUInt32 >>> ((nI 1).toUInt32 &&& Int32.toUInt32 31)).toInt32) &&& (nI 1431655765))).toUInt32 >>> ((nI 2).toUInt32 &&& Int32.toUInt32 31)).toInt32) &&& (nI 858993459))) + (((((x0 - (((x0.toUInt32 >>> ((nI 1).toUInt32 &&& Int32.toUInt32 31)).toInt32) &&& (nI 1431655765))) &&& (nI 858993459)) + ((((x0 - (((x0.toUInt32 >>> ((nI 1).toUInt32 &&& Int32.toUInt32 31)).toInt32) &&& (nI 1431655765))).toUInt32 >>> ((nI 2).toUInt32 &&& Int32.toUInt32 31)).toInt32) &&& (nI 858993459))).toUInt32 >>> ((nI 4).toUInt32 &&& Int32.toUInt32 31)).toInt32)) &&& (nI 252645135)).toUInt32 >>> ((nI 8).toUInt32 &&& Int32.toUInt32 31)).toInt32)).toUInt32 >>> ((nI 16).toUInt32 &&& Int32.toUInt32 31)).toInt32)) &&& (nI 63)))) μ) :
    a_Spec G sJ6_bitCount_0f7a4 [.int x0] μ post := a_enter (by decide +kernel) rfl (a_run (S := sJ6_bitCount_0f7a4) (pg := pJ6_bitCount_0f7a4) (tab := tJ6) [] 44 (a_okT_e tJ6_ok) pJ6_bitCount_0f7a4_ok rfl h)
set_option maxRecDepth 100000 in
set_option maxHeartbeats 4000000 in
theorem w_X1_leastPlan_0 {G : aG} {μ : aMem} {post : aPost} (x1 : Int32) (h :
    a_Spec G sJ6_bitCount_0f7a4 [.int (x1 ^^^ (x1 &&& (-x1)))] μ (fun r1 m1 => ∃ v1 : Int32, r1 = some (.int v1) ∧
    a_Runs G sX1_leastPlan 28 [(0, .ref 5), (2, .int (x1 &&& (-x1))), (3, .int (x1 ^^^ (x1 &&& (-x1)))), (4, .int ((nI 1) <<< (v1 &&& 31))), (5, .int (x1 ^^^ (x1 &&& (-x1)))), (6, .long (9223372036854775807 : Int64)), (8, .int (nI 0))] [] m1 post)) :
    a_Spec G sX1_leastPlan [.ref 5, .int x1] μ post := a_enter (by decide +kernel) rfl (a_run (S := sX1_leastPlan) (pg := pX1_leastPlan) (tab := tX1) [(28, [0, 2, 3, 4, 5, 6, 8])] 23 (a_okT_e tX1_ok) pX1_leastPlan_ok rfl h)
set_option maxRecDepth 100000 in
set_option maxHeartbeats 4000000 in
theorem w_X1_leastPlan_28 {G : aG} {μ : aMem} {post : aPost} (x2 : Int32) (x3 : Int32) (x4 : Int32) (x5 : Int32) (x6 : Int64) (x8 : Int32) (h :
    ((x4 ≤ x8 →
      post (some (.long x6)) μ) ∧
    (¬ x4 ≤ x8 →
      vp_in (x2 ||| x5) 256 ∧
      vp_in (x3 ^^^ x5) 256 ∧
      vp_in (x3 ^^^ x5) 256 ∧
      a_Runs G sX1_leastPlan 28 [(0, .ref 5), (2, .int x2), (3, .int x3), (4, .int x4), (5, .int ((x5 - (nI 1)) &&& x3)), (6, .long (if ((((((μ.1 32 (x2 ||| x5).toNatClampNeg).toInt64) <<< ((nI 28).toInt64 &&& 63)) + (16777216 : Int64)) + (μ.2 34 (x3 ^^^ x5).toNatClampNeg)) + ((μ.1 33 (x3 ^^^ x5).toNatClampNeg).toInt64)) < x6 then ((((((μ.1 32 (x2 ||| x5).toNatClampNeg).toInt64) <<< ((nI 28).toInt64 &&& 63)) + (16777216 : Int64)) + (μ.2 34 (x3 ^^^ x5).toNatClampNeg)) + ((μ.1 33 (x3 ^^^ x5).toNatClampNeg).toInt64)) else x6)), (8, .int (x8 + nI 1))] [] μ post))) :
    a_Runs G sX1_leastPlan 28 [(0, .ref 5), (2, .int x2), (3, .int x3), (4, .int x4), (5, .int x5), (6, .long x6), (8, .int x8)] [] μ post := a_run (S := sX1_leastPlan) (pg := pX1_leastPlan) (tab := tX1) [(28, [0, 2, 3, 4, 5, 6, 8])] 47 (a_okT_e tX1_ok) pX1_leastPlan_ok rfl h
set_option maxRecDepth 100000 in
set_option maxHeartbeats 4000000 in
theorem w_X1_refresh_0 {G : aG} {μ : aMem} {post : aPost}  (h :
    ((¬ (μ.1 5 2) = 0 →
      a_Spec G sX1_gatherSums [.ref 5] μ (fun r1 m1 => r1 = none ∧
      a_Runs G sX1_refresh 21 [(0, .ref 5), (1, .int ((nI 1) <<< ((m1.1 5 0) &&& 31))), (2, .int (nI 1))] [] m1 post)) ∧
    ((μ.1 5 2) = 0 →
      post none μ))) :
    a_Spec G sX1_refresh [.ref 5] μ post := a_enter (by decide +kernel) rfl (a_run (S := sX1_refresh) (pg := pX1_refresh) (tab := tX1) [(21, [0, 1, 2]), (74, [0, 1, 2])] 15 (a_okT_e tX1_ok) pX1_refresh_ok rfl h)
set_option maxRecDepth 100000 in
set_option maxHeartbeats 4000000 in
theorem w_X1_refresh_21 {G : aG} {μ : aMem} {post : aPost} (x1 : Int32) (x2 : Int32) (h :
    ((x1 ≤ x2 →
      vp_in (nI 0) 256 ∧
      a_Runs G sX1_refresh 74 [(0, .ref 5), (1, .int x1), (2, .int (nI 1))] [] (μ.1, va_up μ.2 34 (vp_updL (μ.2 34) ((nI 0).toNatClampNeg) (0 : Int64))) post) ∧
    (¬ x1 ≤ x2 →
      vp_in x2 256 ∧
      a_Spec G sX5_weightOf [.ref 2, .int (μ.1 30 x2.toNatClampNeg)] μ (fun r1 m1 => ∃ v1 : Int32, r1 = some (.int v1) ∧
      vp_in x2 256 ∧
      vp_in x2 256 ∧
      a_Runs G sX1_refresh 21 [(0, .ref 5), (1, .int x1), (2, .int (x2 + nI 1))] [] (va_up m1.1 32 (upd (m1.1 32) x2.toNatClampNeg ((m1.1 5 1) + ((m1.1 31 x2.toNatClampNeg) * v1))), m1.2) post)))) :
    a_Runs G sX1_refresh 21 [(0, .ref 5), (1, .int x1), (2, .int x2)] [] μ post := a_run (S := sX1_refresh) (pg := pX1_refresh) (tab := tX1) [(21, [0, 1, 2]), (74, [0, 1, 2])] 29 (a_okT_e tX1_ok) pX1_refresh_ok rfl h
set_option maxRecDepth 100000 in
set_option maxHeartbeats 4000000 in
theorem w_X1_refresh_74 {G : aG} {μ : aMem} {post : aPost} (x1 : Int32) (x2 : Int32) (h :
    ((x1 ≤ x2 →
      ((nI 0) = 0 ∨ (nI 0) = 1) ∧
      post none (va_up μ.1 5 (upd (μ.1 5) 2 (nI 0)), μ.2)) ∧
    (¬ x1 ≤ x2 →
      a_Spec G sX1_leastPlan [.ref 5, .int x2] μ (fun r1 m1 => ∃ v1 : Int64, r1 = some (.long v1) ∧
      vp_in x2 256 ∧
      a_Runs G sX1_refresh 74 [(0, .ref 5), (1, .int x1), (2, .int (x2 + nI 1))] [] (m1.1, va_up m1.2 34 (vp_updL (m1.2 34) x2.toNatClampNeg v1)) post)))) :
    a_Runs G sX1_refresh 74 [(0, .ref 5), (1, .int x1), (2, .int x2)] [] μ post := a_run (S := sX1_refresh) (pg := pX1_refresh) (tab := tX1) [(21, [0, 1, 2]), (74, [0, 1, 2])] 15 (a_okT_e tX1_ok) pX1_refresh_ok rfl h
set_option maxRecDepth 100000 in
set_option maxHeartbeats 4000000 in
theorem w_X1_bestCost_0 {G : aG} {μ : aMem} {post : aPost}  (h :
    a_Spec G sX1_refresh [.ref 5] μ (fun r1 m1 => r1 = none ∧
    a_Spec G sX1_allBits [.ref 5] m1 (fun r2 m2 => ∃ v2 : Int32, r2 = some (.int v2) ∧
    vp_in v2 256 ∧
    post (some (.long ((m2.2 34 v2.toNatClampNeg) >>> ((nI 28).toInt64 &&& 63)))) m2))) :
    a_Spec G sX1_bestCost [.ref 5] μ post := a_enter (by decide +kernel) rfl (a_run (S := sX1_bestCost) (pg := pX1_bestCost) (tab := tX1) [] 12 (a_okT_e tX1_ok) pX1_bestCost_ok rfl h)
set_option maxRecDepth 100000 in
set_option maxHeartbeats 4000000 in
theorem w_X1_loomOf_0 {G : aG} {μ : aMem} {post : aPost} (x1 : Int32) (h :
    a_Spec G sX1_refresh [.ref 5] μ (fun r1 m1 => r1 = none ∧
    a_Spec G sX1_allBits [.ref 5] m1 (fun r2 m2 => ∃ v2 : Int32, r2 = some (.int v2) ∧
    vp_in v2 256 ∧
    a_Spec G sX1_loomShift [.int x1] m2 (fun r3 m3 => ∃ v3 : Int32, r3 = some (.int v3) ∧
    post (some (.int ((((m2.2 34 v2.toNatClampNeg) >>> (v3.toInt64 &&& 63)).toInt32) &&& (nI 7)))) m3)))) :
    a_Spec G sX1_loomOf [.ref 5, .int x1] μ post := a_enter (by decide +kernel) rfl (a_run (S := sX1_loomOf) (pg := pX1_loomOf) (tab := tX1) [] 16 (a_okT_e tX1_ok) pX1_loomOf_ok rfl h)
set_option maxRecDepth 100000 in
set_option maxHeartbeats 4000000 in
theorem w_X2_usedNets_0 {G : aG} {μ : aMem} {post : aPost}  (h :
    a_Runs G sX2_usedNets 4 [(0, .ref 6), (1, .int (nI 0)), (2, .int (nI 0))] [] μ post) :
    a_Spec G sX2_usedNets [.ref 6] μ post := a_enter (by decide +kernel) rfl (a_run (S := sX2_usedNets) (pg := pX2_usedNets) (tab := tX2) [(4, [0, 1, 2])] 7 (a_okT_e tX2_ok) pX2_usedNets_ok rfl h)
set_option maxRecDepth 100000 in
set_option maxHeartbeats 4000000 in
theorem w_X2_usedNets_4 {G : aG} {μ : aMem} {post : aPost} (x1 : Int32) (x2 : Int32) (h :
    (((nI 16) ≤ x2 →
      post (some (.int x1)) μ) ∧
    (¬ (nI 16) ≤ x2 →
      vp_in x2 16 ∧
      a_Runs G sX2_usedNets 4 [(0, .ref 6), (1, .int (x1 ||| ((nI 1) <<< ((μ.1 35 x2.toNatClampNeg) &&& 31)))), (2, .int (x2 + nI 1))] [] μ post))) :
    a_Runs G sX2_usedNets 4 [(0, .ref 6), (1, .int x1), (2, .int x2)] [] μ post := a_run (S := sX2_usedNets) (pg := pX2_usedNets) (tab := tX2) [(4, [0, 1, 2])] 17 (a_okT_e tX2_ok) pX2_usedNets_ok rfl h
set_option maxRecDepth 100000 in
set_option maxHeartbeats 4000000 in
theorem w_X2_isUsed_0 {G : aG} {μ : aMem} {post : aPost} (x1 : Int32) (h :
    a_Spec G sX2_usedNets [.ref 6] μ (fun r1 m1 => ∃ v1 : Int32, r1 = some (.int v1) ∧
    a_Spec G sX6_has [.int v1, .int x1] m1 (fun r2 m2 => ∃ v2 : Int32, r2 = some (.int v2) ∧
    (v2 = 0 ∨ v2 = 1) ∧ post (some (.int v2)) m2))) :
    a_Spec G sX2_isUsed [.ref 6, .int x1] μ post := a_enter (by decide +kernel) rfl (a_run (S := sX2_isUsed) (pg := pX2_isUsed) (tab := tX2) [] 7 (a_okT_e tX2_ok) pX2_isUsed_ok rfl h)
set_option maxRecDepth 100000 in
set_option maxHeartbeats 4000000 in
theorem w_X2_testsNeeded_0 {G : aG} {μ : aMem} {post : aPost}  (h :
    a_Runs G sX2_testsNeeded 4 [(0, .ref 6), (1, .int (nI 0)), (2, .int (nI 1))] [] μ post) :
    a_Spec G sX2_testsNeeded [.ref 6] μ post := a_enter (by decide +kernel) rfl (a_run (S := sX2_testsNeeded) (pg := pX2_testsNeeded) (tab := tX2) [(4, [0, 1, 2]), (36, [1, 2, 3])] 7 (a_okT_e tX2_ok) pX2_testsNeeded_ok rfl h)
set_option maxRecDepth 100000 in
set_option maxHeartbeats 4000000 in
theorem w_X2_testsNeeded_4 {G : aG} {μ : aMem} {post : aPost} (x1 : Int32) (x2 : Int32) (h :
    (((nI 16) ≤ x2 →
      a_Runs G sX2_testsNeeded 36 [(1, .int x1), (2, .int (nI 0)), (3, .int (nI 0))] [] μ post) ∧
    (¬ (nI 16) ≤ x2 →
      vp_in x2 16 ∧
      vp_in (nI 0) 16 ∧
      a_Runs G sX2_testsNeeded 4 [(0, .ref 6), (1, .int (x1 ||| ((μ.1 35 x2.toNatClampNeg) ^^^ (μ.1 35 (nI 0).toNatClampNeg)))), (2, .int (x2 + nI 1))] [] μ post))) :
    a_Runs G sX2_testsNeeded 4 [(0, .ref 6), (1, .int x1), (2, .int x2)] [] μ post := a_run (S := sX2_testsNeeded) (pg := pX2_testsNeeded) (tab := tX2) [(4, [0, 1, 2]), (36, [1, 2, 3])] 20 (a_okT_e tX2_ok) pX2_testsNeeded_ok rfl h
set_option maxRecDepth 100000 in
set_option maxHeartbeats 4000000 in
theorem w_X2_testsNeeded_36 {G : aG} {μ : aMem} {post : aPost} (x1 : Int32) (x2 : Int32) (x3 : Int32) (h :
    (((nI 3) ≤ x3 →
      post (some (.int x2)) μ) ∧
    (¬ (nI 3) ≤ x3 →
      a_Spec G sX6_has [.int x1, .int x3] μ (fun r1 m1 => ∃ v1 : Int32, r1 = some (.int v1) ∧
      ((v1 = 0 →
        a_Runs G sX2_testsNeeded 36 [(1, .int x1), (2, .int x2), (3, .int (x3 + nI 1))] [] m1 post) ∧
      (¬ v1 = 0 →
        a_Runs G sX2_testsNeeded 36 [(1, .int x1), (2, .int (x3 + (nI 1))), (3, .int (x3 + nI 1))] [] m1 post)))))) :
    a_Runs G sX2_testsNeeded 36 [(1, .int x1), (2, .int x2), (3, .int x3)] [] μ post := a_run (S := sX2_testsNeeded) (pg := pX2_testsNeeded) (tab := tX2) [(4, [0, 1, 2]), (36, [1, 2, 3])] 16 (a_okT_e tX2_ok) pX2_testsNeeded_ok rfl h
set_option maxRecDepth 100000 in
set_option maxHeartbeats 4000000 in
theorem w_X2_pairsUnlikeJustIn_0 {G : aG} {μ : aMem} {post : aPost} (x1 : Int32) (h :
    a_Spec G sX2_usedNets [.ref 6] μ (fun r1 m1 => ∃ v1 : Int32, r1 = some (.int v1) ∧
    a_Runs G sX2_pairsUnlikeJustIn 10 [(1, .int x1), (2, .int v1), (3, .int (nI 0)), (4, .int (nI 0))] [] m1 post)) :
    a_Spec G sX2_pairsUnlikeJustIn [.ref 6, .int x1] μ post := a_enter (by decide +kernel) rfl (a_run (S := sX2_pairsUnlikeJustIn) (pg := pX2_pairsUnlikeJustIn) (tab := tX2) [(10, [1, 2, 3, 4]), (23, [1, 2, 3, 4, 5])] 10 (a_okT_e tX2_ok) pX2_pairsUnlikeJustIn_ok rfl h)
set_option maxRecDepth 100000 in
set_option maxHeartbeats 4000000 in
theorem w_X2_pairsUnlikeJustIn_10 {G : aG} {μ : aMem} {post : aPost} (x1 : Int32) (x2 : Int32) (x3 : Int32) (x4 : Int32) (h :
    (((nI 8) ≤ x4 →
      post (some (.int x3)) μ) ∧
    (¬ (nI 8) ≤ x4 →
      a_Runs G sX2_pairsUnlikeJustIn 23 [(1, .int x1), (2, .int x2), (3, .int x3), (4, .int x4), (5, .int (x4 + (nI 1)))] [] μ post))) :
    a_Runs G sX2_pairsUnlikeJustIn 10 [(1, .int x1), (2, .int x2), (3, .int x3), (4, .int x4)] [] μ post := a_run (S := sX2_pairsUnlikeJustIn) (pg := pX2_pairsUnlikeJustIn) (tab := tX2) [(10, [1, 2, 3, 4]), (23, [1, 2, 3, 4, 5])] 10 (a_okT_e tX2_ok) pX2_pairsUnlikeJustIn_ok rfl h
set_option maxRecDepth 100000 in
set_option maxHeartbeats 4000000 in
theorem w_X2_pairsUnlikeJustIn_23 {G : aG} {μ : aMem} {post : aPost} (x1 : Int32) (x2 : Int32) (x3 : Int32) (x4 : Int32) (x5 : Int32) (h :
    (((nI 8) ≤ x5 →
      a_Runs G sX2_pairsUnlikeJustIn 10 [(1, .int x1), (2, .int x2), (3, .int x3), (4, .int (x4 + nI 1))] [] μ post) ∧
    (¬ (nI 8) ≤ x5 →
      a_Spec G sX6_has [.int x2, .int x4] μ (fun r1 m1 => ∃ v1 : Int32, r1 = some (.int v1) ∧
      ((v1 = 0 →
        a_Runs G sX2_pairsUnlikeJustIn 23 [(1, .int x1), (2, .int x2), (3, .int x3), (4, .int x4), (5, .int (x5 + nI 1))] [] m1 post) ∧
      (¬ v1 = 0 →
        a_Spec G sX6_has [.int x2, .int x5] m1 (fun r2 m2 => ∃ v2 : Int32, r2 = some (.int v2) ∧
        ((v2 = 0 →
          a_Runs G sX2_pairsUnlikeJustIn 23 [(1, .int x1), (2, .int x2), (3, .int x3), (4, .int x4), (5, .int (x5 + nI 1))] [] m2 post) ∧
        (¬ v2 = 0 →
          ((¬ (x4 ^^^ x5) = x1 →
            a_Runs G sX2_pairsUnlikeJustIn 23 [(1, .int x1), (2, .int x2), (3, .int x3), (4, .int x4), (5, .int (x5 + nI 1))] [] m2 post) ∧
          ((x4 ^^^ x5) = x1 →
            a_Runs G sX2_pairsUnlikeJustIn 23 [(1, .int x1), (2, .int x2), (3, .int (x3 + nI 1)), (4, .int x4), (5, .int (x5 + nI 1))] [] m2 post))))))))))) :
    a_Runs G sX2_pairsUnlikeJustIn 23 [(1, .int x1), (2, .int x2), (3, .int x3), (4, .int x4), (5, .int x5)] [] μ post := a_run (S := sX2_pairsUnlikeJustIn) (pg := pX2_pairsUnlikeJustIn) (tab := tX2) [(10, [1, 2, 3, 4]), (23, [1, 2, 3, 4, 5])] 22 (a_okT_e tX2_ok) pX2_pairsUnlikeJustIn_ok rfl h
set_option maxRecDepth 100000 in
set_option maxHeartbeats 4000000 in
theorem w_X3_open_0 {G : aG} {μ : aMem} {post : aPost} (x1 : Int32) (h :
    a_Runs G sX3_open 2 [(0, .ref 3), (1, .int x1), (2, .int (nI 0))] [] μ post) :
    a_Spec G sX3_open [.ref 3, .int x1] μ post := a_enter (by decide +kernel) rfl (a_run (S := sX3_open) (pg := pX3_open) (tab := tX3) [(2, [0, 1, 2])] 5 (a_okT_e tX3_ok) pX3_open_ok rfl h)
set_option maxRecDepth 100000 in
set_option maxHeartbeats 4000000 in
theorem w_X3_open_2 {G : aG} {μ : aMem} {post : aPost} (x1 : Int32) (x2 : Int32) (h :
    (((μ.1 1 0) ≤ x2 →
      post none μ) ∧
    (¬ (μ.1 1 0) ≤ x2 →
      a_Spec G sX6_has [.int x1, .int x2] μ (fun r1 m1 => ∃ v1 : Int32, r1 = some (.int v1) ∧
      ((v1 = 0 →
        vp_in x2 16 ∧
        vp_in x2 16 ∧
        a_Runs G sX3_open 2 [(0, .ref 3), (1, .int x1), (2, .int (x2 + nI 1))] [] (va_up (va_up m1.1 22 (upd (m1.1 22) x2.toNatClampNeg (nI 1000000))) 23 (upd (m1.1 23) x2.toNatClampNeg (nI 1000000)), m1.2) post) ∧
      (¬ v1 = 0 →
        vp_in x2 16 ∧
        vp_in x2 16 ∧
        vp_in x2 16 ∧
        a_Runs G sX3_open 2 [(0, .ref 3), (1, .int x1), (2, .int (x2 + nI 1))] [] (va_up (va_up m1.1 22 (upd (m1.1 22) x2.toNatClampNeg (((m1.1 10 x2.toNatClampNeg) * (nI 32)) + (nI 1)))) 23 (upd (m1.1 23) x2.toNatClampNeg (((m1.1 10 x2.toNatClampNeg) * (nI 32)) + (nI 1))), m1.2) post)))))) :
    a_Runs G sX3_open 2 [(0, .ref 3), (1, .int x1), (2, .int x2)] [] μ post := a_run (S := sX3_open) (pg := pX3_open) (tab := tX3) [(2, [0, 1, 2])] 35 (a_okT_e tX3_ok) pX3_open_ok rfl h
set_option maxRecDepth 100000 in
set_option maxHeartbeats 4000000 in
theorem w_J7_filla_0 {G : aG} {μ : aMem} {post : aPost} (x1 : Int32) (h :
    a_Runs G sJ7_fill_53178 5 [(0, .ref 24), (1, .int x1), (2, .int (nI 0)), (3, .int (Int32.ofNat 10))] [] μ post) :
    a_Spec G sJ7_fill_53178 [.ref 24, .int x1] μ post := a_enter (by decide +kernel) rfl (a_run (S := sJ7_fill_53178) (pg := pJ7_fill_53178) (tab := tJ7) [(5, [0, 1, 2, 3])] 8 (a_okT_e tJ7_ok) pJ7_fill_53178_ok rfl h)
set_option maxRecDepth 100000 in
set_option maxHeartbeats 4000000 in
theorem w_J7_filla_5 {G : aG} {μ : aMem} {post : aPost} (x1 : Int32) (x2 : Int32) (x3 : Int32) (h :
    ((x3 ≤ x2 →
      post none μ) ∧
    (¬ x3 ≤ x2 →
      vp_in x2 10 ∧
      a_Runs G sJ7_fill_53178 5 [(0, .ref 24), (1, .int x1), (2, .int (x2 + nI 1)), (3, .int x3)] [] (va_up μ.1 24 (upd (μ.1 24) x2.toNatClampNeg x1), μ.2) post))) :
    a_Runs G sJ7_fill_53178 5 [(0, .ref 24), (1, .int x1), (2, .int x2), (3, .int x3)] [] μ post := a_run (S := sJ7_fill_53178) (pg := pJ7_fill_53178) (tab := tJ7) [(5, [0, 1, 2, 3])] 12 (a_okT_e tJ7_ok) pJ7_fill_53178_ok rfl h
set_option maxRecDepth 100000 in
set_option maxHeartbeats 4000000 in
theorem w_J7_fillb_0 {G : aG} {μ : aMem} {post : aPost} (x1 : Int32) (h :
    a_Runs G sJ7_fill_53178 5 [(0, .ref 27), (1, .int x1), (2, .int (nI 0)), (3, .int (Int32.ofNat 10))] [] μ post) :
    a_Spec G sJ7_fill_53178 [.ref 27, .int x1] μ post := a_enter (by decide +kernel) rfl (a_run (S := sJ7_fill_53178) (pg := pJ7_fill_53178) (tab := tJ7) [(5, [0, 1, 2, 3])] 8 (a_okT_e tJ7_ok) pJ7_fill_53178_ok rfl h)
set_option maxRecDepth 100000 in
set_option maxHeartbeats 4000000 in
theorem w_J7_fillb_5 {G : aG} {μ : aMem} {post : aPost} (x1 : Int32) (x2 : Int32) (x3 : Int32) (h :
    ((x3 ≤ x2 →
      post none μ) ∧
    (¬ x3 ≤ x2 →
      vp_in x2 10 ∧
      a_Runs G sJ7_fill_53178 5 [(0, .ref 27), (1, .int x1), (2, .int (x2 + nI 1)), (3, .int x3)] [] (va_up μ.1 27 (upd (μ.1 27) x2.toNatClampNeg x1), μ.2) post))) :
    a_Runs G sJ7_fill_53178 5 [(0, .ref 27), (1, .int x1), (2, .int x2), (3, .int x3)] [] μ post := a_run (S := sJ7_fill_53178) (pg := pJ7_fill_53178) (tab := tJ7) [(5, [0, 1, 2, 3])] 12 (a_okT_e tJ7_ok) pJ7_fill_53178_ok rfl h
set_option maxRecDepth 100000 in
set_option maxHeartbeats 4000000 in
theorem w_X3_lower_0 {G : aG} {μ : aMem} {post : aPost} (x1 : Int32) (x2 : Int32) (x3 : Int32) (h :
    ((x3 = (nI 1000000) →
      ((nI 0) = 0 ∨ (nI 0) = 1) ∧ post (some (.int (nI 0))) μ) ∧
    (¬ x3 = (nI 1000000) →
      vp_in x2 10 ∧
      ((¬ (μ.1 24 x2.toNatClampNeg) = (nI 1000000) →
        vp_in x2 10 ∧
        vp_in x1 10 ∧
        (((x3 + (μ.1 24 x2.toNatClampNeg)) < (μ.1 24 x1.toNatClampNeg) →
          vp_in x1 10 ∧
          ((nI 1) = 0 ∨ (nI 1) = 1) ∧ post (some (.int (nI 1))) (va_up μ.1 24 (upd (μ.1 24) x1.toNatClampNeg (x3 + (μ.1 24 x2.toNatClampNeg))), μ.2)) ∧
        (¬ (x3 + (μ.1 24 x2.toNatClampNeg)) < (μ.1 24 x1.toNatClampNeg) →
          ((nI 0) = 0 ∨ (nI 0) = 1) ∧ post (some (.int (nI 0))) μ))) ∧
      ((μ.1 24 x2.toNatClampNeg) = (nI 1000000) →
        ((nI 0) = 0 ∨ (nI 0) = 1) ∧ post (some (.int (nI 0))) μ))))) :
    a_Spec G sX3_lower [.ref 3, .int x1, .int x2, .int x3] μ post := a_enter (by decide +kernel) rfl (a_run (S := sX3_lower) (pg := pX3_lower) (tab := tX3) [] 31 (a_okT_e tX3_ok) pX3_lower_ok rfl h)
set_option maxRecDepth 100000 in
set_option maxHeartbeats 4000000 in
theorem w_X3_spread_0 {G : aG} {μ : aMem} {post : aPost} (x1 : Int32) (h :
    a_Spec G sJ7_fill_53178 [.ref 24, .int (nI 1000000)] μ (fun r1 m1 => r1 = none ∧
    vp_in x1 10 ∧
    a_Runs G sX3_spread 20 [(0, .ref 3), (2, .int (nI 1)), (3, .int (nI 0))] [] (va_up m1.1 24 (upd (m1.1 24) x1.toNatClampNeg (nI 0)), m1.2) post)) :
    a_Spec G sX3_spread [.ref 3, .int x1] μ post := a_enter (by decide +kernel) rfl (a_run (S := sX3_spread) (pg := pX3_spread) (tab := tX3) [(20, [0, 2, 3]), (35, [0, 2, 3, 4])] 16 (a_okT_e tX3_ok) pX3_spread_ok rfl h)
set_option maxRecDepth 100000 in
set_option maxHeartbeats 4000000 in
theorem w_X3_spread_20 {G : aG} {μ : aMem} {post : aPost} (x2 : Int32) (x3 : Int32) (h :
    (((nI 9) ≤ x3 →
      post none μ) ∧
    (¬ (nI 9) ≤ x3 →
      ((x2 = 0 →
        post none μ) ∧
      (¬ x2 = 0 →
        a_Runs G sX3_spread 35 [(0, .ref 3), (2, .int (nI 0)), (3, .int x3), (4, .int (nI 0))] [] μ post))))) :
    a_Runs G sX3_spread 20 [(0, .ref 3), (2, .int x2), (3, .int x3)] [] μ post := a_run (S := sX3_spread) (pg := pX3_spread) (tab := tX3) [(20, [0, 2, 3]), (35, [0, 2, 3, 4])] 12 (a_okT_e tX3_ok) pX3_spread_ok rfl h
set_option maxRecDepth 100000 in
set_option maxHeartbeats 4000000 in
theorem w_X3_spread_35 {G : aG} {μ : aMem} {post : aPost} (x2 : Int32) (x3 : Int32) (x4 : Int32) (h :
    (((μ.1 1 0) ≤ x4 →
      a_Runs G sX3_spread 20 [(0, .ref 3), (2, .int x2), (3, .int (x3 + nI 1))] [] μ post) ∧
    (¬ (μ.1 1 0) ≤ x4 →
      vp_in x4 16 ∧
      vp_in x4 16 ∧
      vp_in x4 16 ∧
      a_Spec G sX3_lower [.ref 3, .int (μ.1 7 x4.toNatClampNeg), .int (μ.1 8 x4.toNatClampNeg), .int (μ.1 22 x4.toNatClampNeg)] μ (fun r1 m1 => ∃ v1 : Int32, r1 = some (.int v1) ∧
      vp_in x4 16 ∧
      vp_in x4 16 ∧
      vp_in x4 16 ∧
      a_Spec G sX3_lower [.ref 3, .int (m1.1 8 x4.toNatClampNeg), .int (m1.1 7 x4.toNatClampNeg), .int (m1.1 23 x4.toNatClampNeg)] m1 (fun r2 m2 => ∃ v2 : Int32, r2 = some (.int v2) ∧
      ((¬ x2 = 0 →
        a_Runs G sX3_spread 35 [(0, .ref 3), (2, .int (nI 1)), (3, .int x3), (4, .int (x4 + nI 1))] [] m2 post) ∧
      (x2 = 0 →
        ((¬ v1 = 0 →
          a_Runs G sX3_spread 35 [(0, .ref 3), (2, .int (nI 1)), (3, .int x3), (4, .int (x4 + nI 1))] [] m2 post) ∧
        (v1 = 0 →
          ((v2 = 0 →
            a_Runs G sX3_spread 35 [(0, .ref 3), (2, .int (nI 0)), (3, .int x3), (4, .int (x4 + nI 1))] [] m2 post) ∧
          (¬ v2 = 0 →
            a_Runs G sX3_spread 35 [(0, .ref 3), (2, .int (nI 1)), (3, .int x3), (4, .int (x4 + nI 1))] [] m2 post))))))))))) :
    a_Runs G sX3_spread 35 [(0, .ref 3), (2, .int x2), (3, .int x3), (4, .int x4)] [] μ post := a_run (S := sX3_spread) (pg := pX3_spread) (tab := tX3) [(20, [0, 2, 3]), (35, [0, 2, 3, 4])] 53 (a_okT_e tX3_ok) pX3_spread_ok rfl h
set_option maxRecDepth 100000 in
set_option maxHeartbeats 4000000 in
theorem w_X3_leastLength_0 {G : aG} {μ : aMem} {post : aPost} (x1 : Int32) (x2 : Int32) (h :
    a_Spec G sX3_spread [.ref 3, .int x2] μ (fun r1 m1 => r1 = none ∧
    vp_in x1 10 ∧
    ((¬ (m1.1 24 x1.toNatClampNeg) = (nI 1000000) →
      vp_in x1 10 ∧
      ¬ (nI 32) = 0 ∧
      post (some (.int ((m1.1 24 x1.toNatClampNeg) / (nI 32)))) m1) ∧
    ((m1.1 24 x1.toNatClampNeg) = (nI 1000000) →
      post (some (.int (-9))) m1)))) :
    a_Spec G sX3_leastLength [.ref 3, .int x1, .int x2] μ post := a_enter (by decide +kernel) rfl (a_run (S := sX3_leastLength) (pg := pX3_leastLength) (tab := tX3) [] 18 (a_okT_e tX3_ok) pX3_leastLength_ok rfl h)
set_option maxRecDepth 100000 in
set_option maxHeartbeats 4000000 in
theorem w_X3_priceFrom_0 {G : aG} {μ : aMem} {post : aPost} (x1 : Int32) (x2 : Int32) (h :
    vp_in x1 16 ∧
    ((¬ (μ.1 7 x1.toNatClampNeg) = x2 →
      vp_in x1 16 ∧
      ((¬ (μ.1 8 x1.toNatClampNeg) = x2 →
        post (some (.int (nI 1000000))) μ) ∧
      ((μ.1 8 x1.toNatClampNeg) = x2 →
        vp_in x1 16 ∧
        post (some (.int (μ.1 23 x1.toNatClampNeg))) μ))) ∧
    ((μ.1 7 x1.toNatClampNeg) = x2 →
      vp_in x1 16 ∧
      post (some (.int (μ.1 22 x1.toNatClampNeg))) μ))) :
    a_Spec G sX3_priceFrom [.ref 3, .int x1, .int x2] μ post := a_enter (by decide +kernel) rfl (a_run (S := sX3_priceFrom) (pg := pX3_priceFrom) (tab := tX3) [] 22 (a_okT_e tX3_ok) pX3_priceFrom_ok rfl h)
set_option maxRecDepth 100000 in
set_option maxHeartbeats 4000000 in
theorem w_X3_firstStep_0 {G : aG} {μ : aMem} {post : aPost} (x1 : Int32) (h :
    a_Runs G sX3_firstStep 2 [(0, .ref 3), (1, .int x1), (2, .int (nI 0))] [] μ post) :
    a_Spec G sX3_firstStep [.ref 3, .int x1] μ post := a_enter (by decide +kernel) rfl (a_run (S := sX3_firstStep) (pg := pX3_firstStep) (tab := tX3) [(2, [0, 1, 2])] 5 (a_okT_e tX3_ok) pX3_firstStep_ok rfl h)
set_option maxRecDepth 100000 in
set_option maxHeartbeats 4000000 in
theorem w_X3_firstStep_2 {G : aG} {μ : aMem} {post : aPost} (x1 : Int32) (x2 : Int32) (h :
    (((μ.1 1 0) ≤ x2 →
      post (some (.int (-9))) μ) ∧
    (¬ (μ.1 1 0) ≤ x2 →
      a_Spec G sX3_priceFrom [.ref 3, .int x2, .int x1] μ (fun r1 m1 => ∃ v1 : Int32, r1 = some (.int v1) ∧
      ((v1 = (nI 1000000) →
        a_Runs G sX3_firstStep 2 [(0, .ref 3), (1, .int x1), (2, .int (x2 + nI 1))] [] m1 post) ∧
      (¬ v1 = (nI 1000000) →
        vp_in x1 10 ∧
        a_Spec G sX0_across [.ref 1, .int x2, .int x1] m1 (fun r2 m2 => ∃ v2 : Int32, r2 = some (.int v2) ∧
        vp_in v2 10 ∧
        ((¬ (m1.1 24 x1.toNatClampNeg) = (v1 + (m2.1 24 v2.toNatClampNeg)) →
          a_Runs G sX3_firstStep 2 [(0, .ref 3), (1, .int x1), (2, .int (x2 + nI 1))] [] m2 post) ∧
        ((m1.1 24 x1.toNatClampNeg) = (v1 + (m2.1 24 v2.toNatClampNeg)) →
          post (some (.int x2)) m2))))))))) :
    a_Runs G sX3_firstStep 2 [(0, .ref 3), (1, .int x1), (2, .int x2)] [] μ post := a_run (S := sX3_firstStep) (pg := pX3_firstStep) (tab := tX3) [(2, [0, 1, 2])] 33 (a_okT_e tX3_ok) pX3_firstStep_ok rfl h
set_option maxRecDepth 100000 in
set_option maxHeartbeats 4000000 in
theorem w_X3_walk_0 {G : aG} {μ : aMem} {post : aPost} (x1 : Int32) (x2 : Int32) (h :
    a_Runs G sX3_walk 7 [(0, .ref 3), (2, .int x2), (3, .int x1)] [] (va_up μ.1 3 (upd (μ.1 3) 5 (nI 0)), μ.2) post) :
    a_Spec G sX3_walk [.ref 3, .int x1, .int x2] μ post := a_enter (by decide +kernel) rfl (a_run (S := sX3_walk) (pg := pX3_walk) (tab := tX3) [(7, [0, 2, 3])] 8 (a_okT_e tX3_ok) pX3_walk_ok rfl h)
set_option maxRecDepth 100000 in
set_option maxHeartbeats 4000000 in
theorem w_X3_walk_7 {G : aG} {μ : aMem} {post : aPost} (x2 : Int32) (x3 : Int32) (h :
    ((x3 = x2 →
      post none μ) ∧
    (¬ x3 = x2 →
      (((nI 9) ≤ (μ.1 3 5) →
        post none μ) ∧
      (¬ (nI 9) ≤ (μ.1 3 5) →
        a_Spec G sX3_firstStep [.ref 3, .int x3] μ (fun r1 m1 => ∃ v1 : Int32, r1 = some (.int v1) ∧
        ((¬ v1 = (-9) →
          vp_in (m1.1 3 5) 9 ∧
          a_Spec G sX0_across [.ref 1, .int v1, .int x3] (va_up (va_up m1.1 25 (upd (m1.1 25) ((m1.1 3 5).toNatClampNeg) v1)) 3 (upd (m1.1 3) 5 ((m1.1 3 5) + (nI 1))), m1.2) (fun r2 m2 => ∃ v2 : Int32, r2 = some (.int v2) ∧
          a_Runs G sX3_walk 7 [(0, .ref 3), (2, .int x2), (3, .int v2)] [] m2 post)) ∧
        (v1 = (-9) →
          post none m1)))))))) :
    a_Runs G sX3_walk 7 [(0, .ref 3), (2, .int x2), (3, .int x3)] [] μ post := a_run (S := sX3_walk) (pg := pX3_walk) (tab := tX3) [(7, [0, 2, 3])] 36 (a_okT_e tX3_ok) pX3_walk_ok rfl h
set_option maxRecDepth 100000 in
set_option maxHeartbeats 4000000 in
theorem w_X3_turnSteps_0 {G : aG} {μ : aMem} {post : aPost} (x1 : Int32) (h :
    a_Runs G sX3_turnSteps 4 [(0, .ref 3), (2, .int x1), (3, .int (nI 0))] [] μ post) :
    a_Spec G sX3_turnSteps [.ref 3, .int x1] μ post := a_enter (by decide +kernel) rfl (a_run (S := sX3_turnSteps) (pg := pX3_turnSteps) (tab := tX3) [(4, [0, 2, 3])] 7 (a_okT_e tX3_ok) pX3_turnSteps_ok rfl h)
set_option maxRecDepth 100000 in
set_option maxHeartbeats 4000000 in
theorem w_X3_turnSteps_4 {G : aG} {μ : aMem} {post : aPost} (x2 : Int32) (x3 : Int32) (h :
    (((μ.1 3 5) ≤ x3 →
      post none μ) ∧
    (¬ (μ.1 3 5) ≤ x3 →
      vp_in x3 9 ∧
      vp_in (μ.1 25 x3.toNatClampNeg) 16 ∧
      ((¬ (μ.1 7 (μ.1 25 x3.toNatClampNeg).toNatClampNeg) = x2 →
        (((nI 0) = 0 →
          vp_in (μ.1 25 x3.toNatClampNeg) 16 ∧
          (((nI 0) = 0 →
            vp_in (μ.1 25 x3.toNatClampNeg) 16 ∧
            (((nI 0) = 0 →
              vp_in (μ.1 25 x3.toNatClampNeg) 16 ∧
              a_Spec G sX0_across [.ref 1, .int (μ.1 25 x3.toNatClampNeg), .int x2] (va_up (va_up μ.1 22 (upd (μ.1 22) ((μ.1 25 x3.toNatClampNeg).toNatClampNeg) (-(μ.1 23 (μ.1 25 x3.toNatClampNeg).toNatClampNeg)))) 23 (upd (μ.1 23) ((μ.1 25 x3.toNatClampNeg).toNatClampNeg) (nI 1000000)), μ.2) (fun r1 m1 => ∃ v1 : Int32, r1 = some (.int v1) ∧
              a_Runs G sX3_turnSteps 4 [(0, .ref 3), (2, .int v1), (3, .int (x3 + nI 1))] [] m1 post)) ∧
            (¬ (nI 0) = 0 →
              vp_in (μ.1 25 x3.toNatClampNeg) 16 ∧
              a_Spec G sX0_across [.ref 1, .int (μ.1 25 x3.toNatClampNeg), .int x2] (va_up (va_up μ.1 22 (upd (μ.1 22) ((μ.1 25 x3.toNatClampNeg).toNatClampNeg) (-(μ.1 23 (μ.1 25 x3.toNatClampNeg).toNatClampNeg)))) 23 (upd (μ.1 23) ((μ.1 25 x3.toNatClampNeg).toNatClampNeg) (-(μ.1 23 (μ.1 25 x3.toNatClampNeg).toNatClampNeg))), μ.2) (fun r2 m2 => ∃ v2 : Int32, r2 = some (.int v2) ∧
              a_Runs G sX3_turnSteps 4 [(0, .ref 3), (2, .int v2), (3, .int (x3 + nI 1))] [] m2 post)))) ∧
          (¬ (nI 0) = 0 →
            vp_in (μ.1 25 x3.toNatClampNeg) 16 ∧
            (((nI 0) = 0 →
              vp_in (μ.1 25 x3.toNatClampNeg) 16 ∧
              a_Spec G sX0_across [.ref 1, .int (μ.1 25 x3.toNatClampNeg), .int x2] (va_up (va_up μ.1 22 (upd (μ.1 22) ((μ.1 25 x3.toNatClampNeg).toNatClampNeg) (nI 1000000))) 23 (upd (μ.1 23) ((μ.1 25 x3.toNatClampNeg).toNatClampNeg) (nI 1000000)), μ.2) (fun r3 m3 => ∃ v3 : Int32, r3 = some (.int v3) ∧
              a_Runs G sX3_turnSteps 4 [(0, .ref 3), (2, .int v3), (3, .int (x3 + nI 1))] [] m3 post)) ∧
            (¬ (nI 0) = 0 →
              vp_in (μ.1 25 x3.toNatClampNeg) 16 ∧
              a_Spec G sX0_across [.ref 1, .int (μ.1 25 x3.toNatClampNeg), .int x2] (va_up (va_up μ.1 22 (upd (μ.1 22) ((μ.1 25 x3.toNatClampNeg).toNatClampNeg) (nI 1000000))) 23 (upd (μ.1 23) ((μ.1 25 x3.toNatClampNeg).toNatClampNeg) (-(μ.1 23 (μ.1 25 x3.toNatClampNeg).toNatClampNeg))), μ.2) (fun r4 m4 => ∃ v4 : Int32, r4 = some (.int v4) ∧
              a_Runs G sX3_turnSteps 4 [(0, .ref 3), (2, .int v4), (3, .int (x3 + nI 1))] [] m4 post)))))) ∧
        (¬ (nI 0) = 0 →
          vp_in (μ.1 25 x3.toNatClampNeg) 16 ∧
          (((nI 0) = 0 →
            vp_in (μ.1 25 x3.toNatClampNeg) 16 ∧
            (((nI 0) = 0 →
              vp_in (μ.1 25 x3.toNatClampNeg) 16 ∧
              a_Spec G sX0_across [.ref 1, .int (μ.1 25 x3.toNatClampNeg), .int x2] (va_up (va_up μ.1 22 (upd (μ.1 22) ((μ.1 25 x3.toNatClampNeg).toNatClampNeg) (-(μ.1 22 (μ.1 25 x3.toNatClampNeg).toNatClampNeg)))) 23 (upd (μ.1 23) ((μ.1 25 x3.toNatClampNeg).toNatClampNeg) (nI 1000000)), μ.2) (fun r5 m5 => ∃ v5 : Int32, r5 = some (.int v5) ∧
              a_Runs G sX3_turnSteps 4 [(0, .ref 3), (2, .int v5), (3, .int (x3 + nI 1))] [] m5 post)) ∧
            (¬ (nI 0) = 0 →
              vp_in (μ.1 25 x3.toNatClampNeg) 16 ∧
              a_Spec G sX0_across [.ref 1, .int (μ.1 25 x3.toNatClampNeg), .int x2] (va_up (va_up μ.1 22 (upd (μ.1 22) ((μ.1 25 x3.toNatClampNeg).toNatClampNeg) (-(μ.1 22 (μ.1 25 x3.toNatClampNeg).toNatClampNeg)))) 23 (upd (μ.1 23) ((μ.1 25 x3.toNatClampNeg).toNatClampNeg) (-(μ.1 22 (μ.1 25 x3.toNatClampNeg).toNatClampNeg))), μ.2) (fun r6 m6 => ∃ v6 : Int32, r6 = some (.int v6) ∧
              a_Runs G sX3_turnSteps 4 [(0, .ref 3), (2, .int v6), (3, .int (x3 + nI 1))] [] m6 post)))) ∧
          (¬ (nI 0) = 0 →
            vp_in (μ.1 25 x3.toNatClampNeg) 16 ∧
            (((nI 0) = 0 →
              vp_in (μ.1 25 x3.toNatClampNeg) 16 ∧
              a_Spec G sX0_across [.ref 1, .int (μ.1 25 x3.toNatClampNeg), .int x2] (va_up (va_up μ.1 22 (upd (μ.1 22) ((μ.1 25 x3.toNatClampNeg).toNatClampNeg) (nI 1000000))) 23 (upd (μ.1 23) ((μ.1 25 x3.toNatClampNeg).toNatClampNeg) (nI 1000000)), μ.2) (fun r7 m7 => ∃ v7 : Int32, r7 = some (.int v7) ∧
              a_Runs G sX3_turnSteps 4 [(0, .ref 3), (2, .int v7), (3, .int (x3 + nI 1))] [] m7 post)) ∧
            (¬ (nI 0) = 0 →
              vp_in (μ.1 25 x3.toNatClampNeg) 16 ∧
              a_Spec G sX0_across [.ref 1, .int (μ.1 25 x3.toNatClampNeg), .int x2] (va_up (va_up μ.1 22 (upd (μ.1 22) ((μ.1 25 x3.toNatClampNeg).toNatClampNeg) (nI 1000000))) 23 (upd (μ.1 23) ((μ.1 25 x3.toNatClampNeg).toNatClampNeg) (-(μ.1 22 (μ.1 25 x3.toNatClampNeg).toNatClampNeg))), μ.2) (fun r8 m8 => ∃ v8 : Int32, r8 = some (.int v8) ∧
              a_Runs G sX3_turnSteps 4 [(0, .ref 3), (2, .int v8), (3, .int (x3 + nI 1))] [] m8 post)))))))) ∧
      ((μ.1 7 (μ.1 25 x3.toNatClampNeg).toNatClampNeg) = x2 →
        (((nI 1) = 0 →
          vp_in (μ.1 25 x3.toNatClampNeg) 16 ∧
          (((nI 1) = 0 →
            vp_in (μ.1 25 x3.toNatClampNeg) 16 ∧
            (((nI 1) = 0 →
              vp_in (μ.1 25 x3.toNatClampNeg) 16 ∧
              a_Spec G sX0_across [.ref 1, .int (μ.1 25 x3.toNatClampNeg), .int x2] (va_up (va_up μ.1 22 (upd (μ.1 22) ((μ.1 25 x3.toNatClampNeg).toNatClampNeg) (-(μ.1 23 (μ.1 25 x3.toNatClampNeg).toNatClampNeg)))) 23 (upd (μ.1 23) ((μ.1 25 x3.toNatClampNeg).toNatClampNeg) (nI 1000000)), μ.2) (fun r9 m9 => ∃ v9 : Int32, r9 = some (.int v9) ∧
              a_Runs G sX3_turnSteps 4 [(0, .ref 3), (2, .int v9), (3, .int (x3 + nI 1))] [] m9 post)) ∧
            (¬ (nI 1) = 0 →
              vp_in (μ.1 25 x3.toNatClampNeg) 16 ∧
              a_Spec G sX0_across [.ref 1, .int (μ.1 25 x3.toNatClampNeg), .int x2] (va_up (va_up μ.1 22 (upd (μ.1 22) ((μ.1 25 x3.toNatClampNeg).toNatClampNeg) (-(μ.1 23 (μ.1 25 x3.toNatClampNeg).toNatClampNeg)))) 23 (upd (μ.1 23) ((μ.1 25 x3.toNatClampNeg).toNatClampNeg) (-(μ.1 23 (μ.1 25 x3.toNatClampNeg).toNatClampNeg))), μ.2) (fun r10 m10 => ∃ v10 : Int32, r10 = some (.int v10) ∧
              a_Runs G sX3_turnSteps 4 [(0, .ref 3), (2, .int v10), (3, .int (x3 + nI 1))] [] m10 post)))) ∧
          (¬ (nI 1) = 0 →
            vp_in (μ.1 25 x3.toNatClampNeg) 16 ∧
            (((nI 1) = 0 →
              vp_in (μ.1 25 x3.toNatClampNeg) 16 ∧
              a_Spec G sX0_across [.ref 1, .int (μ.1 25 x3.toNatClampNeg), .int x2] (va_up (va_up μ.1 22 (upd (μ.1 22) ((μ.1 25 x3.toNatClampNeg).toNatClampNeg) (nI 1000000))) 23 (upd (μ.1 23) ((μ.1 25 x3.toNatClampNeg).toNatClampNeg) (nI 1000000)), μ.2) (fun r11 m11 => ∃ v11 : Int32, r11 = some (.int v11) ∧
              a_Runs G sX3_turnSteps 4 [(0, .ref 3), (2, .int v11), (3, .int (x3 + nI 1))] [] m11 post)) ∧
            (¬ (nI 1) = 0 →
              vp_in (μ.1 25 x3.toNatClampNeg) 16 ∧
              a_Spec G sX0_across [.ref 1, .int (μ.1 25 x3.toNatClampNeg), .int x2] (va_up (va_up μ.1 22 (upd (μ.1 22) ((μ.1 25 x3.toNatClampNeg).toNatClampNeg) (nI 1000000))) 23 (upd (μ.1 23) ((μ.1 25 x3.toNatClampNeg).toNatClampNeg) (-(μ.1 23 (μ.1 25 x3.toNatClampNeg).toNatClampNeg))), μ.2) (fun r12 m12 => ∃ v12 : Int32, r12 = some (.int v12) ∧
              a_Runs G sX3_turnSteps 4 [(0, .ref 3), (2, .int v12), (3, .int (x3 + nI 1))] [] m12 post)))))) ∧
        (¬ (nI 1) = 0 →
          vp_in (μ.1 25 x3.toNatClampNeg) 16 ∧
          (((nI 1) = 0 →
            vp_in (μ.1 25 x3.toNatClampNeg) 16 ∧
            (((nI 1) = 0 →
              vp_in (μ.1 25 x3.toNatClampNeg) 16 ∧
              a_Spec G sX0_across [.ref 1, .int (μ.1 25 x3.toNatClampNeg), .int x2] (va_up (va_up μ.1 22 (upd (μ.1 22) ((μ.1 25 x3.toNatClampNeg).toNatClampNeg) (-(μ.1 22 (μ.1 25 x3.toNatClampNeg).toNatClampNeg)))) 23 (upd (μ.1 23) ((μ.1 25 x3.toNatClampNeg).toNatClampNeg) (nI 1000000)), μ.2) (fun r13 m13 => ∃ v13 : Int32, r13 = some (.int v13) ∧
              a_Runs G sX3_turnSteps 4 [(0, .ref 3), (2, .int v13), (3, .int (x3 + nI 1))] [] m13 post)) ∧
            (¬ (nI 1) = 0 →
              vp_in (μ.1 25 x3.toNatClampNeg) 16 ∧
              a_Spec G sX0_across [.ref 1, .int (μ.1 25 x3.toNatClampNeg), .int x2] (va_up (va_up μ.1 22 (upd (μ.1 22) ((μ.1 25 x3.toNatClampNeg).toNatClampNeg) (-(μ.1 22 (μ.1 25 x3.toNatClampNeg).toNatClampNeg)))) 23 (upd (μ.1 23) ((μ.1 25 x3.toNatClampNeg).toNatClampNeg) (-(μ.1 22 (μ.1 25 x3.toNatClampNeg).toNatClampNeg))), μ.2) (fun r14 m14 => ∃ v14 : Int32, r14 = some (.int v14) ∧
              a_Runs G sX3_turnSteps 4 [(0, .ref 3), (2, .int v14), (3, .int (x3 + nI 1))] [] m14 post)))) ∧
          (¬ (nI 1) = 0 →
            vp_in (μ.1 25 x3.toNatClampNeg) 16 ∧
            (((nI 1) = 0 →
              vp_in (μ.1 25 x3.toNatClampNeg) 16 ∧
              a_Spec G sX0_across [.ref 1, .int (μ.1 25 x3.toNatClampNeg), .int x2] (va_up (va_up μ.1 22 (upd (μ.1 22) ((μ.1 25 x3.toNatClampNeg).toNatClampNeg) (nI 1000000))) 23 (upd (μ.1 23) ((μ.1 25 x3.toNatClampNeg).toNatClampNeg) (nI 1000000)), μ.2) (fun r15 m15 => ∃ v15 : Int32, r15 = some (.int v15) ∧
              a_Runs G sX3_turnSteps 4 [(0, .ref 3), (2, .int v15), (3, .int (x3 + nI 1))] [] m15 post)) ∧
            (¬ (nI 1) = 0 →
              vp_in (μ.1 25 x3.toNatClampNeg) 16 ∧
              a_Spec G sX0_across [.ref 1, .int (μ.1 25 x3.toNatClampNeg), .int x2] (va_up (va_up μ.1 22 (upd (μ.1 22) ((μ.1 25 x3.toNatClampNeg).toNatClampNeg) (nI 1000000))) 23 (upd (μ.1 23) ((μ.1 25 x3.toNatClampNeg).toNatClampNeg) (-(μ.1 22 (μ.1 25 x3.toNatClampNeg).toNatClampNeg))), μ.2) (fun r16 m16 => ∃ v16 : Int32, r16 = some (.int v16) ∧
              a_Runs G sX3_turnSteps 4 [(0, .ref 3), (2, .int v16), (3, .int (x3 + nI 1))] [] m16 post)))))))))))) :
    a_Runs G sX3_turnSteps 4 [(0, .ref 3), (2, .int x2), (3, .int x3)] [] μ post := a_run (S := sX3_turnSteps) (pg := pX3_turnSteps) (tab := tX3) [(4, [0, 2, 3])] 55 (a_okT_e tX3_ok) pX3_turnSteps_ok rfl h
set_option maxRecDepth 100000 in
set_option maxHeartbeats 4000000 in
theorem w_X3_leastLengthOfTwo_0 {G : aG} {μ : aMem} {post : aPost} (x1 : Int32) (x2 : Int32) (h :
    a_Spec G sX0_allBits [.ref 1] μ (fun r1 m1 => ∃ v1 : Int32, r1 = some (.int v1) ∧
    a_Spec G sX3_open [.ref 3, .int v1] m1 (fun r2 m2 => r2 = none ∧
    a_Spec G sX3_spread [.ref 3, .int x2] m2 (fun r3 m3 => r3 = none ∧
    vp_in x1 10 ∧
    ((¬ (m3.1 24 x1.toNatClampNeg) = (nI 1000000) →
      vp_in x1 10 ∧
      a_Spec G sX3_walk [.ref 3, .int x1, .int x2] m3 (fun r4 m4 => r4 = none ∧
      a_Spec G sX3_turnSteps [.ref 3, .int x1] m4 (fun r5 m5 => r5 = none ∧
      a_Spec G sX3_spread [.ref 3, .int x2] m5 (fun r6 m6 => r6 = none ∧
      vp_in x1 10 ∧
      ((¬ (m6.1 24 x1.toNatClampNeg) = (nI 1000000) →
        vp_in x1 10 ∧
        ¬ (nI 32) = 0 ∧
        post (some (.int (((m3.1 24 x1.toNatClampNeg) + (m6.1 24 x1.toNatClampNeg)) / (nI 32)))) m6) ∧
      ((m6.1 24 x1.toNatClampNeg) = (nI 1000000) →
        post (some (.int (-9))) m6)))))) ∧
    ((m3.1 24 x1.toNatClampNeg) = (nI 1000000) →
      post (some (.int (-9))) m3)))))) :
    a_Spec G sX3_leastLengthOfTwo [.ref 3, .int x1, .int x2] μ post := a_enter (by decide +kernel) rfl (a_run (S := sX3_leastLengthOfTwo) (pg := pX3_leastLengthOfTwo) (tab := tX3) [] 46 (a_okT_e tX3_ok) pX3_leastLengthOfTwo_ok rfl h)
set_option maxRecDepth 100000 in
set_option maxHeartbeats 4000000 in
theorem w_X4_headOf_0 {G : aG} {μ : aMem} {post : aPost} (x1 : Int32) (h :
    a_Runs G sX4_headOf 4 [(0, .ref 4), (2, .int x1), (3, .int (nI 0))] [] μ post) :
    a_Spec G sX4_headOf [.ref 4, .int x1] μ post := a_enter (by decide +kernel) rfl (a_run (S := sX4_headOf) (pg := pX4_headOf) (tab := tX4) [(4, [0, 2, 3])] 7 (a_okT_e tX4_ok) pX4_headOf_ok rfl h)
set_option maxRecDepth 100000 in
set_option maxHeartbeats 4000000 in
theorem w_X4_headOf_4 {G : aG} {μ : aMem} {post : aPost} (x2 : Int32) (x3 : Int32) (h :
    (((nI 10) ≤ x3 →
      post (some (.int x2)) μ) ∧
    (¬ (nI 10) ≤ x3 →
      vp_in x2 10 ∧
      (((μ.1 26 x2.toNatClampNeg) = x2 →
        post (some (.int x2)) μ) ∧
      (¬ (μ.1 26 x2.toNatClampNeg) = x2 →
        vp_in x2 10 ∧
        a_Runs G sX4_headOf 4 [(0, .ref 4), (2, .int (μ.1 26 x2.toNatClampNeg)), (3, .int (x3 + nI 1))] [] μ post))))) :
    a_Runs G sX4_headOf 4 [(0, .ref 4), (2, .int x2), (3, .int x3)] [] μ post := a_run (S := sX4_headOf) (pg := pX4_headOf) (tab := tX4) [(4, [0, 2, 3])] 19 (a_okT_e tX4_ok) pX4_headOf_ok rfl h
set_option maxRecDepth 100000 in
set_option maxHeartbeats 4000000 in
theorem w_X4_joins_0 {G : aG} {μ : aMem} {post : aPost} (x1 : Int32) (x2 : Int32) (h :
    vp_in x1 16 ∧
    ((((μ.1 9 x1.toNatClampNeg) &&& (x2 ^^^ (-1))) = 0 →
      vp_in x1 16 ∧
      a_Spec G sX4_headOf [.ref 4, .int (μ.1 7 x1.toNatClampNeg)] μ (fun r1 m1 => ∃ v1 : Int32, r1 = some (.int v1) ∧
      vp_in x1 16 ∧
      a_Spec G sX4_headOf [.ref 4, .int (m1.1 8 x1.toNatClampNeg)] m1 (fun r2 m2 => ∃ v2 : Int32, r2 = some (.int v2) ∧
      vp_in v1 10 ∧
      ((v1 = v2 →
        ((nI 0) = 0 ∨ (nI 0) = 1) ∧ post (some (.int (nI 0))) (va_up m2.1 26 (upd (m2.1 26) v1.toNatClampNeg v2), m2.2)) ∧
      (¬ v1 = v2 →
        ((nI 1) = 0 ∨ (nI 1) = 1) ∧ post (some (.int (nI 1))) (va_up m2.1 26 (upd (m2.1 26) v1.toNatClampNeg v2), m2.2)))))) ∧
    (¬ ((μ.1 9 x1.toNatClampNeg) &&& (x2 ^^^ (-1))) = 0 →
      ((nI 0) = 0 ∨ (nI 0) = 1) ∧ post (some (.int (nI 0))) μ))) :
    a_Spec G sX4_joins [.ref 4, .int x1, .int x2] μ post := a_enter (by decide +kernel) rfl (a_run (S := sX4_joins) (pg := pX4_joins) (tab := tX4) [] 39 (a_okT_e tX4_ok) pX4_joins_ok rfl h)
set_option maxRecDepth 100000 in
set_option maxHeartbeats 4000000 in
theorem w_X4_treeLength_0 {G : aG} {μ : aMem} {post : aPost} (x1 : Int32) (h :
    a_Runs G sX4_treeLength 2 [(0, .ref 4), (1, .int x1), (2, .int (nI 0))] [] μ post) :
    a_Spec G sX4_treeLength [.ref 4, .int x1] μ post := a_enter (by decide +kernel) rfl (a_run (S := sX4_treeLength) (pg := pX4_treeLength) (tab := tX4) [(2, [0, 1, 2]), (33, [0, 1, 2, 3, 4])] 5 (a_okT_e tX4_ok) pX4_treeLength_ok rfl h)
set_option maxRecDepth 100000 in
set_option maxHeartbeats 4000000 in
theorem w_X4_treeLength_2 {G : aG} {μ : aMem} {post : aPost} (x1 : Int32) (x2 : Int32) (h :
    (((nI 10) ≤ x2 →
      a_Spec G sJ6_bitCount_0f7a4 [.int x1] μ (fun r1 m1 => ∃ v1 : Int32, r1 = some (.int v1) ∧
      a_Runs G sX4_treeLength 33 [(0, .ref 4), (1, .int x1), (2, .int (v1 - (nI 1))), (3, .int (nI 0)), (4, .int (nI 0))] [] m1 post)) ∧
    (¬ (nI 10) ≤ x2 →
      vp_in x2 10 ∧
      a_Runs G sX4_treeLength 2 [(0, .ref 4), (1, .int x1), (2, .int (x2 + nI 1))] [] (va_up μ.1 26 (upd (μ.1 26) x2.toNatClampNeg x2), μ.2) post))) :
    a_Runs G sX4_treeLength 2 [(0, .ref 4), (1, .int x1), (2, .int x2)] [] μ post := a_run (S := sX4_treeLength) (pg := pX4_treeLength) (tab := tX4) [(2, [0, 1, 2]), (33, [0, 1, 2, 3, 4])] 15 (a_okT_e tX4_ok) pX4_treeLength_ok rfl h
set_option maxRecDepth 100000 in
set_option maxHeartbeats 4000000 in
theorem w_X4_treeLength_33 {G : aG} {μ : aMem} {post : aPost} (x1 : Int32) (x2 : Int32) (x3 : Int32) (x4 : Int32) (h :
    (((μ.1 1 0) ≤ x4 →
      ((¬ x2 = 0 →
        post (some (.int (nI 1000000))) μ) ∧
      (x2 = 0 →
        post (some (.int x3)) μ))) ∧
    (¬ (μ.1 1 0) ≤ x4 →
      ((x2 ≤ 0 →
        ((¬ x2 = 0 →
          post (some (.int (nI 1000000))) μ) ∧
        (x2 = 0 →
          post (some (.int x3)) μ))) ∧
      (¬ x2 ≤ 0 →
        vp_in x4 16 ∧
        a_Spec G sX4_joins [.ref 4, .int (μ.1 12 x4.toNatClampNeg), .int x1] μ (fun r1 m1 => ∃ v1 : Int32, r1 = some (.int v1) ∧
        ((v1 = 0 →
          a_Runs G sX4_treeLength 33 [(0, .ref 4), (1, .int x1), (2, .int x2), (3, .int x3), (4, .int (x4 + nI 1))] [] m1 post) ∧
        (¬ v1 = 0 →
          vp_in (μ.1 12 x4.toNatClampNeg) 16 ∧
          a_Runs G sX4_treeLength 33 [(0, .ref 4), (1, .int x1), (2, .int (x2 + (-1))), (3, .int (x3 + (m1.1 10 (μ.1 12 x4.toNatClampNeg).toNatClampNeg))), (4, .int (x4 + nI 1))] [] m1 post)))))))) :
    a_Runs G sX4_treeLength 33 [(0, .ref 4), (1, .int x1), (2, .int x2), (3, .int x3), (4, .int x4)] [] μ post := a_run (S := sX4_treeLength) (pg := pX4_treeLength) (tab := tX4) [(2, [0, 1, 2]), (33, [0, 1, 2, 3, 4])] 32 (a_okT_e tX4_ok) pX4_treeLength_ok rfl h
set_option maxRecDepth 100000 in
set_option maxHeartbeats 4000000 in
theorem w_X4_note_0 {G : aG} {μ : aMem} {post : aPost} (x1 : Int32) (x2 : Int32) (h :
    ((¬ x2 = (nI 1000000) →
      a_Runs G sX4_note 21 [(0, .ref 4), (1, .int x1), (2, .int x2), (3, .int (nI 0))] [] (va_up μ.1 4 (upd (μ.1 4) 3 (if x2 < (μ.1 4 3) then x2 else (μ.1 4 3))), μ.2) post) ∧
    (x2 = (nI 1000000) →
      post none μ))) :
    a_Spec G sX4_note [.ref 4, .int x1, .int x2] μ post := a_enter (by decide +kernel) rfl (a_run (S := sX4_note) (pg := pX4_note) (tab := tX4) [(21, [0, 1, 2, 3])] 14 (a_okT_e tX4_ok) pX4_note_ok rfl h)
set_option maxRecDepth 100000 in
set_option maxHeartbeats 4000000 in
theorem w_X4_note_21 {G : aG} {μ : aMem} {post : aPost} (x1 : Int32) (x2 : Int32) (x3 : Int32) (h :
    (((nI 10) ≤ x3 →
      post none μ) ∧
    (¬ (nI 10) ≤ x3 →
      a_Spec G sX6_has [.int x1, .int x3] μ (fun r1 m1 => ∃ v1 : Int32, r1 = some (.int v1) ∧
      ((¬ v1 = 0 →
        a_Runs G sX4_note 21 [(0, .ref 4), (1, .int x1), (2, .int x2), (3, .int (x3 + nI 1))] [] m1 post) ∧
      (v1 = 0 →
        vp_in x3 10 ∧
        (((m1.1 27 x3.toNatClampNeg) ≤ x2 →
          a_Runs G sX4_note 21 [(0, .ref 4), (1, .int x1), (2, .int x2), (3, .int (x3 + nI 1))] [] m1 post) ∧
        (¬ (m1.1 27 x3.toNatClampNeg) ≤ x2 →
          vp_in x3 10 ∧
          a_Runs G sX4_note 21 [(0, .ref 4), (1, .int x1), (2, .int x2), (3, .int (x3 + nI 1))] [] (va_up m1.1 27 (upd (m1.1 27) x3.toNatClampNeg x2), m1.2) post)))))))) :
    a_Runs G sX4_note 21 [(0, .ref 4), (1, .int x1), (2, .int x2), (3, .int x3)] [] μ post := a_run (S := sX4_note) (pg := pX4_note) (tab := tX4) [(21, [0, 1, 2, 3])] 23 (a_okT_e tX4_ok) pX4_note_ok rfl h
set_option maxRecDepth 100000 in
set_option maxHeartbeats 4000000 in
theorem w_X4_compare_0 {G : aG} {μ : aMem} {post : aPost} (x1 : Int32) (h :
    a_Spec G sJ7_fill_53178 [.ref 27, .int (nI 1000000)] (va_up μ.1 4 (upd (μ.1 4) 3 (nI 1000000)), μ.2) (fun r1 m1 => r1 = none ∧
    a_Runs G sX4_compare 17 [(0, .ref 4), (1, .int x1), (2, .int (nI 0))] [] m1 post)) :
    a_Spec G sX4_compare [.ref 4, .int x1] μ post := a_enter (by decide +kernel) rfl (a_run (S := sX4_compare) (pg := pX4_compare) (tab := tX4) [(17, [0, 1, 2])] 12 (a_okT_e tX4_ok) pX4_compare_ok rfl h)
set_option maxRecDepth 100000 in
set_option maxHeartbeats 4000000 in
theorem w_X4_compare_17 {G : aG} {μ : aMem} {post : aPost} (x1 : Int32) (x2 : Int32) (h :
    (((nI 1024) ≤ x2 →
      post none μ) ∧
    (¬ (nI 1024) ≤ x2 →
      ((¬ (x2 &&& x1) = x1 →
        a_Runs G sX4_compare 17 [(0, .ref 4), (1, .int x1), (2, .int (x2 + nI 1))] [] μ post) ∧
      ((x2 &&& x1) = x1 →
        a_Spec G sX4_treeLength [.ref 4, .int x2] μ (fun r1 m1 => ∃ v1 : Int32, r1 = some (.int v1) ∧
        a_Spec G sX4_note [.ref 4, .int x2, .int v1] m1 (fun r2 m2 => r2 = none ∧
        a_Runs G sX4_compare 17 [(0, .ref 4), (1, .int x1), (2, .int (x2 + nI 1))] [] m2 post))))))) :
    a_Runs G sX4_compare 17 [(0, .ref 4), (1, .int x1), (2, .int x2)] [] μ post := a_run (S := sX4_compare) (pg := pX4_compare) (tab := tX4) [(17, [0, 1, 2])] 19 (a_okT_e tX4_ok) pX4_compare_ok rfl h
set_option maxRecDepth 100000 in
set_option maxHeartbeats 4000000 in
theorem w_X4_firstNeeded_0 {G : aG} {μ : aMem} {post : aPost} (x1 : Int32) (h :
    ((¬ (μ.1 4 3) = (nI 1000000) →
      a_Runs G sX4_firstNeeded 14 [(0, .ref 4), (1, .int x1), (2, .int (nI 0))] [] μ post) ∧
    ((μ.1 4 3) = (nI 1000000) →
      post (some (.int (-9))) μ))) :
    a_Spec G sX4_firstNeeded [.ref 4, .int x1] μ post := a_enter (by decide +kernel) rfl (a_run (S := sX4_firstNeeded) (pg := pX4_firstNeeded) (tab := tX4) [(14, [0, 1, 2])] 9 (a_okT_e tX4_ok) pX4_firstNeeded_ok rfl h)
set_option maxRecDepth 100000 in
set_option maxHeartbeats 4000000 in
theorem w_X4_firstNeeded_14 {G : aG} {μ : aMem} {post : aPost} (x1 : Int32) (x2 : Int32) (h :
    (((nI 10) ≤ x2 →
      post (some (.int (-9))) μ) ∧
    (¬ (nI 10) ≤ x2 →
      a_Spec G sX6_has [.int x1, .int x2] μ (fun r1 m1 => ∃ v1 : Int32, r1 = some (.int v1) ∧
      ((¬ v1 = 0 →
        a_Runs G sX4_firstNeeded 14 [(0, .ref 4), (1, .int x1), (2, .int (x2 + nI 1))] [] m1 post) ∧
      (v1 = 0 →
        vp_in x2 10 ∧
        (((m1.1 27 x2.toNatClampNeg) ≤ (m1.1 4 3) →
          a_Runs G sX4_firstNeeded 14 [(0, .ref 4), (1, .int x1), (2, .int (x2 + nI 1))] [] m1 post) ∧
        (¬ (m1.1 27 x2.toNatClampNeg) ≤ (m1.1 4 3) →
          post (some (.int x2)) m1)))))))) :
    a_Runs G sX4_firstNeeded 14 [(0, .ref 4), (1, .int x1), (2, .int x2)] [] μ post := a_run (S := sX4_firstNeeded) (pg := pX4_firstNeeded) (tab := tX4) [(14, [0, 1, 2])] 19 (a_okT_e tX4_ok) pX4_firstNeeded_ok rfl h
set_option maxRecDepth 100000 in
set_option maxHeartbeats 4000000 in
theorem w_X5_add_0 {G : aG} {μ : aMem} {post : aPost} (x1 : Int32) (x2 : Int32) (x3 : Int32) (x4 : Int32) (h :
    vp_in (μ.1 2 0) 20 ∧
    vp_in (μ.1 2 0) 20 ∧
    vp_in (μ.1 2 0) 20 ∧
    vp_in (μ.1 2 0) 20 ∧
    post (some (.int (μ.1 2 0))) (va_up (va_up (va_up (va_up (va_up μ.1 13 (upd (μ.1 13) ((μ.1 2 0).toNatClampNeg) x1)) 14 (upd (μ.1 14) ((μ.1 2 0).toNatClampNeg) x2)) 15 (upd (μ.1 15) ((μ.1 2 0).toNatClampNeg) x3)) 16 (upd (μ.1 16) ((μ.1 2 0).toNatClampNeg) x4)) 2 (upd (μ.1 2) 0 ((μ.1 2 0) + (nI 1))), μ.2)) :
    a_Spec G sX5_add [.ref 2, .int x1, .int x2, .int x3, .int x4] μ post := a_enter (by decide +kernel) rfl (a_run (S := sX5_add) (pg := pX5_add) (tab := tX5) [] 32 (a_okT_e tX5_ok) pX5_add_ok rfl h)
set_option maxRecDepth 100000 in
set_option maxHeartbeats 4000000 in
theorem w_X5_areApart_0 {G : aG} {μ : aMem} {post : aPost} (x1 : Int32) (x2 : Int32) (h :
    vp_in x1 4 ∧
    a_Spec G sX6_has [.int (μ.1 21 x1.toNatClampNeg), .int x2] μ (fun r1 m1 => ∃ v1 : Int32, r1 = some (.int v1) ∧
    (v1 = 0 ∨ v1 = 1) ∧ post (some (.int v1)) m1)) :
    a_Spec G sX5_areApart [.ref 2, .int x1, .int x2] μ post := a_enter (by decide +kernel) rfl (a_run (S := sX5_areApart) (pg := pX5_areApart) (tab := tX5) [] 9 (a_okT_e tX5_ok) pX5_areApart_ok rfl h)
set_option maxRecDepth 100000 in
set_option maxHeartbeats 4000000 in
theorem w_X5_setApart_0 {G : aG} {μ : aMem} {post : aPost} (x1 : Int32) (x2 : Int32) (x3 : Int32) (h :
    ((x3 = 0 →
      vp_in x1 4 ∧
      vp_in x1 4 ∧
      ((x3 = 0 →
        vp_in x2 4 ∧
        vp_in x2 4 ∧
        post none (va_up (va_up μ.1 21 (upd (μ.1 21) x1.toNatClampNeg ((μ.1 21 x1.toNatClampNeg) &&& (((nI 1) <<< (x2 &&& 31)) ^^^ (-1))))) 21 (upd (upd (μ.1 21) x1.toNatClampNeg ((μ.1 21 x1.toNatClampNeg) &&& (((nI 1) <<< (x2 &&& 31)) ^^^ (-1)))) x2.toNatClampNeg (((upd (μ.1 21) x1.toNatClampNeg ((μ.1 21 x1.toNatClampNeg) &&& (((nI 1) <<< (x2 &&& 31)) ^^^ (-1)))) x2.toNatClampNeg) &&& (((nI 1) <<< (x1 &&& 31)) ^^^ (-1)))), μ.2)) ∧
      (¬ x3 = 0 →
        vp_in x2 4 ∧
        vp_in x2 4 ∧
        post none (va_up (va_up μ.1 21 (upd (μ.1 21) x1.toNatClampNeg ((μ.1 21 x1.toNatClampNeg) &&& (((nI 1) <<< (x2 &&& 31)) ^^^ (-1))))) 21 (upd (upd (μ.1 21) x1.toNatClampNeg ((μ.1 21 x1.toNatClampNeg) &&& (((nI 1) <<< (x2 &&& 31)) ^^^ (-1)))) x2.toNatClampNeg (((upd (μ.1 21) x1.toNatClampNeg ((μ.1 21 x1.toNatClampNeg) &&& (((nI 1) <<< (x2 &&& 31)) ^^^ (-1)))) x2.toNatClampNeg) ||| ((nI 1) <<< (x1 &&& 31)))), μ.2)))) ∧
    (¬ x3 = 0 →
      vp_in x1 4 ∧
      vp_in x1 4 ∧
      ((x3 = 0 →
        vp_in x2 4 ∧
        vp_in x2 4 ∧
        post none (va_up (va_up μ.1 21 (upd (μ.1 21) x1.toNatClampNeg ((μ.1 21 x1.toNatClampNeg) ||| ((nI 1) <<< (x2 &&& 31))))) 21 (upd (upd (μ.1 21) x1.toNatClampNeg ((μ.1 21 x1.toNatClampNeg) ||| ((nI 1) <<< (x2 &&& 31)))) x2.toNatClampNeg (((upd (μ.1 21) x1.toNatClampNeg ((μ.1 21 x1.toNatClampNeg) ||| ((nI 1) <<< (x2 &&& 31)))) x2.toNatClampNeg) &&& (((nI 1) <<< (x1 &&& 31)) ^^^ (-1)))), μ.2)) ∧
      (¬ x3 = 0 →
        vp_in x2 4 ∧
        vp_in x2 4 ∧
        post none (va_up (va_up μ.1 21 (upd (μ.1 21) x1.toNatClampNeg ((μ.1 21 x1.toNatClampNeg) ||| ((nI 1) <<< (x2 &&& 31))))) 21 (upd (upd (μ.1 21) x1.toNatClampNeg ((μ.1 21 x1.toNatClampNeg) ||| ((nI 1) <<< (x2 &&& 31)))) x2.toNatClampNeg (((upd (μ.1 21) x1.toNatClampNeg ((μ.1 21 x1.toNatClampNeg) ||| ((nI 1) <<< (x2 &&& 31)))) x2.toNatClampNeg) ||| ((nI 1) <<< (x1 &&& 31)))), μ.2)))))) :
    a_Spec G sX5_setApart [.ref 2, .int x1, .int x2, .int x3] μ post := a_enter (by decide +kernel) rfl (a_run (S := sX5_setApart) (pg := pX5_setApart) (tab := tX5) [] 35 (a_okT_e tX5_ok) pX5_setApart_ok rfl h)
set_option maxRecDepth 100000 in
set_option maxHeartbeats 4000000 in
theorem w_X5_isLaid_0 {G : aG} {μ : aMem} {post : aPost} (x1 : Int32) (h :
    vp_in x1 20 ∧
    (((μ.1 18 x1.toNatClampNeg) = 0 →
      ((nI 0) = 0 ∨ (nI 0) = 1) ∧ post (some (.int (nI 0))) μ) ∧
    (¬ (μ.1 18 x1.toNatClampNeg) = 0 →
      ((nI 1) = 0 ∨ (nI 1) = 1) ∧ post (some (.int (nI 1))) μ))) :
    a_Spec G sX5_isLaid [.ref 2, .int x1] μ post := a_enter (by decide +kernel) rfl (a_run (S := sX5_isLaid) (pg := pX5_isLaid) (tab := tX5) [] 10 (a_okT_e tX5_ok) pX5_isLaid_ok rfl h)
set_option maxRecDepth 100000 in
set_option maxHeartbeats 4000000 in
theorem w_X5_putThrough_0 {G : aG} {μ : aMem} {post : aPost} (x1 : Int32) (x3 : Int32) (x4 : Int32) (h :
    a_Runs G sX5_putThrough 6 [(0, .ref 2), (1, .int x1), (2, .ref 25), (3, .int x3), (4, .int x4), (5, .int (nI 0)), (6, .int (nI 0))] [] μ post) :
    a_Spec G sX5_putThrough [.ref 2, .int x1, .ref 25, .int x3, .int x4] μ post := a_enter (by decide +kernel) rfl (a_run (S := sX5_putThrough) (pg := pX5_putThrough) (tab := tX5) [(6, [0, 1, 2, 3, 4, 5, 6])] 7 (a_okT_e tX5_ok) pX5_putThrough_ok rfl h)
set_option maxRecDepth 100000 in
set_option maxHeartbeats 4000000 in
theorem w_X5_putThrough_6 {G : aG} {μ : aMem} {post : aPost} (x1 : Int32) (x3 : Int32) (x4 : Int32) (x5 : Int32) (x6 : Int32) (h :
    ((x3 ≤ x6 →
      vp_in x1 20 ∧
      vp_in x1 20 ∧
      post none (va_up (va_up μ.1 18 (upd (μ.1 18) x1.toNatClampNeg x5)) 19 (upd (μ.1 19) x1.toNatClampNeg x4), μ.2)) ∧
    (¬ x3 ≤ x6 →
      (((nI 9) ≤ x6 →
        vp_in x1 20 ∧
        vp_in x1 20 ∧
        post none (va_up (va_up μ.1 18 (upd (μ.1 18) x1.toNatClampNeg x5)) 19 (upd (μ.1 19) x1.toNatClampNeg x4), μ.2)) ∧
      (¬ (nI 9) ≤ x6 →
        vp_in x6 9 ∧
        vp_in ((x1 * (nI 9)) + x6) 180 ∧
        vp_in x6 9 ∧
        a_Runs G sX5_putThrough 6 [(0, .ref 2), (1, .int x1), (2, .ref 25), (3, .int x3), (4, .int x4), (5, .int (x5 ||| ((nI 1) <<< ((μ.1 25 x6.toNatClampNeg) &&& 31)))), (6, .int (x6 + nI 1))] [] (va_up μ.1 20 (upd (μ.1 20) (((x1 * (nI 9)) + x6).toNatClampNeg) (μ.1 25 x6.toNatClampNeg)), μ.2) post))))) :
    a_Runs G sX5_putThrough 6 [(0, .ref 2), (1, .int x1), (2, .ref 25), (3, .int x3), (4, .int x4), (5, .int x5), (6, .int x6)] [] μ post := a_run (S := sX5_putThrough) (pg := pX5_putThrough) (tab := tX5) [(6, [0, 1, 2, 3, 4, 5, 6])] 30 (a_okT_e tX5_ok) pX5_putThrough_ok rfl h
set_option maxRecDepth 100000 in
set_option maxHeartbeats 4000000 in
theorem w_X5_takeOut_0 {G : aG} {μ : aMem} {post : aPost} (x1 : Int32) (h :
    vp_in x1 20 ∧
    vp_in x1 20 ∧
    post none (va_up (va_up μ.1 18 (upd (μ.1 18) x1.toNatClampNeg (nI 0))) 19 (upd (μ.1 19) x1.toNatClampNeg (nI 0)), μ.2)) :
    a_Spec G sX5_takeOut [.ref 2, .int x1] μ post := a_enter (by decide +kernel) rfl (a_run (S := sX5_takeOut) (pg := pX5_takeOut) (tab := tX5) [] 13 (a_okT_e tX5_ok) pX5_takeOut_ok rfl h)
set_option maxRecDepth 100000 in
set_option maxHeartbeats 4000000 in
theorem w_X5_step_0 {G : aG} {μ : aMem} {post : aPost} (x1 : Int32) (x2 : Int32) (h :
    ((x2 < 0 →
      post (some (.int (-9))) μ) ∧
    (¬ x2 < 0 →
      vp_in x1 20 ∧
      a_Spec G sJ6_bitCount_0f7a4 [.int (μ.1 18 x1.toNatClampNeg)] μ (fun r1 m1 => ∃ v1 : Int32, r1 = some (.int v1) ∧
      ((x2 < v1 →
        vp_in ((x1 * (nI 9)) + x2) 180 ∧
        post (some (.int (m1.1 20 ((x1 * (nI 9)) + x2).toNatClampNeg))) m1) ∧
      (¬ x2 < v1 →
        post (some (.int (-9))) m1)))))) :
    a_Spec G sX5_step [.ref 2, .int x1, .int x2] μ post := a_enter (by decide +kernel) rfl (a_run (S := sX5_step) (pg := pX5_step) (tab := tX5) [] 20 (a_okT_e tX5_ok) pX5_step_ok rfl h)
set_option maxRecDepth 100000 in
set_option maxHeartbeats 4000000 in
theorem w_X5_mayGoThrough_0 {G : aG} {μ : aMem} {post : aPost} (x1 : Int32) (x2 : Int32) (x3 : Int32) (h :
    vp_in x1 20 ∧
    a_Runs G sX5_mayGoThrough 11 [(0, .ref 2), (1, .int x1), (2, .int x2), (3, .int x3), (4, .int (μ.1 15 x1.toNatClampNeg)), (5, .int (nI 0))] [] μ post) :
    a_Spec G sX5_mayGoThrough [.ref 2, .int x1, .int x2, .int x3] μ post := a_enter (by decide +kernel) rfl (a_run (S := sX5_mayGoThrough) (pg := pX5_mayGoThrough) (tab := tX5) [(11, [0, 1, 2, 3, 4, 5])] 10 (a_okT_e tX5_ok) pX5_mayGoThrough_ok rfl h)
set_option maxRecDepth 100000 in
set_option maxHeartbeats 4000000 in
theorem w_X5_mayGoThrough_11 {G : aG} {μ : aMem} {post : aPost} (x1 : Int32) (x2 : Int32) (x3 : Int32) (x4 : Int32) (x5 : Int32) (h :
    (((μ.1 2 0) ≤ x5 →
      ((x3 < x4 →
        ((nI 0) = 0 ∨ (nI 0) = 1) ∧ post (some (.int (nI 0))) μ) ∧
      (¬ x3 < x4 →
        ((nI 1) = 0 ∨ (nI 1) = 1) ∧ post (some (.int (nI 1))) μ))) ∧
    (¬ (μ.1 2 0) ≤ x5 →
      vp_in x5 20 ∧
      a_Spec G sX6_has [.int (μ.1 18 x5.toNatClampNeg), .int x2] μ (fun r1 m1 => ∃ v1 : Int32, r1 = some (.int v1) ∧
      ((v1 = 0 →
        a_Runs G sX5_mayGoThrough 11 [(0, .ref 2), (1, .int x1), (2, .int x2), (3, .int x3), (4, .int x4), (5, .int (x5 + nI 1))] [] m1 post) ∧
      (¬ v1 = 0 →
        vp_in x1 20 ∧
        vp_in x5 20 ∧
        a_Spec G sX5_areApart [.ref 2, .int (m1.1 16 x1.toNatClampNeg), .int (m1.1 16 x5.toNatClampNeg)] m1 (fun r2 m2 => ∃ v2 : Int32, r2 = some (.int v2) ∧
        ((v2 = 0 →
          vp_in x5 20 ∧
          a_Runs G sX5_mayGoThrough 11 [(0, .ref 2), (1, .int x1), (2, .int x2), (3, .int x3), (4, .int (x4 + (m2.1 15 x5.toNatClampNeg))), (5, .int (x5 + nI 1))] [] m2 post) ∧
        (¬ v2 = 0 →
          ((nI 0) = 0 ∨ (nI 0) = 1) ∧ post (some (.int (nI 0))) m2))))))))) :
    a_Runs G sX5_mayGoThrough 11 [(0, .ref 2), (1, .int x1), (2, .int x2), (3, .int x3), (4, .int x4), (5, .int x5)] [] μ post := a_run (S := sX5_mayGoThrough) (pg := pX5_mayGoThrough) (tab := tX5) [(11, [0, 1, 2, 3, 4, 5])] 34 (a_okT_e tX5_ok) pX5_mayGoThrough_ok rfl h
set_option maxRecDepth 100000 in
set_option maxHeartbeats 4000000 in
theorem w_X5_laidThrough_0 {G : aG} {μ : aMem} {post : aPost} (x1 : Int32) (h :
    a_Runs G sX5_laidThrough 4 [(0, .ref 2), (1, .int x1), (2, .int (nI 0)), (3, .int (nI 0))] [] μ post) :
    a_Spec G sX5_laidThrough [.ref 2, .int x1] μ post := a_enter (by decide +kernel) rfl (a_run (S := sX5_laidThrough) (pg := pX5_laidThrough) (tab := tX5) [(4, [0, 1, 2, 3])] 7 (a_okT_e tX5_ok) pX5_laidThrough_ok rfl h)
set_option maxRecDepth 100000 in
set_option maxHeartbeats 4000000 in
theorem w_X5_laidThrough_4 {G : aG} {μ : aMem} {post : aPost} (x1 : Int32) (x2 : Int32) (x3 : Int32) (h :
    (((μ.1 2 0) ≤ x3 →
      post (some (.int x2)) μ) ∧
    (¬ (μ.1 2 0) ≤ x3 →
      vp_in x3 20 ∧
      a_Spec G sX6_has [.int (μ.1 18 x3.toNatClampNeg), .int x1] μ (fun r1 m1 => ∃ v1 : Int32, r1 = some (.int v1) ∧
      ((v1 = 0 →
        a_Runs G sX5_laidThrough 4 [(0, .ref 2), (1, .int x1), (2, .int x2), (3, .int (x3 + nI 1))] [] m1 post) ∧
      (¬ v1 = 0 →
        a_Runs G sX5_laidThrough 4 [(0, .ref 2), (1, .int x1), (2, .int (x2 + nI 1)), (3, .int (x3 + nI 1))] [] m1 post)))))) :
    a_Runs G sX5_laidThrough 4 [(0, .ref 2), (1, .int x1), (2, .int x2), (3, .int x3)] [] μ post := a_run (S := sX5_laidThrough) (pg := pX5_laidThrough) (tab := tX5) [(4, [0, 1, 2, 3])] 17 (a_okT_e tX5_ok) pX5_laidThrough_ok rfl h
set_option maxRecDepth 100000 in
set_option maxHeartbeats 4000000 in
theorem w_X5_thicknessThrough_0 {G : aG} {μ : aMem} {post : aPost} (x1 : Int32) (h :
    a_Runs G sX5_thicknessThrough 4 [(0, .ref 2), (1, .int x1), (2, .int (nI 0)), (3, .int (nI 0))] [] μ post) :
    a_Spec G sX5_thicknessThrough [.ref 2, .int x1] μ post := a_enter (by decide +kernel) rfl (a_run (S := sX5_thicknessThrough) (pg := pX5_thicknessThrough) (tab := tX5) [(4, [0, 1, 2, 3])] 7 (a_okT_e tX5_ok) pX5_thicknessThrough_ok rfl h)
set_option maxRecDepth 100000 in
set_option maxHeartbeats 4000000 in
theorem w_X5_thicknessThrough_4 {G : aG} {μ : aMem} {post : aPost} (x1 : Int32) (x2 : Int32) (x3 : Int32) (h :
    (((μ.1 2 0) ≤ x3 →
      post (some (.int x2)) μ) ∧
    (¬ (μ.1 2 0) ≤ x3 →
      vp_in x3 20 ∧
      a_Spec G sX6_has [.int (μ.1 18 x3.toNatClampNeg), .int x1] μ (fun r1 m1 => ∃ v1 : Int32, r1 = some (.int v1) ∧
      ((v1 = 0 →
        a_Runs G sX5_thicknessThrough 4 [(0, .ref 2), (1, .int x1), (2, .int x2), (3, .int (x3 + nI 1))] [] m1 post) ∧
      (¬ v1 = 0 →
        vp_in x3 20 ∧
        a_Runs G sX5_thicknessThrough 4 [(0, .ref 2), (1, .int x1), (2, .int (x2 + (m1.1 15 x3.toNatClampNeg))), (3, .int (x3 + nI 1))] [] m1 post)))))) :
    a_Runs G sX5_thicknessThrough 4 [(0, .ref 2), (1, .int x1), (2, .int x2), (3, .int x3)] [] μ post := a_run (S := sX5_thicknessThrough) (pg := pX5_thicknessThrough) (tab := tX5) [(4, [0, 1, 2, 3])] 23 (a_okT_e tX5_ok) pX5_thicknessThrough_ok rfl h
set_option maxRecDepth 100000 in
set_option maxHeartbeats 4000000 in
theorem w_X5_isClashing_0 {G : aG} {μ : aMem} {post : aPost} (x1 : Int32) (h :
    a_Runs G sX5_isClashing 2 [(0, .ref 2), (1, .int x1), (2, .int (nI 0))] [] μ post) :
    a_Spec G sX5_isClashing [.ref 2, .int x1] μ post := a_enter (by decide +kernel) rfl (a_run (S := sX5_isClashing) (pg := pX5_isClashing) (tab := tX5) [(2, [0, 1, 2])] 5 (a_okT_e tX5_ok) pX5_isClashing_ok rfl h)
set_option maxRecDepth 100000 in
set_option maxHeartbeats 4000000 in
theorem w_X5_isClashing_2 {G : aG} {μ : aMem} {post : aPost} (x1 : Int32) (x2 : Int32) (h :
    (((μ.1 2 0) ≤ x2 →
      ((nI 0) = 0 ∨ (nI 0) = 1) ∧ post (some (.int (nI 0))) μ) ∧
    (¬ (μ.1 2 0) ≤ x2 →
      vp_in x1 20 ∧
      vp_in x2 20 ∧
      ((((μ.1 18 x1.toNatClampNeg) &&& (μ.1 18 x2.toNatClampNeg)) = 0 →
        (((nI 0) = 0 →
          a_Runs G sX5_isClashing 2 [(0, .ref 2), (1, .int x1), (2, .int (x2 + nI 1))] [] μ post) ∧
        (¬ (nI 0) = 0 →
          vp_in x1 20 ∧
          vp_in x2 20 ∧
          a_Spec G sX5_areApart [.ref 2, .int (μ.1 16 x1.toNatClampNeg), .int (μ.1 16 x2.toNatClampNeg)] μ (fun r1 m1 => ∃ v1 : Int32, r1 = some (.int v1) ∧
          ((v1 = 0 →
            a_Runs G sX5_isClashing 2 [(0, .ref 2), (1, .int x1), (2, .int (x2 + nI 1))] [] m1 post) ∧
          (¬ v1 = 0 →
            ((nI 1) = 0 ∨ (nI 1) = 1) ∧ post (some (.int (nI 1))) m1)))))) ∧
      (¬ ((μ.1 18 x1.toNatClampNeg) &&& (μ.1 18 x2.toNatClampNeg)) = 0 →
        (((nI 1) = 0 →
          a_Runs G sX5_isClashing 2 [(0, .ref 2), (1, .int x1), (2, .int (x2 + nI 1))] [] μ post) ∧
        (¬ (nI 1) = 0 →
          vp_in x1 20 ∧
          vp_in x2 20 ∧
          a_Spec G sX5_areApart [.ref 2, .int (μ.1 16 x1.toNatClampNeg), .int (μ.1 16 x2.toNatClampNeg)] μ (fun r2 m2 => ∃ v2 : Int32, r2 = some (.int v2) ∧
          ((v2 = 0 →
            a_Runs G sX5_isClashing 2 [(0, .ref 2), (1, .int x1), (2, .int (x2 + nI 1))] [] m2 post) ∧
          (¬ v2 = 0 →
            ((nI 1) = 0 ∨ (nI 1) = 1) ∧ post (some (.int (nI 1))) m2)))))))))) :
    a_Runs G sX5_isClashing 2 [(0, .ref 2), (1, .int x1), (2, .int x2)] [] μ post := a_run (S := sX5_isClashing) (pg := pX5_isClashing) (tab := tX5) [(2, [0, 1, 2])] 35 (a_okT_e tX5_ok) pX5_isClashing_ok rfl h
set_option maxRecDepth 100000 in
set_option maxHeartbeats 4000000 in
theorem w_X5_laid_0 {G : aG} {μ : aMem} {post : aPost}  (h :
    a_Runs G sX5_laid 4 [(0, .ref 2), (1, .int (nI 0)), (2, .int (nI 0))] [] μ post) :
    a_Spec G sX5_laid [.ref 2] μ post := a_enter (by decide +kernel) rfl (a_run (S := sX5_laid) (pg := pX5_laid) (tab := tX5) [(4, [0, 1, 2])] 7 (a_okT_e tX5_ok) pX5_laid_ok rfl h)
set_option maxRecDepth 100000 in
set_option maxHeartbeats 4000000 in
theorem w_X5_laid_4 {G : aG} {μ : aMem} {post : aPost} (x1 : Int32) (x2 : Int32) (h :
    (((μ.1 2 0) ≤ x2 →
      post (some (.int x1)) μ) ∧
    (¬ (μ.1 2 0) ≤ x2 →
      a_Spec G sX5_isLaid [.ref 2, .int x2] μ (fun r1 m1 => ∃ v1 : Int32, r1 = some (.int v1) ∧
      ((v1 = 0 →
        a_Runs G sX5_laid 4 [(0, .ref 2), (1, .int x1), (2, .int (x2 + nI 1))] [] m1 post) ∧
      (¬ v1 = 0 →
        a_Runs G sX5_laid 4 [(0, .ref 2), (1, .int (x1 + nI 1)), (2, .int (x2 + nI 1))] [] m1 post)))))) :
    a_Runs G sX5_laid 4 [(0, .ref 2), (1, .int x1), (2, .int x2)] [] μ post := a_run (S := sX5_laid) (pg := pX5_laid) (tab := tX5) [(4, [0, 1, 2])] 14 (a_okT_e tX5_ok) pX5_laid_ok rfl h
set_option maxRecDepth 100000 in
set_option maxHeartbeats 4000000 in
theorem w_X5_laidLength_0 {G : aG} {μ : aMem} {post : aPost}  (h :
    a_Runs G sX5_laidLength 4 [(0, .ref 2), (1, .int (nI 0)), (2, .int (nI 0))] [] μ post) :
    a_Spec G sX5_laidLength [.ref 2] μ post := a_enter (by decide +kernel) rfl (a_run (S := sX5_laidLength) (pg := pX5_laidLength) (tab := tX5) [(4, [0, 1, 2])] 7 (a_okT_e tX5_ok) pX5_laidLength_ok rfl h)
set_option maxRecDepth 100000 in
set_option maxHeartbeats 4000000 in
theorem w_X5_laidLength_4 {G : aG} {μ : aMem} {post : aPost} (x1 : Int32) (x2 : Int32) (h :
    (((μ.1 2 0) ≤ x2 →
      post (some (.int x1)) μ) ∧
    (¬ (μ.1 2 0) ≤ x2 →
      vp_in x2 20 ∧
      a_Runs G sX5_laidLength 4 [(0, .ref 2), (1, .int (x1 + (μ.1 19 x2.toNatClampNeg))), (2, .int (x2 + nI 1))] [] μ post))) :
    a_Runs G sX5_laidLength 4 [(0, .ref 2), (1, .int x1), (2, .int x2)] [] μ post := a_run (S := sX5_laidLength) (pg := pX5_laidLength) (tab := tX5) [(4, [0, 1, 2])] 16 (a_okT_e tX5_ok) pX5_laidLength_ok rfl h
set_option maxRecDepth 100000 in
set_option maxHeartbeats 4000000 in
theorem w_X6_isWithin_0 {G : aG} {μ : aMem} {post : aPost} (x0 : Int32) (x1 : Int32) (x2 : Int32) (h :
    ((x0 < x1 →
      ((nI 0) = 0 ∨ (nI 0) = 1) ∧ post (some (.int (nI 0))) μ) ∧
    (¬ x0 < x1 →
      ((x2 < x0 →
        ((nI 0) = 0 ∨ (nI 0) = 1) ∧ post (some (.int (nI 0))) μ) ∧
      (¬ x2 < x0 →
        ((nI 1) = 0 ∨ (nI 1) = 1) ∧ post (some (.int (nI 1))) μ))))) :
    a_Spec G sX6_isWithin [.int x0, .int x1, .int x2] μ post := a_enter (by decide +kernel) rfl (a_run (S := sX6_isWithin) (pg := pX6_isWithin) (tab := tX6) [] 11 (a_okT_e tX6_ok) pX6_isWithin_ok rfl h)
set_option maxRecDepth 100000 in
set_option maxHeartbeats 4000000 in
theorem w_X6_isPlace_0 {G : aG} {μ : aMem} {post : aPost} (x0 : Int32) (h :
    a_Spec G sX6_isWithin [.int x0, .int (nI 0), .int (nI 9)] μ (fun r1 m1 => ∃ v1 : Int32, r1 = some (.int v1) ∧
    (v1 = 0 ∨ v1 = 1) ∧ post (some (.int v1)) m1)) :
    a_Spec G sX6_isPlace [.int x0] μ post := a_enter (by decide +kernel) rfl (a_run (S := sX6_isPlace) (pg := pX6_isPlace) (tab := tX6) [] 7 (a_okT_e tX6_ok) pX6_isPlace_ok rfl h)
set_option maxRecDepth 100000 in
set_option maxHeartbeats 4000000 in
theorem w_X6_duct_0 {G : aG} {μ : aMem} {post : aPost} (x1 : Int32) (x2 : Int32) (x3 : Int32) (x4 : Int32) (h :
    a_Spec G sX6_isPlace [.int x1] μ (fun r1 m1 => ∃ v1 : Int32, r1 = some (.int v1) ∧
    ((v1 = 0 →
      post (some (.int (-1))) m1) ∧
    (¬ v1 = 0 →
      a_Spec G sX6_isPlace [.int x2] m1 (fun r2 m2 => ∃ v2 : Int32, r2 = some (.int v2) ∧
      ((¬ v2 = 0 →
        a_Spec G sX6_isWithin [.int x3, .int (nI 1), .int (nI 99)] m2 (fun r3 m3 => ∃ v3 : Int32, r3 = some (.int v3) ∧
        ((v3 = 0 →
          post (some (.int (-2))) m3) ∧
        (¬ v3 = 0 →
          a_Spec G sX6_isWithin [.int x4, .int (nI 1), .int (nI 300)] m3 (fun r4 m4 => ∃ v4 : Int32, r4 = some (.int v4) ∧
          ((¬ v4 = 0 →
            ((¬ x1 = x2 →
              (((m4.1 1 0) < (nI 16) →
                a_Spec G sX0_add [.ref 1, .int x1, .int x2, .int x3, .int x4] m4 (fun r5 m5 => ∃ v5 : Int32, r5 = some (.int v5) ∧
                post (some (.int v5)) m5)) ∧
              (¬ (m4.1 1 0) < (nI 16) →
                post (some (.int (-4))) m4))) ∧
            (x1 = x2 →
              post (some (.int (-3))) m4))) ∧
          (v4 = 0 →
            post (some (.int (-2))) m4))))))) ∧
      (v2 = 0 →
        post (some (.int (-1))) m2))))))) :
    a_Spec G sX6_duct [.ref 0, .int x1, .int x2, .int x3, .int x4] μ post := a_enter (by decide +kernel) rfl (a_run (S := sX6_duct) (pg := pX6_duct) (tab := tX6) [] 34 (a_okT_e tX6_ok) pX6_duct_ok rfl h)
set_option maxRecDepth 100000 in
set_option maxHeartbeats 4000000 in
theorem w_X6_isKind_0 {G : aG} {μ : aMem} {post : aPost} (x0 : Int32) (h :
    a_Spec G sX6_isWithin [.int x0, .int (nI 0), .int (nI 3)] μ (fun r1 m1 => ∃ v1 : Int32, r1 = some (.int v1) ∧
    (v1 = 0 ∨ v1 = 1) ∧ post (some (.int v1)) m1)) :
    a_Spec G sX6_isKind [.int x0] μ post := a_enter (by decide +kernel) rfl (a_run (S := sX6_isKind) (pg := pX6_isKind) (tab := tX6) [] 7 (a_okT_e tX6_ok) pX6_isKind_ok rfl h)
set_option maxRecDepth 100000 in
set_option maxHeartbeats 4000000 in
theorem w_X6_wire_0 {G : aG} {μ : aMem} {post : aPost} (x1 : Int32) (x2 : Int32) (x3 : Int32) (x4 : Int32) (h :
    a_Spec G sX6_isPlace [.int x1] μ (fun r1 m1 => ∃ v1 : Int32, r1 = some (.int v1) ∧
    ((v1 = 0 →
      post (some (.int (-1))) m1) ∧
    (¬ v1 = 0 →
      a_Spec G sX6_isPlace [.int x2] m1 (fun r2 m2 => ∃ v2 : Int32, r2 = some (.int v2) ∧
      ((¬ v2 = 0 →
        a_Spec G sX6_isWithin [.int x3, .int (nI 1), .int (nI 50)] m2 (fun r3 m3 => ∃ v3 : Int32, r3 = some (.int v3) ∧
        ((v3 = 0 →
          post (some (.int (-2))) m3) ∧
        (¬ v3 = 0 →
          a_Spec G sX6_isKind [.int x4] m3 (fun r4 m4 => ∃ v4 : Int32, r4 = some (.int v4) ∧
          ((¬ v4 = 0 →
            ((¬ x1 = x2 →
              (((m4.1 2 0) < (nI 20) →
                ((nI 1) = 0 ∨ (nI 1) = 1) ∧
                a_Spec G sX5_add [.ref 2, .int x1, .int x2, .int x3, .int x4] (va_up m4.1 5 (upd (m4.1 5) 2 (nI 1)), m4.2) (fun r5 m5 => ∃ v5 : Int32, r5 = some (.int v5) ∧
                post (some (.int v5)) m5)) ∧
              (¬ (m4.1 2 0) < (nI 20) →
                post (some (.int (-4))) m4))) ∧
            (x1 = x2 →
              post (some (.int (-3))) m4))) ∧
          (v4 = 0 →
            post (some (.int (-2))) m4))))))) ∧
      (v2 = 0 →
        post (some (.int (-1))) m2))))))) :
    a_Spec G sX6_wire [.ref 0, .int x1, .int x2, .int x3, .int x4] μ post := a_enter (by decide +kernel) rfl (a_run (S := sX6_wire) (pg := pX6_wire) (tab := tX6) [] 36 (a_okT_e tX6_ok) pX6_wire_ok rfl h)
set_option maxRecDepth 100000 in
set_option maxHeartbeats 4000000 in
theorem w_X6_apart_0 {G : aG} {μ : aMem} {post : aPost} (x1 : Int32) (x2 : Int32) (x3 : Int32) (h :
    a_Spec G sX6_isKind [.int x1] μ (fun r1 m1 => ∃ v1 : Int32, r1 = some (.int v1) ∧
    ((v1 = 0 →
      post (some (.int (-2))) m1) ∧
    (¬ v1 = 0 →
      a_Spec G sX6_isKind [.int x2] m1 (fun r2 m2 => ∃ v2 : Int32, r2 = some (.int v2) ∧
      ((¬ v2 = 0 →
        ((¬ x1 = x2 →
          a_Spec G sX5_areApart [.ref 2, .int x1, .int x2] m2 (fun r3 m3 => ∃ v3 : Int32, r3 = some (.int v3) ∧
          ((v3 = 0 →
            a_Spec G sX5_setApart [.ref 2, .int x1, .int x2, .int x3] m3 (fun r4 m4 => r4 = none ∧
            post (some (.int (nI 0))) m4)) ∧
          (¬ v3 = 0 →
            a_Spec G sX5_setApart [.ref 2, .int x1, .int x2, .int x3] m3 (fun r5 m5 => r5 = none ∧
            post (some (.int (nI 1))) m5))))) ∧
        (x1 = x2 →
          post (some (.int (-3))) m2))) ∧
      (v2 = 0 →
        post (some (.int (-2))) m2))))))) :
    a_Spec G sX6_apart [.ref 0, .int x1, .int x2, .int x3] μ post := a_enter (by decide +kernel) rfl (a_run (S := sX6_apart) (pg := pX6_apart) (tab := tX6) [] 28 (a_okT_e tX6_ok) pX6_apart_ok rfl h)
set_option maxRecDepth 100000 in
set_option maxHeartbeats 4000000 in
theorem w_X6_isWire_0 {G : aG} {μ : aMem} {post : aPost} (x1 : Int32) (h :
    a_Spec G sX6_isWithin [.int x1, .int (nI 0), .int ((μ.1 2 0) - (nI 1))] μ (fun r1 m1 => ∃ v1 : Int32, r1 = some (.int v1) ∧
    (v1 = 0 ∨ v1 = 1) ∧ post (some (.int v1)) m1)) :
    a_Spec G sX6_isWire [.ref 0, .int x1] μ post := a_enter (by decide +kernel) rfl (a_run (S := sX6_isWire) (pg := pX6_isWire) (tab := tX6) [] 11 (a_okT_e tX6_ok) pX6_isWire_ok rfl h)
set_option maxRecDepth 100000 in
set_option maxHeartbeats 4000000 in
theorem w_X6_openDucts_0 {G : aG} {μ : aMem} {post : aPost} (x1 : Int32) (h :
    a_Runs G sX6_openDucts 4 [(0, .ref 0), (1, .int x1), (2, .int (nI 0)), (3, .int (nI 0))] [] μ post) :
    a_Spec G sX6_openDucts [.ref 0, .int x1] μ post := a_enter (by decide +kernel) rfl (a_run (S := sX6_openDucts) (pg := pX6_openDucts) (tab := tX6) [(4, [0, 1, 2, 3])] 7 (a_okT_e tX6_ok) pX6_openDucts_ok rfl h)
set_option maxRecDepth 100000 in
set_option maxHeartbeats 4000000 in
theorem w_X6_openDucts_4 {G : aG} {μ : aMem} {post : aPost} (x1 : Int32) (x2 : Int32) (x3 : Int32) (h :
    (((μ.1 1 0) ≤ x3 →
      post (some (.int x2)) μ) ∧
    (¬ (μ.1 1 0) ≤ x3 →
      vp_in x3 16 ∧
      a_Spec G sX5_mayGoThrough [.ref 2, .int x1, .int x3, .int (μ.1 11 x3.toNatClampNeg)] μ (fun r1 m1 => ∃ v1 : Int32, r1 = some (.int v1) ∧
      ((v1 = 0 →
        a_Runs G sX6_openDucts 4 [(0, .ref 0), (1, .int x1), (2, .int x2), (3, .int (x3 + nI 1))] [] m1 post) ∧
      (¬ v1 = 0 →
        a_Runs G sX6_openDucts 4 [(0, .ref 0), (1, .int x1), (2, .int (x2 ||| ((nI 1) <<< (x3 &&& 31)))), (3, .int (x3 + nI 1))] [] m1 post)))))) :
    a_Runs G sX6_openDucts 4 [(0, .ref 0), (1, .int x1), (2, .int x2), (3, .int x3)] [] μ post := a_run (S := sX6_openDucts) (pg := pX6_openDucts) (tab := tX6) [(4, [0, 1, 2, 3])] 27 (a_okT_e tX6_ok) pX6_openDucts_ok rfl h
set_option maxRecDepth 100000 in
set_option maxHeartbeats 4000000 in
theorem w_X6_lay_0 {G : aG} {μ : aMem} {post : aPost} (x1 : Int32) (h :
    a_Spec G sX6_isWire [.ref 0, .int x1] μ (fun r1 m1 => ∃ v1 : Int32, r1 = some (.int v1) ∧
    ((¬ v1 = 0 →
      a_Spec G sX5_isLaid [.ref 2, .int x1] m1 (fun r2 m2 => ∃ v2 : Int32, r2 = some (.int v2) ∧
      ((v2 = 0 →
        a_Spec G sX6_openDucts [.ref 0, .int x1] m2 (fun r3 m3 => ∃ v3 : Int32, r3 = some (.int v3) ∧
        a_Spec G sX3_open [.ref 3, .int v3] m3 (fun r4 m4 => r4 = none ∧
        vp_in x1 20 ∧
        vp_in x1 20 ∧
        a_Spec G sX3_leastLength [.ref 3, .int (m4.1 13 x1.toNatClampNeg), .int (m4.1 14 x1.toNatClampNeg)] m4 (fun r5 m5 => ∃ v5 : Int32, r5 = some (.int v5) ∧
        ((¬ v5 = (-9) →
          vp_in x1 20 ∧
          vp_in x1 20 ∧
          a_Spec G sX3_walk [.ref 3, .int (m5.1 13 x1.toNatClampNeg), .int (m5.1 14 x1.toNatClampNeg)] m5 (fun r6 m6 => r6 = none ∧
          a_Spec G sX5_putThrough [.ref 2, .int x1, .ref 25, .int (m6.1 3 5), .int v5] m6 (fun r7 m7 => r7 = none ∧
          post (some (.int v5)) m7))) ∧
        (v5 = (-9) →
          post (some (.int (-9))) m5)))))) ∧
      (¬ v2 = 0 →
        post (some (.int (-3))) m2)))) ∧
    (v1 = 0 →
      post (some (.int (-1))) m1)))) :
    a_Spec G sX6_lay [.ref 0, .int x1] μ post := a_enter (by decide +kernel) rfl (a_run (S := sX6_lay) (pg := pX6_lay) (tab := tX6) [] 60 (a_okT_e tX6_ok) pX6_lay_ok rfl h)
set_option maxRecDepth 100000 in
set_option maxHeartbeats 4000000 in
theorem w_X6_lift_0 {G : aG} {μ : aMem} {post : aPost} (x1 : Int32) (h :
    a_Spec G sX6_isWire [.ref 0, .int x1] μ (fun r1 m1 => ∃ v1 : Int32, r1 = some (.int v1) ∧
    ((¬ v1 = 0 →
      a_Spec G sX5_isLaid [.ref 2, .int x1] m1 (fun r2 m2 => ∃ v2 : Int32, r2 = some (.int v2) ∧
      ((¬ v2 = 0 →
        vp_in x1 20 ∧
        a_Spec G sX5_takeOut [.ref 2, .int x1] m2 (fun r3 m3 => r3 = none ∧
        post (some (.int (m2.1 19 x1.toNatClampNeg))) m3)) ∧
      (v2 = 0 →
        post (some (.int (-3))) m2)))) ∧
    (v1 = 0 →
      post (some (.int (-1))) m1)))) :
    a_Spec G sX6_lift [.ref 0, .int x1] μ post := a_enter (by decide +kernel) rfl (a_run (S := sX6_lift) (pg := pX6_lift) (tab := tX6) [] 23 (a_okT_e tX6_ok) pX6_lift_ok rfl h)
set_option maxRecDepth 100000 in
set_option maxHeartbeats 4000000 in
theorem w_X6_way_0 {G : aG} {μ : aMem} {post : aPost} (x1 : Int32) (x2 : Int32) (h :
    a_Spec G sX6_isWire [.ref 0, .int x1] μ (fun r1 m1 => ∃ v1 : Int32, r1 = some (.int v1) ∧
    ((¬ v1 = 0 →
      a_Spec G sX5_step [.ref 2, .int x1, .int x2] m1 (fun r2 m2 => ∃ v2 : Int32, r2 = some (.int v2) ∧
      post (some (.int v2)) m2)) ∧
    (v1 = 0 →
      post (some (.int (-1))) m1)))) :
    a_Spec G sX6_way [.ref 0, .int x1, .int x2] μ post := a_enter (by decide +kernel) rfl (a_run (S := sX6_way) (pg := pX6_way) (tab := tX6) [] 12 (a_okT_e tX6_ok) pX6_way_ok rfl h)
set_option maxRecDepth 100000 in
set_option maxHeartbeats 4000000 in
theorem w_X6_length_0 {G : aG} {μ : aMem} {post : aPost} (x1 : Int32) (h :
    a_Spec G sX6_isWire [.ref 0, .int x1] μ (fun r1 m1 => ∃ v1 : Int32, r1 = some (.int v1) ∧
    ((¬ v1 = 0 →
      a_Spec G sX5_isLaid [.ref 2, .int x1] m1 (fun r2 m2 => ∃ v2 : Int32, r2 = some (.int v2) ∧
      ((v2 = 0 →
        post (some (.int (-9))) m2) ∧
      (¬ v2 = 0 →
        vp_in x1 20 ∧
        post (some (.int (m2.1 19 x1.toNatClampNeg))) m2)))) ∧
    (v1 = 0 →
      post (some (.int (-1))) m1)))) :
    a_Spec G sX6_length [.ref 0, .int x1] μ post := a_enter (by decide +kernel) rfl (a_run (S := sX6_length) (pg := pX6_length) (tab := tX6) [] 18 (a_okT_e tX6_ok) pX6_length_ok rfl h)
set_option maxRecDepth 100000 in
set_option maxHeartbeats 4000000 in
theorem w_X6_left_0 {G : aG} {μ : aMem} {post : aPost} (x1 : Int32) (x2 : Int32) (h :
    a_Spec G sX6_isWithin [.int x1, .int (nI 0), .int ((μ.1 1 0) - (nI 1))] μ (fun r1 m1 => ∃ v1 : Int32, r1 = some (.int v1) ∧
    ((¬ v1 = 0 →
      ((x2 = 0 →
        vp_in x1 16 ∧
        a_Spec G sX5_thicknessThrough [.ref 2, .int x1] m1 (fun r2 m2 => ∃ v2 : Int32, r2 = some (.int v2) ∧
        post (some (.int ((m1.1 11 x1.toNatClampNeg) - v2))) m2)) ∧
      (¬ x2 = 0 →
        a_Spec G sX5_laidThrough [.ref 2, .int x1] m1 (fun r3 m3 => ∃ v3 : Int32, r3 = some (.int v3) ∧
        post (some (.int v3)) m3)))) ∧
    (v1 = 0 →
      post (some (.int (-1))) m1)))) :
    a_Spec G sX6_left [.ref 0, .int x1, .int x2] μ post := a_enter (by decide +kernel) rfl (a_run (S := sX6_left) (pg := pX6_left) (tab := tX6) [] 24 (a_okT_e tX6_ok) pX6_left_ok rfl h)
set_option maxRecDepth 100000 in
set_option maxHeartbeats 4000000 in
theorem w_X6_dividedUp_0 {G : aG} {μ : aMem} {post : aPost} (x0 : Int32) (x1 : Int32) (h :
    (((nI 1) ≤ x1 →
      ¬ x1 = 0 ∧
      post (some (.int (((x0 + x1) - (nI 1)) / x1))) μ) ∧
    (¬ (nI 1) ≤ x1 →
      post (some (.int x0)) μ))) :
    a_Spec G sX6_dividedUp [.int x0, .int x1] μ post := a_enter (by decide +kernel) rfl (a_run (S := sX6_dividedUp) (pg := pX6_dividedUp) (tab := tX6) [] 13 (a_okT_e tX6_ok) pX6_dividedUp_ok rfl h)
set_option maxRecDepth 100000 in
set_option maxHeartbeats 4000000 in
theorem w_X6_loss_0 {G : aG} {μ : aMem} {post : aPost} (x1 : Int32) (x2 : Int32) (h :
    a_Spec G sX6_isWire [.ref 0, .int x1] μ (fun r1 m1 => ∃ v1 : Int32, r1 = some (.int v1) ∧
    ((¬ v1 = 0 →
      a_Spec G sX6_isWithin [.int x2, .int (nI 1), .int (nI 100)] m1 (fun r2 m2 => ∃ v2 : Int32, r2 = some (.int v2) ∧
      ((¬ v2 = 0 →
        a_Spec G sX5_isLaid [.ref 2, .int x1] m2 (fun r3 m3 => ∃ v3 : Int32, r3 = some (.int v3) ∧
        ((¬ v3 = 0 →
          vp_in x1 20 ∧
          vp_in x1 20 ∧
          a_Spec G sX6_dividedUp [.int (((nI 20) * x2) * (m3.1 19 x1.toNatClampNeg)), .int (m3.1 15 x1.toNatClampNeg)] m3 (fun r4 m4 => ∃ v4 : Int32, r4 = some (.int v4) ∧
          post (some (.int v4)) m4)) ∧
        (v3 = 0 →
          post (some (.int (-3))) m3)))) ∧
      (v2 = 0 →
        post (some (.int (-2))) m2)))) ∧
    (v1 = 0 →
      post (some (.int (-1))) m1)))) :
    a_Spec G sX6_loss [.ref 0, .int x1, .int x2] μ post := a_enter (by decide +kernel) rfl (a_run (S := sX6_loss) (pg := pX6_loss) (tab := tX6) [] 32 (a_okT_e tX6_ok) pX6_loss_ok rfl h)
set_option maxRecDepth 100000 in
set_option maxHeartbeats 4000000 in
theorem w_X6_clashes_0 {G : aG} {μ : aMem} {post : aPost}  (h :
    a_Runs G sX6_clashes 4 [(0, .ref 0), (1, .int (nI 0)), (2, .int (nI 0))] [] μ post) :
    a_Spec G sX6_clashes [.ref 0] μ post := a_enter (by decide +kernel) rfl (a_run (S := sX6_clashes) (pg := pX6_clashes) (tab := tX6) [(4, [0, 1, 2])] 7 (a_okT_e tX6_ok) pX6_clashes_ok rfl h)
set_option maxRecDepth 100000 in
set_option maxHeartbeats 4000000 in
theorem w_X6_clashes_4 {G : aG} {μ : aMem} {post : aPost} (x1 : Int32) (x2 : Int32) (h :
    (((μ.1 2 0) ≤ x2 →
      post (some (.int x1)) μ) ∧
    (¬ (μ.1 2 0) ≤ x2 →
      a_Spec G sX5_isClashing [.ref 2, .int x2] μ (fun r1 m1 => ∃ v1 : Int32, r1 = some (.int v1) ∧
      ((v1 = 0 →
        a_Runs G sX6_clashes 4 [(0, .ref 0), (1, .int x1), (2, .int (x2 + nI 1))] [] m1 post) ∧
      (¬ v1 = 0 →
        a_Runs G sX6_clashes 4 [(0, .ref 0), (1, .int (x1 + nI 1)), (2, .int (x2 + nI 1))] [] m1 post)))))) :
    a_Runs G sX6_clashes 4 [(0, .ref 0), (1, .int x1), (2, .int x2)] [] μ post := a_run (S := sX6_clashes) (pg := pX6_clashes) (tab := tX6) [(4, [0, 1, 2])] 16 (a_okT_e tX6_ok) pX6_clashes_ok rfl h
set_option maxRecDepth 100000 in
set_option maxHeartbeats 4000000 in
theorem w_X6_far_0 {G : aG} {μ : aMem} {post : aPost} (x1 : Int32) (x2 : Int32) (h :
    a_Spec G sX6_isPlace [.int x1] μ (fun r1 m1 => ∃ v1 : Int32, r1 = some (.int v1) ∧
    ((v1 = 0 →
      post (some (.int (-1))) m1) ∧
    (¬ v1 = 0 →
      a_Spec G sX6_isPlace [.int x2] m1 (fun r2 m2 => ∃ v2 : Int32, r2 = some (.int v2) ∧
      ((¬ v2 = 0 →
        ((¬ x1 = x2 →
          a_Spec G sX0_allBits [.ref 1] m2 (fun r3 m3 => ∃ v3 : Int32, r3 = some (.int v3) ∧
          a_Spec G sX3_open [.ref 3, .int v3] m3 (fun r4 m4 => r4 = none ∧
          a_Spec G sX3_leastLength [.ref 3, .int x1, .int x2] m4 (fun r5 m5 => ∃ v5 : Int32, r5 = some (.int v5) ∧
          post (some (.int v5)) m5)))) ∧
        (x1 = x2 →
          post (some (.int (-3))) m2))) ∧
      (v2 = 0 →
        post (some (.int (-1))) m2))))))) :
    a_Spec G sX6_far [.ref 0, .int x1, .int x2] μ post := a_enter (by decide +kernel) rfl (a_run (S := sX6_far) (pg := pX6_far) (tab := tX6) [] 23 (a_okT_e tX6_ok) pX6_far_ok rfl h)
set_option maxRecDepth 100000 in
set_option maxHeartbeats 4000000 in
theorem w_X6_two_0 {G : aG} {μ : aMem} {post : aPost} (x1 : Int32) (x2 : Int32) (h :
    a_Spec G sX6_isPlace [.int x1] μ (fun r1 m1 => ∃ v1 : Int32, r1 = some (.int v1) ∧
    ((v1 = 0 →
      post (some (.int (-1))) m1) ∧
    (¬ v1 = 0 →
      a_Spec G sX6_isPlace [.int x2] m1 (fun r2 m2 => ∃ v2 : Int32, r2 = some (.int v2) ∧
      ((¬ v2 = 0 →
        ((¬ x1 = x2 →
          a_Spec G sX3_leastLengthOfTwo [.ref 3, .int x1, .int x2] m2 (fun r3 m3 => ∃ v3 : Int32, r3 = some (.int v3) ∧
          post (some (.int v3)) m3)) ∧
        (x1 = x2 →
          post (some (.int (-3))) m2))) ∧
      (v2 = 0 →
        post (some (.int (-1))) m2))))))) :
    a_Spec G sX6_two [.ref 0, .int x1, .int x2] μ post := a_enter (by decide +kernel) rfl (a_run (S := sX6_two) (pg := pX6_two) (tab := tX6) [] 17 (a_okT_e tX6_ok) pX6_two_ok rfl h)
set_option maxRecDepth 100000 in
set_option maxHeartbeats 4000000 in
theorem w_X6_isNetOfPlaces_0 {G : aG} {μ : aMem} {post : aPost} (x0 : Int32) (h :
    a_Spec G sX6_isWithin [.int x0, .int (nI 0), .int (nI 1023)] μ (fun r1 m1 => ∃ v1 : Int32, r1 = some (.int v1) ∧
    ((v1 = 0 →
      ((nI 0) = 0 ∨ (nI 0) = 1) ∧ post (some (.int (nI 0))) m1) ∧
    (¬ v1 = 0 →
      a_Spec G sJ6_bitCount_0f7a4 [.int x0] m1 (fun r2 m2 => ∃ v2 : Int32, r2 = some (.int v2) ∧
      ((v2 < (nI 2) →
        ((nI 0) = 0 ∨ (nI 0) = 1) ∧ post (some (.int (nI 0))) m2) ∧
      (¬ v2 < (nI 2) →
        ((nI 1) = 0 ∨ (nI 1) = 1) ∧ post (some (.int (nI 1))) m2))))))) :
    a_Spec G sX6_isNetOfPlaces [.int x0] μ post := a_enter (by decide +kernel) rfl (a_run (S := sX6_isNetOfPlaces) (pg := pX6_isNetOfPlaces) (tab := tX6) [] 14 (a_okT_e tX6_ok) pX6_isNetOfPlaces_ok rfl h)
set_option maxRecDepth 100000 in
set_option maxHeartbeats 4000000 in
theorem w_X6_net_0 {G : aG} {μ : aMem} {post : aPost} (x1 : Int32) (h :
    a_Spec G sX6_isNetOfPlaces [.int x1] μ (fun r1 m1 => ∃ v1 : Int32, r1 = some (.int v1) ∧
    ((¬ v1 = 0 →
      a_Spec G sX4_compare [.ref 4, .int x1] m1 (fun r2 m2 => r2 = none ∧
      ((¬ (m2.1 4 3) = (nI 1000000) →
        post (some (.int (m2.1 4 3))) m2) ∧
      ((m2.1 4 3) = (nI 1000000) →
        post (some (.int (-9))) m2)))) ∧
    (v1 = 0 →
      post (some (.int (-2))) m1)))) :
    a_Spec G sX6_net [.ref 0, .int x1] μ post := a_enter (by decide +kernel) rfl (a_run (S := sX6_net) (pg := pX6_net) (tab := tX6) [] 18 (a_okT_e tX6_ok) pX6_net_ok rfl h)
set_option maxRecDepth 100000 in
set_option maxHeartbeats 4000000 in
theorem w_X6_splice_0 {G : aG} {μ : aMem} {post : aPost} (x1 : Int32) (h :
    a_Spec G sX6_isNetOfPlaces [.int x1] μ (fun r1 m1 => ∃ v1 : Int32, r1 = some (.int v1) ∧
    ((¬ v1 = 0 →
      a_Spec G sX4_compare [.ref 4, .int x1] m1 (fun r2 m2 => r2 = none ∧
      a_Spec G sX4_firstNeeded [.ref 4, .int x1] m2 (fun r3 m3 => ∃ v3 : Int32, r3 = some (.int v3) ∧
      post (some (.int v3)) m3))) ∧
    (v1 = 0 →
      post (some (.int (-2))) m1)))) :
    a_Spec G sX6_splice [.ref 0, .int x1] μ post := a_enter (by decide +kernel) rfl (a_run (S := sX6_splice) (pg := pX6_splice) (tab := tX6) [] 14 (a_okT_e tX6_ok) pX6_splice_ok rfl h)
set_option maxRecDepth 100000 in
set_option maxHeartbeats 4000000 in
theorem w_X6_option_0 {G : aG} {μ : aMem} {post : aPost} (x1 : Int32) (x2 : Int32) (h :
    a_Spec G sX6_isWire [.ref 0, .int x1] μ (fun r1 m1 => ∃ v1 : Int32, r1 = some (.int v1) ∧
    ((¬ v1 = 0 →
      a_Spec G sX6_isWithin [.int x2, .int (nI 0), .int (nI 255)] m1 (fun r2 m2 => ∃ v2 : Int32, r2 = some (.int v2) ∧
      ((¬ v2 = 0 →
        vp_in x1 20 ∧
        vp_in x1 20 ∧
        ((nI 1) = 0 ∨ (nI 1) = 1) ∧
        post (some (.int (m2.1 17 x1.toNatClampNeg))) (va_up (va_up m2.1 17 (upd (m2.1 17) x1.toNatClampNeg x2)) 5 (upd (m2.1 5) 2 (nI 1)), m2.2)) ∧
      (v2 = 0 →
        post (some (.int (-2))) m2)))) ∧
    (v1 = 0 →
      post (some (.int (-1))) m1)))) :
    a_Spec G sX6_option [.ref 0, .int x1, .int x2] μ post := a_enter (by decide +kernel) rfl (a_run (S := sX6_option) (pg := pX6_option) (tab := tX6) [] 29 (a_okT_e tX6_ok) pX6_option_ok rfl h)
set_option maxRecDepth 100000 in
set_option maxHeartbeats 4000000 in
theorem w_X6_order_0 {G : aG} {μ : aMem} {post : aPost} (x1 : Int32) (x2 : Int32) (h :
    a_Spec G sX6_isWithin [.int x1, .int (nI 0), .int (nI 255)] μ (fun r1 m1 => ∃ v1 : Int32, r1 = some (.int v1) ∧
    ((v1 = 0 →
      post (some (.int (-2))) m1) ∧
    (¬ v1 = 0 →
      a_Spec G sX6_isWithin [.int x2, .int (nI 1), .int (nI 1000)] m1 (fun r2 m2 => ∃ v2 : Int32, r2 = some (.int v2) ∧
      ((¬ v2 = 0 →
        (((m2.1 5 0) < (nI 8) →
          a_Spec G sX1_add [.ref 5, .int x1, .int x2] m2 (fun r3 m3 => ∃ v3 : Int32, r3 = some (.int v3) ∧
          post (some (.int v3)) m3)) ∧
        (¬ (m2.1 5 0) < (nI 8) →
          post (some (.int (-4))) m2))) ∧
      (v2 = 0 →
        post (some (.int (-2))) m2))))))) :
    a_Spec G sX6_order [.ref 0, .int x1, .int x2] μ post := a_enter (by decide +kernel) rfl (a_run (S := sX6_order) (pg := pX6_order) (tab := tX6) [] 23 (a_okT_e tX6_ok) pX6_order_ok rfl h)
set_option maxRecDepth 100000 in
set_option maxHeartbeats 4000000 in
theorem w_X6_setup_0 {G : aG} {μ : aMem} {post : aPost} (x1 : Int32) (h :
    a_Spec G sX6_isWithin [.int x1, .int (nI 0), .int (nI 100000)] μ (fun r1 m1 => ∃ v1 : Int32, r1 = some (.int v1) ∧
    ((¬ v1 = 0 →
      ((nI 1) = 0 ∨ (nI 1) = 1) ∧
      post (some (.int (m1.1 5 1))) (va_up (va_up m1.1 5 (upd (m1.1 5) 1 x1)) 5 (upd (upd (m1.1 5) 1 x1) 2 (nI 1)), m1.2)) ∧
    (v1 = 0 →
      post (some (.int (-2))) m1)))) :
    a_Spec G sX6_setup [.ref 0, .int x1] μ post := a_enter (by decide +kernel) rfl (a_run (S := sX6_setup) (pg := pX6_setup) (tab := tX6) [] 21 (a_okT_e tX6_ok) pX6_setup_ok rfl h)
set_option maxRecDepth 100000 in
set_option maxHeartbeats 4000000 in
theorem w_X6_weight_0 {G : aG} {μ : aMem} {post : aPost} (x1 : Int32) (h :
    a_Spec G sX1_allBits [.ref 5] μ (fun r1 m1 => ∃ v1 : Int32, r1 = some (.int v1) ∧
    (((x1 &&& (v1 ^^^ (-1))) = 0 →
      a_Spec G sX1_wiresFor [.ref 5, .int x1] m1 (fun r2 m2 => ∃ v2 : Int32, r2 = some (.int v2) ∧
      a_Spec G sX5_weightOf [.ref 2, .int v2] m2 (fun r3 m3 => ∃ v3 : Int32, r3 = some (.int v3) ∧
      post (some (.int v3)) m3))) ∧
    (¬ (x1 &&& (v1 ^^^ (-1))) = 0 →
      post (some (.int (-1))) m1)))) :
    a_Spec G sX6_weight [.ref 0, .int x1] μ post := a_enter (by decide +kernel) rfl (a_run (S := sX6_weight) (pg := pX6_weight) (tab := tX6) [] 18 (a_okT_e tX6_ok) pX6_weight_ok rfl h)
set_option maxRecDepth 100000 in
set_option maxHeartbeats 4000000 in
theorem w_X6_best_0 {G : aG} {μ : aMem} {post : aPost}  (h :
    a_Spec G sX1_bestCost [.ref 5] μ (fun r1 m1 => ∃ v1 : Int64, r1 = some (.long v1) ∧
    post (some (.long v1)) m1)) :
    a_Spec G sX6_best [.ref 0] μ post := a_enter (by decide +kernel) rfl (a_run (S := sX6_best) (pg := pX6_best) (tab := tX6) [] 6 (a_okT_e tX6_ok) pX6_best_ok rfl h)
set_option maxRecDepth 100000 in
set_option maxHeartbeats 4000000 in
theorem w_X6_loom_0 {G : aG} {μ : aMem} {post : aPost} (x1 : Int32) (h :
    a_Spec G sX6_isWithin [.int x1, .int (nI 0), .int ((μ.1 5 0) - (nI 1))] μ (fun r1 m1 => ∃ v1 : Int32, r1 = some (.int v1) ∧
    ((¬ v1 = 0 →
      a_Spec G sX1_loomOf [.ref 5, .int x1] m1 (fun r2 m2 => ∃ v2 : Int32, r2 = some (.int v2) ∧
      post (some (.int v2)) m2)) ∧
    (v1 = 0 →
      post (some (.int (-1))) m1)))) :
    a_Spec G sX6_loom [.ref 0, .int x1] μ post := a_enter (by decide +kernel) rfl (a_run (S := sX6_loom) (pg := pX6_loom) (tab := tX6) [] 16 (a_okT_e tX6_ok) pX6_loom_ok rfl h)
set_option maxRecDepth 100000 in
set_option maxHeartbeats 4000000 in
theorem w_X6_alike_0 {G : aG} {μ : aMem} {post : aPost}  (h :
    a_Runs G sX6_alike 4 [(0, .ref 0), (1, .int (nI 0)), (2, .int (nI 0))] [] μ post) :
    a_Spec G sX6_alike [.ref 0] μ post := a_enter (by decide +kernel) rfl (a_run (S := sX6_alike) (pg := pX6_alike) (tab := tX6) [(4, [0, 1, 2])] 7 (a_okT_e tX6_ok) pX6_alike_ok rfl h)
set_option maxRecDepth 100000 in
set_option maxHeartbeats 4000000 in
theorem w_X6_alike_4 {G : aG} {μ : aMem} {post : aPost} (x1 : Int32) (x2 : Int32) (h :
    (((μ.1 5 0) ≤ x2 →
      post (some (.int x1)) μ) ∧
    (¬ (μ.1 5 0) ≤ x2 →
      a_Spec G sX1_hasTwin [.ref 5, .int x2] μ (fun r1 m1 => ∃ v1 : Int32, r1 = some (.int v1) ∧
      ((v1 = 0 →
        a_Runs G sX6_alike 4 [(0, .ref 0), (1, .int x1), (2, .int (x2 + nI 1))] [] m1 post) ∧
      (¬ v1 = 0 →
        a_Runs G sX6_alike 4 [(0, .ref 0), (1, .int (x1 + nI 1)), (2, .int (x2 + nI 1))] [] m1 post)))))) :
    a_Runs G sX6_alike 4 [(0, .ref 0), (1, .int x1), (2, .int x2)] [] μ post := a_run (S := sX6_alike) (pg := pX6_alike) (tab := tX6) [(4, [0, 1, 2])] 16 (a_okT_e tX6_ok) pX6_alike_ok rfl h
set_option maxRecDepth 100000 in
set_option maxHeartbeats 4000000 in
theorem w_X6_isPin_0 {G : aG} {μ : aMem} {post : aPost} (x0 : Int32) (h :
    a_Spec G sX6_isWithin [.int x0, .int (nI 0), .int (nI 15)] μ (fun r1 m1 => ∃ v1 : Int32, r1 = some (.int v1) ∧
    (v1 = 0 ∨ v1 = 1) ∧ post (some (.int v1)) m1)) :
    a_Spec G sX6_isPin [.int x0] μ post := a_enter (by decide +kernel) rfl (a_run (S := sX6_isPin) (pg := pX6_isPin) (tab := tX6) [] 7 (a_okT_e tX6_ok) pX6_isPin_ok rfl h)
set_option maxRecDepth 100000 in
set_option maxHeartbeats 4000000 in
theorem w_X6_isNet_0 {G : aG} {μ : aMem} {post : aPost} (x0 : Int32) (h :
    a_Spec G sX6_isWithin [.int x0, .int (nI 0), .int (nI 7)] μ (fun r1 m1 => ∃ v1 : Int32, r1 = some (.int v1) ∧
    (v1 = 0 ∨ v1 = 1) ∧ post (some (.int v1)) m1)) :
    a_Spec G sX6_isNet [.int x0] μ post := a_enter (by decide +kernel) rfl (a_run (S := sX6_isNet) (pg := pX6_isNet) (tab := tX6) [] 7 (a_okT_e tX6_ok) pX6_isNet_ok rfl h)
set_option maxRecDepth 100000 in
set_option maxHeartbeats 4000000 in
theorem w_X6_pin_0 {G : aG} {μ : aMem} {post : aPost} (x1 : Int32) (x2 : Int32) (h :
    a_Spec G sX6_isPin [.int x1] μ (fun r1 m1 => ∃ v1 : Int32, r1 = some (.int v1) ∧
    ((v1 = 0 →
      post (some (.int (-1))) m1) ∧
    (¬ v1 = 0 →
      a_Spec G sX6_isNet [.int x2] m1 (fun r2 m2 => ∃ v2 : Int32, r2 = some (.int v2) ∧
      ((¬ v2 = 0 →
        vp_in x1 16 ∧
        vp_in x1 16 ∧
        post (some (.int (m2.1 35 x1.toNatClampNeg))) (va_up m2.1 35 (upd (m2.1 35) x1.toNatClampNeg x2), m2.2)) ∧
      (v2 = 0 →
        post (some (.int (-1))) m2))))))) :
    a_Spec G sX6_pin [.ref 0, .int x1, .int x2] μ post := a_enter (by decide +kernel) rfl (a_run (S := sX6_pin) (pg := pX6_pin) (tab := tX6) [] 22 (a_okT_e tX6_ok) pX6_pin_ok rfl h)
set_option maxRecDepth 100000 in
set_option maxHeartbeats 4000000 in
theorem w_X6_tests_0 {G : aG} {μ : aMem} {post : aPost}  (h :
    a_Spec G sX2_testsNeeded [.ref 6] μ (fun r1 m1 => ∃ v1 : Int32, r1 = some (.int v1) ∧
    post (some (.int v1)) m1)) :
    a_Spec G sX6_tests [.ref 0] μ post := a_enter (by decide +kernel) rfl (a_run (S := sX6_tests) (pg := pX6_tests) (tab := tX6) [] 6 (a_okT_e tX6_ok) pX6_tests_ok rfl h)
set_option maxRecDepth 100000 in
set_option maxHeartbeats 4000000 in
theorem w_X6_side_0 {G : aG} {μ : aMem} {post : aPost} (x1 : Int32) (x2 : Int32) (h :
    a_Spec G sX6_isPin [.int x2] μ (fun r1 m1 => ∃ v1 : Int32, r1 = some (.int v1) ∧
    ((¬ v1 = 0 →
      a_Spec G sX2_testsNeeded [.ref 6] m1 (fun r2 m2 => ∃ v2 : Int32, r2 = some (.int v2) ∧
      a_Spec G sX6_isWithin [.int x1, .int (nI 0), .int (v2 - (nI 1))] m2 (fun r3 m3 => ∃ v3 : Int32, r3 = some (.int v3) ∧
      ((¬ v3 = 0 →
        vp_in x2 16 ∧
        post (some (.int (((m3.1 35 x2.toNatClampNeg) >>> (x1 &&& 31)) &&& (nI 1)))) m3) ∧
      (v3 = 0 →
        post (some (.int (-2))) m3))))) ∧
    (v1 = 0 →
      post (some (.int (-1))) m1)))) :
    a_Spec G sX6_side [.ref 0, .int x1, .int x2] μ post := a_enter (by decide +kernel) rfl (a_run (S := sX6_side) (pg := pX6_side) (tab := tX6) [] 24 (a_okT_e tX6_ok) pX6_side_ok rfl h)
set_option maxRecDepth 100000 in
set_option maxHeartbeats 4000000 in
theorem w_X6_shows_0 {G : aG} {μ : aMem} {post : aPost} (x1 : Int32) (x2 : Int32) (h :
    a_Spec G sX6_isNet [.int x1] μ (fun r1 m1 => ∃ v1 : Int32, r1 = some (.int v1) ∧
    ((v1 = 0 →
      post (some (.int (-1))) m1) ∧
    (¬ v1 = 0 →
      a_Spec G sX6_isNet [.int x2] m1 (fun r2 m2 => ∃ v2 : Int32, r2 = some (.int v2) ∧
      ((¬ v2 = 0 →
        a_Spec G sX2_isUsed [.ref 6, .int x1] m2 (fun r3 m3 => ∃ v3 : Int32, r3 = some (.int v3) ∧
        ((v3 = 0 →
          post (some (.int (-1))) m3) ∧
        (¬ v3 = 0 →
          a_Spec G sX2_isUsed [.ref 6, .int x2] m3 (fun r4 m4 => ∃ v4 : Int32, r4 = some (.int v4) ∧
          ((¬ v4 = 0 →
            ((¬ x1 = x2 →
              post (some (.int (x1 ^^^ x2))) m4) ∧
            (x1 = x2 →
              post (some (.int (-3))) m4))) ∧
          (v4 = 0 →
            post (some (.int (-1))) m4))))))) ∧
      (v2 = 0 →
        post (some (.int (-1))) m2))))))) :
    a_Spec G sX6_shows [.ref 0, .int x1, .int x2] μ post := a_enter (by decide +kernel) rfl (a_run (S := sX6_shows) (pg := pX6_shows) (tab := tX6) [] 25 (a_okT_e tX6_ok) pX6_shows_ok rfl h)
set_option maxRecDepth 100000 in
set_option maxHeartbeats 4000000 in
theorem w_X6_pairs_0 {G : aG} {μ : aMem} {post : aPost} (x1 : Int32) (h :
    a_Spec G sX2_pairsUnlikeJustIn [.ref 6, .int x1] μ (fun r1 m1 => ∃ v1 : Int32, r1 = some (.int v1) ∧
    post (some (.int v1)) m1)) :
    a_Spec G sX6_pairs [.ref 0, .int x1] μ post := a_enter (by decide +kernel) rfl (a_run (S := sX6_pairs) (pg := pX6_pairs) (tab := tX6) [] 7 (a_okT_e tX6_ok) pX6_pairs_ok rfl h)
set_option maxRecDepth 100000 in
set_option maxHeartbeats 4000000 in
theorem w_X6_count_0 {G : aG} {μ : aMem} {post : aPost} (x1 : Int32) (h :
    ((x1.toInt < 0 ∨ 5 < x1.toInt →
      post (some (.int (-2))) μ) ∧
    (x1.toInt = 0 →
      post (some (.int (μ.1 1 0))) μ) ∧
    (x1.toInt = 1 →
      post (some (.int (μ.1 2 0))) μ) ∧
    (x1.toInt = 2 →
      a_Spec G sX5_laid [.ref 2] μ (fun r1 m1 => ∃ v1 : Int32, r1 = some (.int v1) ∧
      post (some (.int v1)) m1)) ∧
    (x1.toInt = 3 →
      post (some (.int (μ.1 5 0))) μ) ∧
    (x1.toInt = 4 →
      a_Spec G sX2_usedNets [.ref 6] μ (fun r2 m2 => ∃ v2 : Int32, r2 = some (.int v2) ∧
      a_Spec G sJ6_bitCount_0f7a4 [.int v2] m2 (fun r3 m3 => ∃ v3 : Int32, r3 = some (.int v3) ∧
      post (some (.int v3)) m3))) ∧
    (x1.toInt = 5 →
      a_Spec G sX5_laidLength [.ref 2] μ (fun r4 m4 => ∃ v4 : Int32, r4 = some (.int v4) ∧
      post (some (.int v4)) m4)) ∧ True)) :
    a_Spec G sX6_count [.ref 0, .int x1] μ post := a_enter (by decide +kernel) rfl (a_run (S := sX6_count) (pg := pX6_count) (tab := tX6) [] 9 (a_okT_e tX6_ok) pX6_count_ok rfl h)
