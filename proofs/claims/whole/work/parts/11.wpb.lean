set_option maxRecDepth 100000 in
set_option maxHeartbeats 4000000 in
theorem w_X7_in_0 {G : aG} {μ : aMem} {post : aPost} (x0 : Int32) (x1 : Int32) (x2 : Int32) (h :
    ((x0 < x1 →
      ((nI 0) = 0 ∨ (nI 0) = 1) ∧ post (some (.int (nI 0))) μ) ∧
    (¬ x0 < x1 →
      ((x2 < x0 →
        ((nI 0) = 0 ∨ (nI 0) = 1) ∧ post (some (.int (nI 0))) μ) ∧
      (¬ x2 < x0 →
        ((nI 1) = 0 ∨ (nI 1) = 1) ∧ post (some (.int (nI 1))) μ))))) :
    a_Spec G sX7_in [.int x0, .int x1, .int x2] μ post := a_enter (by decide +kernel) rfl (a_run (S := sX7_in) (pg := pX7_in) (tab := tX7) [] 11 (a_okT_e tX7_ok) pX7_in_ok rfl h)
set_option maxRecDepth 100000 in
set_option maxHeartbeats 4000000 in
theorem w_X7_isPlace_0 {G : aG} {μ : aMem} {post : aPost} (x0 : Int32) (h :
    a_Spec G sX7_in [.int x0, .int (nI 0), .int (nI 9)] μ (fun r1 m1 => ∃ v1 : Int32, r1 = some (.int v1) ∧
    (v1 = 0 ∨ v1 = 1) ∧ post (some (.int v1)) m1)) :
    a_Spec G sX7_isPlace [.int x0] μ post := a_enter (by decide +kernel) rfl (a_run (S := sX7_isPlace) (pg := pX7_isPlace) (tab := tX7) [] 7 (a_okT_e tX7_ok) pX7_isPlace_ok rfl h)
set_option maxRecDepth 100000 in
set_option maxHeartbeats 4000000 in
theorem w_X7_ones_0 {G : aG} {μ : aMem} {post : aPost} (x0 : Int32) (h :
    a_Runs G sX7_ones 4 [(0, .int x0), (1, .int (nI 0)), (2, .int (nI 0))] [] μ post) :
    a_Spec G sX7_ones [.int x0] μ post := a_enter (by decide +kernel) rfl (a_run (S := sX7_ones) (pg := pX7_ones) (tab := tX7) [(4, [0, 1, 2])] 7 (a_okT_e tX7_ok) pX7_ones_ok rfl h)
set_option maxRecDepth 100000 in
set_option maxHeartbeats 4000000 in
theorem w_X7_ones_4 {G : aG} {μ : aMem} {post : aPost} (x0 : Int32) (x1 : Int32) (x2 : Int32) (h :
    (((nI 20) ≤ x2 →
      post (some (.int x1)) μ) ∧
    (¬ (nI 20) ≤ x2 →
      a_Runs G sX7_ones 4 [(0, .int x0), (1, .int (x1 + ((x0 >>> (x2 &&& 31)) &&& (nI 1)))), (2, .int (x2 + nI 1))] [] μ post))) :
    a_Runs G sX7_ones 4 [(0, .int x0), (1, .int x1), (2, .int x2)] [] μ post := a_run (S := sX7_ones) (pg := pX7_ones) (tab := tX7) [(4, [0, 1, 2])] 16 (a_okT_e tX7_ok) pX7_ones_ok rfl h
set_option maxRecDepth 100000 in
set_option maxHeartbeats 4000000 in
theorem w_X7_isDuct_0 {G : aG} {μ : aMem} {post : aPost} (x1 : Int32) (h :
    a_Spec G sX7_in [.int x1, .int (nI 0), .int ((μ.1 36 0) - (nI 1))] μ (fun r1 m1 => ∃ v1 : Int32, r1 = some (.int v1) ∧
    (v1 = 0 ∨ v1 = 1) ∧ post (some (.int v1)) m1)) :
    a_Spec G sX7_isDuct [.ref 36, .int x1] μ post := a_enter (by decide +kernel) rfl (a_run (S := sX7_isDuct) (pg := pX7_isDuct) (tab := tX7) [] 10 (a_okT_e tX7_ok) pX7_isDuct_ok rfl h)
set_option maxRecDepth 100000 in
set_option maxHeartbeats 4000000 in
theorem w_X7_isWire_0 {G : aG} {μ : aMem} {post : aPost} (x1 : Int32) (h :
    a_Spec G sX7_in [.int x1, .int (nI 0), .int ((μ.1 36 5) - (nI 1))] μ (fun r1 m1 => ∃ v1 : Int32, r1 = some (.int v1) ∧
    (v1 = 0 ∨ v1 = 1) ∧ post (some (.int v1)) m1)) :
    a_Spec G sX7_isWire [.ref 36, .int x1] μ post := a_enter (by decide +kernel) rfl (a_run (S := sX7_isWire) (pg := pX7_isWire) (tab := tX7) [] 10 (a_okT_e tX7_ok) pX7_isWire_ok rfl h)
set_option maxRecDepth 100000 in
set_option maxHeartbeats 4000000 in
theorem w_X7_duct_0 {G : aG} {μ : aMem} {post : aPost} (x1 : Int32) (x2 : Int32) (x3 : Int32) (x4 : Int32) (h :
    a_Spec G sX7_isPlace [.int x1] μ (fun r1 m1 => ∃ v1 : Int32, r1 = some (.int v1) ∧
    ((v1 = 0 →
      post (some (.int (-1))) m1) ∧
    (¬ v1 = 0 →
      a_Spec G sX7_isPlace [.int x2] m1 (fun r2 m2 => ∃ v2 : Int32, r2 = some (.int v2) ∧
      ((¬ v2 = 0 →
        a_Spec G sX7_in [.int x3, .int (nI 1), .int (nI 99)] m2 (fun r3 m3 => ∃ v3 : Int32, r3 = some (.int v3) ∧
        ((v3 = 0 →
          post (some (.int (-2))) m3) ∧
        (¬ v3 = 0 →
          a_Spec G sX7_in [.int x4, .int (nI 1), .int (nI 300)] m3 (fun r4 m4 => ∃ v4 : Int32, r4 = some (.int v4) ∧
          ((¬ v4 = 0 →
            ((¬ x1 = x2 →
              ((¬ (m4.1 36 0) = (nI 16) →
                vp_in (m4.1 36 0) 16 ∧
                vp_in (m4.1 36 0) 16 ∧
                vp_in (m4.1 36 0) 16 ∧
                vp_in (m4.1 36 0) 16 ∧
                post (some (.int (((upd (m4.1 36) 0 ((m4.1 36 0) + (nI 1))) 0) - (nI 1)))) (va_up (va_up (va_up (va_up (va_up m4.1 37 (upd (m4.1 37) ((m4.1 36 0).toNatClampNeg) x1)) 38 (upd (m4.1 38) ((m4.1 36 0).toNatClampNeg) x2)) 39 (upd (m4.1 39) ((m4.1 36 0).toNatClampNeg) x3)) 40 (upd (m4.1 40) ((m4.1 36 0).toNatClampNeg) x4)) 36 (upd (m4.1 36) 0 ((m4.1 36 0) + (nI 1))), m4.2)) ∧
              ((m4.1 36 0) = (nI 16) →
                post (some (.int (-4))) m4))) ∧
            (x1 = x2 →
              post (some (.int (-3))) m4))) ∧
          (v4 = 0 →
            post (some (.int (-2))) m4))))))) ∧
      (v2 = 0 →
        post (some (.int (-1))) m2))))))) :
    a_Spec G sX7_duct [.ref 36, .int x1, .int x2, .int x3, .int x4] μ post := a_enter (by decide +kernel) rfl (a_run (S := sX7_duct) (pg := pX7_duct) (tab := tX7) [] 60 (a_okT_e tX7_ok) pX7_duct_ok rfl h)
set_option maxRecDepth 100000 in
set_option maxHeartbeats 4000000 in
theorem w_X7_wire_0 {G : aG} {μ : aMem} {post : aPost} (x1 : Int32) (x2 : Int32) (x3 : Int32) (x4 : Int32) (h :
    a_Spec G sX7_isPlace [.int x1] μ (fun r1 m1 => ∃ v1 : Int32, r1 = some (.int v1) ∧
    ((v1 = 0 →
      post (some (.int (-1))) m1) ∧
    (¬ v1 = 0 →
      a_Spec G sX7_isPlace [.int x2] m1 (fun r2 m2 => ∃ v2 : Int32, r2 = some (.int v2) ∧
      ((¬ v2 = 0 →
        a_Spec G sX7_in [.int x3, .int (nI 1), .int (nI 50)] m2 (fun r3 m3 => ∃ v3 : Int32, r3 = some (.int v3) ∧
        ((v3 = 0 →
          post (some (.int (-2))) m3) ∧
        (¬ v3 = 0 →
          a_Spec G sX7_in [.int x4, .int (nI 0), .int (nI 3)] m3 (fun r4 m4 => ∃ v4 : Int32, r4 = some (.int v4) ∧
          ((¬ v4 = 0 →
            ((¬ x1 = x2 →
              ((¬ (m4.1 36 5) = (nI 20) →
                vp_in (m4.1 36 5) 20 ∧
                vp_in (m4.1 36 5) 20 ∧
                vp_in (m4.1 36 5) 20 ∧
                vp_in (m4.1 36 5) 20 ∧
                post (some (.int (((upd (m4.1 36) 5 ((m4.1 36 5) + (nI 1))) 5) - (nI 1)))) (va_up (va_up (va_up (va_up (va_up m4.1 41 (upd (m4.1 41) ((m4.1 36 5).toNatClampNeg) x1)) 42 (upd (m4.1 42) ((m4.1 36 5).toNatClampNeg) x2)) 43 (upd (m4.1 43) ((m4.1 36 5).toNatClampNeg) x3)) 44 (upd (m4.1 44) ((m4.1 36 5).toNatClampNeg) x4)) 36 (upd (m4.1 36) 5 ((m4.1 36 5) + (nI 1))), m4.2)) ∧
              ((m4.1 36 5) = (nI 20) →
                post (some (.int (-4))) m4))) ∧
            (x1 = x2 →
              post (some (.int (-3))) m4))) ∧
          (v4 = 0 →
            post (some (.int (-2))) m4))))))) ∧
      (v2 = 0 →
        post (some (.int (-1))) m2))))))) :
    a_Spec G sX7_wire [.ref 36, .int x1, .int x2, .int x3, .int x4] μ post := a_enter (by decide +kernel) rfl (a_run (S := sX7_wire) (pg := pX7_wire) (tab := tX7) [] 60 (a_okT_e tX7_ok) pX7_wire_ok rfl h)
set_option maxRecDepth 100000 in
set_option maxHeartbeats 4000000 in
theorem w_X7_apart_0 {G : aG} {μ : aMem} {post : aPost} (x1 : Int32) (x2 : Int32) (x3 : Int32) (h :
    a_Spec G sX7_in [.int x1, .int (nI 0), .int (nI 3)] μ (fun r1 m1 => ∃ v1 : Int32, r1 = some (.int v1) ∧
    ((v1 = 0 →
      post (some (.int (-2))) m1) ∧
    (¬ v1 = 0 →
      a_Spec G sX7_in [.int x2, .int (nI 0), .int (nI 3)] m1 (fun r2 m2 => ∃ v2 : Int32, r2 = some (.int v2) ∧
      ((¬ v2 = 0 →
        ((¬ x1 = x2 →
          vp_in (((nI 4) * x1) + x2) 16 ∧
          (((m2.1 48 (((nI 4) * x1) + x2).toNatClampNeg) = 0 →
            vp_in (((nI 4) * x1) + x2) 16 ∧
            vp_in (((nI 4) * x2) + x1) 16 ∧
            post (some (.int (nI 0))) (va_up (va_up m2.1 48 (upd (m2.1 48) ((((nI 4) * x1) + x2).toNatClampNeg) (x3 &&& 1))) 48 (upd (upd (m2.1 48) ((((nI 4) * x1) + x2).toNatClampNeg) (x3 &&& 1)) ((((nI 4) * x2) + x1).toNatClampNeg) (x3 &&& 1)), m2.2)) ∧
          (¬ (m2.1 48 (((nI 4) * x1) + x2).toNatClampNeg) = 0 →
            vp_in (((nI 4) * x1) + x2) 16 ∧
            vp_in (((nI 4) * x2) + x1) 16 ∧
            post (some (.int (nI 1))) (va_up (va_up m2.1 48 (upd (m2.1 48) ((((nI 4) * x1) + x2).toNatClampNeg) (x3 &&& 1))) 48 (upd (upd (m2.1 48) ((((nI 4) * x1) + x2).toNatClampNeg) (x3 &&& 1)) ((((nI 4) * x2) + x1).toNatClampNeg) (x3 &&& 1)), m2.2)))) ∧
        (x1 = x2 →
          post (some (.int (-3))) m2))) ∧
      (v2 = 0 →
        post (some (.int (-2))) m2))))))) :
    a_Spec G sX7_apart [.ref 36, .int x1, .int x2, .int x3] μ post := a_enter (by decide +kernel) rfl (a_run (S := sX7_apart) (pg := pX7_apart) (tab := tX7) [] 47 (a_okT_e tX7_ok) pX7_apart_ok rfl h)
set_option maxRecDepth 100000 in
set_option maxHeartbeats 4000000 in
theorem w_X7_goesBy_0 {G : aG} {μ : aMem} {post : aPost} (x1 : Int32) (x2 : Int32) (h :
    a_Runs G sX7_goesBy 5 [(0, .ref 36), (1, .int x1), (2, .int x2), (3, .int (nI 0)), (4, .int (nI 0))] [] μ post) :
    a_Spec G sX7_goesBy [.ref 36, .int x1, .int x2] μ post := a_enter (by decide +kernel) rfl (a_run (S := sX7_goesBy) (pg := pX7_goesBy) (tab := tX7) [(5, [0, 1, 2, 3, 4])] 7 (a_okT_e tX7_ok) pX7_goesBy_ok rfl h)
set_option maxRecDepth 100000 in
set_option maxHeartbeats 4000000 in
theorem w_X7_goesBy_5 {G : aG} {μ : aMem} {post : aPost} (x1 : Int32) (x2 : Int32) (x3 : Int32) (x4 : Int32) (h :
    vp_in x1 20 ∧
    (((μ.1 46 x1.toNatClampNeg) ≤ x4 →
      (x3 = 0 ∨ x3 = 1) ∧ post (some (.int x3)) μ) ∧
    (¬ (μ.1 46 x1.toNatClampNeg) ≤ x4 →
      ((¬ x3 = 0 →
        a_Runs G sX7_goesBy 5 [(0, .ref 36), (1, .int x1), (2, .int x2), (3, .int (nI 1)), (4, .int (x4 + nI 1))] [] μ post) ∧
      (x3 = 0 →
        vp_in (((nI 10) * x1) + x4) 200 ∧
        ((¬ (μ.1 47 (((nI 10) * x1) + x4).toNatClampNeg) = x2 →
          a_Runs G sX7_goesBy 5 [(0, .ref 36), (1, .int x1), (2, .int x2), (3, .int (nI 0)), (4, .int (x4 + nI 1))] [] μ post) ∧
        ((μ.1 47 (((nI 10) * x1) + x4).toNatClampNeg) = x2 →
          a_Runs G sX7_goesBy 5 [(0, .ref 36), (1, .int x1), (2, .int x2), (3, .int (nI 1)), (4, .int (x4 + nI 1))] [] μ post))))))) :
    a_Runs G sX7_goesBy 5 [(0, .ref 36), (1, .int x1), (2, .int x2), (3, .int x3), (4, .int x4)] [] μ post := a_run (S := sX7_goesBy) (pg := pX7_goesBy) (tab := tX7) [(5, [0, 1, 2, 3, 4])] 26 (a_okT_e tX7_ok) pX7_goesBy_ok rfl h
set_option maxRecDepth 100000 in
set_option maxHeartbeats 4000000 in
theorem w_X7_full_0 {G : aG} {μ : aMem} {post : aPost} (x1 : Int32) (h :
    a_Runs G sX7_full 4 [(0, .ref 36), (1, .int x1), (2, .int (nI 0)), (3, .int (nI 0))] [] μ post) :
    a_Spec G sX7_full [.ref 36, .int x1] μ post := a_enter (by decide +kernel) rfl (a_run (S := sX7_full) (pg := pX7_full) (tab := tX7) [(4, [0, 1, 2, 3])] 7 (a_okT_e tX7_ok) pX7_full_ok rfl h)
set_option maxRecDepth 100000 in
set_option maxHeartbeats 4000000 in
theorem w_X7_full_4 {G : aG} {μ : aMem} {post : aPost} (x1 : Int32) (x2 : Int32) (x3 : Int32) (h :
    (((μ.1 36 5) ≤ x3 →
      post (some (.int x2)) μ) ∧
    (¬ (μ.1 36 5) ≤ x3 →
      a_Spec G sX7_goesBy [.ref 36, .int x3, .int x1] μ (fun r1 m1 => ∃ v1 : Int32, r1 = some (.int v1) ∧
      ((v1 = 0 →
        a_Runs G sX7_full 4 [(0, .ref 36), (1, .int x1), (2, .int (x2 + (nI 0))), (3, .int (x3 + nI 1))] [] m1 post) ∧
      (¬ v1 = 0 →
        vp_in x3 20 ∧
        a_Runs G sX7_full 4 [(0, .ref 36), (1, .int x1), (2, .int (x2 + (m1.1 43 x3.toNatClampNeg))), (3, .int (x3 + nI 1))] [] m1 post)))))) :
    a_Runs G sX7_full 4 [(0, .ref 36), (1, .int x1), (2, .int x2), (3, .int x3)] [] μ post := a_run (S := sX7_full) (pg := pX7_full) (tab := tX7) [(4, [0, 1, 2, 3])] 22 (a_okT_e tX7_ok) pX7_full_ok rfl h
set_option maxRecDepth 100000 in
set_option maxHeartbeats 4000000 in
theorem w_X7_mayGo_0 {G : aG} {μ : aMem} {post : aPost} (x1 : Int32) (x2 : Int32) (h :
    a_Spec G sX7_full [.ref 36, .int x2] μ (fun r1 m1 => ∃ v1 : Int32, r1 = some (.int v1) ∧
    vp_in x1 20 ∧
    vp_in x2 16 ∧
    (((m1.1 40 x2.toNatClampNeg) < (v1 + (m1.1 43 x1.toNatClampNeg)) →
      a_Runs G sX7_mayGo 30 [(0, .ref 36), (1, .int x1), (2, .int x2), (3, .int (nI 0)), (4, .int (nI 0))] [] m1 post) ∧
    (¬ (m1.1 40 x2.toNatClampNeg) < (v1 + (m1.1 43 x1.toNatClampNeg)) →
      a_Runs G sX7_mayGo 30 [(0, .ref 36), (1, .int x1), (2, .int x2), (3, .int (nI 1)), (4, .int (nI 0))] [] m1 post)))) :
    a_Spec G sX7_mayGo [.ref 36, .int x1, .int x2] μ post := a_enter (by decide +kernel) rfl (a_run (S := sX7_mayGo) (pg := pX7_mayGo) (tab := tX7) [(30, [0, 1, 2, 3, 4])] 21 (a_okT_e tX7_ok) pX7_mayGo_ok rfl h)
set_option maxRecDepth 100000 in
set_option maxHeartbeats 4000000 in
theorem w_X7_mayGo_30 {G : aG} {μ : aMem} {post : aPost} (x1 : Int32) (x2 : Int32) (x3 : Int32) (x4 : Int32) (h :
    (((μ.1 36 5) ≤ x4 →
      (x3 = 0 ∨ x3 = 1) ∧ post (some (.int x3)) μ) ∧
    (¬ (μ.1 36 5) ≤ x4 →
      ((x3 = 0 →
        (x3 = 0 ∨ x3 = 1) ∧ post (some (.int x3)) μ) ∧
      (¬ x3 = 0 →
        a_Spec G sX7_goesBy [.ref 36, .int x4, .int x2] μ (fun r1 m1 => ∃ v1 : Int32, r1 = some (.int v1) ∧
        ((v1 = 0 →
          a_Runs G sX7_mayGo 30 [(0, .ref 36), (1, .int x1), (2, .int x2), (3, .int (nI 1)), (4, .int (x4 + nI 1))] [] m1 post) ∧
        (¬ v1 = 0 →
          vp_in x4 20 ∧
          vp_in x1 20 ∧
          vp_in (((nI 4) * (m1.1 44 x4.toNatClampNeg)) + (m1.1 44 x1.toNatClampNeg)) 16 ∧
          ((¬ (m1.1 48 (((nI 4) * (m1.1 44 x4.toNatClampNeg)) + (m1.1 44 x1.toNatClampNeg)).toNatClampNeg) = 0 →
            a_Runs G sX7_mayGo 30 [(0, .ref 36), (1, .int x1), (2, .int x2), (3, .int (nI 0)), (4, .int (x4 + nI 1))] [] m1 post) ∧
          ((m1.1 48 (((nI 4) * (m1.1 44 x4.toNatClampNeg)) + (m1.1 44 x1.toNatClampNeg)).toNatClampNeg) = 0 →
            a_Runs G sX7_mayGo 30 [(0, .ref 36), (1, .int x1), (2, .int x2), (3, .int (nI 1)), (4, .int (x4 + nI 1))] [] m1 post)))))))))) :
    a_Runs G sX7_mayGo 30 [(0, .ref 36), (1, .int x1), (2, .int x2), (3, .int x3), (4, .int x4)] [] μ post := a_run (S := sX7_mayGo) (pg := pX7_mayGo) (tab := tX7) [(30, [0, 1, 2, 3, 4])] 34 (a_okT_e tX7_ok) pX7_mayGo_ok rfl h
set_option maxRecDepth 100000 in
set_option maxHeartbeats 4000000 in
theorem w_X7_across_0 {G : aG} {μ : aMem} {post : aPost} (x1 : Int32) (x2 : Int32) (h :
    vp_in x1 16 ∧
    ((¬ (μ.1 37 x1.toNatClampNeg) = x2 →
      vp_in x1 16 ∧
      ((¬ (μ.1 38 x1.toNatClampNeg) = x2 →
        post (some (.int (-9))) μ) ∧
      ((μ.1 38 x1.toNatClampNeg) = x2 →
        vp_in x1 16 ∧
        post (some (.int (μ.1 37 x1.toNatClampNeg))) μ))) ∧
    ((μ.1 37 x1.toNatClampNeg) = x2 →
      vp_in x1 16 ∧
      post (some (.int (μ.1 38 x1.toNatClampNeg))) μ))) :
    a_Spec G sX7_across [.ref 36, .int x1, .int x2] μ post := a_enter (by decide +kernel) rfl (a_run (S := sX7_across) (pg := pX7_across) (tab := tX7) [] 20 (a_okT_e tX7_ok) pX7_across_ok rfl h)
set_option maxRecDepth 100000 in
set_option maxHeartbeats 4000000 in
theorem w_X7_better_0 {G : aG} {μ : aMem} {post : aPost} (x1 : Int32) (x2 : Int32) (x3 : Int32) (h :
    vp_in x2 10 ∧
    vp_in x1 10 ∧
    ((((μ.1 50 x2.toNatClampNeg) + x3) < (μ.1 50 x1.toNatClampNeg) →
      vp_in x1 10 ∧
      vp_in x2 10 ∧
      vp_in x1 10 ∧
      post none (va_up (va_up μ.1 50 (upd (μ.1 50) x1.toNatClampNeg ((μ.1 50 x2.toNatClampNeg) + x3))) 51 (upd (μ.1 51) x1.toNatClampNeg ((μ.1 51 x2.toNatClampNeg) + (nI 1))), μ.2)) ∧
    (¬ ((μ.1 50 x2.toNatClampNeg) + x3) < (μ.1 50 x1.toNatClampNeg) →
      vp_in x1 10 ∧
      ((¬ ((μ.1 50 x2.toNatClampNeg) + x3) = (μ.1 50 x1.toNatClampNeg) →
        post none μ) ∧
      (((μ.1 50 x2.toNatClampNeg) + x3) = (μ.1 50 x1.toNatClampNeg) →
        vp_in x2 10 ∧
        vp_in x1 10 ∧
        (((μ.1 51 x1.toNatClampNeg) ≤ ((μ.1 51 x2.toNatClampNeg) + (nI 1)) →
          post none μ) ∧
        (¬ (μ.1 51 x1.toNatClampNeg) ≤ ((μ.1 51 x2.toNatClampNeg) + (nI 1)) →
          vp_in x1 10 ∧
          vp_in x2 10 ∧
          vp_in x1 10 ∧
          post none (va_up (va_up μ.1 50 (upd (μ.1 50) x1.toNatClampNeg ((μ.1 50 x2.toNatClampNeg) + x3))) 51 (upd (μ.1 51) x1.toNatClampNeg ((μ.1 51 x2.toNatClampNeg) + (nI 1))), μ.2)))))))) :
    a_Spec G sX7_better [.ref 36, .int x1, .int x2, .int x3] μ post := a_enter (by decide +kernel) rfl (a_run (S := sX7_better) (pg := pX7_better) (tab := tX7) [] 48 (a_okT_e tX7_ok) pX7_better_ok rfl h)
set_option maxRecDepth 100000 in
set_option maxHeartbeats 4000000 in
theorem w_X7_measure_0 {G : aG} {μ : aMem} {post : aPost} (x1 : Int32) (h :
    a_Runs G sX7_measure 2 [(0, .ref 36), (1, .int x1), (2, .int (nI 0))] [] μ post) :
    a_Spec G sX7_measure [.ref 36, .int x1] μ post := a_enter (by decide +kernel) rfl (a_run (S := sX7_measure) (pg := pX7_measure) (tab := tX7) [(2, [0, 1, 2]), (50, [0, 2]), (58, [0, 2, 3])] 5 (a_okT_e tX7_ok) pX7_measure_ok rfl h)
set_option maxRecDepth 100000 in
set_option maxHeartbeats 4000000 in
theorem w_X7_measure_2 {G : aG} {μ : aMem} {post : aPost} (x1 : Int32) (x2 : Int32) (h :
    (((nI 10) ≤ x2 →
      a_Runs G sX7_measure 50 [(0, .ref 36), (2, .int (nI 0))] [] μ post) ∧
    (¬ (nI 10) ≤ x2 →
      ((¬ x2 = x1 →
        vp_in x2 10 ∧
        ((¬ x2 = x1 →
          vp_in x2 10 ∧
          a_Runs G sX7_measure 2 [(0, .ref 36), (1, .int x1), (2, .int (x2 + nI 1))] [] (va_up (va_up μ.1 50 (upd (μ.1 50) x2.toNatClampNeg (nI 1000000))) 51 (upd (μ.1 51) x2.toNatClampNeg (nI 1000000)), μ.2) post) ∧
        (x2 = x1 →
          vp_in x2 10 ∧
          a_Runs G sX7_measure 2 [(0, .ref 36), (1, .int x1), (2, .int (x2 + nI 1))] [] (va_up (va_up μ.1 50 (upd (μ.1 50) x2.toNatClampNeg (nI 1000000))) 51 (upd (μ.1 51) x2.toNatClampNeg (nI 0)), μ.2) post))) ∧
      (x2 = x1 →
        vp_in x2 10 ∧
        ((¬ x2 = x1 →
          vp_in x2 10 ∧
          a_Runs G sX7_measure 2 [(0, .ref 36), (1, .int x1), (2, .int (x2 + nI 1))] [] (va_up (va_up μ.1 50 (upd (μ.1 50) x2.toNatClampNeg (nI 0))) 51 (upd (μ.1 51) x2.toNatClampNeg (nI 1000000)), μ.2) post) ∧
        (x2 = x1 →
          vp_in x2 10 ∧
          a_Runs G sX7_measure 2 [(0, .ref 36), (1, .int x1), (2, .int (x2 + nI 1))] [] (va_up (va_up μ.1 50 (upd (μ.1 50) x2.toNatClampNeg (nI 0))) 51 (upd (μ.1 51) x2.toNatClampNeg (nI 0)), μ.2) post))))))) :
    a_Runs G sX7_measure 2 [(0, .ref 36), (1, .int x1), (2, .int x2)] [] μ post := a_run (S := sX7_measure) (pg := pX7_measure) (tab := tX7) [(2, [0, 1, 2]), (50, [0, 2]), (58, [0, 2, 3])] 26 (a_okT_e tX7_ok) pX7_measure_ok rfl h
set_option maxRecDepth 100000 in
set_option maxHeartbeats 4000000 in
theorem w_X7_measure_50 {G : aG} {μ : aMem} {post : aPost} (x2 : Int32) (h :
    (((nI 10) ≤ x2 →
      post none μ) ∧
    (¬ (nI 10) ≤ x2 →
      a_Runs G sX7_measure 58 [(0, .ref 36), (2, .int x2), (3, .int (nI 0))] [] μ post))) :
    a_Runs G sX7_measure 50 [(0, .ref 36), (2, .int x2)] [] μ post := a_run (S := sX7_measure) (pg := pX7_measure) (tab := tX7) [(2, [0, 1, 2]), (50, [0, 2]), (58, [0, 2, 3])] 8 (a_okT_e tX7_ok) pX7_measure_ok rfl h
set_option maxRecDepth 100000 in
set_option maxHeartbeats 4000000 in
theorem w_X7_measure_58 {G : aG} {μ : aMem} {post : aPost} (x2 : Int32) (x3 : Int32) (h :
    (((μ.1 36 0) ≤ x3 →
      a_Runs G sX7_measure 50 [(0, .ref 36), (2, .int (x2 + nI 1))] [] μ post) ∧
    (¬ (μ.1 36 0) ≤ x3 →
      vp_in x3 16 ∧
      (((μ.1 49 x3.toNatClampNeg) = 0 →
        a_Runs G sX7_measure 58 [(0, .ref 36), (2, .int x2), (3, .int (x3 + nI 1))] [] μ post) ∧
      (¬ (μ.1 49 x3.toNatClampNeg) = 0 →
        vp_in x3 16 ∧
        vp_in x3 16 ∧
        vp_in x3 16 ∧
        a_Spec G sX7_better [.ref 36, .int (μ.1 37 x3.toNatClampNeg), .int (μ.1 38 x3.toNatClampNeg), .int (μ.1 39 x3.toNatClampNeg)] μ (fun r1 m1 => r1 = none ∧
        vp_in x3 16 ∧
        vp_in x3 16 ∧
        vp_in x3 16 ∧
        a_Spec G sX7_better [.ref 36, .int (m1.1 38 x3.toNatClampNeg), .int (m1.1 37 x3.toNatClampNeg), .int (m1.1 39 x3.toNatClampNeg)] m1 (fun r2 m2 => r2 = none ∧
        a_Runs G sX7_measure 58 [(0, .ref 36), (2, .int x2), (3, .int (x3 + nI 1))] [] m2 post))))))) :
    a_Runs G sX7_measure 58 [(0, .ref 36), (2, .int x2), (3, .int x3)] [] μ post := a_run (S := sX7_measure) (pg := pX7_measure) (tab := tX7) [(2, [0, 1, 2]), (50, [0, 2]), (58, [0, 2, 3])] 42 (a_okT_e tX7_ok) pX7_measure_ok rfl h
set_option maxRecDepth 100000 in
set_option maxHeartbeats 4000000 in
theorem w_X7_next_0 {G : aG} {μ : aMem} {post : aPost} (x1 : Int32) (h :
    a_Runs G sX7_next 2 [(0, .ref 36), (1, .int x1), (2, .int (nI 0))] [] μ post) :
    a_Spec G sX7_next [.ref 36, .int x1] μ post := a_enter (by decide +kernel) rfl (a_run (S := sX7_next) (pg := pX7_next) (tab := tX7) [(2, [0, 1, 2])] 5 (a_okT_e tX7_ok) pX7_next_ok rfl h)
set_option maxRecDepth 100000 in
set_option maxHeartbeats 4000000 in
theorem w_X7_next_2 {G : aG} {μ : aMem} {post : aPost} (x1 : Int32) (x2 : Int32) (h :
    vp_in x2 16 ∧
    (((μ.1 49 x2.toNatClampNeg) = 0 →
      a_Runs G sX7_next 2 [(0, .ref 36), (1, .int x1), (2, .int (x2 + nI 1))] [] μ post) ∧
    (¬ (μ.1 49 x2.toNatClampNeg) = 0 →
      a_Spec G sX7_across [.ref 36, .int x2, .int x1] μ (fun r1 m1 => ∃ v1 : Int32, r1 = some (.int v1) ∧
      ((v1 = (-9) →
        a_Runs G sX7_next 2 [(0, .ref 36), (1, .int x1), (2, .int (x2 + nI 1))] [] m1 post) ∧
      (¬ v1 = (-9) →
        a_Spec G sX7_across [.ref 36, .int x2, .int x1] m1 (fun r2 m2 => ∃ v2 : Int32, r2 = some (.int v2) ∧
        vp_in v2 10 ∧
        vp_in x2 16 ∧
        vp_in x1 10 ∧
        ((¬ ((m2.1 50 v2.toNatClampNeg) + (m2.1 39 x2.toNatClampNeg)) = (m2.1 50 x1.toNatClampNeg) →
          a_Runs G sX7_next 2 [(0, .ref 36), (1, .int x1), (2, .int (x2 + nI 1))] [] m2 post) ∧
        (((m2.1 50 v2.toNatClampNeg) + (m2.1 39 x2.toNatClampNeg)) = (m2.1 50 x1.toNatClampNeg) →
          a_Spec G sX7_across [.ref 36, .int x2, .int x1] m2 (fun r3 m3 => ∃ v3 : Int32, r3 = some (.int v3) ∧
          vp_in v3 10 ∧
          vp_in x1 10 ∧
          ((((m3.1 51 v3.toNatClampNeg) + (nI 1)) = (m3.1 51 x1.toNatClampNeg) →
            post (some (.int x2)) m3) ∧
          (¬ ((m3.1 51 v3.toNatClampNeg) + (nI 1)) = (m3.1 51 x1.toNatClampNeg) →
            a_Runs G sX7_next 2 [(0, .ref 36), (1, .int x1), (2, .int (x2 + nI 1))] [] m3 post)))))))))))) :
    a_Runs G sX7_next 2 [(0, .ref 36), (1, .int x1), (2, .int x2)] [] μ post := a_run (S := sX7_next) (pg := pX7_next) (tab := tX7) [(2, [0, 1, 2])] 47 (a_okT_e tX7_ok) pX7_next_ok rfl h
set_option maxRecDepth 100000 in
set_option maxHeartbeats 4000000 in
theorem w_X7_lengthOf_0 {G : aG} {μ : aMem} {post : aPost} (x1 : Int32) (h :
    a_Runs G sX7_lengthOf 4 [(0, .ref 36), (1, .int x1), (2, .int (nI 0)), (3, .int (nI 0))] [] μ post) :
    a_Spec G sX7_lengthOf [.ref 36, .int x1] μ post := a_enter (by decide +kernel) rfl (a_run (S := sX7_lengthOf) (pg := pX7_lengthOf) (tab := tX7) [(4, [0, 1, 2, 3])] 7 (a_okT_e tX7_ok) pX7_lengthOf_ok rfl h)
set_option maxRecDepth 100000 in
set_option maxHeartbeats 4000000 in
theorem w_X7_lengthOf_4 {G : aG} {μ : aMem} {post : aPost} (x1 : Int32) (x2 : Int32) (x3 : Int32) (h :
    vp_in x1 20 ∧
    (((μ.1 46 x1.toNatClampNeg) ≤ x3 →
      post (some (.int x2)) μ) ∧
    (¬ (μ.1 46 x1.toNatClampNeg) ≤ x3 →
      vp_in (((nI 10) * x1) + x3) 200 ∧
      vp_in (μ.1 47 (((nI 10) * x1) + x3).toNatClampNeg) 16 ∧
      a_Runs G sX7_lengthOf 4 [(0, .ref 36), (1, .int x1), (2, .int (x2 + (μ.1 39 (μ.1 47 (((nI 10) * x1) + x3).toNatClampNeg).toNatClampNeg))), (3, .int (x3 + nI 1))] [] μ post))) :
    a_Runs G sX7_lengthOf 4 [(0, .ref 36), (1, .int x1), (2, .int x2), (3, .int x3)] [] μ post := a_run (S := sX7_lengthOf) (pg := pX7_lengthOf) (tab := tX7) [(4, [0, 1, 2, 3])] 25 (a_okT_e tX7_ok) pX7_lengthOf_ok rfl h
set_option maxRecDepth 100000 in
set_option maxHeartbeats 4000000 in
theorem w_X7_lay_0 {G : aG} {μ : aMem} {post : aPost} (x1 : Int32) (h :
    a_Spec G sX7_isWire [.ref 36, .int x1] μ (fun r1 m1 => ∃ v1 : Int32, r1 = some (.int v1) ∧
    ((¬ v1 = 0 →
      vp_in x1 20 ∧
      (((m1.1 46 x1.toNatClampNeg) ≤ 0 →
        a_Runs G sX7_lay 24 [(0, .ref 36), (1, .int x1), (2, .int (nI 0))] [] m1 post) ∧
      (¬ (m1.1 46 x1.toNatClampNeg) ≤ 0 →
        post (some (.int (-3))) m1))) ∧
    (v1 = 0 →
      post (some (.int (-1))) m1)))) :
    a_Spec G sX7_lay [.ref 36, .int x1] μ post := a_enter (by decide +kernel) rfl (a_run (S := sX7_lay) (pg := pX7_lay) (tab := tX7) [(24, [0, 1, 2]), (88, [0, 1, 2, 3])] 14 (a_okT_e tX7_ok) pX7_lay_ok rfl h)
set_option maxRecDepth 100000 in
set_option maxHeartbeats 4000000 in
theorem w_X7_lay_24 {G : aG} {μ : aMem} {post : aPost} (x1 : Int32) (x2 : Int32) (h :
    (((μ.1 36 0) ≤ x2 →
      vp_in x1 20 ∧
      a_Spec G sX7_measure [.ref 36, .int (μ.1 42 x1.toNatClampNeg)] μ (fun r1 m1 => r1 = none ∧
      vp_in x1 20 ∧
      vp_in (m1.1 41 x1.toNatClampNeg) 10 ∧
      (((m1.1 50 (m1.1 41 x1.toNatClampNeg).toNatClampNeg) < (nI 1000000) →
        vp_in x1 20 ∧
        a_Runs G sX7_lay 88 [(0, .ref 36), (1, .int x1), (2, .int (m1.1 41 x1.toNatClampNeg)), (3, .int (nI 0))] [] m1 post) ∧
      (¬ (m1.1 50 (m1.1 41 x1.toNatClampNeg).toNatClampNeg) < (nI 1000000) →
        post (some (.int (-9))) m1)))) ∧
    (¬ (μ.1 36 0) ≤ x2 →
      a_Spec G sX7_mayGo [.ref 36, .int x1, .int x2] μ (fun r2 m2 => ∃ v2 : Int32, r2 = some (.int v2) ∧
      vp_in x2 16 ∧
      a_Runs G sX7_lay 24 [(0, .ref 36), (1, .int x1), (2, .int (x2 + nI 1))] [] (va_up m2.1 49 (upd (m2.1 49) x2.toNatClampNeg (v2 &&& 1)), m2.2) post)))) :
    a_Runs G sX7_lay 24 [(0, .ref 36), (1, .int x1), (2, .int x2)] [] μ post := a_run (S := sX7_lay) (pg := pX7_lay) (tab := tX7) [(24, [0, 1, 2]), (88, [0, 1, 2, 3])] 29 (a_okT_e tX7_ok) pX7_lay_ok rfl h
set_option maxRecDepth 100000 in
set_option maxHeartbeats 4000000 in
theorem w_X7_lay_88 {G : aG} {μ : aMem} {post : aPost} (x1 : Int32) (x2 : Int32) (x3 : Int32) (h :
    vp_in x1 20 ∧
    ((x2 = (μ.1 42 x1.toNatClampNeg) →
      vp_in x1 20 ∧
      a_Spec G sX7_lengthOf [.ref 36, .int x1] (va_up μ.1 46 (upd (μ.1 46) x1.toNatClampNeg x3), μ.2) (fun r1 m1 => ∃ v1 : Int32, r1 = some (.int v1) ∧
      post (some (.int v1)) m1)) ∧
    (¬ x2 = (μ.1 42 x1.toNatClampNeg) →
      a_Spec G sX7_next [.ref 36, .int x2] μ (fun r2 m2 => ∃ v2 : Int32, r2 = some (.int v2) ∧
      vp_in (((nI 10) * x1) + x3) 200 ∧
      a_Spec G sX7_across [.ref 36, .int v2, .int x2] (va_up m2.1 47 (upd (m2.1 47) ((((nI 10) * x1) + x3).toNatClampNeg) v2), m2.2) (fun r3 m3 => ∃ v3 : Int32, r3 = some (.int v3) ∧
      a_Runs G sX7_lay 88 [(0, .ref 36), (1, .int x1), (2, .int v3), (3, .int (x3 + nI 1))] [] m3 post))))) :
    a_Runs G sX7_lay 88 [(0, .ref 36), (1, .int x1), (2, .int x2), (3, .int x3)] [] μ post := a_run (S := sX7_lay) (pg := pX7_lay) (tab := tX7) [(24, [0, 1, 2]), (88, [0, 1, 2, 3])] 29 (a_okT_e tX7_ok) pX7_lay_ok rfl h
set_option maxRecDepth 100000 in
set_option maxHeartbeats 4000000 in
theorem w_X7_lift_0 {G : aG} {μ : aMem} {post : aPost} (x1 : Int32) (h :
    a_Spec G sX7_isWire [.ref 36, .int x1] μ (fun r1 m1 => ∃ v1 : Int32, r1 = some (.int v1) ∧
    ((¬ v1 = 0 →
      vp_in x1 20 ∧
      ((¬ (m1.1 46 x1.toNatClampNeg) = 0 →
        a_Spec G sX7_lengthOf [.ref 36, .int x1] m1 (fun r2 m2 => ∃ v2 : Int32, r2 = some (.int v2) ∧
        vp_in x1 20 ∧
        post (some (.int v2)) (va_up m2.1 46 (upd (m2.1 46) x1.toNatClampNeg (nI 0)), m2.2))) ∧
      ((m1.1 46 x1.toNatClampNeg) = 0 →
        post (some (.int (-3))) m1))) ∧
    (v1 = 0 →
      post (some (.int (-1))) m1)))) :
    a_Spec G sX7_lift [.ref 36, .int x1] μ post := a_enter (by decide +kernel) rfl (a_run (S := sX7_lift) (pg := pX7_lift) (tab := tX7) [] 22 (a_okT_e tX7_ok) pX7_lift_ok rfl h)
set_option maxRecDepth 100000 in
set_option maxHeartbeats 4000000 in
theorem w_X7_way_0 {G : aG} {μ : aMem} {post : aPost} (x1 : Int32) (x2 : Int32) (h :
    a_Spec G sX7_isWire [.ref 36, .int x1] μ (fun r1 m1 => ∃ v1 : Int32, r1 = some (.int v1) ∧
    ((¬ v1 = 0 →
      vp_in x1 20 ∧
      a_Spec G sX7_in [.int x2, .int (nI 0), .int ((m1.1 46 x1.toNatClampNeg) - (nI 1))] m1 (fun r2 m2 => ∃ v2 : Int32, r2 = some (.int v2) ∧
      ((v2 = 0 →
        post (some (.int (-9))) m2) ∧
      (¬ v2 = 0 →
        vp_in (((nI 10) * x1) + x2) 200 ∧
        post (some (.int (m2.1 47 (((nI 10) * x1) + x2).toNatClampNeg))) m2)))) ∧
    (v1 = 0 →
      post (some (.int (-1))) m1)))) :
    a_Spec G sX7_way [.ref 36, .int x1, .int x2] μ post := a_enter (by decide +kernel) rfl (a_run (S := sX7_way) (pg := pX7_way) (tab := tX7) [] 26 (a_okT_e tX7_ok) pX7_way_ok rfl h)
set_option maxRecDepth 100000 in
set_option maxHeartbeats 4000000 in
theorem w_X7_length_0 {G : aG} {μ : aMem} {post : aPost} (x1 : Int32) (h :
    a_Spec G sX7_isWire [.ref 36, .int x1] μ (fun r1 m1 => ∃ v1 : Int32, r1 = some (.int v1) ∧
    ((¬ v1 = 0 →
      vp_in x1 20 ∧
      ((¬ (m1.1 46 x1.toNatClampNeg) = 0 →
        a_Spec G sX7_lengthOf [.ref 36, .int x1] m1 (fun r2 m2 => ∃ v2 : Int32, r2 = some (.int v2) ∧
        post (some (.int v2)) m2)) ∧
      ((m1.1 46 x1.toNatClampNeg) = 0 →
        post (some (.int (-9))) m1))) ∧
    (v1 = 0 →
      post (some (.int (-1))) m1)))) :
    a_Spec G sX7_length [.ref 36, .int x1] μ post := a_enter (by decide +kernel) rfl (a_run (S := sX7_length) (pg := pX7_length) (tab := tX7) [] 15 (a_okT_e tX7_ok) pX7_length_ok rfl h)
set_option maxRecDepth 100000 in
set_option maxHeartbeats 4000000 in
theorem w_X7_left_0 {G : aG} {μ : aMem} {post : aPost} (x1 : Int32) (x2 : Int32) (h :
    a_Spec G sX7_isDuct [.ref 36, .int x1] μ (fun r1 m1 => ∃ v1 : Int32, r1 = some (.int v1) ∧
    ((¬ v1 = 0 →
      a_Runs G sX7_left 15 [(0, .ref 36), (1, .int x1), (2, .int x2), (3, .int (nI 0)), (4, .int (nI 0))] [] m1 post) ∧
    (v1 = 0 →
      post (some (.int (-1))) m1)))) :
    a_Spec G sX7_left [.ref 36, .int x1, .int x2] μ post := a_enter (by decide +kernel) rfl (a_run (S := sX7_left) (pg := pX7_left) (tab := tX7) [(15, [0, 1, 2, 3, 4])] 11 (a_okT_e tX7_ok) pX7_left_ok rfl h)
set_option maxRecDepth 100000 in
set_option maxHeartbeats 4000000 in
theorem w_X7_left_15 {G : aG} {μ : aMem} {post : aPost} (x1 : Int32) (x2 : Int32) (x3 : Int32) (x4 : Int32) (h :
    (((μ.1 36 5) ≤ x4 →
      ((x2 = 0 →
        vp_in x1 16 ∧
        a_Spec G sX7_full [.ref 36, .int x1] μ (fun r1 m1 => ∃ v1 : Int32, r1 = some (.int v1) ∧
        post (some (.int ((μ.1 40 x1.toNatClampNeg) - v1))) m1)) ∧
      (¬ x2 = 0 →
        post (some (.int x3)) μ))) ∧
    (¬ (μ.1 36 5) ≤ x4 →
      a_Spec G sX7_goesBy [.ref 36, .int x4, .int x1] μ (fun r2 m2 => ∃ v2 : Int32, r2 = some (.int v2) ∧
      ((v2 = 0 →
        a_Runs G sX7_left 15 [(0, .ref 36), (1, .int x1), (2, .int x2), (3, .int (x3 + (nI 0))), (4, .int (x4 + nI 1))] [] m2 post) ∧
      (¬ v2 = 0 →
        a_Runs G sX7_left 15 [(0, .ref 36), (1, .int x1), (2, .int x2), (3, .int (x3 + (nI 1))), (4, .int (x4 + nI 1))] [] m2 post)))))) :
    a_Runs G sX7_left 15 [(0, .ref 36), (1, .int x1), (2, .int x2), (3, .int x3), (4, .int x4)] [] μ post := a_run (S := sX7_left) (pg := pX7_left) (tab := tX7) [(15, [0, 1, 2, 3, 4])] 19 (a_okT_e tX7_ok) pX7_left_ok rfl h
set_option maxRecDepth 100000 in
set_option maxHeartbeats 4000000 in
theorem w_X7_loss_0 {G : aG} {μ : aMem} {post : aPost} (x1 : Int32) (x2 : Int32) (h :
    a_Spec G sX7_isWire [.ref 36, .int x1] μ (fun r1 m1 => ∃ v1 : Int32, r1 = some (.int v1) ∧
    ((¬ v1 = 0 →
      a_Spec G sX7_in [.int x2, .int (nI 1), .int (nI 100)] m1 (fun r2 m2 => ∃ v2 : Int32, r2 = some (.int v2) ∧
      ((¬ v2 = 0 →
        vp_in x1 20 ∧
        ((¬ (m2.1 46 x1.toNatClampNeg) = 0 →
          a_Spec G sX7_lengthOf [.ref 36, .int x1] m2 (fun r3 m3 => ∃ v3 : Int32, r3 = some (.int v3) ∧
          vp_in x1 20 ∧
          vp_in x1 20 ∧
          ¬ (m3.1 43 x1.toNatClampNeg) = 0 ∧
          post (some (.int ((((((nI 20) * x2) * v3) + (m3.1 43 x1.toNatClampNeg)) - (nI 1)) / (m3.1 43 x1.toNatClampNeg)))) m3)) ∧
        ((m2.1 46 x1.toNatClampNeg) = 0 →
          post (some (.int (-3))) m2))) ∧
      (v2 = 0 →
        post (some (.int (-2))) m2)))) ∧
    (v1 = 0 →
      post (some (.int (-1))) m1)))) :
    a_Spec G sX7_loss [.ref 36, .int x1, .int x2] μ post := a_enter (by decide +kernel) rfl (a_run (S := sX7_loss) (pg := pX7_loss) (tab := tX7) [] 36 (a_okT_e tX7_ok) pX7_loss_ok rfl h)
set_option maxRecDepth 100000 in
set_option maxHeartbeats 4000000 in
theorem w_X7_isClash_0 {G : aG} {μ : aMem} {post : aPost} (x1 : Int32) (h :
    a_Runs G sX7_isClash 4 [(0, .ref 36), (1, .int x1), (2, .int (nI 0)), (3, .int (nI 0))] [] μ post) :
    a_Spec G sX7_isClash [.ref 36, .int x1] μ post := a_enter (by decide +kernel) rfl (a_run (S := sX7_isClash) (pg := pX7_isClash) (tab := tX7) [(4, [0, 1, 2, 3]), (17, [0, 1, 2, 3, 4])] 7 (a_okT_e tX7_ok) pX7_isClash_ok rfl h)
set_option maxRecDepth 100000 in
set_option maxHeartbeats 4000000 in
theorem w_X7_isClash_4 {G : aG} {μ : aMem} {post : aPost} (x1 : Int32) (x2 : Int32) (x3 : Int32) (h :
    vp_in x1 20 ∧
    (((μ.1 46 x1.toNatClampNeg) ≤ x3 →
      (x2 = 0 ∨ x2 = 1) ∧ post (some (.int x2)) μ) ∧
    (¬ (μ.1 46 x1.toNatClampNeg) ≤ x3 →
      a_Runs G sX7_isClash 17 [(0, .ref 36), (1, .int x1), (2, .int x2), (3, .int x3), (4, .int (nI 0))] [] μ post))) :
    a_Runs G sX7_isClash 4 [(0, .ref 36), (1, .int x1), (2, .int x2), (3, .int x3)] [] μ post := a_run (S := sX7_isClash) (pg := pX7_isClash) (tab := tX7) [(4, [0, 1, 2, 3]), (17, [0, 1, 2, 3, 4])] 11 (a_okT_e tX7_ok) pX7_isClash_ok rfl h
set_option maxRecDepth 100000 in
set_option maxHeartbeats 4000000 in
theorem w_X7_isClash_17 {G : aG} {μ : aMem} {post : aPost} (x1 : Int32) (x2 : Int32) (x3 : Int32) (x4 : Int32) (h :
    (((μ.1 36 5) ≤ x4 →
      a_Runs G sX7_isClash 4 [(0, .ref 36), (1, .int x1), (2, .int x2), (3, .int (x3 + nI 1))] [] μ post) ∧
    (¬ (μ.1 36 5) ≤ x4 →
      ((¬ x2 = 0 →
        a_Runs G sX7_isClash 17 [(0, .ref 36), (1, .int x1), (2, .int (nI 1)), (3, .int x3), (4, .int (x4 + nI 1))] [] μ post) ∧
      (x2 = 0 →
        vp_in (((nI 10) * x1) + x3) 200 ∧
        a_Spec G sX7_goesBy [.ref 36, .int x4, .int (μ.1 47 (((nI 10) * x1) + x3).toNatClampNeg)] μ (fun r1 m1 => ∃ v1 : Int32, r1 = some (.int v1) ∧
        ((v1 = 0 →
          a_Runs G sX7_isClash 17 [(0, .ref 36), (1, .int x1), (2, .int (nI 0)), (3, .int x3), (4, .int (x4 + nI 1))] [] m1 post) ∧
        (¬ v1 = 0 →
          vp_in x4 20 ∧
          vp_in x1 20 ∧
          vp_in (((nI 4) * (m1.1 44 x4.toNatClampNeg)) + (m1.1 44 x1.toNatClampNeg)) 16 ∧
          (((m1.1 48 (((nI 4) * (m1.1 44 x4.toNatClampNeg)) + (m1.1 44 x1.toNatClampNeg)).toNatClampNeg) = 0 →
            a_Runs G sX7_isClash 17 [(0, .ref 36), (1, .int x1), (2, .int (nI 0)), (3, .int x3), (4, .int (x4 + nI 1))] [] m1 post) ∧
          (¬ (m1.1 48 (((nI 4) * (m1.1 44 x4.toNatClampNeg)) + (m1.1 44 x1.toNatClampNeg)).toNatClampNeg) = 0 →
            a_Runs G sX7_isClash 17 [(0, .ref 36), (1, .int x1), (2, .int (nI 1)), (3, .int x3), (4, .int (x4 + nI 1))] [] m1 post)))))))))) :
    a_Runs G sX7_isClash 17 [(0, .ref 36), (1, .int x1), (2, .int x2), (3, .int x3), (4, .int x4)] [] μ post := a_run (S := sX7_isClash) (pg := pX7_isClash) (tab := tX7) [(4, [0, 1, 2, 3]), (17, [0, 1, 2, 3, 4])] 41 (a_okT_e tX7_ok) pX7_isClash_ok rfl h
set_option maxRecDepth 100000 in
set_option maxHeartbeats 4000000 in
theorem w_X7_clashes_0 {G : aG} {μ : aMem} {post : aPost}  (h :
    a_Runs G sX7_clashes 4 [(0, .ref 36), (1, .int (nI 0)), (2, .int (nI 0))] [] μ post) :
    a_Spec G sX7_clashes [.ref 36] μ post := a_enter (by decide +kernel) rfl (a_run (S := sX7_clashes) (pg := pX7_clashes) (tab := tX7) [(4, [0, 1, 2])] 7 (a_okT_e tX7_ok) pX7_clashes_ok rfl h)
set_option maxRecDepth 100000 in
set_option maxHeartbeats 4000000 in
theorem w_X7_clashes_4 {G : aG} {μ : aMem} {post : aPost} (x1 : Int32) (x2 : Int32) (h :
    (((μ.1 36 5) ≤ x2 →
      post (some (.int x1)) μ) ∧
    (¬ (μ.1 36 5) ≤ x2 →
      a_Spec G sX7_isClash [.ref 36, .int x2] μ (fun r1 m1 => ∃ v1 : Int32, r1 = some (.int v1) ∧
      ((v1 = 0 →
        a_Runs G sX7_clashes 4 [(0, .ref 36), (1, .int (x1 + (nI 0))), (2, .int (x2 + nI 1))] [] m1 post) ∧
      (¬ v1 = 0 →
        a_Runs G sX7_clashes 4 [(0, .ref 36), (1, .int (x1 + (nI 1))), (2, .int (x2 + nI 1))] [] m1 post)))))) :
    a_Runs G sX7_clashes 4 [(0, .ref 36), (1, .int x1), (2, .int x2)] [] μ post := a_run (S := sX7_clashes) (pg := pX7_clashes) (tab := tX7) [(4, [0, 1, 2])] 18 (a_okT_e tX7_ok) pX7_clashes_ok rfl h
set_option maxRecDepth 100000 in
set_option maxHeartbeats 4000000 in
theorem w_X7_openAll_0 {G : aG} {μ : aMem} {post : aPost}  (h :
    a_Runs G sX7_openAll 2 [(0, .ref 36), (1, .int (nI 0))] [] μ post) :
    a_Spec G sX7_openAll [.ref 36] μ post := a_enter (by decide +kernel) rfl (a_run (S := sX7_openAll) (pg := pX7_openAll) (tab := tX7) [(2, [0, 1])] 5 (a_okT_e tX7_ok) pX7_openAll_ok rfl h)
set_option maxRecDepth 100000 in
set_option maxHeartbeats 4000000 in
theorem w_X7_openAll_2 {G : aG} {μ : aMem} {post : aPost} (x1 : Int32) (h :
    (((μ.1 36 0) ≤ x1 →
      post none μ) ∧
    (¬ (μ.1 36 0) ≤ x1 →
      vp_in x1 16 ∧
      a_Runs G sX7_openAll 2 [(0, .ref 36), (1, .int (x1 + nI 1))] [] (va_up μ.1 49 (upd (μ.1 49) x1.toNatClampNeg ((nI 1) &&& 1)), μ.2) post))) :
    a_Runs G sX7_openAll 2 [(0, .ref 36), (1, .int x1)] [] μ post := a_run (S := sX7_openAll) (pg := pX7_openAll) (tab := tX7) [(2, [0, 1])] 14 (a_okT_e tX7_ok) pX7_openAll_ok rfl h
set_option maxRecDepth 100000 in
set_option maxHeartbeats 4000000 in
theorem w_X7_far_0 {G : aG} {μ : aMem} {post : aPost} (x1 : Int32) (x2 : Int32) (h :
    a_Spec G sX7_isPlace [.int x1] μ (fun r1 m1 => ∃ v1 : Int32, r1 = some (.int v1) ∧
    ((v1 = 0 →
      post (some (.int (-1))) m1) ∧
    (¬ v1 = 0 →
      a_Spec G sX7_isPlace [.int x2] m1 (fun r2 m2 => ∃ v2 : Int32, r2 = some (.int v2) ∧
      ((¬ v2 = 0 →
        ((¬ x1 = x2 →
          a_Spec G sX7_openAll [.ref 36] m2 (fun r3 m3 => r3 = none ∧
          a_Spec G sX7_measure [.ref 36, .int x2] m3 (fun r4 m4 => r4 = none ∧
          vp_in x1 10 ∧
          (((m4.1 50 x1.toNatClampNeg) < (nI 1000000) →
            vp_in x1 10 ∧
            post (some (.int (m4.1 50 x1.toNatClampNeg))) m4) ∧
          (¬ (m4.1 50 x1.toNatClampNeg) < (nI 1000000) →
            post (some (.int (-9))) m4))))) ∧
        (x1 = x2 →
          post (some (.int (-3))) m2))) ∧
      (v2 = 0 →
        post (some (.int (-1))) m2))))))) :
    a_Spec G sX7_far [.ref 36, .int x1, .int x2] μ post := a_enter (by decide +kernel) rfl (a_run (S := sX7_far) (pg := pX7_far) (tab := tX7) [] 27 (a_okT_e tX7_ok) pX7_far_ok rfl h)
set_option maxRecDepth 100000 in
set_option maxHeartbeats 4000000 in
theorem w_X7_tryStep_0 {G : aG} {μ : aMem} {post : aPost} (x1 : Int32) (x2 : Int32) (x3 : Int32) (x4 : Int32) (h :
    vp_in x2 10 ∧
    (((nI 1000000) ≤ (μ.1 50 x2.toNatClampNeg) →
      post none μ) ∧
    (¬ (nI 1000000) ≤ (μ.1 50 x2.toNatClampNeg) →
      vp_in x2 10 ∧
      vp_in x3 10 ∧
      (((μ.1 50 x3.toNatClampNeg) ≤ ((μ.1 50 x2.toNatClampNeg) + x4) →
        post none μ) ∧
      (¬ (μ.1 50 x3.toNatClampNeg) ≤ ((μ.1 50 x2.toNatClampNeg) + x4) →
        vp_in x2 10 ∧
        vp_in x3 10 ∧
        vp_in x3 10 ∧
        post none (va_up (va_up μ.1 50 (upd (μ.1 50) x3.toNatClampNeg ((μ.1 50 x2.toNatClampNeg) + x4))) 53 (upd (μ.1 53) x3.toNatClampNeg x1), μ.2)))))) :
    a_Spec G sX7_tryStep [.ref 36, .int x1, .int x2, .int x3, .int x4] μ post := a_enter (by decide +kernel) rfl (a_run (S := sX7_tryStep) (pg := pX7_tryStep) (tab := tX7) [] 35 (a_okT_e tX7_ok) pX7_tryStep_ok rfl h)
set_option maxRecDepth 100000 in
set_option maxHeartbeats 4000000 in
theorem w_X7_addWay_0 {G : aG} {μ : aMem} {post : aPost} (x1 : Int32) (x2 : Int32) (h :
    a_Runs G sX7_addWay 2 [(0, .ref 36), (1, .int x1), (2, .int x2), (3, .int (nI 0))] [] μ post) :
    a_Spec G sX7_addWay [.ref 36, .int x1, .int x2] μ post := a_enter (by decide +kernel) rfl (a_run (S := sX7_addWay) (pg := pX7_addWay) (tab := tX7) [(2, [0, 1, 2, 3]), (33, [0, 1, 2, 3]), (42, [0, 1, 2, 3, 4]), (198, [0, 1, 3])] 5 (a_okT_e tX7_ok) pX7_addWay_ok rfl h)
set_option maxRecDepth 100000 in
set_option maxHeartbeats 4000000 in
theorem w_X7_addWay_2 {G : aG} {μ : aMem} {post : aPost} (x1 : Int32) (x2 : Int32) (x3 : Int32) (h :
    (((nI 10) ≤ x3 →
      a_Runs G sX7_addWay 33 [(0, .ref 36), (1, .int x1), (2, .int x2), (3, .int (nI 0))] [] μ post) ∧
    (¬ (nI 10) ≤ x3 →
      ((¬ x3 = x1 →
        vp_in x3 10 ∧
        a_Runs G sX7_addWay 2 [(0, .ref 36), (1, .int x1), (2, .int x2), (3, .int (x3 + nI 1))] [] (va_up μ.1 50 (upd (μ.1 50) x3.toNatClampNeg (nI 1000000)), μ.2) post) ∧
      (x3 = x1 →
        vp_in x3 10 ∧
        a_Runs G sX7_addWay 2 [(0, .ref 36), (1, .int x1), (2, .int x2), (3, .int (x3 + nI 1))] [] (va_up μ.1 50 (upd (μ.1 50) x3.toNatClampNeg (nI 0)), μ.2) post))))) :
    a_Runs G sX7_addWay 2 [(0, .ref 36), (1, .int x1), (2, .int x2), (3, .int x3)] [] μ post := a_run (S := sX7_addWay) (pg := pX7_addWay) (tab := tX7) [(2, [0, 1, 2, 3]), (33, [0, 1, 2, 3]), (42, [0, 1, 2, 3, 4]), (198, [0, 1, 3])] 17 (a_okT_e tX7_ok) pX7_addWay_ok rfl h
set_option maxRecDepth 100000 in
set_option maxHeartbeats 4000000 in
theorem w_X7_addWay_33 {G : aG} {μ : aMem} {post : aPost} (x1 : Int32) (x2 : Int32) (x3 : Int32) (h :
    (((nI 10) ≤ x3 →
      vp_in x2 10 ∧
      (((μ.1 50 x2.toNatClampNeg) < (nI 1000000) →
        a_Runs G sX7_addWay 198 [(0, .ref 36), (1, .int x1), (3, .int x2)] [] μ post) ∧
      (¬ (μ.1 50 x2.toNatClampNeg) < (nI 1000000) →
        ((nI 0) = 0 ∨ (nI 0) = 1) ∧ post (some (.int (nI 0))) μ))) ∧
    (¬ (nI 10) ≤ x3 →
      a_Runs G sX7_addWay 42 [(0, .ref 36), (1, .int x1), (2, .int x2), (3, .int x3), (4, .int (nI 0))] [] μ post))) :
    a_Runs G sX7_addWay 33 [(0, .ref 36), (1, .int x1), (2, .int x2), (3, .int x3)] [] μ post := a_run (S := sX7_addWay) (pg := pX7_addWay) (tab := tX7) [(2, [0, 1, 2, 3]), (33, [0, 1, 2, 3]), (42, [0, 1, 2, 3, 4]), (198, [0, 1, 3])] 14 (a_okT_e tX7_ok) pX7_addWay_ok rfl h
set_option maxRecDepth 100000 in
set_option maxHeartbeats 4000000 in
theorem w_X7_addWay_198 {G : aG} {μ : aMem} {post : aPost} (x1 : Int32) (x3 : Int32) (h :
    ((x3 = x1 →
      ((nI 1) = 0 ∨ (nI 1) = 1) ∧ post (some (.int (nI 1))) μ) ∧
    (¬ x3 = x1 →
      vp_in x3 10 ∧
      a_Spec G sX7_across [.ref 36, .int (μ.1 53 x3.toNatClampNeg), .int x3] μ (fun r1 m1 => ∃ v1 : Int32, r1 = some (.int v1) ∧
      vp_in (μ.1 53 x3.toNatClampNeg) 16 ∧
      (((m1.1 52 (μ.1 53 x3.toNatClampNeg).toNatClampNeg) ≤ 0 →
        vp_in (μ.1 53 x3.toNatClampNeg) 16 ∧
        ((¬ v1 = (m1.1 37 (μ.1 53 x3.toNatClampNeg).toNatClampNeg) →
          vp_in (μ.1 53 x3.toNatClampNeg) 16 ∧
          a_Runs G sX7_addWay 198 [(0, .ref 36), (1, .int x1), (3, .int v1)] [] (va_up m1.1 52 (upd (m1.1 52) ((μ.1 53 x3.toNatClampNeg).toNatClampNeg) (nI 2)), m1.2) post) ∧
        (v1 = (m1.1 37 (μ.1 53 x3.toNatClampNeg).toNatClampNeg) →
          vp_in (μ.1 53 x3.toNatClampNeg) 16 ∧
          a_Runs G sX7_addWay 198 [(0, .ref 36), (1, .int x1), (3, .int v1)] [] (va_up m1.1 52 (upd (m1.1 52) ((μ.1 53 x3.toNatClampNeg).toNatClampNeg) (nI 1)), m1.2) post))) ∧
      (¬ (m1.1 52 (μ.1 53 x3.toNatClampNeg).toNatClampNeg) ≤ 0 →
        vp_in (μ.1 53 x3.toNatClampNeg) 16 ∧
        a_Runs G sX7_addWay 198 [(0, .ref 36), (1, .int x1), (3, .int v1)] [] (va_up m1.1 52 (upd (m1.1 52) ((μ.1 53 x3.toNatClampNeg).toNatClampNeg) (nI 0)), m1.2) post)))))) :
    a_Runs G sX7_addWay 198 [(0, .ref 36), (1, .int x1), (3, .int x3)] [] μ post := a_run (S := sX7_addWay) (pg := pX7_addWay) (tab := tX7) [(2, [0, 1, 2, 3]), (33, [0, 1, 2, 3]), (42, [0, 1, 2, 3, 4]), (198, [0, 1, 3])] 36 (a_okT_e tX7_ok) pX7_addWay_ok rfl h
set_option maxRecDepth 100000 in
set_option maxHeartbeats 4000000 in
theorem w_X7_addWay_42 {G : aG} {μ : aMem} {post : aPost} (x1 : Int32) (x2 : Int32) (x3 : Int32) (x4 : Int32) (h :
    (((μ.1 36 0) ≤ x4 →
      a_Runs G sX7_addWay 33 [(0, .ref 36), (1, .int x1), (2, .int x2), (3, .int (x3 + nI 1))] [] μ post) ∧
    (¬ (μ.1 36 0) ≤ x4 →
      vp_in x4 16 ∧
      (((μ.1 52 x4.toNatClampNeg) = (nI 1) →
        vp_in x4 16 ∧
        (((μ.1 52 x4.toNatClampNeg) = (nI 2) →
          a_Runs G sX7_addWay 42 [(0, .ref 36), (1, .int x1), (2, .int x2), (3, .int x3), (4, .int (x4 + nI 1))] [] μ post) ∧
        (¬ (μ.1 52 x4.toNatClampNeg) = (nI 2) →
          vp_in x4 16 ∧
          vp_in x4 16 ∧
          vp_in x4 16 ∧
          ((¬ (μ.1 52 x4.toNatClampNeg) = (nI 1) →
            vp_in x4 16 ∧
            a_Spec G sX7_tryStep [.ref 36, .int x4, .int (μ.1 38 x4.toNatClampNeg), .int (μ.1 37 x4.toNatClampNeg), .int (μ.1 39 x4.toNatClampNeg)] μ (fun r1 m1 => r1 = none ∧
            a_Runs G sX7_addWay 42 [(0, .ref 36), (1, .int x1), (2, .int x2), (3, .int x3), (4, .int (x4 + nI 1))] [] m1 post)) ∧
          ((μ.1 52 x4.toNatClampNeg) = (nI 1) →
            vp_in x4 16 ∧
            a_Spec G sX7_tryStep [.ref 36, .int x4, .int (μ.1 38 x4.toNatClampNeg), .int (μ.1 37 x4.toNatClampNeg), .int (-(μ.1 39 x4.toNatClampNeg))] μ (fun r2 m2 => r2 = none ∧
            a_Runs G sX7_addWay 42 [(0, .ref 36), (1, .int x1), (2, .int x2), (3, .int x3), (4, .int (x4 + nI 1))] [] m2 post)))))) ∧
      (¬ (μ.1 52 x4.toNatClampNeg) = (nI 1) →
        vp_in x4 16 ∧
        vp_in x4 16 ∧
        vp_in x4 16 ∧
        ((¬ (μ.1 52 x4.toNatClampNeg) = (nI 2) →
          vp_in x4 16 ∧
          a_Spec G sX7_tryStep [.ref 36, .int x4, .int (μ.1 37 x4.toNatClampNeg), .int (μ.1 38 x4.toNatClampNeg), .int (μ.1 39 x4.toNatClampNeg)] μ (fun r3 m3 => r3 = none ∧
          vp_in x4 16 ∧
          (((m3.1 52 x4.toNatClampNeg) = (nI 2) →
            a_Runs G sX7_addWay 42 [(0, .ref 36), (1, .int x1), (2, .int x2), (3, .int x3), (4, .int (x4 + nI 1))] [] m3 post) ∧
          (¬ (m3.1 52 x4.toNatClampNeg) = (nI 2) →
            vp_in x4 16 ∧
            vp_in x4 16 ∧
            vp_in x4 16 ∧
            ((¬ (m3.1 52 x4.toNatClampNeg) = (nI 1) →
              vp_in x4 16 ∧
              a_Spec G sX7_tryStep [.ref 36, .int x4, .int (m3.1 38 x4.toNatClampNeg), .int (m3.1 37 x4.toNatClampNeg), .int (m3.1 39 x4.toNatClampNeg)] m3 (fun r4 m4 => r4 = none ∧
              a_Runs G sX7_addWay 42 [(0, .ref 36), (1, .int x1), (2, .int x2), (3, .int x3), (4, .int (x4 + nI 1))] [] m4 post)) ∧
            ((m3.1 52 x4.toNatClampNeg) = (nI 1) →
              vp_in x4 16 ∧
              a_Spec G sX7_tryStep [.ref 36, .int x4, .int (m3.1 38 x4.toNatClampNeg), .int (m3.1 37 x4.toNatClampNeg), .int (-(m3.1 39 x4.toNatClampNeg))] m3 (fun r5 m5 => r5 = none ∧
              a_Runs G sX7_addWay 42 [(0, .ref 36), (1, .int x1), (2, .int x2), (3, .int x3), (4, .int (x4 + nI 1))] [] m5 post))))))) ∧
        ((μ.1 52 x4.toNatClampNeg) = (nI 2) →
          vp_in x4 16 ∧
          a_Spec G sX7_tryStep [.ref 36, .int x4, .int (μ.1 37 x4.toNatClampNeg), .int (μ.1 38 x4.toNatClampNeg), .int (-(μ.1 39 x4.toNatClampNeg))] μ (fun r6 m6 => r6 = none ∧
          vp_in x4 16 ∧
          (((m6.1 52 x4.toNatClampNeg) = (nI 2) →
            a_Runs G sX7_addWay 42 [(0, .ref 36), (1, .int x1), (2, .int x2), (3, .int x3), (4, .int (x4 + nI 1))] [] m6 post) ∧
          (¬ (m6.1 52 x4.toNatClampNeg) = (nI 2) →
            vp_in x4 16 ∧
            vp_in x4 16 ∧
            vp_in x4 16 ∧
            ((¬ (m6.1 52 x4.toNatClampNeg) = (nI 1) →
              vp_in x4 16 ∧
              a_Spec G sX7_tryStep [.ref 36, .int x4, .int (m6.1 38 x4.toNatClampNeg), .int (m6.1 37 x4.toNatClampNeg), .int (m6.1 39 x4.toNatClampNeg)] m6 (fun r7 m7 => r7 = none ∧
              a_Runs G sX7_addWay 42 [(0, .ref 36), (1, .int x1), (2, .int x2), (3, .int x3), (4, .int (x4 + nI 1))] [] m7 post)) ∧
            ((m6.1 52 x4.toNatClampNeg) = (nI 1) →
              vp_in x4 16 ∧
              a_Spec G sX7_tryStep [.ref 36, .int x4, .int (m6.1 38 x4.toNatClampNeg), .int (m6.1 37 x4.toNatClampNeg), .int (-(m6.1 39 x4.toNatClampNeg))] m6 (fun r8 m8 => r8 = none ∧
              a_Runs G sX7_addWay 42 [(0, .ref 36), (1, .int x1), (2, .int x2), (3, .int x3), (4, .int (x4 + nI 1))] [] m8 post))))))))))))) :
    a_Runs G sX7_addWay 42 [(0, .ref 36), (1, .int x1), (2, .int x2), (3, .int x3), (4, .int x4)] [] μ post := a_run (S := sX7_addWay) (pg := pX7_addWay) (tab := tX7) [(2, [0, 1, 2, 3]), (33, [0, 1, 2, 3]), (42, [0, 1, 2, 3, 4]), (198, [0, 1, 3])] 67 (a_okT_e tX7_ok) pX7_addWay_ok rfl h
set_option maxRecDepth 100000 in
set_option maxHeartbeats 4000000 in
theorem w_X7_two_0 {G : aG} {μ : aMem} {post : aPost} (x1 : Int32) (x2 : Int32) (h :
    a_Spec G sX7_isPlace [.int x1] μ (fun r1 m1 => ∃ v1 : Int32, r1 = some (.int v1) ∧
    ((v1 = 0 →
      post (some (.int (-1))) m1) ∧
    (¬ v1 = 0 →
      a_Spec G sX7_isPlace [.int x2] m1 (fun r2 m2 => ∃ v2 : Int32, r2 = some (.int v2) ∧
      ((¬ v2 = 0 →
        ((¬ x1 = x2 →
          a_Runs G sX7_two 26 [(0, .ref 36), (1, .int x1), (2, .int x2), (3, .int (nI 0))] [] m2 post) ∧
        (x1 = x2 →
          post (some (.int (-3))) m2))) ∧
      (v2 = 0 →
        post (some (.int (-1))) m2))))))) :
    a_Spec G sX7_two [.ref 36, .int x1, .int x2] μ post := a_enter (by decide +kernel) rfl (a_run (S := sX7_two) (pg := pX7_two) (tab := tX7) [(26, [0, 1, 2, 3]), (71, [0, 3, 4])] 14 (a_okT_e tX7_ok) pX7_two_ok rfl h)
set_option maxRecDepth 100000 in
set_option maxHeartbeats 4000000 in
theorem w_X7_two_26 {G : aG} {μ : aMem} {post : aPost} (x1 : Int32) (x2 : Int32) (x3 : Int32) (h :
    (((nI 16) ≤ x3 →
      a_Spec G sX7_addWay [.ref 36, .int x1, .int x2] μ (fun r1 m1 => ∃ v1 : Int32, r1 = some (.int v1) ∧
      ((v1 = 0 →
        post (some (.int (-9))) m1) ∧
      (¬ v1 = 0 →
        a_Spec G sX7_addWay [.ref 36, .int x1, .int x2] m1 (fun r2 m2 => ∃ v2 : Int32, r2 = some (.int v2) ∧
        ((¬ v2 = 0 →
          a_Runs G sX7_two 71 [(0, .ref 36), (3, .int (nI 0)), (4, .int (nI 0))] [] m2 post) ∧
        (v2 = 0 →
          post (some (.int (-9))) m2))))))) ∧
    (¬ (nI 16) ≤ x3 →
      vp_in x3 16 ∧
      a_Runs G sX7_two 26 [(0, .ref 36), (1, .int x1), (2, .int x2), (3, .int (x3 + nI 1))] [] (va_up μ.1 52 (upd (μ.1 52) x3.toNatClampNeg (nI 0)), μ.2) post))) :
    a_Runs G sX7_two 26 [(0, .ref 36), (1, .int x1), (2, .int x2), (3, .int x3)] [] μ post := a_run (S := sX7_two) (pg := pX7_two) (tab := tX7) [(26, [0, 1, 2, 3]), (71, [0, 3, 4])] 20 (a_okT_e tX7_ok) pX7_two_ok rfl h
set_option maxRecDepth 100000 in
set_option maxHeartbeats 4000000 in
theorem w_X7_two_71 {G : aG} {μ : aMem} {post : aPost} (x3 : Int32) (x4 : Int32) (h :
    (((μ.1 36 0) ≤ x4 →
      post (some (.int x3)) μ) ∧
    (¬ (μ.1 36 0) ≤ x4 →
      vp_in x4 16 ∧
      (((μ.1 52 x4.toNatClampNeg) ≤ 0 →
        a_Runs G sX7_two 71 [(0, .ref 36), (3, .int (x3 + (nI 0))), (4, .int (x4 + nI 1))] [] μ post) ∧
      (¬ (μ.1 52 x4.toNatClampNeg) ≤ 0 →
        vp_in x4 16 ∧
        a_Runs G sX7_two 71 [(0, .ref 36), (3, .int (x3 + (μ.1 39 x4.toNatClampNeg))), (4, .int (x4 + nI 1))] [] μ post))))) :
    a_Runs G sX7_two 71 [(0, .ref 36), (3, .int x3), (4, .int x4)] [] μ post := a_run (S := sX7_two) (pg := pX7_two) (tab := tX7) [(26, [0, 1, 2, 3]), (71, [0, 3, 4])] 22 (a_okT_e tX7_ok) pX7_two_ok rfl h
set_option maxRecDepth 100000 in
set_option maxHeartbeats 4000000 in
theorem w_X7_treeOf_0 {G : aG} {μ : aMem} {post : aPost} (x1 : Int32) (h :
    a_Spec G sX7_ones [.int x1] μ (fun r1 m1 => ∃ v1 : Int32, r1 = some (.int v1) ∧
    a_Runs G sX7_treeOf 12 [(0, .ref 36), (1, .int x1), (2, .int (v1 - (nI 1))), (3, .int (nI 0)), (4, .int (nI 0))] [] m1 post)) :
    a_Spec G sX7_treeOf [.ref 36, .int x1] μ post := a_enter (by decide +kernel) rfl (a_run (S := sX7_treeOf) (pg := pX7_treeOf) (tab := tX7) [(12, [0, 1, 2, 3, 4]), (37, [0, 1, 2, 3, 4]), (122, [0, 1, 2, 3, 4, 5, 6, 7, 8])] 12 (a_okT_e tX7_ok) pX7_treeOf_ok rfl h)
set_option maxRecDepth 100000 in
set_option maxHeartbeats 4000000 in
theorem w_X7_treeOf_12 {G : aG} {μ : aMem} {post : aPost} (x1 : Int32) (x2 : Int32) (x3 : Int32) (x4 : Int32) (h :
    (((nI 10) ≤ x4 →
      a_Runs G sX7_treeOf 37 [(0, .ref 36), (1, .int x1), (2, .int x2), (3, .int x3), (4, .int (nI 0))] [] μ post) ∧
    (¬ (nI 10) ≤ x4 →
      vp_in x4 10 ∧
      a_Runs G sX7_treeOf 12 [(0, .ref 36), (1, .int x1), (2, .int x2), (3, .int x3), (4, .int (x4 + nI 1))] [] (va_up μ.1 56 (upd (μ.1 56) x4.toNatClampNeg x4), μ.2) post))) :
    a_Runs G sX7_treeOf 12 [(0, .ref 36), (1, .int x1), (2, .int x2), (3, .int x3), (4, .int x4)] [] μ post := a_run (S := sX7_treeOf) (pg := pX7_treeOf) (tab := tX7) [(12, [0, 1, 2, 3, 4]), (37, [0, 1, 2, 3, 4]), (122, [0, 1, 2, 3, 4, 5, 6, 7, 8])] 13 (a_okT_e tX7_ok) pX7_treeOf_ok rfl h
set_option maxRecDepth 100000 in
set_option maxHeartbeats 4000000 in
theorem w_X7_treeOf_37 {G : aG} {μ : aMem} {post : aPost} (x1 : Int32) (x2 : Int32) (x3 : Int32) (x4 : Int32) (h :
    (((μ.1 36 0) ≤ x4 →
      ((x2 ≤ 0 →
        post (some (.int x3)) μ) ∧
      (¬ x2 ≤ 0 →
        post (some (.int (nI 1000000))) μ))) ∧
    (¬ (μ.1 36 0) ≤ x4 →
      ((x2 ≤ 0 →
        ((x2 ≤ 0 →
          post (some (.int x3)) μ) ∧
        (¬ x2 ≤ 0 →
          post (some (.int (nI 1000000))) μ))) ∧
      (¬ x2 ≤ 0 →
        vp_in x4 16 ∧
        vp_in (μ.1 55 x4.toNatClampNeg) 16 ∧
        vp_in (μ.1 37 (μ.1 55 x4.toNatClampNeg).toNatClampNeg) 10 ∧
        vp_in (μ.1 55 x4.toNatClampNeg) 16 ∧
        vp_in (μ.1 38 (μ.1 55 x4.toNatClampNeg).toNatClampNeg) 10 ∧
        vp_in (μ.1 55 x4.toNatClampNeg) 16 ∧
        vp_in (μ.1 55 x4.toNatClampNeg) 16 ∧
        ((¬ (((x1 >>> ((μ.1 37 (μ.1 55 x4.toNatClampNeg).toNatClampNeg) &&& 31)) &&& (x1 >>> ((μ.1 38 (μ.1 55 x4.toNatClampNeg).toNatClampNeg) &&& 31))) &&& (nI 1)) = (nI 1) →
          a_Runs G sX7_treeOf 37 [(0, .ref 36), (1, .int x1), (2, .int x2), (3, .int x3), (4, .int (x4 + nI 1))] [] μ post) ∧
        ((((x1 >>> ((μ.1 37 (μ.1 55 x4.toNatClampNeg).toNatClampNeg) &&& 31)) &&& (x1 >>> ((μ.1 38 (μ.1 55 x4.toNatClampNeg).toNatClampNeg) &&& 31))) &&& (nI 1)) = (nI 1) →
          (((μ.1 56 (μ.1 37 (μ.1 55 x4.toNatClampNeg).toNatClampNeg).toNatClampNeg) = (μ.1 56 (μ.1 38 (μ.1 55 x4.toNatClampNeg).toNatClampNeg).toNatClampNeg) →
            a_Runs G sX7_treeOf 37 [(0, .ref 36), (1, .int x1), (2, .int x2), (3, .int x3), (4, .int (x4 + nI 1))] [] μ post) ∧
          (¬ (μ.1 56 (μ.1 37 (μ.1 55 x4.toNatClampNeg).toNatClampNeg).toNatClampNeg) = (μ.1 56 (μ.1 38 (μ.1 55 x4.toNatClampNeg).toNatClampNeg).toNatClampNeg) →
            a_Runs G sX7_treeOf 122 [(0, .ref 36), (1, .int x1), (2, .int x2), (3, .int x3), (4, .int x4), (5, .int (μ.1 55 x4.toNatClampNeg)), (6, .int (μ.1 56 (μ.1 37 (μ.1 55 x4.toNatClampNeg).toNatClampNeg).toNatClampNeg)), (7, .int (μ.1 56 (μ.1 38 (μ.1 55 x4.toNatClampNeg).toNatClampNeg).toNatClampNeg)), (8, .int (nI 0))] [] μ post))))))))) :
    a_Runs G sX7_treeOf 37 [(0, .ref 36), (1, .int x1), (2, .int x2), (3, .int x3), (4, .int x4)] [] μ post := a_run (S := sX7_treeOf) (pg := pX7_treeOf) (tab := tX7) [(12, [0, 1, 2, 3, 4]), (37, [0, 1, 2, 3, 4]), (122, [0, 1, 2, 3, 4, 5, 6, 7, 8])] 52 (a_okT_e tX7_ok) pX7_treeOf_ok rfl h
set_option maxRecDepth 100000 in
set_option maxHeartbeats 4000000 in
theorem w_X7_treeOf_122 {G : aG} {μ : aMem} {post : aPost} (x1 : Int32) (x2 : Int32) (x3 : Int32) (x4 : Int32) (x5 : Int32) (x6 : Int32) (x7 : Int32) (x8 : Int32) (h :
    (((nI 10) ≤ x8 →
      vp_in x5 16 ∧
      a_Runs G sX7_treeOf 37 [(0, .ref 36), (1, .int x1), (2, .int (x2 + (-1))), (3, .int (x3 + (μ.1 39 x5.toNatClampNeg))), (4, .int (x4 + nI 1))] [] μ post) ∧
    (¬ (nI 10) ≤ x8 →
      vp_in x8 10 ∧
      ((¬ (μ.1 56 x8.toNatClampNeg) = x6 →
        vp_in x8 10 ∧
        vp_in x8 10 ∧
        a_Runs G sX7_treeOf 122 [(0, .ref 36), (1, .int x1), (2, .int x2), (3, .int x3), (4, .int x4), (5, .int x5), (6, .int x6), (7, .int x7), (8, .int (x8 + nI 1))] [] (va_up μ.1 56 (upd (μ.1 56) x8.toNatClampNeg (μ.1 56 x8.toNatClampNeg)), μ.2) post) ∧
      ((μ.1 56 x8.toNatClampNeg) = x6 →
        vp_in x8 10 ∧
        a_Runs G sX7_treeOf 122 [(0, .ref 36), (1, .int x1), (2, .int x2), (3, .int x3), (4, .int x4), (5, .int x5), (6, .int x6), (7, .int x7), (8, .int (x8 + nI 1))] [] (va_up μ.1 56 (upd (μ.1 56) x8.toNatClampNeg x7), μ.2) post))))) :
    a_Runs G sX7_treeOf 122 [(0, .ref 36), (1, .int x1), (2, .int x2), (3, .int x3), (4, .int x4), (5, .int x5), (6, .int x6), (7, .int x7), (8, .int x8)] [] μ post := a_run (S := sX7_treeOf) (pg := pX7_treeOf) (tab := tX7) [(12, [0, 1, 2, 3, 4]), (37, [0, 1, 2, 3, 4]), (122, [0, 1, 2, 3, 4, 5, 6, 7, 8])] 22 (a_okT_e tX7_ok) pX7_treeOf_ok rfl h
set_option maxRecDepth 100000 in
set_option maxHeartbeats 4000000 in
theorem w_X7_layTrees_0 {G : aG} {μ : aMem} {post : aPost}  (h :
    a_Runs G sX7_layTrees 2 [(0, .ref 36), (1, .int (nI 0))] [] μ post) :
    a_Spec G sX7_layTrees [.ref 36] μ post := a_enter (by decide +kernel) rfl (a_run (S := sX7_layTrees) (pg := pX7_layTrees) (tab := tX7) [(2, [0, 1]), (12, [0, 1, 2]), (73, [0, 1])] 5 (a_okT_e tX7_ok) pX7_layTrees_ok rfl h)
set_option maxRecDepth 100000 in
set_option maxHeartbeats 4000000 in
theorem w_X7_layTrees_2 {G : aG} {μ : aMem} {post : aPost} (x1 : Int32) (h :
    (((μ.1 36 0) ≤ x1 →
      a_Runs G sX7_layTrees 73 [(0, .ref 36), (1, .int (nI 1))] [] μ post) ∧
    (¬ (μ.1 36 0) ≤ x1 →
      a_Runs G sX7_layTrees 12 [(0, .ref 36), (1, .int x1), (2, .int x1)] [] μ post))) :
    a_Runs G sX7_layTrees 2 [(0, .ref 36), (1, .int x1)] [] μ post := a_run (S := sX7_layTrees) (pg := pX7_layTrees) (tab := tX7) [(2, [0, 1]), (12, [0, 1, 2]), (73, [0, 1])] 9 (a_okT_e tX7_ok) pX7_layTrees_ok rfl h
set_option maxRecDepth 100000 in
set_option maxHeartbeats 4000000 in
theorem w_X7_layTrees_73 {G : aG} {μ : aMem} {post : aPost} (x1 : Int32) (h :
    (((nI 1024) ≤ x1 →
      post none μ) ∧
    (¬ (nI 1024) ≤ x1 →
      a_Spec G sX7_treeOf [.ref 36, .int x1] μ (fun r1 m1 => ∃ v1 : Int32, r1 = some (.int v1) ∧
      vp_in x1 1024 ∧
      a_Runs G sX7_layTrees 73 [(0, .ref 36), (1, .int (x1 + nI 1))] [] (va_up m1.1 54 (upd (m1.1 54) x1.toNatClampNeg v1), m1.2) post)))) :
    a_Runs G sX7_layTrees 73 [(0, .ref 36), (1, .int x1)] [] μ post := a_run (S := sX7_layTrees) (pg := pX7_layTrees) (tab := tX7) [(2, [0, 1]), (12, [0, 1, 2]), (73, [0, 1])] 15 (a_okT_e tX7_ok) pX7_layTrees_ok rfl h
set_option maxRecDepth 100000 in
set_option maxHeartbeats 4000000 in
theorem w_X7_layTrees_12 {G : aG} {μ : aMem} {post : aPost} (x1 : Int32) (x2 : Int32) (h :
    ((x2 ≤ 0 →
      vp_in x2 16 ∧
      a_Runs G sX7_layTrees 2 [(0, .ref 36), (1, .int (x1 + nI 1))] [] (va_up μ.1 55 (upd (μ.1 55) x2.toNatClampNeg x1), μ.2) post) ∧
    (¬ x2 ≤ 0 →
      vp_in (x2 - (nI 1)) 16 ∧
      vp_in (μ.1 55 (x2 - (nI 1)).toNatClampNeg) 16 ∧
      vp_in x1 16 ∧
      (((μ.1 39 (μ.1 55 (x2 - (nI 1)).toNatClampNeg).toNatClampNeg) ≤ (μ.1 39 x1.toNatClampNeg) →
        vp_in x2 16 ∧
        a_Runs G sX7_layTrees 2 [(0, .ref 36), (1, .int (x1 + nI 1))] [] (va_up μ.1 55 (upd (μ.1 55) x2.toNatClampNeg x1), μ.2) post) ∧
      (¬ (μ.1 39 (μ.1 55 (x2 - (nI 1)).toNatClampNeg).toNatClampNeg) ≤ (μ.1 39 x1.toNatClampNeg) →
        vp_in (x2 - (nI 1)) 16 ∧
        vp_in x2 16 ∧
        a_Runs G sX7_layTrees 12 [(0, .ref 36), (1, .int x1), (2, .int (x2 + (-1)))] [] (va_up μ.1 55 (upd (μ.1 55) x2.toNatClampNeg (μ.1 55 (x2 - (nI 1)).toNatClampNeg)), μ.2) post))))) :
    a_Runs G sX7_layTrees 12 [(0, .ref 36), (1, .int x1), (2, .int x2)] [] μ post := a_run (S := sX7_layTrees) (pg := pX7_layTrees) (tab := tX7) [(2, [0, 1]), (12, [0, 1, 2]), (73, [0, 1])] 31 (a_okT_e tX7_ok) pX7_layTrees_ok rfl h
set_option maxRecDepth 100000 in
set_option maxHeartbeats 4000000 in
theorem w_X7_leastNet_0 {G : aG} {μ : aMem} {post : aPost} (x1 : Int32) (x2 : Int32) (h :
    a_Runs G sX7_leastNet 6 [(0, .ref 36), (1, .int x1), (2, .int x2), (3, .int (nI 1000000)), (4, .int x1)] [] μ post) :
    a_Spec G sX7_leastNet [.ref 36, .int x1, .int x2] μ post := a_enter (by decide +kernel) rfl (a_run (S := sX7_leastNet) (pg := pX7_leastNet) (tab := tX7) [(6, [0, 1, 2, 3, 4])] 7 (a_okT_e tX7_ok) pX7_leastNet_ok rfl h)
set_option maxRecDepth 100000 in
set_option maxHeartbeats 4000000 in
theorem w_X7_leastNet_6 {G : aG} {μ : aMem} {post : aPost} (x1 : Int32) (x2 : Int32) (x3 : Int32) (x4 : Int32) (h :
    (((nI 1024) ≤ x4 →
      post (some (.int x3)) μ) ∧
    (¬ (nI 1024) ≤ x4 →
      ((¬ (x4 &&& x1) = x1 →
        (((nI 0) = 0 →
          a_Runs G sX7_leastNet 6 [(0, .ref 36), (1, .int x1), (2, .int x2), (3, .int x3), (4, .int (x4 + nI 1))] [] μ post) ∧
        (¬ (nI 0) = 0 →
          vp_in x4 1024 ∧
          ((x3 ≤ (μ.1 54 x4.toNatClampNeg) →
            a_Runs G sX7_leastNet 6 [(0, .ref 36), (1, .int x1), (2, .int x2), (3, .int x3), (4, .int (x4 + nI 1))] [] μ post) ∧
          (¬ x3 ≤ (μ.1 54 x4.toNatClampNeg) →
            vp_in x4 1024 ∧
            a_Runs G sX7_leastNet 6 [(0, .ref 36), (1, .int x1), (2, .int x2), (3, .int (μ.1 54 x4.toNatClampNeg)), (4, .int (x4 + nI 1))] [] μ post))))) ∧
      ((x4 &&& x1) = x1 →
        ((x2 = (-9) →
          (((nI 1) = 0 →
            a_Runs G sX7_leastNet 6 [(0, .ref 36), (1, .int x1), (2, .int x2), (3, .int x3), (4, .int (x4 + nI 1))] [] μ post) ∧
          (¬ (nI 1) = 0 →
            vp_in x4 1024 ∧
            ((x3 ≤ (μ.1 54 x4.toNatClampNeg) →
              a_Runs G sX7_leastNet 6 [(0, .ref 36), (1, .int x1), (2, .int x2), (3, .int x3), (4, .int (x4 + nI 1))] [] μ post) ∧
            (¬ x3 ≤ (μ.1 54 x4.toNatClampNeg) →
              vp_in x4 1024 ∧
              a_Runs G sX7_leastNet 6 [(0, .ref 36), (1, .int x1), (2, .int x2), (3, .int (μ.1 54 x4.toNatClampNeg)), (4, .int (x4 + nI 1))] [] μ post))))) ∧
        (¬ x2 = (-9) →
          ((¬ ((x4 >>> (x2 &&& 31)) &&& (nI 1)) = 0 →
            (((nI 0) = 0 →
              a_Runs G sX7_leastNet 6 [(0, .ref 36), (1, .int x1), (2, .int x2), (3, .int x3), (4, .int (x4 + nI 1))] [] μ post) ∧
            (¬ (nI 0) = 0 →
              vp_in x4 1024 ∧
              ((x3 ≤ (μ.1 54 x4.toNatClampNeg) →
                a_Runs G sX7_leastNet 6 [(0, .ref 36), (1, .int x1), (2, .int x2), (3, .int x3), (4, .int (x4 + nI 1))] [] μ post) ∧
              (¬ x3 ≤ (μ.1 54 x4.toNatClampNeg) →
                vp_in x4 1024 ∧
                a_Runs G sX7_leastNet 6 [(0, .ref 36), (1, .int x1), (2, .int x2), (3, .int (μ.1 54 x4.toNatClampNeg)), (4, .int (x4 + nI 1))] [] μ post))))) ∧
          (((x4 >>> (x2 &&& 31)) &&& (nI 1)) = 0 →
            (((nI 1) = 0 →
              a_Runs G sX7_leastNet 6 [(0, .ref 36), (1, .int x1), (2, .int x2), (3, .int x3), (4, .int (x4 + nI 1))] [] μ post) ∧
            (¬ (nI 1) = 0 →
              vp_in x4 1024 ∧
              ((x3 ≤ (μ.1 54 x4.toNatClampNeg) →
                a_Runs G sX7_leastNet 6 [(0, .ref 36), (1, .int x1), (2, .int x2), (3, .int x3), (4, .int (x4 + nI 1))] [] μ post) ∧
              (¬ x3 ≤ (μ.1 54 x4.toNatClampNeg) →
                vp_in x4 1024 ∧
                a_Runs G sX7_leastNet 6 [(0, .ref 36), (1, .int x1), (2, .int x2), (3, .int (μ.1 54 x4.toNatClampNeg)), (4, .int (x4 + nI 1))] [] μ post))))))))))))) :
    a_Runs G sX7_leastNet 6 [(0, .ref 36), (1, .int x1), (2, .int x2), (3, .int x3), (4, .int x4)] [] μ post := a_run (S := sX7_leastNet) (pg := pX7_leastNet) (tab := tX7) [(6, [0, 1, 2, 3, 4])] 39 (a_okT_e tX7_ok) pX7_leastNet_ok rfl h
set_option maxRecDepth 100000 in
set_option maxHeartbeats 4000000 in
theorem w_X7_isNet_0 {G : aG} {μ : aMem} {post : aPost} (x0 : Int32) (h :
    a_Spec G sX7_in [.int x0, .int (nI 1), .int (nI 1023)] μ (fun r1 m1 => ∃ v1 : Int32, r1 = some (.int v1) ∧
    ((v1 = 0 →
      ((nI 0) = 0 ∨ (nI 0) = 1) ∧ post (some (.int (nI 0))) m1) ∧
    (¬ v1 = 0 →
      a_Spec G sX7_ones [.int x0] m1 (fun r2 m2 => ∃ v2 : Int32, r2 = some (.int v2) ∧
      ((v2 ≤ (nI 1) →
        ((nI 0) = 0 ∨ (nI 0) = 1) ∧ post (some (.int (nI 0))) m2) ∧
      (¬ v2 ≤ (nI 1) →
        ((nI 1) = 0 ∨ (nI 1) = 1) ∧ post (some (.int (nI 1))) m2))))))) :
    a_Spec G sX7_isNet [.int x0] μ post := a_enter (by decide +kernel) rfl (a_run (S := sX7_isNet) (pg := pX7_isNet) (tab := tX7) [] 14 (a_okT_e tX7_ok) pX7_isNet_ok rfl h)
set_option maxRecDepth 100000 in
set_option maxHeartbeats 4000000 in
theorem w_X7_net_0 {G : aG} {μ : aMem} {post : aPost} (x1 : Int32) (h :
    a_Spec G sX7_isNet [.int x1] μ (fun r1 m1 => ∃ v1 : Int32, r1 = some (.int v1) ∧
    ((¬ v1 = 0 →
      a_Spec G sX7_layTrees [.ref 36] m1 (fun r2 m2 => r2 = none ∧
      a_Spec G sX7_leastNet [.ref 36, .int x1, .int (-9)] m2 (fun r3 m3 => ∃ v3 : Int32, r3 = some (.int v3) ∧
      ((¬ v3 = (nI 1000000) →
        post (some (.int v3)) m3) ∧
      (v3 = (nI 1000000) →
        post (some (.int (-9))) m3))))) ∧
    (v1 = 0 →
      post (some (.int (-2))) m1)))) :
    a_Spec G sX7_net [.ref 36, .int x1] μ post := a_enter (by decide +kernel) rfl (a_run (S := sX7_net) (pg := pX7_net) (tab := tX7) [] 18 (a_okT_e tX7_ok) pX7_net_ok rfl h)
set_option maxRecDepth 100000 in
set_option maxHeartbeats 4000000 in
theorem w_X7_splice_0 {G : aG} {μ : aMem} {post : aPost} (x1 : Int32) (h :
    a_Spec G sX7_isNet [.int x1] μ (fun r1 m1 => ∃ v1 : Int32, r1 = some (.int v1) ∧
    ((¬ v1 = 0 →
      a_Spec G sX7_layTrees [.ref 36] m1 (fun r2 m2 => r2 = none ∧
      a_Spec G sX7_leastNet [.ref 36, .int x1, .int (-9)] m2 (fun r3 m3 => ∃ v3 : Int32, r3 = some (.int v3) ∧
      a_Runs G sX7_splice 24 [(0, .ref 36), (1, .int x1), (2, .int v3), (3, .int (nI 0))] [] m3 post))) ∧
    (v1 = 0 →
      post (some (.int (-2))) m1)))) :
    a_Spec G sX7_splice [.ref 36, .int x1] μ post := a_enter (by decide +kernel) rfl (a_run (S := sX7_splice) (pg := pX7_splice) (tab := tX7) [(24, [0, 1, 2, 3])] 15 (a_okT_e tX7_ok) pX7_splice_ok rfl h)
set_option maxRecDepth 100000 in
set_option maxHeartbeats 4000000 in
theorem w_X7_splice_24 {G : aG} {μ : aMem} {post : aPost} (x1 : Int32) (x2 : Int32) (x3 : Int32) (h :
    (((nI 10) ≤ x3 →
      post (some (.int (-9))) μ) ∧
    (¬ (nI 10) ≤ x3 →
      (((nI 1000000) ≤ x2 →
        post (some (.int (-9))) μ) ∧
      (¬ (nI 1000000) ≤ x2 →
        ((¬ ((x1 >>> (x3 &&& 31)) &&& (nI 1)) = 0 →
          a_Runs G sX7_splice 24 [(0, .ref 36), (1, .int x1), (2, .int x2), (3, .int (x3 + nI 1))] [] μ post) ∧
        (((x1 >>> (x3 &&& 31)) &&& (nI 1)) = 0 →
          a_Spec G sX7_leastNet [.ref 36, .int x1, .int x3] μ (fun r1 m1 => ∃ v1 : Int32, r1 = some (.int v1) ∧
          ((v1 ≤ x2 →
            a_Runs G sX7_splice 24 [(0, .ref 36), (1, .int x1), (2, .int x2), (3, .int (x3 + nI 1))] [] m1 post) ∧
          (¬ v1 ≤ x2 →
            post (some (.int x3)) m1)))))))))) :
    a_Runs G sX7_splice 24 [(0, .ref 36), (1, .int x1), (2, .int x2), (3, .int x3)] [] μ post := a_run (S := sX7_splice) (pg := pX7_splice) (tab := tX7) [(24, [0, 1, 2, 3])] 23 (a_okT_e tX7_ok) pX7_splice_ok rfl h
set_option maxRecDepth 100000 in
set_option maxHeartbeats 4000000 in
theorem w_X7_option_0 {G : aG} {μ : aMem} {post : aPost} (x1 : Int32) (x2 : Int32) (h :
    a_Spec G sX7_isWire [.ref 36, .int x1] μ (fun r1 m1 => ∃ v1 : Int32, r1 = some (.int v1) ∧
    ((¬ v1 = 0 →
      a_Spec G sX7_in [.int x2, .int (nI 0), .int (nI 255)] m1 (fun r2 m2 => ∃ v2 : Int32, r2 = some (.int v2) ∧
      ((¬ v2 = 0 →
        vp_in x1 20 ∧
        vp_in x1 20 ∧
        post (some (.int (m2.1 45 x1.toNatClampNeg))) (va_up m2.1 45 (upd (m2.1 45) x1.toNatClampNeg x2), m2.2)) ∧
      (v2 = 0 →
        post (some (.int (-2))) m2)))) ∧
    (v1 = 0 →
      post (some (.int (-1))) m1)))) :
    a_Spec G sX7_option [.ref 36, .int x1, .int x2] μ post := a_enter (by decide +kernel) rfl (a_run (S := sX7_option) (pg := pX7_option) (tab := tX7) [] 23 (a_okT_e tX7_ok) pX7_option_ok rfl h)
set_option maxRecDepth 100000 in
set_option maxHeartbeats 4000000 in
theorem w_X7_order_0 {G : aG} {μ : aMem} {post : aPost} (x1 : Int32) (x2 : Int32) (h :
    a_Spec G sX7_in [.int x1, .int (nI 0), .int (nI 255)] μ (fun r1 m1 => ∃ v1 : Int32, r1 = some (.int v1) ∧
    ((v1 = 0 →
      post (some (.int (-2))) m1) ∧
    (¬ v1 = 0 →
      a_Spec G sX7_in [.int x2, .int (nI 1), .int (nI 1000)] m1 (fun r2 m2 => ∃ v2 : Int32, r2 = some (.int v2) ∧
      ((¬ v2 = 0 →
        ((¬ (m2.1 36 22) = (nI 8) →
          vp_in (m2.1 36 22) 8 ∧
          vp_in (m2.1 36 22) 8 ∧
          post (some (.int (((upd (m2.1 36) 22 ((m2.1 36 22) + (nI 1))) 22) - (nI 1)))) (va_up (va_up (va_up m2.1 57 (upd (m2.1 57) ((m2.1 36 22).toNatClampNeg) x1)) 58 (upd (m2.1 58) ((m2.1 36 22).toNatClampNeg) x2)) 36 (upd (m2.1 36) 22 ((m2.1 36 22) + (nI 1))), m2.2)) ∧
        ((m2.1 36 22) = (nI 8) →
          post (some (.int (-4))) m2))) ∧
      (v2 = 0 →
        post (some (.int (-2))) m2))))))) :
    a_Spec G sX7_order [.ref 36, .int x1, .int x2] μ post := a_enter (by decide +kernel) rfl (a_run (S := sX7_order) (pg := pX7_order) (tab := tX7) [] 39 (a_okT_e tX7_ok) pX7_order_ok rfl h)
set_option maxRecDepth 100000 in
set_option maxHeartbeats 4000000 in
theorem w_X7_setup_0 {G : aG} {μ : aMem} {post : aPost} (x1 : Int32) (h :
    a_Spec G sX7_in [.int x1, .int (nI 0), .int (nI 100000)] μ (fun r1 m1 => ∃ v1 : Int32, r1 = some (.int v1) ∧
    ((¬ v1 = 0 →
      post (some (.int (m1.1 36 25))) (va_up m1.1 36 (upd (m1.1 36) 25 x1), m1.2)) ∧
    (v1 = 0 →
      post (some (.int (-2))) m1)))) :
    a_Spec G sX7_setup [.ref 36, .int x1] μ post := a_enter (by decide +kernel) rfl (a_run (S := sX7_setup) (pg := pX7_setup) (tab := tX7) [] 15 (a_okT_e tX7_ok) pX7_setup_ok rfl h)
set_option maxRecDepth 100000 in
set_option maxHeartbeats 4000000 in
theorem w_X7_needs_0 {G : aG} {μ : aMem} {post : aPost} (x1 : Int32) (x2 : Int32) (h :
    vp_in x2 20 ∧
    vp_in x1 8 ∧
    ((¬ ((μ.1 45 x2.toNatClampNeg) &&& ((μ.1 57 x1.toNatClampNeg) ^^^ (-1))) = 0 →
      ((nI 0) = 0 ∨ (nI 0) = 1) ∧ post (some (.int (nI 0))) μ) ∧
    (((μ.1 45 x2.toNatClampNeg) &&& ((μ.1 57 x1.toNatClampNeg) ^^^ (-1))) = 0 →
      ((nI 1) = 0 ∨ (nI 1) = 1) ∧ post (some (.int (nI 1))) μ))) :
    a_Spec G sX7_needs [.ref 36, .int x1, .int x2] μ post := a_enter (by decide +kernel) rfl (a_run (S := sX7_needs) (pg := pX7_needs) (tab := tX7) [] 17 (a_okT_e tX7_ok) pX7_needs_ok rfl h)
set_option maxRecDepth 100000 in
set_option maxHeartbeats 4000000 in
theorem w_X7_weightOf_0 {G : aG} {μ : aMem} {post : aPost} (x1 : Int32) (h :
    a_Runs G sX7_weightOf 4 [(0, .ref 36), (1, .int x1), (2, .int (nI 0)), (3, .int (nI 0))] [] μ post) :
    a_Spec G sX7_weightOf [.ref 36, .int x1] μ post := a_enter (by decide +kernel) rfl (a_run (S := sX7_weightOf) (pg := pX7_weightOf) (tab := tX7) [(4, [0, 1, 2, 3]), (18, [0, 1, 2, 3, 4, 5])] 7 (a_okT_e tX7_ok) pX7_weightOf_ok rfl h)
set_option maxRecDepth 100000 in
set_option maxHeartbeats 4000000 in
theorem w_X7_weightOf_4 {G : aG} {μ : aMem} {post : aPost} (x1 : Int32) (x2 : Int32) (x3 : Int32) (h :
    (((μ.1 36 5) ≤ x3 →
      post (some (.int x2)) μ) ∧
    (¬ (μ.1 36 5) ≤ x3 →
      a_Runs G sX7_weightOf 18 [(0, .ref 36), (1, .int x1), (2, .int x2), (3, .int x3), (4, .int (nI 0)), (5, .int (nI 0))] [] μ post))) :
    a_Runs G sX7_weightOf 4 [(0, .ref 36), (1, .int x1), (2, .int x2), (3, .int x3)] [] μ post := a_run (S := sX7_weightOf) (pg := pX7_weightOf) (tab := tX7) [(4, [0, 1, 2, 3]), (18, [0, 1, 2, 3, 4, 5])] 11 (a_okT_e tX7_ok) pX7_weightOf_ok rfl h
set_option maxRecDepth 100000 in
set_option maxHeartbeats 4000000 in
theorem w_X7_weightOf_18 {G : aG} {μ : aMem} {post : aPost} (x1 : Int32) (x2 : Int32) (x3 : Int32) (x4 : Int32) (x5 : Int32) (h :
    (((μ.1 36 22) ≤ x5 →
      ((x4 = 0 →
        a_Runs G sX7_weightOf 4 [(0, .ref 36), (1, .int x1), (2, .int (x2 + (nI 0))), (3, .int (x3 + nI 1))] [] μ post) ∧
      (¬ x4 = 0 →
        vp_in x3 20 ∧
        a_Runs G sX7_weightOf 4 [(0, .ref 36), (1, .int x1), (2, .int (x2 + (μ.1 43 x3.toNatClampNeg))), (3, .int (x3 + nI 1))] [] μ post))) ∧
    (¬ (μ.1 36 22) ≤ x5 →
      ((¬ x4 = 0 →
        a_Runs G sX7_weightOf 18 [(0, .ref 36), (1, .int x1), (2, .int x2), (3, .int x3), (4, .int (nI 1)), (5, .int (x5 + nI 1))] [] μ post) ∧
      (x4 = 0 →
        ((¬ ((x1 >>> (x5 &&& 31)) &&& (nI 1)) = (nI 1) →
          a_Runs G sX7_weightOf 18 [(0, .ref 36), (1, .int x1), (2, .int x2), (3, .int x3), (4, .int (nI 0)), (5, .int (x5 + nI 1))] [] μ post) ∧
        (((x1 >>> (x5 &&& 31)) &&& (nI 1)) = (nI 1) →
          a_Spec G sX7_needs [.ref 36, .int x5, .int x3] μ (fun r1 m1 => ∃ v1 : Int32, r1 = some (.int v1) ∧
          ((v1 = 0 →
            a_Runs G sX7_weightOf 18 [(0, .ref 36), (1, .int x1), (2, .int x2), (3, .int x3), (4, .int (nI 0)), (5, .int (x5 + nI 1))] [] m1 post) ∧
          (¬ v1 = 0 →
            a_Runs G sX7_weightOf 18 [(0, .ref 36), (1, .int x1), (2, .int x2), (3, .int x3), (4, .int (nI 1)), (5, .int (x5 + nI 1))] [] m1 post)))))))))) :
    a_Runs G sX7_weightOf 18 [(0, .ref 36), (1, .int x1), (2, .int x2), (3, .int x3), (4, .int x4), (5, .int x5)] [] μ post := a_run (S := sX7_weightOf) (pg := pX7_weightOf) (tab := tX7) [(4, [0, 1, 2, 3]), (18, [0, 1, 2, 3, 4, 5])] 26 (a_okT_e tX7_ok) pX7_weightOf_ok rfl h
set_option maxRecDepth 100000 in
set_option maxHeartbeats 4000000 in
theorem w_X7_weight_0 {G : aG} {μ : aMem} {post : aPost} (x1 : Int32) (h :
    a_Spec G sX7_in [.int x1, .int (nI 0), .int (((nI 1) <<< ((μ.1 36 22) &&& 31)) - (nI 1))] μ (fun r1 m1 => ∃ v1 : Int32, r1 = some (.int v1) ∧
    ((v1 = 0 →
      post (some (.int (-1))) m1) ∧
    (¬ v1 = 0 →
      a_Spec G sX7_weightOf [.ref 36, .int x1] m1 (fun r2 m2 => ∃ v2 : Int32, r2 = some (.int v2) ∧
      post (some (.int v2)) m2))))) :
    a_Spec G sX7_weight [.ref 36, .int x1] μ post := a_enter (by decide +kernel) rfl (a_run (S := sX7_weight) (pg := pX7_weight) (tab := tX7) [] 17 (a_okT_e tX7_ok) pX7_weight_ok rfl h)
set_option maxRecDepth 100000 in
set_option maxHeartbeats 4000000 in
theorem w_X7_mostAhead_0 {G : aG} {μ : aMem} {post : aPost} (x1 : Int32) (h :
    a_Runs G sX7_mostAhead 4 [(0, .ref 36), (1, .int x1), (2, .int (-1)), (3, .int (nI 0))] [] μ post) :
    a_Spec G sX7_mostAhead [.ref 36, .int x1] μ post := a_enter (by decide +kernel) rfl (a_run (S := sX7_mostAhead) (pg := pX7_mostAhead) (tab := tX7) [(4, [0, 1, 2, 3])] 7 (a_okT_e tX7_ok) pX7_mostAhead_ok rfl h)
set_option maxRecDepth 100000 in
set_option maxHeartbeats 4000000 in
theorem w_X7_mostAhead_4 {G : aG} {μ : aMem} {post : aPost} (x1 : Int32) (x2 : Int32) (x3 : Int32) (h :
    ((x1 ≤ x3 →
      post (some (.int x2)) μ) ∧
    (¬ x1 ≤ x3 →
      vp_in x3 8 ∧
      (((μ.1 59 x3.toNatClampNeg) ≤ x2 →
        a_Runs G sX7_mostAhead 4 [(0, .ref 36), (1, .int x1), (2, .int x2), (3, .int (x3 + nI 1))] [] μ post) ∧
      (¬ (μ.1 59 x3.toNatClampNeg) ≤ x2 →
        vp_in x3 8 ∧
        a_Runs G sX7_mostAhead 4 [(0, .ref 36), (1, .int x1), (2, .int (μ.1 59 x3.toNatClampNeg)), (3, .int (x3 + nI 1))] [] μ post))))) :
    a_Runs G sX7_mostAhead 4 [(0, .ref 36), (1, .int x1), (2, .int x2), (3, .int x3)] [] μ post := a_run (S := sX7_mostAhead) (pg := pX7_mostAhead) (tab := tX7) [(4, [0, 1, 2, 3])] 20 (a_okT_e tX7_ok) pX7_mostAhead_ok rfl h
set_option maxRecDepth 100000 in
set_option maxHeartbeats 4000000 in
theorem w_X7_nextRow_0 {G : aG} {μ : aMem} {post : aPost}  (h :
    a_Runs G sX7_nextRow 7 [(0, .ref 36), (1, .int ((μ.1 36 22) - (nI 1)))] [] μ post) :
    a_Spec G sX7_nextRow [.ref 36] μ post := a_enter (by decide +kernel) rfl (a_run (S := sX7_nextRow) (pg := pX7_nextRow) (tab := tX7) [(7, [0, 1]), (51, [0, 2])] 8 (a_okT_e tX7_ok) pX7_nextRow_ok rfl h)
set_option maxRecDepth 100000 in
set_option maxHeartbeats 4000000 in
theorem w_X7_nextRow_7 {G : aG} {μ : aMem} {post : aPost} (x1 : Int32) (h :
    ((x1 ≤ 0 →
      ((0 < x1 →
        vp_in x1 8 ∧
        vp_in x1 8 ∧
        a_Runs G sX7_nextRow 51 [(0, .ref 36), (2, .int (x1 + (nI 1)))] [] (va_up μ.1 59 (upd (μ.1 59) x1.toNatClampNeg ((μ.1 59 x1.toNatClampNeg) + (nI 1))), μ.2) post) ∧
      (¬ 0 < x1 →
        ((nI 0) = 0 ∨ (nI 0) = 1) ∧ post (some (.int (nI 0))) μ))) ∧
    (¬ x1 ≤ 0 →
      vp_in x1 8 ∧
      a_Spec G sX7_mostAhead [.ref 36, .int x1] μ (fun r1 m1 => ∃ v1 : Int32, r1 = some (.int v1) ∧
      (((μ.1 59 x1.toNatClampNeg) ≤ v1 →
        ((0 < x1 →
          vp_in x1 8 ∧
          vp_in x1 8 ∧
          a_Runs G sX7_nextRow 51 [(0, .ref 36), (2, .int (x1 + (nI 1)))] [] (va_up m1.1 59 (upd (m1.1 59) x1.toNatClampNeg ((m1.1 59 x1.toNatClampNeg) + (nI 1))), m1.2) post) ∧
        (¬ 0 < x1 →
          ((nI 0) = 0 ∨ (nI 0) = 1) ∧ post (some (.int (nI 0))) m1))) ∧
      (¬ (μ.1 59 x1.toNatClampNeg) ≤ v1 →
        a_Runs G sX7_nextRow 7 [(0, .ref 36), (1, .int (x1 + (-1)))] [] m1 post)))))) :
    a_Runs G sX7_nextRow 7 [(0, .ref 36), (1, .int x1)] [] μ post := a_run (S := sX7_nextRow) (pg := pX7_nextRow) (tab := tX7) [(7, [0, 1]), (51, [0, 2])] 27 (a_okT_e tX7_ok) pX7_nextRow_ok rfl h
set_option maxRecDepth 100000 in
set_option maxHeartbeats 4000000 in
theorem w_X7_nextRow_51 {G : aG} {μ : aMem} {post : aPost} (x2 : Int32) (h :
    (((μ.1 36 22) ≤ x2 →
      ((nI 1) = 0 ∨ (nI 1) = 1) ∧ post (some (.int (nI 1))) μ) ∧
    (¬ (μ.1 36 22) ≤ x2 →
      vp_in x2 8 ∧
      a_Runs G sX7_nextRow 51 [(0, .ref 36), (2, .int (x2 + nI 1))] [] (va_up μ.1 59 (upd (μ.1 59) x2.toNatClampNeg (nI 0)), μ.2) post))) :
    a_Runs G sX7_nextRow 51 [(0, .ref 36), (2, .int x2)] [] μ post := a_run (S := sX7_nextRow) (pg := pX7_nextRow) (tab := tX7) [(7, [0, 1]), (51, [0, 2])] 14 (a_okT_e tX7_ok) pX7_nextRow_ok rfl h
set_option maxRecDepth 100000 in
set_option maxHeartbeats 4000000 in
theorem w_X7_layPlan_0 {G : aG} {μ : aMem} {post : aPost}  (h :
    a_Runs G sX7_layPlan 2 [(0, .ref 36), (1, .int (nI 1))] [] μ post) :
    a_Spec G sX7_layPlan [.ref 36] μ post := a_enter (by decide +kernel) rfl (a_run (S := sX7_layPlan) (pg := pX7_layPlan) (tab := tX7) [(2, [0, 1]), (17, [0, 1, 2, 4]), (78, [0, 1]), (120, [0, 1, 2]), (141, [0, 1, 3, 4, 6]), (153, [0, 1, 3, 4, 6, 7, 8]), (256, [0, 1, 6])] 5 (a_okT_e tX7_ok) pX7_layPlan_ok rfl h)
set_option maxRecDepth 100000 in
set_option maxHeartbeats 4000000 in
theorem w_X7_layPlan_2 {G : aG} {μ : aMem} {post : aPost} (x1 : Int32) (h :
    ((((nI 1) <<< ((μ.1 36 22) &&& 31)) ≤ x1 →
      a_Runs G sX7_layPlan 78 [(0, .ref 36), (1, .int (nI 0))] [] μ post) ∧
    (¬ ((nI 1) <<< ((μ.1 36 22) &&& 31)) ≤ x1 →
      a_Runs G sX7_layPlan 17 [(0, .ref 36), (1, .int x1), (2, .long (0 : Int64)), (4, .int (nI 0))] [] μ post))) :
    a_Runs G sX7_layPlan 2 [(0, .ref 36), (1, .int x1)] [] μ post := a_run (S := sX7_layPlan) (pg := pX7_layPlan) (tab := tX7) [(2, [0, 1]), (17, [0, 1, 2, 4]), (78, [0, 1]), (120, [0, 1, 2]), (141, [0, 1, 3, 4, 6]), (153, [0, 1, 3, 4, 6, 7, 8]), (256, [0, 1, 6])] 13 (a_okT_e tX7_ok) pX7_layPlan_ok rfl h
set_option maxRecDepth 100000 in
set_option maxHeartbeats 4000000 in
theorem w_X7_layPlan_78 {G : aG} {μ : aMem} {post : aPost} (x1 : Int32) (h :
    (((nI 8) ≤ x1 →
      (((μ.1 36 22) ≤ 0 →
        a_Runs G sX7_layPlan 120 [(0, .ref 36), (1, .int (nI 9)), (2, .int (nI 0))] [] (μ.1, va_up μ.2 36 (vp_updL (μ.2 36) 29 (-1 : Int64))) post) ∧
      (¬ (μ.1 36 22) ≤ 0 →
        a_Runs G sX7_layPlan 120 [(0, .ref 36), (1, .int (nI 9)), (2, .int (nI 1))] [] (μ.1, va_up μ.2 36 (vp_updL (μ.2 36) 29 (-1 : Int64))) post))) ∧
    (¬ (nI 8) ≤ x1 →
      vp_in x1 8 ∧
      a_Runs G sX7_layPlan 78 [(0, .ref 36), (1, .int (x1 + nI 1))] [] (va_up μ.1 59 (upd (μ.1 59) x1.toNatClampNeg (nI 0)), μ.2) post))) :
    a_Runs G sX7_layPlan 78 [(0, .ref 36), (1, .int x1)] [] μ post := a_run (S := sX7_layPlan) (pg := pX7_layPlan) (tab := tX7) [(2, [0, 1]), (17, [0, 1, 2, 4]), (78, [0, 1]), (120, [0, 1, 2]), (141, [0, 1, 3, 4, 6]), (153, [0, 1, 3, 4, 6, 7, 8]), (256, [0, 1, 6])] 17 (a_okT_e tX7_ok) pX7_layPlan_ok rfl h
set_option maxRecDepth 100000 in
set_option maxHeartbeats 4000000 in
theorem w_X7_layPlan_17 {G : aG} {μ : aMem} {post : aPost} (x1 : Int32) (x2 : Int64) (x4 : Int32) (h :
    (((μ.1 36 22) ≤ x4 →
      a_Spec G sX7_weightOf [.ref 36, .int x1] μ (fun r1 m1 => ∃ v1 : Int32, r1 = some (.int v1) ∧
      vp_in x1 256 ∧
      a_Runs G sX7_layPlan 2 [(0, .ref 36), (1, .int (x1 + nI 1))] [] (m1.1, va_up m1.2 61 (vp_updL (m1.2 61) x1.toNatClampNeg (((μ.1 36 25).toInt64) + (x2 * v1.toInt64)))) post)) ∧
    (¬ (μ.1 36 22) ≤ x4 →
      vp_in x4 8 ∧
      a_Runs G sX7_layPlan 17 [(0, .ref 36), (1, .int x1), (2, .long (x2 + ((((x1 >>> (x4 &&& 31)) &&& (nI 1)) * (μ.1 58 x4.toNatClampNeg)).toInt64))), (4, .int (x4 + nI 1))] [] μ post))) :
    a_Runs G sX7_layPlan 17 [(0, .ref 36), (1, .int x1), (2, .long x2), (4, .int x4)] [] μ post := a_run (S := sX7_layPlan) (pg := pX7_layPlan) (tab := tX7) [(2, [0, 1]), (17, [0, 1, 2, 4]), (78, [0, 1]), (120, [0, 1, 2]), (141, [0, 1, 3, 4, 6]), (153, [0, 1, 3, 4, 6, 7, 8]), (256, [0, 1, 6])] 23 (a_okT_e tX7_ok) pX7_layPlan_ok rfl h
set_option maxRecDepth 100000 in
set_option maxHeartbeats 4000000 in
theorem w_X7_layPlan_120 {G : aG} {μ : aMem} {post : aPost} (x1 : Int32) (x2 : Int32) (h :
    ((x2 = 0 →
      post none μ) ∧
    (¬ x2 = 0 →
      a_Spec G sX7_mostAhead [.ref 36, .int (μ.1 36 22)] μ (fun r1 m1 => ∃ v1 : Int32, r1 = some (.int v1) ∧
      a_Runs G sX7_layPlan 141 [(0, .ref 36), (1, .int x1), (3, .int (v1 + (nI 1))), (4, .long (0 : Int64)), (6, .int (nI 0))] [] m1 post)))) :
    a_Runs G sX7_layPlan 120 [(0, .ref 36), (1, .int x1), (2, .int x2)] [] μ post := a_run (S := sX7_layPlan) (pg := pX7_layPlan) (tab := tX7) [(2, [0, 1]), (17, [0, 1, 2, 4]), (78, [0, 1]), (120, [0, 1, 2]), (141, [0, 1, 3, 4, 6]), (153, [0, 1, 3, 4, 6, 7, 8]), (256, [0, 1, 6])] 16 (a_okT_e tX7_ok) pX7_layPlan_ok rfl h
set_option maxRecDepth 100000 in
set_option maxHeartbeats 4000000 in
theorem w_X7_layPlan_141 {G : aG} {μ : aMem} {post : aPost} (x1 : Int32) (x3 : Int32) (x4 : Int64) (x6 : Int32) (h :
    ((x3 ≤ x6 →
      (((lg_cmp (μ.2 36 29) (0 : Int64)) < 0 →
        a_Runs G sX7_layPlan 256 [(0, .ref 36), (1, .int x3), (6, .int (nI 0))] [] (μ.1, va_up μ.2 36 (vp_updL (μ.2 36) 29 x4)) post) ∧
      (¬ (lg_cmp (μ.2 36 29) (0 : Int64)) < 0 →
        (((lg_cmp x4 (μ.2 36 29)) < 0 →
          a_Runs G sX7_layPlan 256 [(0, .ref 36), (1, .int x3), (6, .int (nI 0))] [] (μ.1, va_up μ.2 36 (vp_updL (μ.2 36) 29 x4)) post) ∧
        (¬ (lg_cmp x4 (μ.2 36 29)) < 0 →
          ((¬ (lg_cmp x4 (μ.2 36 29)) = 0 →
            a_Spec G sX7_nextRow [.ref 36] μ (fun r1 m1 => ∃ v1 : Int32, r1 = some (.int v1) ∧
            a_Runs G sX7_layPlan 120 [(0, .ref 36), (1, .int x1), (2, .int v1)] [] m1 post)) ∧
          ((lg_cmp x4 (μ.2 36 29)) = 0 →
            ((x1 ≤ x3 →
              a_Spec G sX7_nextRow [.ref 36] μ (fun r2 m2 => ∃ v2 : Int32, r2 = some (.int v2) ∧
              a_Runs G sX7_layPlan 120 [(0, .ref 36), (1, .int x1), (2, .int v2)] [] m2 post)) ∧
            (¬ x1 ≤ x3 →
              a_Runs G sX7_layPlan 256 [(0, .ref 36), (1, .int x3), (6, .int (nI 0))] [] (μ.1, va_up μ.2 36 (vp_updL (μ.2 36) 29 x4)) post))))))))) ∧
    (¬ x3 ≤ x6 →
      a_Runs G sX7_layPlan 153 [(0, .ref 36), (1, .int x1), (3, .int x3), (4, .long x4), (6, .int x6), (7, .int (nI 0)), (8, .int (nI 0))] [] μ post))) :
    a_Runs G sX7_layPlan 141 [(0, .ref 36), (1, .int x1), (3, .int x3), (4, .long x4), (6, .int x6)] [] μ post := a_run (S := sX7_layPlan) (pg := pX7_layPlan) (tab := tX7) [(2, [0, 1]), (17, [0, 1, 2, 4]), (78, [0, 1]), (120, [0, 1, 2]), (141, [0, 1, 3, 4, 6]), (153, [0, 1, 3, 4, 6, 7, 8]), (256, [0, 1, 6])] 31 (a_okT_e tX7_ok) pX7_layPlan_ok rfl h
set_option maxRecDepth 100000 in
set_option maxHeartbeats 4000000 in
theorem w_X7_layPlan_256 {G : aG} {μ : aMem} {post : aPost} (x1 : Int32) (x6 : Int32) (h :
    (((μ.1 36 22) ≤ x6 →
      a_Spec G sX7_nextRow [.ref 36] μ (fun r1 m1 => ∃ v1 : Int32, r1 = some (.int v1) ∧
      a_Runs G sX7_layPlan 120 [(0, .ref 36), (1, .int x1), (2, .int v1)] [] m1 post)) ∧
    (¬ (μ.1 36 22) ≤ x6 →
      vp_in x6 8 ∧
      vp_in x6 8 ∧
      a_Runs G sX7_layPlan 256 [(0, .ref 36), (1, .int x1), (6, .int (x6 + nI 1))] [] (va_up μ.1 60 (upd (μ.1 60) x6.toNatClampNeg (μ.1 59 x6.toNatClampNeg)), μ.2) post))) :
    a_Runs G sX7_layPlan 256 [(0, .ref 36), (1, .int x1), (6, .int x6)] [] μ post := a_run (S := sX7_layPlan) (pg := pX7_layPlan) (tab := tX7) [(2, [0, 1]), (17, [0, 1, 2, 4]), (78, [0, 1]), (120, [0, 1, 2]), (141, [0, 1, 3, 4, 6]), (153, [0, 1, 3, 4, 6, 7, 8]), (256, [0, 1, 6])] 17 (a_okT_e tX7_ok) pX7_layPlan_ok rfl h
set_option maxRecDepth 100000 in
set_option maxHeartbeats 4000000 in
theorem w_X7_layPlan_153 {G : aG} {μ : aMem} {post : aPost} (x1 : Int32) (x3 : Int32) (x4 : Int64) (x6 : Int32) (x7 : Int32) (x8 : Int32) (h :
    (((μ.1 36 22) ≤ x8 →
      vp_in x7 256 ∧
      a_Runs G sX7_layPlan 141 [(0, .ref 36), (1, .int x1), (3, .int x3), (4, .long (x4 + (μ.2 61 x7.toNatClampNeg))), (6, .int (x6 + nI 1))] [] μ post) ∧
    (¬ (μ.1 36 22) ≤ x8 →
      vp_in x8 8 ∧
      ((¬ (μ.1 59 x8.toNatClampNeg) = x6 →
        a_Runs G sX7_layPlan 153 [(0, .ref 36), (1, .int x1), (3, .int x3), (4, .long x4), (6, .int x6), (7, .int (x7 ||| (nI 0))), (8, .int (x8 + nI 1))] [] μ post) ∧
      ((μ.1 59 x8.toNatClampNeg) = x6 →
        a_Runs G sX7_layPlan 153 [(0, .ref 36), (1, .int x1), (3, .int x3), (4, .long x4), (6, .int x6), (7, .int (x7 ||| ((nI 1) <<< (x8 &&& 31)))), (8, .int (x8 + nI 1))] [] μ post))))) :
    a_Runs G sX7_layPlan 153 [(0, .ref 36), (1, .int x1), (3, .int x3), (4, .long x4), (6, .int x6), (7, .int x7), (8, .int x8)] [] μ post := a_run (S := sX7_layPlan) (pg := pX7_layPlan) (tab := tX7) [(2, [0, 1]), (17, [0, 1, 2, 4]), (78, [0, 1]), (120, [0, 1, 2]), (141, [0, 1, 3, 4, 6]), (153, [0, 1, 3, 4, 6, 7, 8]), (256, [0, 1, 6])] 22 (a_okT_e tX7_ok) pX7_layPlan_ok rfl h
set_option maxRecDepth 100000 in
set_option maxHeartbeats 4000000 in
theorem w_X7_best_0 {G : aG} {μ : aMem} {post : aPost}  (h :
    a_Spec G sX7_layPlan [.ref 36] μ (fun r1 m1 => r1 = none ∧
    ((¬ (m1.1 36 22) = 0 →
      post (some (.long (m1.2 36 29))) m1) ∧
    ((m1.1 36 22) = 0 →
      post (some (.long (0 : Int64))) m1)))) :
    a_Spec G sX7_best [.ref 36] μ post := a_enter (by decide +kernel) rfl (a_run (S := sX7_best) (pg := pX7_best) (tab := tX7) [] 10 (a_okT_e tX7_ok) pX7_best_ok rfl h)
set_option maxRecDepth 100000 in
set_option maxHeartbeats 4000000 in
theorem w_X7_loom_0 {G : aG} {μ : aMem} {post : aPost} (x1 : Int32) (h :
    a_Spec G sX7_in [.int x1, .int (nI 0), .int ((μ.1 36 22) - (nI 1))] μ (fun r1 m1 => ∃ v1 : Int32, r1 = some (.int v1) ∧
    ((¬ v1 = 0 →
      a_Spec G sX7_layPlan [.ref 36] m1 (fun r2 m2 => r2 = none ∧
      vp_in x1 8 ∧
      post (some (.int (m2.1 60 x1.toNatClampNeg))) m2)) ∧
    (v1 = 0 →
      post (some (.int (-1))) m1)))) :
    a_Spec G sX7_loom [.ref 36, .int x1] μ post := a_enter (by decide +kernel) rfl (a_run (S := sX7_loom) (pg := pX7_loom) (tab := tX7) [] 17 (a_okT_e tX7_ok) pX7_loom_ok rfl h)
set_option maxRecDepth 100000 in
set_option maxHeartbeats 4000000 in
theorem w_X7_areAlike_0 {G : aG} {μ : aMem} {post : aPost} (x1 : Int32) (x2 : Int32) (h :
    a_Runs G sX7_areAlike 5 [(0, .ref 36), (1, .int x1), (2, .int x2), (3, .int (nI 1)), (4, .int (nI 0))] [] μ post) :
    a_Spec G sX7_areAlike [.ref 36, .int x1, .int x2] μ post := a_enter (by decide +kernel) rfl (a_run (S := sX7_areAlike) (pg := pX7_areAlike) (tab := tX7) [(5, [0, 1, 2, 3, 4])] 7 (a_okT_e tX7_ok) pX7_areAlike_ok rfl h)
set_option maxRecDepth 100000 in
set_option maxHeartbeats 4000000 in
theorem w_X7_areAlike_5 {G : aG} {μ : aMem} {post : aPost} (x1 : Int32) (x2 : Int32) (x3 : Int32) (x4 : Int32) (h :
    (((μ.1 36 5) ≤ x4 →
      (x3 = 0 ∨ x3 = 1) ∧ post (some (.int x3)) μ) ∧
    (¬ (μ.1 36 5) ≤ x4 →
      ((x3 = 0 →
        a_Runs G sX7_areAlike 5 [(0, .ref 36), (1, .int x1), (2, .int x2), (3, .int (nI 0)), (4, .int (x4 + nI 1))] [] μ post) ∧
      (¬ x3 = 0 →
        a_Spec G sX7_needs [.ref 36, .int x1, .int x4] μ (fun r1 m1 => ∃ v1 : Int32, r1 = some (.int v1) ∧
        a_Spec G sX7_needs [.ref 36, .int x2, .int x4] m1 (fun r2 m2 => ∃ v2 : Int32, r2 = some (.int v2) ∧
        ((¬ v1 = v2 →
          a_Runs G sX7_areAlike 5 [(0, .ref 36), (1, .int x1), (2, .int x2), (3, .int (nI 0)), (4, .int (x4 + nI 1))] [] m2 post) ∧
        (v1 = v2 →
          a_Runs G sX7_areAlike 5 [(0, .ref 36), (1, .int x1), (2, .int x2), (3, .int (nI 1)), (4, .int (x4 + nI 1))] [] m2 post))))))))) :
    a_Runs G sX7_areAlike 5 [(0, .ref 36), (1, .int x1), (2, .int x2), (3, .int x3), (4, .int x4)] [] μ post := a_run (S := sX7_areAlike) (pg := pX7_areAlike) (tab := tX7) [(5, [0, 1, 2, 3, 4])] 23 (a_okT_e tX7_ok) pX7_areAlike_ok rfl h
set_option maxRecDepth 100000 in
set_option maxHeartbeats 4000000 in
theorem w_X7_alike_0 {G : aG} {μ : aMem} {post : aPost}  (h :
    a_Runs G sX7_alike 4 [(0, .ref 36), (1, .int (nI 0)), (2, .int (nI 0))] [] μ post) :
    a_Spec G sX7_alike [.ref 36] μ post := a_enter (by decide +kernel) rfl (a_run (S := sX7_alike) (pg := pX7_alike) (tab := tX7) [(4, [0, 1, 2]), (17, [0, 1, 2, 3, 4])] 7 (a_okT_e tX7_ok) pX7_alike_ok rfl h)
set_option maxRecDepth 100000 in
set_option maxHeartbeats 4000000 in
theorem w_X7_alike_4 {G : aG} {μ : aMem} {post : aPost} (x1 : Int32) (x2 : Int32) (h :
    (((μ.1 36 22) ≤ x2 →
      post (some (.int x1)) μ) ∧
    (¬ (μ.1 36 22) ≤ x2 →
      a_Runs G sX7_alike 17 [(0, .ref 36), (1, .int x1), (2, .int x2), (3, .int (nI 0)), (4, .int (nI 0))] [] μ post))) :
    a_Runs G sX7_alike 4 [(0, .ref 36), (1, .int x1), (2, .int x2)] [] μ post := a_run (S := sX7_alike) (pg := pX7_alike) (tab := tX7) [(4, [0, 1, 2]), (17, [0, 1, 2, 3, 4])] 11 (a_okT_e tX7_ok) pX7_alike_ok rfl h
set_option maxRecDepth 100000 in
set_option maxHeartbeats 4000000 in
theorem w_X7_alike_17 {G : aG} {μ : aMem} {post : aPost} (x1 : Int32) (x2 : Int32) (x3 : Int32) (x4 : Int32) (h :
    (((μ.1 36 22) ≤ x4 →
      ((x3 = 0 →
        a_Runs G sX7_alike 4 [(0, .ref 36), (1, .int (x1 + (nI 0))), (2, .int (x2 + nI 1))] [] μ post) ∧
      (¬ x3 = 0 →
        a_Runs G sX7_alike 4 [(0, .ref 36), (1, .int (x1 + (nI 1))), (2, .int (x2 + nI 1))] [] μ post))) ∧
    (¬ (μ.1 36 22) ≤ x4 →
      ((¬ x3 = 0 →
        a_Runs G sX7_alike 17 [(0, .ref 36), (1, .int x1), (2, .int x2), (3, .int (nI 1)), (4, .int (x4 + nI 1))] [] μ post) ∧
      (x3 = 0 →
        ((x2 = x4 →
          a_Runs G sX7_alike 17 [(0, .ref 36), (1, .int x1), (2, .int x2), (3, .int (nI 0)), (4, .int (x4 + nI 1))] [] μ post) ∧
        (¬ x2 = x4 →
          a_Spec G sX7_areAlike [.ref 36, .int x2, .int x4] μ (fun r1 m1 => ∃ v1 : Int32, r1 = some (.int v1) ∧
          ((v1 = 0 →
            a_Runs G sX7_alike 17 [(0, .ref 36), (1, .int x1), (2, .int x2), (3, .int (nI 0)), (4, .int (x4 + nI 1))] [] m1 post) ∧
          (¬ v1 = 0 →
            a_Runs G sX7_alike 17 [(0, .ref 36), (1, .int x1), (2, .int x2), (3, .int (nI 1)), (4, .int (x4 + nI 1))] [] m1 post)))))))))) :
    a_Runs G sX7_alike 17 [(0, .ref 36), (1, .int x1), (2, .int x2), (3, .int x3), (4, .int x4)] [] μ post := a_run (S := sX7_alike) (pg := pX7_alike) (tab := tX7) [(4, [0, 1, 2]), (17, [0, 1, 2, 3, 4])] 22 (a_okT_e tX7_ok) pX7_alike_ok rfl h
set_option maxRecDepth 100000 in
set_option maxHeartbeats 4000000 in
theorem w_X7_isPin_0 {G : aG} {μ : aMem} {post : aPost} (x0 : Int32) (h :
    a_Spec G sX7_in [.int x0, .int (nI 0), .int (nI 15)] μ (fun r1 m1 => ∃ v1 : Int32, r1 = some (.int v1) ∧
    (v1 = 0 ∨ v1 = 1) ∧ post (some (.int v1)) m1)) :
    a_Spec G sX7_isPin [.int x0] μ post := a_enter (by decide +kernel) rfl (a_run (S := sX7_isPin) (pg := pX7_isPin) (tab := tX7) [] 7 (a_okT_e tX7_ok) pX7_isPin_ok rfl h)
set_option maxRecDepth 100000 in
set_option maxHeartbeats 4000000 in
theorem w_X7_pin_0 {G : aG} {μ : aMem} {post : aPost} (x1 : Int32) (x2 : Int32) (h :
    a_Spec G sX7_isPin [.int x1] μ (fun r1 m1 => ∃ v1 : Int32, r1 = some (.int v1) ∧
    ((v1 = 0 →
      post (some (.int (-1))) m1) ∧
    (¬ v1 = 0 →
      a_Spec G sX7_in [.int x2, .int (nI 0), .int (nI 7)] m1 (fun r2 m2 => ∃ v2 : Int32, r2 = some (.int v2) ∧
      ((¬ v2 = 0 →
        vp_in x1 16 ∧
        vp_in x1 16 ∧
        post (some (.int (m2.1 62 x1.toNatClampNeg))) (va_up m2.1 62 (upd (m2.1 62) x1.toNatClampNeg x2), m2.2)) ∧
      (v2 = 0 →
        post (some (.int (-1))) m2))))))) :
    a_Spec G sX7_pin [.ref 36, .int x1, .int x2] μ post := a_enter (by decide +kernel) rfl (a_run (S := sX7_pin) (pg := pX7_pin) (tab := tX7) [] 22 (a_okT_e tX7_ok) pX7_pin_ok rfl h)
set_option maxRecDepth 100000 in
set_option maxHeartbeats 4000000 in
theorem w_X7_nets_0 {G : aG} {μ : aMem} {post : aPost}  (h :
    a_Runs G sX7_nets 4 [(0, .ref 36), (1, .int (nI 0)), (2, .int (nI 0))] [] μ post) :
    a_Spec G sX7_nets [.ref 36] μ post := a_enter (by decide +kernel) rfl (a_run (S := sX7_nets) (pg := pX7_nets) (tab := tX7) [(4, [0, 1, 2])] 7 (a_okT_e tX7_ok) pX7_nets_ok rfl h)
set_option maxRecDepth 100000 in
set_option maxHeartbeats 4000000 in
theorem w_X7_nets_4 {G : aG} {μ : aMem} {post : aPost} (x1 : Int32) (x2 : Int32) (h :
    (((nI 16) ≤ x2 →
      post (some (.int x1)) μ) ∧
    (¬ (nI 16) ≤ x2 →
      vp_in x2 16 ∧
      a_Runs G sX7_nets 4 [(0, .ref 36), (1, .int (x1 ||| ((nI 1) <<< ((μ.1 62 x2.toNatClampNeg) &&& 31)))), (2, .int (x2 + nI 1))] [] μ post))) :
    a_Runs G sX7_nets 4 [(0, .ref 36), (1, .int x1), (2, .int x2)] [] μ post := a_run (S := sX7_nets) (pg := pX7_nets) (tab := tX7) [(4, [0, 1, 2])] 17 (a_okT_e tX7_ok) pX7_nets_ok rfl h
set_option maxRecDepth 100000 in
set_option maxHeartbeats 4000000 in
theorem w_X7_testMany_0 {G : aG} {μ : aMem} {post : aPost}  (h :
    a_Runs G sX7_testMany 4 [(0, .ref 36), (1, .int (nI 0)), (2, .int (nI 0))] [] μ post) :
    a_Spec G sX7_testMany [.ref 36] μ post := a_enter (by decide +kernel) rfl (a_run (S := sX7_testMany) (pg := pX7_testMany) (tab := tX7) [(4, [0, 1, 2])] 7 (a_okT_e tX7_ok) pX7_testMany_ok rfl h)
set_option maxRecDepth 100000 in
set_option maxHeartbeats 4000000 in
theorem w_X7_testMany_4 {G : aG} {μ : aMem} {post : aPost} (x1 : Int32) (x2 : Int32) (h :
    (((nI 16) ≤ x2 →
      ((x1 ≤ (nI 3) →
        ((x1 ≤ (nI 1) →
          post (some (.int x1)) μ) ∧
        (¬ x1 ≤ (nI 1) →
          post (some (.int (nI 2))) μ))) ∧
      (¬ x1 ≤ (nI 3) →
        post (some (.int (nI 3))) μ))) ∧
    (¬ (nI 16) ≤ x2 →
      vp_in x2 16 ∧
      vp_in (nI 0) 16 ∧
      a_Runs G sX7_testMany 4 [(0, .ref 36), (1, .int (x1 ||| ((μ.1 62 x2.toNatClampNeg) ^^^ (μ.1 62 (nI 0).toNatClampNeg)))), (2, .int (x2 + nI 1))] [] μ post))) :
    a_Runs G sX7_testMany 4 [(0, .ref 36), (1, .int x1), (2, .int x2)] [] μ post := a_run (S := sX7_testMany) (pg := pX7_testMany) (tab := tX7) [(4, [0, 1, 2])] 20 (a_okT_e tX7_ok) pX7_testMany_ok rfl h
set_option maxRecDepth 100000 in
set_option maxHeartbeats 4000000 in
theorem w_X7_tests_0 {G : aG} {μ : aMem} {post : aPost}  (h :
    a_Spec G sX7_testMany [.ref 36] μ (fun r1 m1 => ∃ v1 : Int32, r1 = some (.int v1) ∧
    post (some (.int v1)) m1)) :
    a_Spec G sX7_tests [.ref 36] μ post := a_enter (by decide +kernel) rfl (a_run (S := sX7_tests) (pg := pX7_tests) (tab := tX7) [] 5 (a_okT_e tX7_ok) pX7_tests_ok rfl h)
set_option maxRecDepth 100000 in
set_option maxHeartbeats 4000000 in
theorem w_X7_side_0 {G : aG} {μ : aMem} {post : aPost} (x1 : Int32) (x2 : Int32) (h :
    a_Spec G sX7_isPin [.int x2] μ (fun r1 m1 => ∃ v1 : Int32, r1 = some (.int v1) ∧
    ((¬ v1 = 0 →
      a_Spec G sX7_testMany [.ref 36] m1 (fun r2 m2 => ∃ v2 : Int32, r2 = some (.int v2) ∧
      a_Spec G sX7_in [.int x1, .int (nI 0), .int (v2 - (nI 1))] m2 (fun r3 m3 => ∃ v3 : Int32, r3 = some (.int v3) ∧
      ((v3 = 0 →
        post (some (.int (-2))) m3) ∧
      (¬ v3 = 0 →
        vp_in x2 16 ∧
        post (some (.int (((m3.1 62 x2.toNatClampNeg) >>> (x1 &&& 31)) &&& (nI 1)))) m3))))) ∧
    (v1 = 0 →
      post (some (.int (-1))) m1)))) :
    a_Spec G sX7_side [.ref 36, .int x1, .int x2] μ post := a_enter (by decide +kernel) rfl (a_run (S := sX7_side) (pg := pX7_side) (tab := tX7) [] 23 (a_okT_e tX7_ok) pX7_side_ok rfl h)
set_option maxRecDepth 100000 in
set_option maxHeartbeats 4000000 in
theorem w_X7_hasPins_0 {G : aG} {μ : aMem} {post : aPost} (x1 : Int32) (h :
    a_Spec G sX7_in [.int x1, .int (nI 0), .int (nI 7)] μ (fun r1 m1 => ∃ v1 : Int32, r1 = some (.int v1) ∧
    ((v1 = 0 →
      ((nI 0) = 0 ∨ (nI 0) = 1) ∧ post (some (.int (nI 0))) m1) ∧
    (¬ v1 = 0 →
      a_Spec G sX7_nets [.ref 36] m1 (fun r2 m2 => ∃ v2 : Int32, r2 = some (.int v2) ∧
      ((¬ ((v2 >>> (x1 &&& 31)) &&& (nI 1)) = (nI 1) →
        ((nI 0) = 0 ∨ (nI 0) = 1) ∧ post (some (.int (nI 0))) m2) ∧
      (((v2 >>> (x1 &&& 31)) &&& (nI 1)) = (nI 1) →
        ((nI 1) = 0 ∨ (nI 1) = 1) ∧ post (some (.int (nI 1))) m2))))))) :
    a_Spec G sX7_hasPins [.ref 36, .int x1] μ post := a_enter (by decide +kernel) rfl (a_run (S := sX7_hasPins) (pg := pX7_hasPins) (tab := tX7) [] 18 (a_okT_e tX7_ok) pX7_hasPins_ok rfl h)
set_option maxRecDepth 100000 in
set_option maxHeartbeats 4000000 in
theorem w_X7_shows_0 {G : aG} {μ : aMem} {post : aPost} (x1 : Int32) (x2 : Int32) (h :
    a_Spec G sX7_hasPins [.ref 36, .int x1] μ (fun r1 m1 => ∃ v1 : Int32, r1 = some (.int v1) ∧
    ((v1 = 0 →
      post (some (.int (-1))) m1) ∧
    (¬ v1 = 0 →
      a_Spec G sX7_hasPins [.ref 36, .int x2] m1 (fun r2 m2 => ∃ v2 : Int32, r2 = some (.int v2) ∧
      ((¬ v2 = 0 →
        ((¬ x1 = x2 →
          post (some (.int (x1 ^^^ x2))) m2) ∧
        (x1 = x2 →
          post (some (.int (-3))) m2))) ∧
      (v2 = 0 →
        post (some (.int (-1))) m2))))))) :
    a_Spec G sX7_shows [.ref 36, .int x1, .int x2] μ post := a_enter (by decide +kernel) rfl (a_run (S := sX7_shows) (pg := pX7_shows) (tab := tX7) [] 17 (a_okT_e tX7_ok) pX7_shows_ok rfl h)
set_option maxRecDepth 100000 in
set_option maxHeartbeats 4000000 in
theorem w_X7_pairs_0 {G : aG} {μ : aMem} {post : aPost} (x1 : Int32) (h :
    a_Runs G sX7_pairs 4 [(0, .ref 36), (1, .int x1), (2, .int (nI 0)), (3, .int (nI 0))] [] μ post) :
    a_Spec G sX7_pairs [.ref 36, .int x1] μ post := a_enter (by decide +kernel) rfl (a_run (S := sX7_pairs) (pg := pX7_pairs) (tab := tX7) [(4, [0, 1, 2, 3]), (15, [0, 1, 2, 3, 4])] 7 (a_okT_e tX7_ok) pX7_pairs_ok rfl h)
set_option maxRecDepth 100000 in
set_option maxHeartbeats 4000000 in
theorem w_X7_pairs_4 {G : aG} {μ : aMem} {post : aPost} (x1 : Int32) (x2 : Int32) (x3 : Int32) (h :
    (((nI 8) ≤ x3 →
      post (some (.int x2)) μ) ∧
    (¬ (nI 8) ≤ x3 →
      a_Runs G sX7_pairs 15 [(0, .ref 36), (1, .int x1), (2, .int x2), (3, .int x3), (4, .int (x3 + (nI 1)))] [] μ post))) :
    a_Runs G sX7_pairs 4 [(0, .ref 36), (1, .int x1), (2, .int x2), (3, .int x3)] [] μ post := a_run (S := sX7_pairs) (pg := pX7_pairs) (tab := tX7) [(4, [0, 1, 2, 3]), (15, [0, 1, 2, 3, 4])] 10 (a_okT_e tX7_ok) pX7_pairs_ok rfl h
set_option maxRecDepth 100000 in
set_option maxHeartbeats 4000000 in
theorem w_X7_pairs_15 {G : aG} {μ : aMem} {post : aPost} (x1 : Int32) (x2 : Int32) (x3 : Int32) (x4 : Int32) (h :
    (((nI 8) ≤ x4 →
      a_Runs G sX7_pairs 4 [(0, .ref 36), (1, .int x1), (2, .int x2), (3, .int (x3 + nI 1))] [] μ post) ∧
    (¬ (nI 8) ≤ x4 →
      a_Spec G sX7_hasPins [.ref 36, .int x3] μ (fun r1 m1 => ∃ v1 : Int32, r1 = some (.int v1) ∧
      ((v1 = 0 →
        a_Runs G sX7_pairs 15 [(0, .ref 36), (1, .int x1), (2, .int (x2 + (nI 0))), (3, .int x3), (4, .int (x4 + nI 1))] [] m1 post) ∧
      (¬ v1 = 0 →
        a_Spec G sX7_hasPins [.ref 36, .int x4] m1 (fun r2 m2 => ∃ v2 : Int32, r2 = some (.int v2) ∧
        ((v2 = 0 →
          a_Runs G sX7_pairs 15 [(0, .ref 36), (1, .int x1), (2, .int (x2 + (nI 0))), (3, .int x3), (4, .int (x4 + nI 1))] [] m2 post) ∧
        (¬ v2 = 0 →
          ((¬ (x3 ^^^ x4) = x1 →
            a_Runs G sX7_pairs 15 [(0, .ref 36), (1, .int x1), (2, .int (x2 + (nI 0))), (3, .int x3), (4, .int (x4 + nI 1))] [] m2 post) ∧
          ((x3 ^^^ x4) = x1 →
            a_Runs G sX7_pairs 15 [(0, .ref 36), (1, .int x1), (2, .int (x2 + (nI 1))), (3, .int x3), (4, .int (x4 + nI 1))] [] m2 post))))))))))) :
    a_Runs G sX7_pairs 15 [(0, .ref 36), (1, .int x1), (2, .int x2), (3, .int x3), (4, .int x4)] [] μ post := a_run (S := sX7_pairs) (pg := pX7_pairs) (tab := tX7) [(4, [0, 1, 2, 3]), (15, [0, 1, 2, 3, 4])] 26 (a_okT_e tX7_ok) pX7_pairs_ok rfl h
set_option maxRecDepth 100000 in
set_option maxHeartbeats 4000000 in
theorem w_X7_count_0 {G : aG} {μ : aMem} {post : aPost} (x1 : Int32) (h :
    a_Runs G sX7_count 7 [(0, .ref 36), (1, .int x1), (2, .int (nI 0)), (3, .int (nI 0)), (4, .int (nI 0))] [] μ post) :
    a_Spec G sX7_count [.ref 36, .int x1] μ post := a_enter (by decide +kernel) rfl (a_run (S := sX7_count) (pg := pX7_count) (tab := tX7) [(7, [0, 1, 2, 3, 4])] 9 (a_okT_e tX7_ok) pX7_count_ok rfl h)
set_option maxRecDepth 100000 in
set_option maxHeartbeats 4000000 in
theorem w_X7_count_7 {G : aG} {μ : aMem} {post : aPost} (x1 : Int32) (x2 : Int32) (x3 : Int32) (x4 : Int32) (h :
    (((μ.1 36 5) ≤ x4 →
      ((x1.toInt < 0 ∨ 5 < x1.toInt →
        post (some (.int (-2))) μ) ∧
      (x1.toInt = 0 →
        post (some (.int (μ.1 36 0))) μ) ∧
      (x1.toInt = 1 →
        post (some (.int (μ.1 36 5))) μ) ∧
      (x1.toInt = 2 →
        post (some (.int x2)) μ) ∧
      (x1.toInt = 3 →
        post (some (.int (μ.1 36 22))) μ) ∧
      (x1.toInt = 4 →
        a_Spec G sX7_nets [.ref 36] μ (fun r1 m1 => ∃ v1 : Int32, r1 = some (.int v1) ∧
        a_Spec G sX7_ones [.int v1] m1 (fun r2 m2 => ∃ v2 : Int32, r2 = some (.int v2) ∧
        post (some (.int v2)) m2))) ∧
      (x1.toInt = 5 →
        post (some (.int x3)) μ) ∧ True)) ∧
    (¬ (μ.1 36 5) ≤ x4 →
      vp_in x4 20 ∧
      (((μ.1 46 x4.toNatClampNeg) ≤ 0 →
        a_Spec G sX7_lengthOf [.ref 36, .int x4] μ (fun r3 m3 => ∃ v3 : Int32, r3 = some (.int v3) ∧
        a_Runs G sX7_count 7 [(0, .ref 36), (1, .int x1), (2, .int (x2 + (nI 0))), (3, .int (x3 + v3)), (4, .int (x4 + nI 1))] [] m3 post)) ∧
      (¬ (μ.1 46 x4.toNatClampNeg) ≤ 0 →
        a_Spec G sX7_lengthOf [.ref 36, .int x4] μ (fun r4 m4 => ∃ v4 : Int32, r4 = some (.int v4) ∧
        a_Runs G sX7_count 7 [(0, .ref 36), (1, .int x1), (2, .int (x2 + (nI 1))), (3, .int (x3 + v4)), (4, .int (x4 + nI 1))] [] m4 post)))))) :
    a_Runs G sX7_count 7 [(0, .ref 36), (1, .int x1), (2, .int x2), (3, .int x3), (4, .int x4)] [] μ post := a_run (S := sX7_count) (pg := pX7_count) (tab := tX7) [(7, [0, 1, 2, 3, 4])] 25 (a_okT_e tX7_ok) pX7_count_ok rfl h
