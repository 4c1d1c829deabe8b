def r63 (b o6 o7 : Nat) (u : Nat → Nat → Nat) (v : Nat → Nat) : Nat → Nat := fun k => [o6, u 0 0, u 1 0, u 2 0, u 3 0, u 4 0, u 5 0, u 0 1, u 0 2, u 0 3, u 0 4, u 0 5, u 0 6, u 1 1, u 1 2, u 1 3, u 1 4, u 1 5, u 1 6, u 1 7, u 1 8, u 1 9, u 2 1, u 2 2, u 2 3, u 2 4, u 3 1, u 3 2, u 4 1, u 4 2, u 4 3, u 4 4, u 4 5, u 4 6, u 4 7, u 5 1, o7, v 0, v 1, v 2, v 3, v 4, v 5, v 6, v 7, v 8, v 9, v 10, v 11, v 12, v 13, v 14, v 15, v 16, v 17, v 18, v 19, v 20, v 21, v 22, v 23, v 24, v 25].getD k b
def pl63 : List Nat := [0, 1, 8, 18, 23, 26, 34, 2, 3, 4, 5, 6, 7, 9, 10, 11, 12, 13, 14, 15, 16, 17, 19, 20, 21, 22, 24, 25, 27, 28, 29, 30, 31, 32, 33, 35, 36, 37, 38, 39, 40, 41, 42, 43, 44, 45, 46, 47, 48, 49, 50, 51, 52, 53, 54, 55, 56, 57, 58, 59, 60, 61, 62]
section W63
variable {cA : ClassId × ClassId × ClassId} {b o6 o7 : Nat} {u : Nat → Nat → Nat} {v : Nat → Nat}
set_option maxRecDepth 100000 in
theorem w63_0 : (wX6 cA o6 u ++ wX7 cA o7 v)[0]? = some (r63 b o6 o7 u v 0, a_cell cA (r63 b o6 o7 u v) μ0 0 (.inr (6, [.inl 1, .inl 2, .inl 3, .inl 4, .inl 5, .inl 6]))) := rfl
set_option maxRecDepth 100000 in
theorem w63_1 : (wX6 cA o6 u ++ wX7 cA o7 v)[1]? = some (r63 b o6 o7 u v 1, a_cell cA (r63 b o6 o7 u v) μ0 1 (.inr (0, [.inr 0, .inl 7, .inl 8, .inl 9, .inl 10, .inl 11, .inl 12]))) := rfl
set_option maxRecDepth 100000 in
theorem w63_2 : (wX6 cA o6 u ++ wX7 cA o7 v)[8]? = some (r63 b o6 o7 u v 2, a_cell cA (r63 b o6 o7 u v) μ0 2 (.inr (5, [.inr 0, .inl 13, .inl 14, .inl 15, .inl 16, .inl 17, .inl 18, .inl 19, .inl 20, .inl 21]))) := rfl
set_option maxRecDepth 100000 in
theorem w63_3 : (wX6 cA o6 u ++ wX7 cA o7 v)[18]? = some (r63 b o6 o7 u v 3, a_cell cA (r63 b o6 o7 u v) μ0 3 (.inr (3, [.inl 1, .inl 22, .inl 23, .inl 24, .inl 25, .inr 0]))) := rfl
set_option maxRecDepth 100000 in
theorem w63_4 : (wX6 cA o6 u ++ wX7 cA o7 v)[23]? = some (r63 b o6 o7 u v 4, a_cell cA (r63 b o6 o7 u v) μ0 4 (.inr (4, [.inl 1, .inl 26, .inl 27, .inr 0]))) := rfl
set_option maxRecDepth 100000 in
theorem w63_5 : (wX6 cA o6 u ++ wX7 cA o7 v)[26]? = some (r63 b o6 o7 u v 5, a_cell cA (r63 b o6 o7 u v) μ0 5 (.inr (1, [.inr 0, .inr 0, .inr 2, .inl 2, .inl 28, .inl 29, .inl 30, .inl 31, .inl 32, .inl 33, .inl 34]))) := rfl
set_option maxRecDepth 100000 in
theorem w63_6 : (wX6 cA o6 u ++ wX7 cA o7 v)[34]? = some (r63 b o6 o7 u v 6, a_cell cA (r63 b o6 o7 u v) μ0 6 (.inr (2, [.inl 35]))) := rfl
set_option maxRecDepth 100000 in
theorem w63_7 : (wX6 cA o6 u ++ wX7 cA o7 v)[2]? = some (r63 b o6 o7 u v 7, a_cell cA (r63 b o6 o7 u v) μ0 7 (.inl (0, 16))) := rfl
set_option maxRecDepth 100000 in
theorem w63_8 : (wX6 cA o6 u ++ wX7 cA o7 v)[3]? = some (r63 b o6 o7 u v 8, a_cell cA (r63 b o6 o7 u v) μ0 8 (.inl (0, 16))) := rfl
set_option maxRecDepth 100000 in
theorem w63_9 : (wX6 cA o6 u ++ wX7 cA o7 v)[4]? = some (r63 b o6 o7 u v 9, a_cell cA (r63 b o6 o7 u v) μ0 9 (.inl (0, 16))) := rfl
set_option maxRecDepth 100000 in
theorem w63_10 : (wX6 cA o6 u ++ wX7 cA o7 v)[5]? = some (r63 b o6 o7 u v 10, a_cell cA (r63 b o6 o7 u v) μ0 10 (.inl (0, 16))) := rfl
set_option maxRecDepth 100000 in
theorem w63_11 : (wX6 cA o6 u ++ wX7 cA o7 v)[6]? = some (r63 b o6 o7 u v 11, a_cell cA (r63 b o6 o7 u v) μ0 11 (.inl (0, 16))) := rfl
set_option maxRecDepth 100000 in
theorem w63_12 : (wX6 cA o6 u ++ wX7 cA o7 v)[7]? = some (r63 b o6 o7 u v 12, a_cell cA (r63 b o6 o7 u v) μ0 12 (.inl (0, 16))) := rfl
set_option maxRecDepth 100000 in
theorem w63_13 : (wX6 cA o6 u ++ wX7 cA o7 v)[9]? = some (r63 b o6 o7 u v 13, a_cell cA (r63 b o6 o7 u v) μ0 13 (.inl (0, 20))) := rfl
set_option maxRecDepth 100000 in
theorem w63_14 : (wX6 cA o6 u ++ wX7 cA o7 v)[10]? = some (r63 b o6 o7 u v 14, a_cell cA (r63 b o6 o7 u v) μ0 14 (.inl (0, 20))) := rfl
set_option maxRecDepth 100000 in
theorem w63_15 : (wX6 cA o6 u ++ wX7 cA o7 v)[11]? = some (r63 b o6 o7 u v 15, a_cell cA (r63 b o6 o7 u v) μ0 15 (.inl (0, 20))) := rfl
set_option maxRecDepth 100000 in
theorem w63_16 : (wX6 cA o6 u ++ wX7 cA o7 v)[12]? = some (r63 b o6 o7 u v 16, a_cell cA (r63 b o6 o7 u v) μ0 16 (.inl (0, 20))) := rfl
set_option maxRecDepth 100000 in
theorem w63_17 : (wX6 cA o6 u ++ wX7 cA o7 v)[13]? = some (r63 b o6 o7 u v 17, a_cell cA (r63 b o6 o7 u v) μ0 17 (.inl (0, 20))) := rfl
set_option maxRecDepth 100000 in
theorem w63_18 : (wX6 cA o6 u ++ wX7 cA o7 v)[14]? = some (r63 b o6 o7 u v 18, a_cell cA (r63 b o6 o7 u v) μ0 18 (.inl (0, 20))) := rfl
set_option maxRecDepth 100000 in
theorem w63_19 : (wX6 cA o6 u ++ wX7 cA o7 v)[15]? = some (r63 b o6 o7 u v 19, a_cell cA (r63 b o6 o7 u v) μ0 19 (.inl (0, 20))) := rfl
set_option maxRecDepth 100000 in
theorem w63_20 : (wX6 cA o6 u ++ wX7 cA o7 v)[16]? = some (r63 b o6 o7 u v 20, a_cell cA (r63 b o6 o7 u v) μ0 20 (.inl (0, 180))) := rfl
set_option maxRecDepth 100000 in
theorem w63_21 : (wX6 cA o6 u ++ wX7 cA o7 v)[17]? = some (r63 b o6 o7 u v 21, a_cell cA (r63 b o6 o7 u v) μ0 21 (.inl (0, 4))) := rfl
set_option maxRecDepth 100000 in
theorem w63_22 : (wX6 cA o6 u ++ wX7 cA o7 v)[19]? = some (r63 b o6 o7 u v 22, a_cell cA (r63 b o6 o7 u v) μ0 22 (.inl (0, 16))) := rfl
set_option maxRecDepth 100000 in
theorem w63_23 : (wX6 cA o6 u ++ wX7 cA o7 v)[20]? = some (r63 b o6 o7 u v 23, a_cell cA (r63 b o6 o7 u v) μ0 23 (.inl (0, 16))) := rfl
set_option maxRecDepth 100000 in
theorem w63_24 : (wX6 cA o6 u ++ wX7 cA o7 v)[21]? = some (r63 b o6 o7 u v 24, a_cell cA (r63 b o6 o7 u v) μ0 24 (.inl (0, 10))) := rfl
set_option maxRecDepth 100000 in
theorem w63_25 : (wX6 cA o6 u ++ wX7 cA o7 v)[22]? = some (r63 b o6 o7 u v 25, a_cell cA (r63 b o6 o7 u v) μ0 25 (.inl (0, 9))) := rfl
set_option maxRecDepth 100000 in
theorem w63_26 : (wX6 cA o6 u ++ wX7 cA o7 v)[24]? = some (r63 b o6 o7 u v 26, a_cell cA (r63 b o6 o7 u v) μ0 26 (.inl (0, 10))) := rfl
set_option maxRecDepth 100000 in
theorem w63_27 : (wX6 cA o6 u ++ wX7 cA o7 v)[25]? = some (r63 b o6 o7 u v 27, a_cell cA (r63 b o6 o7 u v) μ0 27 (.inl (0, 10))) := rfl
set_option maxRecDepth 100000 in
theorem w63_28 : (wX6 cA o6 u ++ wX7 cA o7 v)[27]? = some (r63 b o6 o7 u v 28, a_cell cA (r63 b o6 o7 u v) μ0 28 (.inl (0, 8))) := rfl
set_option maxRecDepth 100000 in
theorem w63_29 : (wX6 cA o6 u ++ wX7 cA o7 v)[28]? = some (r63 b o6 o7 u v 29, a_cell cA (r63 b o6 o7 u v) μ0 29 (.inl (0, 8))) := rfl
set_option maxRecDepth 100000 in
theorem w63_30 : (wX6 cA o6 u ++ wX7 cA o7 v)[29]? = some (r63 b o6 o7 u v 30, a_cell cA (r63 b o6 o7 u v) μ0 30 (.inl (0, 256))) := rfl
set_option maxRecDepth 100000 in
theorem w63_31 : (wX6 cA o6 u ++ wX7 cA o7 v)[30]? = some (r63 b o6 o7 u v 31, a_cell cA (r63 b o6 o7 u v) μ0 31 (.inl (0, 256))) := rfl
set_option maxRecDepth 100000 in
theorem w63_32 : (wX6 cA o6 u ++ wX7 cA o7 v)[31]? = some (r63 b o6 o7 u v 32, a_cell cA (r63 b o6 o7 u v) μ0 32 (.inl (0, 256))) := rfl
set_option maxRecDepth 100000 in
theorem w63_33 : (wX6 cA o6 u ++ wX7 cA o7 v)[32]? = some (r63 b o6 o7 u v 33, a_cell cA (r63 b o6 o7 u v) μ0 33 (.inl (0, 256))) := rfl
set_option maxRecDepth 100000 in
theorem w63_34 : (wX6 cA o6 u ++ wX7 cA o7 v)[33]? = some (r63 b o6 o7 u v 34, a_cell cA (r63 b o6 o7 u v) μ0 34 (.inl (2, 256))) := rfl
set_option maxRecDepth 100000 in
theorem w63_35 : (wX6 cA o6 u ++ wX7 cA o7 v)[35]? = some (r63 b o6 o7 u v 35, a_cell cA (r63 b o6 o7 u v) μ0 35 (.inl (0, 16))) := rfl
set_option maxRecDepth 100000 in
theorem c63_36 (r : Nat → Nat) : a_cell cA r μ0 36 (.inr (7, [.inr 0, .inl 37, .inl 38, .inl 39, .inl 40, .inr 0, .inl 41, .inl 42, .inl 43, .inl 44, .inl 45, .inl 46, .inl 47, .inl 48, .inl 49, .inl 50, .inl 51, .inl 52, .inl 53, .inl 54, .inl 55, .inl 56, .inr 0, .inl 57, .inl 58, .inr 0, .inl 59, .inl 60, .inl 61, .inr 1, .inl 62])) = .inr (7, [.int 0, .ref (r 37), .ref (r 38), .ref (r 39), .ref (r 40), .int 0, .ref (r 41), .ref (r 42), .ref (r 43), .ref (r 44), .ref (r 45), .ref (r 46), .ref (r 47), .ref (r 48), .ref (r 49), .ref (r 50), .ref (r 51), .ref (r 52), .ref (r 53), .ref (r 54), .ref (r 55), .ref (r 56), .int 0, .ref (r 57), .ref (r 58), .int 1000, .ref (r 59), .ref (r 60), .ref (r 61), .long 0, .ref (r 62)]) := by
  show Sum.inr (7, List.mapIdx (fun j f => a_fv r μ0 36 j f) [.inr 0, .inl 37, .inl 38, .inl 39, .inl 40, .inr 0, .inl 41, .inl 42, .inl 43, .inl 44, .inl 45, .inl 46, .inl 47, .inl 48, .inl 49, .inl 50, .inl 51, .inl 52, .inl 53, .inl 54, .inl 55, .inl 56, .inr 0, .inl 57, .inl 58, .inr 0, .inl 59, .inl 60, .inl 61, .inr 1, .inl 62]) = _
  simp only [List.mapIdx_cons, List.mapIdx_nil]
  rfl
theorem r63_37 : r63 b o6 o7 u v 37 = v 0 := rfl
theorem r63_38 : r63 b o6 o7 u v 38 = v 1 := rfl
theorem r63_39 : r63 b o6 o7 u v 39 = v 2 := rfl
theorem r63_40 : r63 b o6 o7 u v 40 = v 3 := rfl
theorem r63_41 : r63 b o6 o7 u v 41 = v 4 := rfl
theorem r63_42 : r63 b o6 o7 u v 42 = v 5 := rfl
theorem r63_43 : r63 b o6 o7 u v 43 = v 6 := rfl
theorem r63_44 : r63 b o6 o7 u v 44 = v 7 := rfl
theorem r63_45 : r63 b o6 o7 u v 45 = v 8 := rfl
theorem r63_46 : r63 b o6 o7 u v 46 = v 9 := rfl
theorem r63_47 : r63 b o6 o7 u v 47 = v 10 := rfl
theorem r63_48 : r63 b o6 o7 u v 48 = v 11 := rfl
theorem r63_49 : r63 b o6 o7 u v 49 = v 12 := rfl
theorem r63_50 : r63 b o6 o7 u v 50 = v 13 := rfl
theorem r63_51 : r63 b o6 o7 u v 51 = v 14 := rfl
theorem r63_52 : r63 b o6 o7 u v 52 = v 15 := rfl
theorem r63_53 : r63 b o6 o7 u v 53 = v 16 := rfl
theorem r63_54 : r63 b o6 o7 u v 54 = v 17 := rfl
theorem r63_55 : r63 b o6 o7 u v 55 = v 18 := rfl
theorem r63_56 : r63 b o6 o7 u v 56 = v 19 := rfl
theorem r63_57 : r63 b o6 o7 u v 57 = v 20 := rfl
theorem r63_58 : r63 b o6 o7 u v 58 = v 21 := rfl
theorem r63_59 : r63 b o6 o7 u v 59 = v 22 := rfl
theorem r63_60 : r63 b o6 o7 u v 60 = v 23 := rfl
theorem r63_61 : r63 b o6 o7 u v 61 = v 24 := rfl
theorem r63_62 : r63 b o6 o7 u v 62 = v 25 := rfl
set_option maxRecDepth 100000 in
set_option maxHeartbeats 4000000 in
theorem w63_36 : (wX6 cA o6 u ++ wX7 cA o7 v)[36]? = some (r63 b o6 o7 u v 36, a_cell cA (r63 b o6 o7 u v) μ0 36 (.inr (7, [.inr 0, .inl 37, .inl 38, .inl 39, .inl 40, .inr 0, .inl 41, .inl 42, .inl 43, .inl 44, .inl 45, .inl 46, .inl 47, .inl 48, .inl 49, .inl 50, .inl 51, .inl 52, .inl 53, .inl 54, .inl 55, .inl 56, .inr 0, .inl 57, .inl 58, .inr 0, .inl 59, .inl 60, .inl 61, .inr 1, .inl 62]))) := by
  rw [c63_36, r63_37, r63_38, r63_39, r63_40, r63_41, r63_42, r63_43, r63_44, r63_45, r63_46, r63_47, r63_48, r63_49, r63_50, r63_51, r63_52, r63_53, r63_54, r63_55, r63_56, r63_57, r63_58, r63_59, r63_60, r63_61, r63_62]
  rfl
set_option maxRecDepth 100000 in
theorem w63_37 : (wX6 cA o6 u ++ wX7 cA o7 v)[37]? = some (r63 b o6 o7 u v 37, a_cell cA (r63 b o6 o7 u v) μ0 37 (.inl (0, 16))) := rfl
set_option maxRecDepth 100000 in
theorem w63_38 : (wX6 cA o6 u ++ wX7 cA o7 v)[38]? = some (r63 b o6 o7 u v 38, a_cell cA (r63 b o6 o7 u v) μ0 38 (.inl (0, 16))) := rfl
set_option maxRecDepth 100000 in
theorem w63_39 : (wX6 cA o6 u ++ wX7 cA o7 v)[39]? = some (r63 b o6 o7 u v 39, a_cell cA (r63 b o6 o7 u v) μ0 39 (.inl (0, 16))) := rfl
set_option maxRecDepth 100000 in
theorem w63_40 : (wX6 cA o6 u ++ wX7 cA o7 v)[40]? = some (r63 b o6 o7 u v 40, a_cell cA (r63 b o6 o7 u v) μ0 40 (.inl (0, 16))) := rfl
set_option maxRecDepth 100000 in
theorem w63_41 : (wX6 cA o6 u ++ wX7 cA o7 v)[41]? = some (r63 b o6 o7 u v 41, a_cell cA (r63 b o6 o7 u v) μ0 41 (.inl (0, 20))) := rfl
set_option maxRecDepth 100000 in
theorem w63_42 : (wX6 cA o6 u ++ wX7 cA o7 v)[42]? = some (r63 b o6 o7 u v 42, a_cell cA (r63 b o6 o7 u v) μ0 42 (.inl (0, 20))) := rfl
set_option maxRecDepth 100000 in
theorem w63_43 : (wX6 cA o6 u ++ wX7 cA o7 v)[43]? = some (r63 b o6 o7 u v 43, a_cell cA (r63 b o6 o7 u v) μ0 43 (.inl (0, 20))) := rfl
set_option maxRecDepth 100000 in
theorem w63_44 : (wX6 cA o6 u ++ wX7 cA o7 v)[44]? = some (r63 b o6 o7 u v 44, a_cell cA (r63 b o6 o7 u v) μ0 44 (.inl (0, 20))) := rfl
set_option maxRecDepth 100000 in
theorem w63_45 : (wX6 cA o6 u ++ wX7 cA o7 v)[45]? = some (r63 b o6 o7 u v 45, a_cell cA (r63 b o6 o7 u v) μ0 45 (.inl (0, 20))) := rfl
set_option maxRecDepth 100000 in
theorem w63_46 : (wX6 cA o6 u ++ wX7 cA o7 v)[46]? = some (r63 b o6 o7 u v 46, a_cell cA (r63 b o6 o7 u v) μ0 46 (.inl (0, 20))) := rfl
set_option maxRecDepth 100000 in
theorem w63_47 : (wX6 cA o6 u ++ wX7 cA o7 v)[47]? = some (r63 b o6 o7 u v 47, a_cell cA (r63 b o6 o7 u v) μ0 47 (.inl (0, 200))) := rfl
set_option maxRecDepth 100000 in
theorem w63_48 : (wX6 cA o6 u ++ wX7 cA o7 v)[48]? = some (r63 b o6 o7 u v 48, a_cell cA (r63 b o6 o7 u v) μ0 48 (.inl (1, 16))) := rfl
set_option maxRecDepth 100000 in
theorem w63_49 : (wX6 cA o6 u ++ wX7 cA o7 v)[49]? = some (r63 b o6 o7 u v 49, a_cell cA (r63 b o6 o7 u v) μ0 49 (.inl (1, 16))) := rfl
set_option maxRecDepth 100000 in
theorem w63_50 : (wX6 cA o6 u ++ wX7 cA o7 v)[50]? = some (r63 b o6 o7 u v 50, a_cell cA (r63 b o6 o7 u v) μ0 50 (.inl (0, 10))) := rfl
set_option maxRecDepth 100000 in
theorem w63_51 : (wX6 cA o6 u ++ wX7 cA o7 v)[51]? = some (r63 b o6 o7 u v 51, a_cell cA (r63 b o6 o7 u v) μ0 51 (.inl (0, 10))) := rfl
set_option maxRecDepth 100000 in
theorem w63_52 : (wX6 cA o6 u ++ wX7 cA o7 v)[52]? = some (r63 b o6 o7 u v 52, a_cell cA (r63 b o6 o7 u v) μ0 52 (.inl (0, 16))) := rfl
set_option maxRecDepth 100000 in
theorem w63_53 : (wX6 cA o6 u ++ wX7 cA o7 v)[53]? = some (r63 b o6 o7 u v 53, a_cell cA (r63 b o6 o7 u v) μ0 53 (.inl (0, 10))) := rfl
set_option maxRecDepth 100000 in
theorem w63_54 : (wX6 cA o6 u ++ wX7 cA o7 v)[54]? = some (r63 b o6 o7 u v 54, a_cell cA (r63 b o6 o7 u v) μ0 54 (.inl (0, 1024))) := rfl
set_option maxRecDepth 100000 in
theorem w63_55 : (wX6 cA o6 u ++ wX7 cA o7 v)[55]? = some (r63 b o6 o7 u v 55, a_cell cA (r63 b o6 o7 u v) μ0 55 (.inl (0, 16))) := rfl
set_option maxRecDepth 100000 in
theorem w63_56 : (wX6 cA o6 u ++ wX7 cA o7 v)[56]? = some (r63 b o6 o7 u v 56, a_cell cA (r63 b o6 o7 u v) μ0 56 (.inl (0, 10))) := rfl
set_option maxRecDepth 100000 in
theorem w63_57 : (wX6 cA o6 u ++ wX7 cA o7 v)[57]? = some (r63 b o6 o7 u v 57, a_cell cA (r63 b o6 o7 u v) μ0 57 (.inl (0, 8))) := rfl
set_option maxRecDepth 100000 in
theorem w63_58 : (wX6 cA o6 u ++ wX7 cA o7 v)[58]? = some (r63 b o6 o7 u v 58, a_cell cA (r63 b o6 o7 u v) μ0 58 (.inl (0, 8))) := rfl
set_option maxRecDepth 100000 in
theorem w63_59 : (wX6 cA o6 u ++ wX7 cA o7 v)[59]? = some (r63 b o6 o7 u v 59, a_cell cA (r63 b o6 o7 u v) μ0 59 (.inl (0, 8))) := rfl
set_option maxRecDepth 100000 in
theorem w63_60 : (wX6 cA o6 u ++ wX7 cA o7 v)[60]? = some (r63 b o6 o7 u v 60, a_cell cA (r63 b o6 o7 u v) μ0 60 (.inl (0, 8))) := rfl
set_option maxRecDepth 100000 in
theorem w63_61 : (wX6 cA o6 u ++ wX7 cA o7 v)[61]? = some (r63 b o6 o7 u v 61, a_cell cA (r63 b o6 o7 u v) μ0 61 (.inl (2, 256))) := rfl
set_option maxRecDepth 100000 in
theorem w63_62 : (wX6 cA o6 u ++ wX7 cA o7 v)[62]? = some (r63 b o6 o7 u v 62, a_cell cA (r63 b o6 o7 u v) μ0 62 (.inl (0, 16))) := rfl
set_option maxRecDepth 100000 in
set_option maxHeartbeats 4000000 in
theorem w63 : ∀ (k : Nat) (d : aDsc), a_lay[k]? = some d → (wX6 cA o6 u ++ wX7 cA o7 v)[pl63.getD k 0]? = some (r63 b o6 o7 u v k, a_cell cA (r63 b o6 o7 u v) μ0 k d) := by
  intro k d h
  match k, h with
  | 0, h => cases (Option.some.inj h); exact w63_0
  | 1, h => cases (Option.some.inj h); exact w63_1
  | 2, h => cases (Option.some.inj h); exact w63_2
  | 3, h => cases (Option.some.inj h); exact w63_3
  | 4, h => cases (Option.some.inj h); exact w63_4
  | 5, h => cases (Option.some.inj h); exact w63_5
  | 6, h => cases (Option.some.inj h); exact w63_6
  | 7, h => cases (Option.some.inj h); exact w63_7
  | 8, h => cases (Option.some.inj h); exact w63_8
  | 9, h => cases (Option.some.inj h); exact w63_9
  | 10, h => cases (Option.some.inj h); exact w63_10
  | 11, h => cases (Option.some.inj h); exact w63_11
  | 12, h => cases (Option.some.inj h); exact w63_12
  | 13, h => cases (Option.some.inj h); exact w63_13
  | 14, h => cases (Option.some.inj h); exact w63_14
  | 15, h => cases (Option.some.inj h); exact w63_15
  | 16, h => cases (Option.some.inj h); exact w63_16
  | 17, h => cases (Option.some.inj h); exact w63_17
  | 18, h => cases (Option.some.inj h); exact w63_18
  | 19, h => cases (Option.some.inj h); exact w63_19
  | 20, h => cases (Option.some.inj h); exact w63_20
  | 21, h => cases (Option.some.inj h); exact w63_21
  | 22, h => cases (Option.some.inj h); exact w63_22
  | 23, h => cases (Option.some.inj h); exact w63_23
  | 24, h => cases (Option.some.inj h); exact w63_24
  | 25, h => cases (Option.some.inj h); exact w63_25
  | 26, h => cases (Option.some.inj h); exact w63_26
  | 27, h => cases (Option.some.inj h); exact w63_27
  | 28, h => cases (Option.some.inj h); exact w63_28
  | 29, h => cases (Option.some.inj h); exact w63_29
  | 30, h => cases (Option.some.inj h); exact w63_30
  | 31, h => cases (Option.some.inj h); exact w63_31
  | 32, h => cases (Option.some.inj h); exact w63_32
  | 33, h => cases (Option.some.inj h); exact w63_33
  | 34, h => cases (Option.some.inj h); exact w63_34
  | 35, h => cases (Option.some.inj h); exact w63_35
  | 36, h => cases (Option.some.inj h); exact w63_36
  | 37, h => cases (Option.some.inj h); exact w63_37
  | 38, h => cases (Option.some.inj h); exact w63_38
  | 39, h => cases (Option.some.inj h); exact w63_39
  | 40, h => cases (Option.some.inj h); exact w63_40
  | 41, h => cases (Option.some.inj h); exact w63_41
  | 42, h => cases (Option.some.inj h); exact w63_42
  | 43, h => cases (Option.some.inj h); exact w63_43
  | 44, h => cases (Option.some.inj h); exact w63_44
  | 45, h => cases (Option.some.inj h); exact w63_45
  | 46, h => cases (Option.some.inj h); exact w63_46
  | 47, h => cases (Option.some.inj h); exact w63_47
  | 48, h => cases (Option.some.inj h); exact w63_48
  | 49, h => cases (Option.some.inj h); exact w63_49
  | 50, h => cases (Option.some.inj h); exact w63_50
  | 51, h => cases (Option.some.inj h); exact w63_51
  | 52, h => cases (Option.some.inj h); exact w63_52
  | 53, h => cases (Option.some.inj h); exact w63_53
  | 54, h => cases (Option.some.inj h); exact w63_54
  | 55, h => cases (Option.some.inj h); exact w63_55
  | 56, h => cases (Option.some.inj h); exact w63_56
  | 57, h => cases (Option.some.inj h); exact w63_57
  | 58, h => cases (Option.some.inj h); exact w63_58
  | 59, h => cases (Option.some.inj h); exact w63_59
  | 60, h => cases (Option.some.inj h); exact w63_60
  | 61, h => cases (Option.some.inj h); exact w63_61
  | 62, h => cases (Option.some.inj h); exact w63_62
  | k + 63, h => exact absurd (List.getElem?_eq_some_iff.mp h).1 (by show ¬ k + 63 < 63; omega)
end W63
