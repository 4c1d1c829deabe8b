/-! ===== the abstract machine: cells by number, ints and longs in two tables ===== -/
abbrev aMem : Type := (Nat → Nat → Int32) × (Nat → Nat → Int64)
abbrev aPost : Type := Option Value → aMem → Prop
abbrev aLV : Type := List (Nat × Value)
/-- a cell: an array (0 int, 1 boolean, 2 long; its length), or an object (its class; its fields: a fixed reference to a cell, or 0 int, 1 long, 2 boolean) -/
abbrev aDsc : Type := (Nat × Nat) ⊕ (Nat × List (Nat ⊕ Nat))
/-- a method: name, code, locals, answer, room, place of its code word in lw_tbl -/
abbrev aMS : Type := MethodName × ByteArray × Nat × Option FieldType × Jvm.Room × Nat
/-- a call: kind (0 virtual, 1 static, 2 static of a nest mate), receiver's class, arguments, method -/
abbrev aCall : Type := Nat × Nat × Nat × aMS
abbrev aTab : Type := List (Nat × Nat × Nat) × List (Nat × aCall) × List (Nat × Int32) × List (Nat × Int64)
abbrev aPg : Type := List (Nat × Instr × Nat)
def a_lay : List aDsc := [
  .inr (6, [.inl 1, .inl 2, .inl 3, .inl 4, .inl 5, .inl 6]),  -- 0 X6
  .inr (0, [.inr 0, .inl 7, .inl 8, .inl 9, .inl 10, .inl 11, .inl 12]),  -- 1 X0
  .inr (5, [.inr 0, .inl 13, .inl 14, .inl 15, .inl 16, .inl 17, .inl 18, .inl 19, .inl 20, .inl 21]),  -- 2 X5
  .inr (3, [.inl 1, .inl 22, .inl 23, .inl 24, .inl 25, .inr 0]),  -- 3 X3
  .inr (4, [.inl 1, .inl 26, .inl 27, .inr 0]),  -- 4 X4
  .inr (1, [.inr 0, .inr 0, .inr 2, .inl 2, .inl 28, .inl 29, .inl 30, .inl 31, .inl 32, .inl 33, .inl 34]),  -- 5 X1
  .inr (2, [.inl 35]),  -- 6 X2
  .inl (0, 16),  -- 7 X0.one
  .inl (0, 16),  -- 8 X0.other
  .inl (0, 16),  -- 9 X0.ends
  .inl (0, 16),  -- 10 X0.lengths
  .inl (0, 16),  -- 11 X0.rooms
  .inl (0, 16),  -- 12 X0.shortestFirst
  .inl (0, 20),  -- 13 X5.from
  .inl (0, 20),  -- 14 X5.to
  .inl (0, 20),  -- 15 X5.thickness
  .inl (0, 20),  -- 16 X5.kind
  .inl (0, 20),  -- 17 X5.options
  .inl (0, 20),  -- 18 X5.through
  .inl (0, 20),  -- 19 X5.wayLength
  .inl (0, 180),  -- 20 X5.waySteps
  .inl (0, 4),  -- 21 X5.apartFrom
  .inl (0, 16),  -- 22 X3.priceForth
  .inl (0, 16),  -- 23 X3.priceBack
  .inl (0, 10),  -- 24 X3.toGoal
  .inl (0, 9),  -- 25 X3.steps
  .inl (0, 10),  -- 26 X4.joinedTo
  .inl (0, 10),  -- 27 X4.leastWithout
  .inl (0, 8),  -- 28 X1.options
  .inl (0, 8),  -- 29 X1.pieces
  .inl (0, 256),  -- 30 X1.wireSets
  .inl (0, 256),  -- 31 X1.pieceSums
  .inl (0, 256),  -- 32 X1.loomCosts
  .inl (0, 256),  -- 33 X1.oneLoomUp
  .inl (2, 256),  -- 34 X1.plans
  .inl (0, 16),  -- 35 X2.netOf
  .inr (7, [.inr 0, .inl 37, .inl 38, .inl 39, .inl 40, .inr 0, .inl 41, .inl 42, .inl 43, .inl 44, .inl 45, .inl 46, .inl 47, .inl 48, .inl 49, .inl 50, .inl 51, .inl 52, .inl 53, .inl 54, .inl 55, .inl 56, .inr 0, .inl 57, .inl 58, .inr 0, .inl 59, .inl 60, .inl 61, .inr 1, .inl 62]),  -- 36 X7
  .inl (0, 16),  -- 37 X7.one
  .inl (0, 16),  -- 38 X7.other
  .inl (0, 16),  -- 39 X7.length
  .inl (0, 16),  -- 40 X7.room
  .inl (0, 20),  -- 41 X7.from
  .inl (0, 20),  -- 42 X7.to
  .inl (0, 20),  -- 43 X7.thick
  .inl (0, 20),  -- 44 X7.kind
  .inl (0, 20),  -- 45 X7.options
  .inl (0, 20),  -- 46 X7.steps
  .inl (0, 200),  -- 47 X7.way
  .inl (1, 16),  -- 48 X7.isApart
  .inl (1, 16),  -- 49 X7.isOpen
  .inl (0, 10),  -- 50 X7.far
  .inl (0, 10),  -- 51 X7.by
  .inl (0, 16),  -- 52 X7.gone
  .inl (0, 10),  -- 53 X7.cameBy
  .inl (0, 1024),  -- 54 X7.tree
  .inl (0, 16),  -- 55 X7.order
  .inl (0, 10),  -- 56 X7.part
  .inl (0, 8),  -- 57 X7.wanted
  .inl (0, 8),  -- 58 X7.pieces
  .inl (0, 8),  -- 59 X7.loom
  .inl (0, 8),  -- 60 X7.bestLoom
  .inl (2, 256),  -- 61 X7.cost
  .inl (0, 16)]  -- 62 X7.netOf
def a_nest : List (String × Nat × MethodName × String) := [(RX1, 49, yX6_has, RX6), (RX2, 19, yX6_has, RX6), (RX3, 37, yX6_has, RX6), (RX4, 41, yX6_has, RX6), (RX5, 43, yX6_has, RX6), (RX6, 11, yX0_init, RX6), (RX6, 18, yX5_init, RX6), (RX6, 50, yX2_init, RX6)]
def sX0_sortIn : aMS := (yX0_sortIn, cX0_sortIn, 3, none, { frames := 0, cells := 0, slots := 0, locals := 0 }, 284)
def sX0_add : aMS := (yX0_add, cX0_add, 6, some .int, { frames := 1, cells := 0, slots := 0, locals := 22 }, 280)
def sX0_allBits : aMS := (yX0_allBits, cX0_allBits, 1, some .int, { frames := 0, cells := 0, slots := 0, locals := 0 }, 433)
def sX0_across : aMS := (yX0_across, cX0_across, 3, some .int, { frames := 0, cells := 0, slots := 0, locals := 0 }, 368)
def sX1_add : aMS := (yX1_add, cX1_add, 4, some .int, { frames := 0, cells := 0, slots := 0, locals := 0 }, 503)
def sX1_allBits : aMS := (yX1_allBits, cX1_allBits, 1, some .int, { frames := 0, cells := 0, slots := 0, locals := 0 }, 516)
def sX6_has : aMS := (yX6_has, cX6_has, 2, some .boolean, { frames := 0, cells := 0, slots := 0, locals := 0 }, 306)
def sX5_neededWith : aMS := (yX5_neededWith, cX5_neededWith, 4, some .int, { frames := 0, cells := 0, slots := 0, locals := 0 }, 525)
def sX1_wiresFor : aMS := (yX1_wiresFor, cX1_wiresFor, 4, some .int, { frames := 1, cells := 0, slots := 0, locals := 23 }, 520)
def sX1_hasTwin : aMS := (yX1_hasTwin, cX1_hasTwin, 4, some .boolean, { frames := 1, cells := 0, slots := 0, locals := 23 }, 576)
def sX1_loomShift : aMS := (yX1_loomShift, cX1_loomShift, 1, some .int, { frames := 0, cells := 0, slots := 0, locals := 0 }, 548)
def sX1_gatherSums : aMS := (yX1_gatherSums, cX1_gatherSums, 5, none, { frames := 1, cells := 0, slots := 0, locals := 23 }, 545)
def sX5_weightOf : aMS := (yX5_weightOf, cX5_weightOf, 4, some .int, { frames := 1, cells := 0, slots := 0, locals := 21 }, 529)
def sJ6_bitCount_0f7a4 : aMS := (yJ6_bitCount_0f7a4, cJ6_bitCount_0f7a4, 1, some .int, { frames := 0, cells := 0, slots := 0, locals := 0 }, 391)
def sJ9_min_f86c9 : aMS := (yJ9_min_f86c9, cJ9_min_f86c9, 4, some .long, { frames := 0, cells := 0, slots := 0, locals := 0 }, 559)
def sX1_leastPlan : aMS := (yX1_leastPlan, cX1_leastPlan, 14, some .long, { frames := 1, cells := 0, slots := 0, locals := 23 }, 553)
def sX1_refresh : aMS := (yX1_refresh, cX1_refresh, 4, none, { frames := 2, cells := 0, slots := 0, locals := 56 }, 541)
def sX1_bestCost : aMS := (yX1_bestCost, cX1_bestCost, 1, some .long, { frames := 3, cells := 0, slots := 0, locals := 79 }, 537)
def sX1_loomOf : aMS := (yX1_loomOf, cX1_loomOf, 2, some .int, { frames := 3, cells := 0, slots := 0, locals := 79 }, 568)
def sX2_usedNets : aMS := (yX2_usedNets, cX2_usedNets, 3, some .int, { frames := 0, cells := 0, slots := 0, locals := 0 }, 611)
def sX2_isUsed : aMS := (yX2_isUsed, cX2_isUsed, 2, some .boolean, { frames := 1, cells := 0, slots := 0, locals := 22 }, 607)
def sX2_testsNeeded : aMS := (yX2_testsNeeded, cX2_testsNeeded, 4, some .int, { frames := 1, cells := 0, slots := 0, locals := 21 }, 594)
def sX2_pairsUnlikeJustIn : aMS := (yX2_pairsUnlikeJustIn, cX2_pairsUnlikeJustIn, 6, some .int, { frames := 1, cells := 0, slots := 0, locals := 22 }, 619)
def sX3_open : aMS := (yX3_open, cX3_open, 4, none, { frames := 1, cells := 0, slots := 0, locals := 21 }, 335)
def sJ7_fill_53178 : aMS := (yJ7_fill_53178, cJ7_fill_53178, 4, none, { frames := 0, cells := 0, slots := 0, locals := 0 }, 348)
def sX3_lower : aMS := (yX3_lower, cX3_lower, 5, some .boolean, { frames := 0, cells := 0, slots := 0, locals := 0 }, 352)
def sX3_spread : aMS := (yX3_spread, cX3_spread, 7, none, { frames := 1, cells := 0, slots := 0, locals := 24 }, 345)
def sX3_leastLength : aMS := (yX3_leastLength, cX3_leastLength, 3, some .int, { frames := 2, cells := 0, slots := 0, locals := 50 }, 341)
def sX3_priceFrom : aMS := (yX3_priceFrom, cX3_priceFrom, 3, some .int, { frames := 0, cells := 0, slots := 0, locals := 0 }, 364)
def sX3_firstStep : aMS := (yX3_firstStep, cX3_firstStep, 4, some .int, { frames := 1, cells := 0, slots := 0, locals := 22 }, 360)
def sX3_walk : aMS := (yX3_walk, cX3_walk, 5, none, { frames := 2, cells := 0, slots := 0, locals := 45 }, 356)
def sX3_turnSteps : aMS := (yX3_turnSteps, cX3_turnSteps, 7, none, { frames := 1, cells := 0, slots := 0, locals := 22 }, 448)
def sX3_leastLengthOfTwo : aMS := (yX3_leastLengthOfTwo, cX3_leastLengthOfTwo, 4, some .int, { frames := 3, cells := 0, slots := 0, locals := 69 }, 441)
def sX4_headOf : aMS := (yX4_headOf, cX4_headOf, 4, some .int, { frames := 0, cells := 0, slots := 0, locals := 0 }, 474)
def sX4_joins : aMS := (yX4_joins, cX4_joins, 5, some .boolean, { frames := 1, cells := 0, slots := 0, locals := 23 }, 470)
def sX4_treeLength : aMS := (yX4_treeLength, cX4_treeLength, 6, some .int, { frames := 2, cells := 0, slots := 0, locals := 47 }, 465)
def sJ9_min_7cf53 : aMS := (yJ9_min_7cf53, cJ9_min_7cf53, 2, some .int, { frames := 0, cells := 0, slots := 0, locals := 0 }, 481)
def sX4_note : aMS := (yX4_note, cX4_note, 4, none, { frames := 1, cells := 0, slots := 0, locals := 21 }, 478)
def sX4_compare : aMS := (yX4_compare, cX4_compare, 3, none, { frames := 3, cells := 0, slots := 0, locals := 72 }, 460)
def sX4_firstNeeded : aMS := (yX4_firstNeeded, cX4_firstNeeded, 3, some .int, { frames := 1, cells := 0, slots := 0, locals := 21 }, 491)
def sX5_add : aMS := (yX5_add, cX5_add, 6, some .int, { frames := 0, cells := 0, slots := 0, locals := 0 }, 295)
def sX5_areApart : aMS := (yX5_areApart, cX5_areApart, 3, some .boolean, { frames := 1, cells := 0, slots := 0, locals := 21 }, 303)
def sX5_setApart : aMS := (yX5_setApart, cX5_setApart, 4, none, { frames := 0, cells := 0, slots := 0, locals := 0 }, 310)
def sX5_isLaid : aMS := (yX5_isLaid, cX5_isLaid, 2, some .boolean, { frames := 0, cells := 0, slots := 0, locals := 0 }, 322)
def sX5_putThrough : aMS := (yX5_putThrough, cX5_putThrough, 7, none, { frames := 0, cells := 0, slots := 0, locals := 0 }, 372)
def sX5_takeOut : aMS := (yX5_takeOut, cX5_takeOut, 2, none, { frames := 0, cells := 0, slots := 0, locals := 0 }, 380)
def sX5_step : aMS := (yX5_step, cX5_step, 3, some .int, { frames := 1, cells := 0, slots := 0, locals := 20 }, 388)
def sX5_mayGoThrough : aMS := (yX5_mayGoThrough, cX5_mayGoThrough, 6, some .boolean, { frames := 2, cells := 0, slots := 0, locals := 43 }, 330)
def sX5_laidThrough : aMS := (yX5_laidThrough, cX5_laidThrough, 4, some .int, { frames := 1, cells := 0, slots := 0, locals := 21 }, 406)
def sX5_thicknessThrough : aMS := (yX5_thicknessThrough, cX5_thicknessThrough, 4, some .int, { frames := 1, cells := 0, slots := 0, locals := 21 }, 410)
def sX5_isClashing : aMS := (yX5_isClashing, cX5_isClashing, 4, some .boolean, { frames := 2, cells := 0, slots := 0, locals := 43 }, 425)
def sX5_laid : aMS := (yX5_laid, cX5_laid, 3, some .int, { frames := 1, cells := 0, slots := 0, locals := 21 }, 627)
def sX5_laidLength : aMS := (yX5_laidLength, cX5_laidLength, 3, some .int, { frames := 0, cells := 0, slots := 0, locals := 0 }, 633)
def sX6_isWithin : aMS := (yX6_isWithin, cX6_isWithin, 3, some .boolean, { frames := 0, cells := 0, slots := 0, locals := 0 }, 276)
def sX6_isPlace : aMS := (yX6_isPlace, cX6_isPlace, 1, some .boolean, { frames := 1, cells := 0, slots := 0, locals := 22 }, 273)
def sX6_duct : aMS := (yX6_duct, cX6_duct, 5, some .int, { frames := 2, cells := 0, slots := 0, locals := 47 }, 270)
def sX6_isKind : aMS := (yX6_isKind, cX6_isKind, 1, some .boolean, { frames := 1, cells := 0, slots := 0, locals := 22 }, 291)
def sX6_wire : aMS := (yX6_wire, cX6_wire, 5, some .int, { frames := 2, cells := 0, slots := 0, locals := 42 }, 288)
def sX6_apart : aMS := (yX6_apart, cX6_apart, 5, some .int, { frames := 2, cells := 0, slots := 0, locals := 43 }, 299)
def sX6_isWire : aMS := (yX6_isWire, cX6_isWire, 2, some .boolean, { frames := 1, cells := 0, slots := 0, locals := 22 }, 318)
def sX6_openDucts : aMS := (yX6_openDucts, cX6_openDucts, 4, some .int, { frames := 3, cells := 0, slots := 0, locals := 68 }, 326)
def sX6_lay : aMS := (yX6_lay, cX6_lay, 3, some .int, { frames := 4, cells := 0, slots := 0, locals := 91 }, 314)
def sX6_lift : aMS := (yX6_lift, cX6_lift, 3, some .int, { frames := 2, cells := 0, slots := 0, locals := 43 }, 376)
def sX6_way : aMS := (yX6_way, cX6_way, 3, some .int, { frames := 2, cells := 0, slots := 0, locals := 43 }, 384)
def sX6_length : aMS := (yX6_length, cX6_length, 2, some .int, { frames := 2, cells := 0, slots := 0, locals := 43 }, 398)
def sX6_left : aMS := (yX6_left, cX6_left, 3, some .int, { frames := 2, cells := 0, slots := 0, locals := 44 }, 402)
def sX6_dividedUp : aMS := (yX6_dividedUp, cX6_dividedUp, 2, some .int, { frames := 0, cells := 0, slots := 0, locals := 0 }, 417)
def sX6_loss : aMS := (yX6_loss, cX6_loss, 3, some .int, { frames := 2, cells := 0, slots := 0, locals := 43 }, 414)
def sX6_clashes : aMS := (yX6_clashes, cX6_clashes, 3, some .int, { frames := 3, cells := 0, slots := 0, locals := 66 }, 421)
def sX6_far : aMS := (yX6_far, cX6_far, 3, some .int, { frames := 3, cells := 0, slots := 0, locals := 72 }, 429)
def sX6_two : aMS := (yX6_two, cX6_two, 3, some .int, { frames := 4, cells := 0, slots := 0, locals := 92 }, 437)
def sX6_isNetOfPlaces : aMS := (yX6_isNetOfPlaces, cX6_isNetOfPlaces, 1, some .boolean, { frames := 1, cells := 0, slots := 0, locals := 22 }, 455)
def sX6_net : aMS := (yX6_net, cX6_net, 2, some .int, { frames := 4, cells := 0, slots := 0, locals := 94 }, 452)
def sX6_splice : aMS := (yX6_splice, cX6_splice, 2, some .int, { frames := 4, cells := 0, slots := 0, locals := 94 }, 487)
def sX6_option : aMS := (yX6_option, cX6_option, 4, some .int, { frames := 2, cells := 0, slots := 0, locals := 43 }, 495)
def sX6_order : aMS := (yX6_order, cX6_order, 3, some .int, { frames := 1, cells := 0, slots := 0, locals := 23 }, 499)
def sX6_setup : aMS := (yX6_setup, cX6_setup, 3, some .int, { frames := 1, cells := 0, slots := 0, locals := 22 }, 507)
def sX6_weight : aMS := (yX6_weight, cX6_weight, 2, some .int, { frames := 2, cells := 0, slots := 0, locals := 46 }, 512)
def sX6_best : aMS := (yX6_best, cX6_best, 1, some .long, { frames := 4, cells := 0, slots := 0, locals := 99 }, 533)
def sX6_loom : aMS := (yX6_loom, cX6_loom, 2, some .int, { frames := 4, cells := 0, slots := 0, locals := 100 }, 564)
def sX6_alike : aMS := (yX6_alike, cX6_alike, 3, some .int, { frames := 2, cells := 0, slots := 0, locals := 46 }, 572)
def sX6_isPin : aMS := (yX6_isPin, cX6_isPin, 1, some .boolean, { frames := 1, cells := 0, slots := 0, locals := 22 }, 583)
def sX6_isNet : aMS := (yX6_isNet, cX6_isNet, 1, some .boolean, { frames := 1, cells := 0, slots := 0, locals := 22 }, 586)
def sX6_pin : aMS := (yX6_pin, cX6_pin, 4, some .int, { frames := 2, cells := 0, slots := 0, locals := 42 }, 580)
def sX6_tests : aMS := (yX6_tests, cX6_tests, 1, some .int, { frames := 2, cells := 0, slots := 0, locals := 44 }, 590)
def sX6_side : aMS := (yX6_side, cX6_side, 3, some .int, { frames := 2, cells := 0, slots := 0, locals := 44 }, 599)
def sX6_shows : aMS := (yX6_shows, cX6_shows, 3, some .int, { frames := 2, cells := 0, slots := 0, locals := 43 }, 603)
def sX6_pairs : aMS := (yX6_pairs, cX6_pairs, 2, some .int, { frames := 2, cells := 0, slots := 0, locals := 47 }, 615)
def sX6_count : aMS := (yX6_count, cX6_count, 2, some .int, { frames := 2, cells := 0, slots := 0, locals := 43 }, 623)
def sX7_in : aMS := (yX7_in, cX7_in, 3, some .boolean, { frames := 0, cells := 0, slots := 0, locals := 0 }, 744)
def sX7_isPlace : aMS := (yX7_isPlace, cX7_isPlace, 1, some .boolean, { frames := 1, cells := 0, slots := 0, locals := 22 }, 741)
def sX7_ones : aMS := (yX7_ones, cX7_ones, 3, some .int, { frames := 0, cells := 0, slots := 0, locals := 0 }, 855)
def sX7_isDuct : aMS := (yX7_isDuct, cX7_isDuct, 2, some .boolean, { frames := 1, cells := 0, slots := 0, locals := 22 }, 813)
def sX7_isWire : aMS := (yX7_isWire, cX7_isWire, 2, some .boolean, { frames := 1, cells := 0, slots := 0, locals := 22 }, 760)
def sX7_duct : aMS := (yX7_duct, cX7_duct, 5, some .int, { frames := 2, cells := 0, slots := 0, locals := 42 }, 738)
def sX7_wire : aMS := (yX7_wire, cX7_wire, 5, some .int, { frames := 2, cells := 0, slots := 0, locals := 42 }, 748)
def sX7_apart : aMS := (yX7_apart, cX7_apart, 5, some .int, { frames := 1, cells := 0, slots := 0, locals := 22 }, 752)
def sX7_goesBy : aMS := (yX7_goesBy, cX7_goesBy, 5, some .boolean, { frames := 0, cells := 0, slots := 0, locals := 0 }, 772)
def sX7_full : aMS := (yX7_full, cX7_full, 4, some .int, { frames := 1, cells := 0, slots := 0, locals := 24 }, 768)
def sX7_mayGo : aMS := (yX7_mayGo, cX7_mayGo, 5, some .boolean, { frames := 2, cells := 0, slots := 0, locals := 47 }, 764)
def sX7_across : aMS := (yX7_across, cX7_across, 3, some .int, { frames := 0, cells := 0, slots := 0, locals := 0 }, 789)
def sX7_better : aMS := (yX7_better, cX7_better, 5, none, { frames := 0, cells := 0, slots := 0, locals := 0 }, 781)
def sX7_measure : aMS := (yX7_measure, cX7_measure, 4, none, { frames := 1, cells := 0, slots := 0, locals := 24 }, 776)
def sX7_next : aMS := (yX7_next, cX7_next, 3, some .int, { frames := 1, cells := 0, slots := 0, locals := 22 }, 785)
def sX7_lengthOf : aMS := (yX7_lengthOf, cX7_lengthOf, 4, some .int, { frames := 0, cells := 0, slots := 0, locals := 0 }, 793)
def sX7_lay : aMS := (yX7_lay, cX7_lay, 5, some .int, { frames := 3, cells := 0, slots := 0, locals := 71 }, 756)
def sX7_lift : aMS := (yX7_lift, cX7_lift, 3, some .int, { frames := 2, cells := 0, slots := 0, locals := 43 }, 797)
def sX7_way : aMS := (yX7_way, cX7_way, 3, some .int, { frames := 2, cells := 0, slots := 0, locals := 43 }, 801)
def sX7_length : aMS := (yX7_length, cX7_length, 2, some .int, { frames := 2, cells := 0, slots := 0, locals := 43 }, 805)
def sX7_left : aMS := (yX7_left, cX7_left, 5, some .int, { frames := 2, cells := 0, slots := 0, locals := 47 }, 809)
def sX7_loss : aMS := (yX7_loss, cX7_loss, 3, some .int, { frames := 2, cells := 0, slots := 0, locals := 43 }, 817)
def sX7_isClash : aMS := (yX7_isClash, cX7_isClash, 5, some .boolean, { frames := 1, cells := 0, slots := 0, locals := 24 }, 825)
def sX7_clashes : aMS := (yX7_clashes, cX7_clashes, 3, some .int, { frames := 2, cells := 0, slots := 0, locals := 48 }, 821)
def sX7_openAll : aMS := (yX7_openAll, cX7_openAll, 2, none, { frames := 0, cells := 0, slots := 0, locals := 0 }, 833)
def sX7_far : aMS := (yX7_far, cX7_far, 3, some .int, { frames := 2, cells := 0, slots := 0, locals := 47 }, 829)
def sX7_tryStep : aMS := (yX7_tryStep, cX7_tryStep, 5, none, { frames := 0, cells := 0, slots := 0, locals := 0 }, 845)
def sX7_addWay : aMS := (yX7_addWay, cX7_addWay, 6, some .boolean, { frames := 1, cells := 0, slots := 0, locals := 24 }, 841)
def sX7_two : aMS := (yX7_two, cX7_two, 5, some .int, { frames := 2, cells := 0, slots := 0, locals := 49 }, 837)
def sX7_treeOf : aMS := (yX7_treeOf, cX7_treeOf, 9, some .int, { frames := 1, cells := 0, slots := 0, locals := 22 }, 863)
def sX7_layTrees : aMS := (yX7_layTrees, cX7_layTrees, 3, none, { frames := 2, cells := 0, slots := 0, locals := 50 }, 859)
def sX7_leastNet : aMS := (yX7_leastNet, cX7_leastNet, 6, some .int, { frames := 0, cells := 0, slots := 0, locals := 0 }, 867)
def sX7_isNet : aMS := (yX7_isNet, cX7_isNet, 1, some .boolean, { frames := 1, cells := 0, slots := 0, locals := 22 }, 852)
def sX7_net : aMS := (yX7_net, cX7_net, 3, some .int, { frames := 3, cells := 0, slots := 0, locals := 72 }, 849)
def sX7_splice : aMS := (yX7_splice, cX7_splice, 4, some .int, { frames := 3, cells := 0, slots := 0, locals := 72 }, 871)
def sX7_option : aMS := (yX7_option, cX7_option, 4, some .int, { frames := 2, cells := 0, slots := 0, locals := 43 }, 875)
def sX7_order : aMS := (yX7_order, cX7_order, 3, some .int, { frames := 1, cells := 0, slots := 0, locals := 22 }, 879)
def sX7_setup : aMS := (yX7_setup, cX7_setup, 3, some .int, { frames := 1, cells := 0, slots := 0, locals := 22 }, 883)
def sX7_needs : aMS := (yX7_needs, cX7_needs, 3, some .boolean, { frames := 0, cells := 0, slots := 0, locals := 0 }, 896)
def sX7_weightOf : aMS := (yX7_weightOf, cX7_weightOf, 6, some .int, { frames := 1, cells := 0, slots := 0, locals := 22 }, 892)
def sX7_weight : aMS := (yX7_weight, cX7_weight, 2, some .int, { frames := 2, cells := 0, slots := 0, locals := 47 }, 888)
def sX7_mostAhead : aMS := (yX7_mostAhead, cX7_mostAhead, 4, some .int, { frames := 0, cells := 0, slots := 0, locals := 0 }, 909)
def sX7_nextRow : aMS := (yX7_nextRow, cX7_nextRow, 3, some .boolean, { frames := 1, cells := 0, slots := 0, locals := 23 }, 913)
def sX7_layPlan : aMS := (yX7_layPlan, cX7_layPlan, 9, none, { frames := 2, cells := 0, slots := 0, locals := 47 }, 904)
def sX7_best : aMS := (yX7_best, cX7_best, 1, some .long, { frames := 3, cells := 0, slots := 0, locals := 75 }, 900)
def sX7_loom : aMS := (yX7_loom, cX7_loom, 2, some .int, { frames := 3, cells := 0, slots := 0, locals := 75 }, 917)
def sX7_areAlike : aMS := (yX7_areAlike, cX7_areAlike, 5, some .boolean, { frames := 1, cells := 0, slots := 0, locals := 22 }, 925)
def sX7_alike : aMS := (yX7_alike, cX7_alike, 5, some .int, { frames := 2, cells := 0, slots := 0, locals := 46 }, 921)
def sX7_isPin : aMS := (yX7_isPin, cX7_isPin, 1, some .boolean, { frames := 1, cells := 0, slots := 0, locals := 22 }, 932)
def sX7_pin : aMS := (yX7_pin, cX7_pin, 4, some .int, { frames := 2, cells := 0, slots := 0, locals := 42 }, 929)
def sX7_nets : aMS := (yX7_nets, cX7_nets, 3, some .int, { frames := 0, cells := 0, slots := 0, locals := 0 }, 956)
def sX7_testMany : aMS := (yX7_testMany, cX7_testMany, 3, some .int, { frames := 0, cells := 0, slots := 0, locals := 0 }, 940)
def sX7_tests : aMS := (yX7_tests, cX7_tests, 1, some .int, { frames := 1, cells := 0, slots := 0, locals := 22 }, 936)
def sX7_side : aMS := (yX7_side, cX7_side, 3, some .int, { frames := 2, cells := 0, slots := 0, locals := 42 }, 944)
def sX7_hasPins : aMS := (yX7_hasPins, cX7_hasPins, 2, some .boolean, { frames := 1, cells := 0, slots := 0, locals := 22 }, 952)
def sX7_shows : aMS := (yX7_shows, cX7_shows, 3, some .int, { frames := 2, cells := 0, slots := 0, locals := 43 }, 948)
def sX7_pairs : aMS := (yX7_pairs, cX7_pairs, 5, some .int, { frames := 2, cells := 0, slots := 0, locals := 43 }, 960)
def sX7_count : aMS := (yX7_count, cX7_count, 5, some .int, { frames := 1, cells := 0, slots := 0, locals := 23 }, 964)
def tJ6 : aTab := ([],
  [],
  [(265, 1431655765), (266, 858993459), (267, 252645135)], [])
def tJ7 : aTab := ([],
  [],
  [], [])
def tJ9 : aTab := ([],
  [],
  [], [])
def tX0 : aTab := ([(9, 0, 0), (15, 0, 1), (19, 0, 2), (22, 0, 3), (25, 0, 4), (28, 0, 5), (31, 0, 6)],
  [(34, 0, 0, 1, sX0_sortIn)],
  [], [])
def tX1 : aTab := ([(11, 1, 0), (15, 1, 1), (18, 1, 2), (22, 1, 4), (26, 1, 5), (29, 1, 6), (32, 1, 7), (35, 1, 8), (38, 1, 9), (41, 1, 10), (45, 1, 3)],
  [(49, 2, 0, 2, sX6_has), (53, 0, 5, 1, sX5_neededWith), (59, 0, 1, 0, sX1_refresh), (62, 0, 1, 0, sX1_allBits), (66, 1, 0, 1, sX1_loomShift), (69, 0, 1, 0, sX1_gatherSums), (72, 0, 5, 1, sX5_weightOf), (75, 0, 1, 1, sX1_leastPlan), (79, 1, 0, 1, sJ6_bitCount_0f7a4), (90, 4, 0, 2, sJ9_min_f86c9)],
  [], [(86, 9223372036854775807), (88, 16777216)])
def tX2 : aTab := ([(9, 2, 0)],
  [(15, 0, 2, 0, sX2_usedNets), (19, 2, 0, 2, sX6_has)],
  [], [])
def tX3 : aTab := ([(9, 3, 1), (15, 3, 2), (18, 3, 3), (21, 3, 4), (24, 3, 5), (28, 3, 0), (32, 0, 0), (41, 0, 4), (74, 0, 1), (77, 0, 2)],
  [(37, 2, 0, 2, sX6_has), (45, 0, 3, 1, sX3_spread), (49, 0, 0, 0, sX0_allBits), (53, 0, 3, 1, sX3_open), (56, 0, 3, 2, sX3_walk), (60, 0, 3, 1, sX3_turnSteps), (63, 0, 3, 1, sX3_firstStep), (67, 0, 0, 2, sX0_across), (71, 0, 3, 2, sX3_priceFrom), (80, 1, 0, 2, sJ7_fill_53178), (86, 0, 3, 3, sX3_lower)],
  [(44, 1000000)], [])
def tX4 : aTab := ([(9, 4, 1), (15, 4, 2), (19, 4, 3), (23, 4, 0), (56, 0, 0), (61, 0, 6), (67, 0, 4), (70, 0, 3), (73, 0, 1), (79, 0, 2)],
  [(27, 1, 0, 2, sJ7_fill_53178), (33, 0, 4, 1, sX4_treeLength), (37, 0, 4, 2, sX4_note), (41, 2, 0, 2, sX6_has), (45, 3, 0, 2, sJ9_min_7cf53), (51, 1, 0, 1, sJ6_bitCount_0f7a4), (64, 0, 4, 2, sX4_joins), (76, 0, 4, 1, sX4_headOf)],
  [(18, 1000000)], [])
def tX5 : aTab := ([(9, 5, 0), (15, 5, 1), (19, 5, 2), (22, 5, 3), (25, 5, 4), (28, 5, 5), (31, 5, 6), (34, 5, 7), (37, 5, 8), (40, 5, 9)],
  [(43, 2, 0, 2, sX6_has), (47, 1, 0, 1, sJ6_bitCount_0f7a4), (53, 0, 5, 2, sX5_areApart), (56, 0, 5, 1, sX5_isLaid)],
  [], [])
def tX6 : aTab := ([(12, 6, 0), (19, 6, 1), (28, 6, 2), (35, 6, 3), (44, 6, 4), (51, 6, 5), (63, 0, 0), (74, 5, 0), (75, 1, 2), (102, 5, 1), (106, 5, 2), (117, 3, 4), (120, 3, 5), (127, 5, 7), (139, 0, 5), (145, 5, 3), (167, 4, 3), (174, 5, 5), (177, 1, 0), (181, 1, 1), (207, 2, 0)],
  [(55, 1, 0, 1, sX6_isPlace), (59, 1, 0, 3, sX6_isWithin), (67, 0, 0, 4, sX0_add), (71, 1, 0, 1, sX6_isKind), (79, 0, 5, 4, sX5_add), (80, 0, 5, 2, sX5_areApart), (84, 0, 5, 3, sX5_setApart), (88, 0, 6, 1, sX6_isWire), (91, 0, 5, 1, sX5_isLaid), (94, 0, 6, 1, sX6_openDucts), (98, 0, 3, 1, sX3_open), (109, 0, 3, 2, sX3_leastLength), (113, 0, 3, 2, sX3_walk), (123, 0, 5, 4, sX5_putThrough), (130, 0, 5, 1, sX5_takeOut), (133, 0, 5, 2, sX5_step), (136, 0, 5, 1, sX5_laidThrough), (142, 0, 5, 1, sX5_thicknessThrough), (148, 1, 0, 2, sX6_dividedUp), (151, 0, 5, 1, sX5_isClashing), (154, 0, 0, 0, sX0_allBits), (158, 0, 3, 2, sX3_leastLengthOfTwo), (161, 1, 0, 1, sX6_isNetOfPlaces), (164, 0, 4, 1, sX4_compare), (171, 0, 4, 1, sX4_firstNeeded), (178, 0, 1, 2, sX1_add), (184, 0, 1, 0, sX1_allBits), (185, 0, 1, 1, sX1_wiresFor), (188, 0, 5, 1, sX5_weightOf), (191, 0, 1, 0, sX1_bestCost), (195, 0, 1, 1, sX1_loomOf), (198, 0, 1, 1, sX1_hasTwin), (201, 1, 0, 1, sX6_isPin), (204, 1, 0, 1, sX6_isNet), (210, 0, 2, 0, sX2_testsNeeded), (213, 0, 2, 1, sX2_isUsed), (216, 0, 2, 1, sX2_pairsUnlikeJustIn), (219, 0, 5, 0, sX5_laid), (222, 0, 2, 0, sX2_usedNets), (225, 1, 0, 1, sJ6_bitCount_0f7a4), (230, 0, 5, 0, sX5_laidLength), (233, 0, 5, 3, sX5_mayGoThrough)],
  [(170, 1000000), (180, 100000)], [])
def tX7 : aTab := ([(7, 7, 1), (13, 7, 2), (16, 7, 3), (19, 7, 4), (22, 7, 6), (25, 7, 7), (28, 7, 8), (31, 7, 9), (34, 7, 10), (37, 7, 11), (40, 7, 12), (43, 7, 13), (47, 7, 14), (50, 7, 15), (53, 7, 16), (56, 7, 17), (59, 7, 18), (62, 7, 19), (65, 7, 20), (68, 7, 21), (71, 7, 23), (74, 7, 24), (77, 7, 25), (81, 7, 26), (84, 7, 27), (87, 7, 28), (91, 7, 30), (98, 7, 0), (101, 7, 5), (172, 7, 22), (187, 7, 29)],
  [(94, 1, 0, 3, sX7_in), (104, 1, 0, 1, sX7_isPlace), (108, 0, 7, 2, sX7_goesBy), (112, 0, 7, 1, sX7_full), (117, 0, 7, 3, sX7_better), (121, 0, 7, 2, sX7_across), (125, 0, 7, 1, sX7_isWire), (128, 0, 7, 2, sX7_mayGo), (131, 0, 7, 1, sX7_measure), (135, 0, 7, 1, sX7_next), (138, 0, 7, 1, sX7_lengthOf), (141, 0, 7, 1, sX7_isDuct), (144, 0, 7, 1, sX7_isClash), (147, 0, 7, 0, sX7_openAll), (150, 0, 7, 4, sX7_tryStep), (154, 0, 7, 2, sX7_addWay), (157, 1, 0, 1, sX7_ones), (160, 0, 7, 1, sX7_treeOf), (163, 1, 0, 1, sX7_isNet), (166, 0, 7, 0, sX7_layTrees), (169, 0, 7, 2, sX7_leastNet), (176, 0, 7, 2, sX7_needs), (179, 0, 7, 1, sX7_weightOf), (182, 0, 7, 1, sX7_mostAhead), (191, 0, 7, 0, sX7_nextRow), (195, 0, 7, 0, sX7_layPlan), (198, 0, 7, 2, sX7_areAlike), (201, 1, 0, 1, sX7_isPin), (204, 0, 7, 0, sX7_testMany), (208, 0, 7, 0, sX7_nets), (211, 0, 7, 1, sX7_hasPins)],
  [(116, 1000000), (175, 100000)], [(185, -1)])
def tL : aTab := ([],
  [(13, 0, 6, 4, sX6_duct), (17, 0, 7, 4, sX7_duct), (18, 0, 6, 4, sX6_wire), (21, 0, 7, 4, sX7_wire), (22, 0, 6, 3, sX6_apart), (26, 0, 7, 3, sX7_apart), (27, 0, 6, 1, sX6_lay), (31, 0, 7, 1, sX7_lay), (32, 0, 6, 1, sX6_lift), (35, 0, 7, 1, sX7_lift), (36, 0, 6, 2, sX6_way), (40, 0, 7, 2, sX7_way), (41, 0, 6, 1, sX6_length), (44, 0, 7, 1, sX7_length), (45, 0, 6, 2, sX6_left), (49, 0, 7, 2, sX7_left), (50, 0, 6, 2, sX6_loss), (53, 0, 7, 2, sX7_loss), (54, 0, 6, 0, sX6_clashes), (58, 0, 7, 0, sX7_clashes), (59, 0, 6, 2, sX6_far), (62, 0, 7, 2, sX7_far), (63, 0, 6, 2, sX6_two), (66, 0, 7, 2, sX7_two), (67, 0, 6, 1, sX6_net), (70, 0, 7, 1, sX7_net), (71, 0, 6, 1, sX6_splice), (74, 0, 7, 1, sX7_splice), (75, 0, 6, 2, sX6_option), (78, 0, 7, 2, sX7_option), (79, 0, 6, 2, sX6_order), (82, 0, 7, 2, sX7_order), (83, 0, 6, 1, sX6_setup), (86, 0, 7, 1, sX7_setup), (87, 0, 6, 1, sX6_weight), (90, 0, 7, 1, sX7_weight), (91, 0, 6, 0, sX6_best), (95, 0, 7, 0, sX7_best), (96, 0, 6, 1, sX6_loom), (99, 0, 7, 1, sX7_loom), (100, 0, 6, 0, sX6_alike), (103, 0, 7, 0, sX7_alike), (104, 0, 6, 2, sX6_pin), (107, 0, 7, 2, sX7_pin), (108, 0, 6, 0, sX6_tests), (111, 0, 7, 0, sX7_tests), (112, 0, 6, 2, sX6_side), (115, 0, 7, 2, sX7_side), (116, 0, 6, 2, sX6_shows), (119, 0, 7, 2, sX7_shows), (120, 0, 6, 1, sX6_pairs), (123, 0, 7, 1, sX7_pairs), (124, 0, 6, 1, sX6_count), (127, 0, 7, 1, sX7_count)],
  [], [])
/-! ===== what a program decides of these tables: each word by its place ===== -/
def a_w (i : Nat) (w : Jvm.Cond) : Bool := decide (lw_tbl[i]? = some w)
theorem a_w_in {i : Nat} {w : Jvm.Cond} (h : a_w i w = true) : w ∈ lw_tbl := List.mem_of_getElem? (of_decide_eq_true h)
def a_all2 {α β : Type} (f : α → β → Bool) : List α → List β → Bool
  | [], _ => true
  | a :: l, b :: m => f a b && a_all2 f l m
  | _ :: _, [] => false
theorem a_all2_in {α β : Type} {f : α → β → Bool} : ∀ {l : List α} {m : List β}, a_all2 f l m = true → ∀ a ∈ l, ∃ b, f a b = true
  | [], _, _, a, ha => absurd ha List.not_mem_nil
  | x :: l, [], h, a, ha => by simp [a_all2] at h
  | x :: l, y :: m, h, a, ha => by
    simp only [a_all2, Bool.and_eq_true] at h
    rcases List.mem_cons.mp ha with e | ha
    · exact ⟨y, by rw [e]; exact h.1⟩
    · exact a_all2_in h.2 a ha
def a_okF (own : String) (q : Nat × Nat × Nat) (p : Nat) : Bool := match vwCl[q.2.1]? with
  | some (C, T, N) => Nat.blt q.2.2 N && decide ((T q.2.2).1 = C) && a_w p (Jvm.Cond.fieldLink own q.1 C (T q.2.2).2.1 (T q.2.2).2.2.1)
  | none => false
def a_okS (S : aMS) (n p : Nat) : Bool := a_w S.2.2.2.2.2 (Jvm.Cond.code S.1 S.2.1 S.2.2.1 S.2.2.2.1) && decide (S.1.cls ≠ "java/lang/invoke/MethodHandle") && decide (S.1.cls ≠ "java/lang/invoke/VarHandle") && decide ((parseMethodDescriptor S.1.desc).map (fun d => d.parameters.length) = some n) && Nat.beq S.2.2.2.2.1.cells 0 && Nat.beq S.2.2.2.2.1.slots 0 && a_w p (Jvm.Cond.initialized S.1.cls)
def a_okC (own : String) (q : Nat × aCall) (p : Nat × Nat × Nat × Nat) : Bool := match q with
  | (i, 0, ci, n, S) => a_okS S n p.1 && decide ((vwCl[ci]?).map (fun z => z.1) = some S.1.cls) && a_w p.2.1 (Jvm.Cond.methodLink own i S.1) && a_w p.2.2.1 (Jvm.Cond.instanceMethod S.1) && a_w p.2.2.2 (Jvm.Cond.selects S.1.cls S.1 S.1)
  | (i, 1, _, n, S) => a_okS S n p.1 && a_w p.2.1 (Jvm.Cond.methodLink own i S.1) && a_w p.2.2.1 (Jvm.Cond.static S.1)
  | (i, 3, _, _, S) => a_w S.2.2.2.2.2 (Jvm.Cond.code Lib.Math.min.name Lib.Math.min.code 2 (some .int)) && a_w p.1 (Jvm.Cond.initialized "java/lang/Math") && a_w p.2.1 (Jvm.Cond.methodLink own i Lib.Math.min.name) && a_w p.2.2.1 (Jvm.Cond.static Lib.Math.min.name)
  | (i, 4, _, _, S) => a_w S.2.2.2.2.2 (Jvm.Cond.code Lib.MathLoose.min_long.x Lib.MathLoose.min_long.code 4 (some .long)) && a_w p.1 (Jvm.Cond.initialized "java/lang/Math") && a_w p.2.1 (Jvm.Cond.methodLink own i Lib.MathLoose.min_long.x) && a_w p.2.2.1 (Jvm.Cond.static Lib.MathLoose.min_long.x)
  | (i, _, _, n, S) => a_okS S n p.1 && a_w p.2.2.1 (Jvm.Cond.static S.1) && decide (a_nest[p.2.1]? = some (own, i, S.1, "CableLooms"))
def a_okT (own : String) (t : aTab) (pF : List Nat) (pC : List (Nat × Nat × Nat × Nat)) (pK pL : List Nat) : Bool := a_all2 (a_okF own) t.1 pF && a_all2 (a_okC own) t.2.1 pC && a_all2 (fun q p => a_w p (Jvm.Cond.constant own q.1 q.2)) t.2.2.1 pK && a_all2 (fun q p => a_w p (Jvm.Cond.constantLong own q.1 q.2)) t.2.2.2 pL
set_option maxRecDepth 100000 in
theorem tJ6_ok : a_okT RJ6 tJ6 [] [] [392, 393, 394] [] = true := by decide +kernel
set_option maxRecDepth 100000 in
theorem tJ7_ok : a_okT RJ7 tJ7 [] [] [] [] = true := by decide +kernel
set_option maxRecDepth 100000 in
theorem tJ9_ok : a_okT RJ9 tJ9 [] [] [] [] = true := by decide +kernel
set_option maxRecDepth 100000 in
theorem tX0_ok : a_okT RX0 tX0 [67, 71, 74, 77, 79, 82, 84] [(43, 281, 283, 0)] [] [] = true := by decide +kernel
set_option maxRecDepth 100000 in
theorem tX1_ok : a_okT RX1 tX1 [199, 201, 203, 206, 207, 208, 209, 210, 211, 212, 205] [(42, 0, 305, 0), (44, 522, 523, 524), (47, 538, 540, 12), (47, 560, 514, 515), (47, 546, 547, 0), (47, 542, 544, 13), (44, 549, 527, 528), (47, 550, 552, 14), (51, 554, 390, 0), (52, 557, 558, 0)] [] [555, 556] = true := by decide +kernel
set_option maxRecDepth 100000 in
theorem tX2_ok : a_okT RX2 tX2 [243] [(48, 608, 609, 610), (42, 1, 305, 0)] [] [] = true := by decide +kernel
set_option maxRecDepth 100000 in
theorem tX3_ok : a_okT RX3 tX3 [152, 153, 154, 155, 157, 151, 68, 80, 73, 76] [(42, 2, 305, 0), (45, 342, 344, 3), (43, 442, 431, 432), (45, 443, 333, 334), (45, 444, 354, 355), (45, 445, 447, 7), (45, 357, 359, 5), (43, 365, 366, 367), (45, 361, 363, 6), (50, 346, 347, 0), (45, 349, 351, 4)] [337] [] = true := by decide +kernel
set_option maxRecDepth 100000 in
theorem tX4_ok : a_okT RX4 tX4 [180, 181, 182, 179, 70, 85, 81, 78, 72, 75] [(50, 461, 347, 0), (46, 462, 464, 8), (46, 475, 477, 11), (42, 3, 305, 0), (52, 479, 480, 0), (51, 466, 390, 0), (46, 467, 469, 9), (46, 471, 473, 10)] [178] [] = true := by decide +kernel
