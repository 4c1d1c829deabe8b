/-! ===== the constructors of the class's parts ===== -/
def wX2 (cA : ClassId × ClassId × ClassId) (h0 : Nat) (u : Nat → Nat) : va_W := [(h0, .inr (2, [.ref (u 0)])), (u 0, .inl (cA.1, 16, .inl (fun _ => 0)))]
set_option maxHeartbeats 4000000 in
set_option maxRecDepth 100000 in
theorem k_X2 (l : Launch) (D : va_G) (cA : ClassId × ClassId × ClassId) (h0 sz : Nat) : Met l yX2_init (.code yX2_init cX2_init 1 none :: a_ws) { frames := 1, cells := 1, slots := 16, locals := 12 } (va_Pc [.ref h0] (fun U => U.heap.size = sz ∧ va_P D vwCl [(h0, .inr (2, [.null]))] U.heap ∧ va_K D vwCl (a_tys cA) U ∧ va_D (fun _ => True) [(h0, .inr (2, [.null]))])) (va_Qv (fun _ : Nat → Nat => True) (fun u t => va_P D vwCl (wX2 cA h0 u) t.heap ∧ va_D (va_A [(h0, .inr (2, [.null]))] sz) (wX2 cA h0 u)) (va_A [(h0, .inr (2, [.null]))] sz)) 1 16 (va_A [(h0, .inr (2, [.null]))] sz) := by
  refine Met.ofW (cc := cX2_init) (maxL := 1) (ret := none) (by decide +kernel) rfl ?_
  intro p e s m args below meth c s₁ B hml hv
  obtain ⟨rfl, hsz, hP, hK, hD0⟩ := hv
  have hx := B.exec
  have hb := B.bytes
  have hr := B.returns
  have hts : ∀ w ∈ a_ws, w.before ([.ref h0] : List Value).toArray s = true := fun w hw => atoms_spec (ws := .code yX2_init cX2_init 1 none :: a_ws) B.pre w (List.mem_cons_of_mem _ hw)
  have hown : s.vm.findClass RX2 = some m.cls := findClass_of_methodNamed B.named
  have C : kCx p s m ([.ref h0] : List Value).toArray meth c D cA cX2_init RX2 := ⟨hx, hb, hown, hts, hK, (name_of_methodNamed B.named B.method).1⟩
  subst hsz
  have hD := hD0.self (sz := s.heap.size)
  generalize hAe : va_A [(h0, .inr (2, [.null]))] s.heap.size = A at hD ⊢
  have hA : ∀ q : Nat, s.heap.size ≤ q → A q := fun q h => by rw [← hAe]; exact Or.inr h
  have hS : va_S A s.heap s.heap [] := va_S.rf
  have hP : va_P D vwCl [(h0, .inr (2, [.null]))] s.heap := hP
  have hl := lv_entry ([.ref h0]) (n := 1) (Nat.le_of_ble_eq_true rfl)
  rw [lg_entry_eq]
  generalize (lg_sl ([.ref h0]) ++ List.replicate (1 - (lg_sl ([.ref h0])).length) Slot.unset).toArray = ls at hl ⊢
  have hl : lv_has ls 1 [(0, .ref h0)] := hl
  refine lv_aload_n hx hb (show decode cX2_init 0 = .ok (.aload_n 0, 1) by decide +kernel) rfl (lv_at hl 0 rfl) ?_
  refine W.objInit hx hb hown (k_w hts (i := 242) (by decide +kernel)) (k_w hts (i := 59) (by decide +kernel)) (k_w hts (i := 60) (by decide +kernel)) rfl (by rw [hml]; exact hl.1) rfl (show decode cX2_init 1 = .ok (.invokespecial 3, 3) by decide +kernel) (Nat.le_of_ble_eq_true rfl) (Nat.le_of_ble_eq_true rfl) ?_
  refine W.eq (g2 := F0 m 4 ls []) rfl ?_
  refine lv_aload_n hx hb (show decode cX2_init 4 = .ok (.aload_n 0, 1) by decide +kernel) rfl (lv_at hl 0 rfl) ?_
  refine lv_bipush hx hb (v := 16) (show decode cX2_init 5 = .ok (.bipush 16, 2) by decide +kernel) rfl ?_
  refine k_np C hA hP hD hS (T := TX2) (N := 1) rfl .int rfl 0 rfl (fun _ _ h => h) (ia := 101) (by decide +kernel) (n := 16) (n' := 16) (a0 := (16, .inl (fun _ => 0))) (fun _ => rfl) (by decide) rfl (by decide) (Nat.le_of_ble_eq_true rfl) (Nat.le_of_ble_eq_true rfl) (show decode cX2_init 7 = .ok (.newarray .int, 2) by decide +kernel) 0 (by decide) (index := 9) (il := 243) (by decide +kernel) rfl rfl (fty := .array .int) rfl (fun _ => ⟨rfl, rfl⟩) (Nat.le_of_ble_eq_true rfl) (show decode cX2_init 9 = .ok (.putfield 9, 3) by decide +kernel) (fun q1 H locs hP hD hS => ?_)
  have hP : va_P D vwCl [(h0, .inr (2, [.ref q1])), (q1, .inl (cA.1, 16, .inl (fun _ => 0)))] H := hP
  have hD : va_D A [(h0, .inr (2, [.ref q1])), (q1, .inl (cA.1, 16, .inl (fun _ => 0)))] := hD
  exact W.vret hx hb hr (fun t ht hW => ⟨⟨fun i => [q1].getD i 0, rfl, trivial, by rw [ht]; exact hP, hD⟩, hS.F ht⟩) hS.2.2 (show decode cX2_init 12 = .ok (.return_, 1) by decide +kernel)
def wX0 (cA : ClassId × ClassId × ClassId) (h0 : Nat) (u : Nat → Nat) : va_W := [(h0, .inr (0, [.int 0, .ref (u 0), .ref (u 1), .ref (u 2), .ref (u 3), .ref (u 4), .ref (u 5)])), (u 0, .inl (cA.1, 16, .inl (fun _ => 0))), (u 1, .inl (cA.1, 16, .inl (fun _ => 0))), (u 2, .inl (cA.1, 16, .inl (fun _ => 0))), (u 3, .inl (cA.1, 16, .inl (fun _ => 0))), (u 4, .inl (cA.1, 16, .inl (fun _ => 0))), (u 5, .inl (cA.1, 16, .inl (fun _ => 0)))]
set_option maxHeartbeats 4000000 in
set_option maxRecDepth 100000 in
theorem k_X0 (l : Launch) (D : va_G) (cA : ClassId × ClassId × ClassId) (h0 sz : Nat) : Met l yX0_init (.code yX0_init cX0_init 1 none :: a_ws) { frames := 1, cells := 6, slots := 96, locals := 12 } (va_Pc [.ref h0] (fun U => U.heap.size = sz ∧ va_P D vwCl [(h0, .inr (0, [.int 0, .null, .null, .null, .null, .null, .null]))] U.heap ∧ va_K D vwCl (a_tys cA) U ∧ va_D (fun _ => True) [(h0, .inr (0, [.int 0, .null, .null, .null, .null, .null, .null]))])) (va_Qv (fun _ : Nat → Nat => True) (fun u t => va_P D vwCl (wX0 cA h0 u) t.heap ∧ va_D (va_A [(h0, .inr (0, [.int 0, .null, .null, .null, .null, .null, .null]))] sz) (wX0 cA h0 u)) (va_A [(h0, .inr (0, [.int 0, .null, .null, .null, .null, .null, .null]))] sz)) 6 96 (va_A [(h0, .inr (0, [.int 0, .null, .null, .null, .null, .null, .null]))] sz) := by
  refine Met.ofW (cc := cX0_init) (maxL := 1) (ret := none) (by decide +kernel) rfl ?_
  intro p e s m args below meth c s₁ B hml hv
  obtain ⟨rfl, hsz, hP, hK, hD0⟩ := hv
  have hx := B.exec
  have hb := B.bytes
  have hr := B.returns
  have hts : ∀ w ∈ a_ws, w.before ([.ref h0] : List Value).toArray s = true := fun w hw => atoms_spec (ws := .code yX0_init cX0_init 1 none :: a_ws) B.pre w (List.mem_cons_of_mem _ hw)
  have hown : s.vm.findClass RX0 = some m.cls := findClass_of_methodNamed B.named
  have C : kCx p s m ([.ref h0] : List Value).toArray meth c D cA cX0_init RX0 := ⟨hx, hb, hown, hts, hK, (name_of_methodNamed B.named B.method).1⟩
  subst hsz
  have hD := hD0.self (sz := s.heap.size)
  generalize hAe : va_A [(h0, .inr (0, [.int 0, .null, .null, .null, .null, .null, .null]))] s.heap.size = A at hD ⊢
  have hA : ∀ q : Nat, s.heap.size ≤ q → A q := fun q h => by rw [← hAe]; exact Or.inr h
  have hS : va_S A s.heap s.heap [] := va_S.rf
  have hP : va_P D vwCl [(h0, .inr (0, [.int 0, .null, .null, .null, .null, .null, .null]))] s.heap := hP
  have hl := lv_entry ([.ref h0]) (n := 1) (Nat.le_of_ble_eq_true rfl)
  rw [lg_entry_eq]
  generalize (lg_sl ([.ref h0]) ++ List.replicate (1 - (lg_sl ([.ref h0])).length) Slot.unset).toArray = ls at hl ⊢
  have hl : lv_has ls 1 [(0, .ref h0)] := hl
  refine lv_aload_n hx hb (show decode cX0_init 0 = .ok (.aload_n 0, 1) by decide +kernel) rfl (lv_at hl 0 rfl) ?_
  refine W.objInit hx hb hown (k_w hts (i := 66) (by decide +kernel)) (k_w hts (i := 59) (by decide +kernel)) (k_w hts (i := 60) (by decide +kernel)) rfl (by rw [hml]; exact hl.1) rfl (show decode cX0_init 1 = .ok (.invokespecial 3, 3) by decide +kernel) (Nat.le_of_ble_eq_true rfl) (Nat.le_of_ble_eq_true rfl) ?_
  refine W.eq (g2 := F0 m 4 ls []) rfl ?_
  refine lv_aload_n hx hb (show decode cX0_init 4 = .ok (.aload_n 0, 1) by decide +kernel) rfl (lv_at hl 0 rfl) ?_
  refine lv_iconst hx hb (v := 0) (show decode cX0_init 5 = .ok (.iconst 0, 1) by decide +kernel) rfl ?_
  refine k_pi C hP hD hS (T := TX0) (N := 7) rfl 0 (by decide) (index := 9) (il := 67) (by decide +kernel) rfl rfl (fty := .int) (v := .int 0) rfl rfl rfl (Nat.le_of_ble_eq_true rfl) (show decode cX0_init 6 = .ok (.putfield 9, 3) by decide +kernel) (fun H locs hP hD hS => ?_)
  have hP : va_P D vwCl [(h0, .inr (0, [.int 0, .null, .null, .null, .null, .null, .null]))] H := hP
  have hD : va_D A [(h0, .inr (0, [.int 0, .null, .null, .null, .null, .null, .null]))] := hD
  refine lv_aload_n hx hb (show decode cX0_init 9 = .ok (.aload_n 0, 1) by decide +kernel) rfl (lv_at hl 0 rfl) ?_
  refine lv_bipush hx hb (v := 16) (show decode cX0_init 10 = .ok (.bipush 16, 2) by decide +kernel) rfl ?_
  refine k_np C hA hP hD hS (T := TX0) (N := 7) rfl .int rfl 0 rfl (fun _ _ h => h) (ia := 101) (by decide +kernel) (n := 16) (n' := 16) (a0 := (16, .inl (fun _ => 0))) (fun _ => rfl) (by decide) rfl (by decide) (Nat.le_of_ble_eq_true rfl) (Nat.le_of_ble_eq_true rfl) (show decode cX0_init 12 = .ok (.newarray .int, 2) by decide +kernel) 1 (by decide) (index := 15) (il := 71) (by decide +kernel) rfl rfl (fty := .array .int) rfl (fun _ => ⟨rfl, rfl⟩) (Nat.le_of_ble_eq_true rfl) (show decode cX0_init 14 = .ok (.putfield 15, 3) by decide +kernel) (fun q1 H locs hP hD hS => ?_)
  have hP : va_P D vwCl [(h0, .inr (0, [.int 0, .ref q1, .null, .null, .null, .null, .null])), (q1, .inl (cA.1, 16, .inl (fun _ => 0)))] H := hP
  have hD : va_D A [(h0, .inr (0, [.int 0, .ref q1, .null, .null, .null, .null, .null])), (q1, .inl (cA.1, 16, .inl (fun _ => 0)))] := hD
  refine lv_aload_n hx hb (show decode cX0_init 17 = .ok (.aload_n 0, 1) by decide +kernel) rfl (lv_at hl 0 rfl) ?_
  refine lv_bipush hx hb (v := 16) (show decode cX0_init 18 = .ok (.bipush 16, 2) by decide +kernel) rfl ?_
  refine k_np C hA hP hD hS (T := TX0) (N := 7) rfl .int rfl 0 rfl (fun _ _ h => h) (ia := 101) (by decide +kernel) (n := 16) (n' := 16) (a0 := (16, .inl (fun _ => 0))) (fun _ => rfl) (by decide) rfl (by decide) (Nat.le_of_ble_eq_true rfl) (Nat.le_of_ble_eq_true rfl) (show decode cX0_init 20 = .ok (.newarray .int, 2) by decide +kernel) 2 (by decide) (index := 19) (il := 74) (by decide +kernel) rfl rfl (fty := .array .int) rfl (fun _ => ⟨rfl, rfl⟩) (Nat.le_of_ble_eq_true rfl) (show decode cX0_init 22 = .ok (.putfield 19, 3) by decide +kernel) (fun q2 H locs hP hD hS => ?_)
  have hP : va_P D vwCl [(h0, .inr (0, [.int 0, .ref q1, .ref q2, .null, .null, .null, .null])), (q1, .inl (cA.1, 16, .inl (fun _ => 0))), (q2, .inl (cA.1, 16, .inl (fun _ => 0)))] H := hP
  have hD : va_D A [(h0, .inr (0, [.int 0, .ref q1, .ref q2, .null, .null, .null, .null])), (q1, .inl (cA.1, 16, .inl (fun _ => 0))), (q2, .inl (cA.1, 16, .inl (fun _ => 0)))] := hD
  refine lv_aload_n hx hb (show decode cX0_init 25 = .ok (.aload_n 0, 1) by decide +kernel) rfl (lv_at hl 0 rfl) ?_
  refine lv_bipush hx hb (v := 16) (show decode cX0_init 26 = .ok (.bipush 16, 2) by decide +kernel) rfl ?_
  refine k_np C hA hP hD hS (T := TX0) (N := 7) rfl .int rfl 0 rfl (fun _ _ h => h) (ia := 101) (by decide +kernel) (n := 16) (n' := 16) (a0 := (16, .inl (fun _ => 0))) (fun _ => rfl) (by decide) rfl (by decide) (Nat.le_of_ble_eq_true rfl) (Nat.le_of_ble_eq_true rfl) (show decode cX0_init 28 = .ok (.newarray .int, 2) by decide +kernel) 3 (by decide) (index := 22) (il := 77) (by decide +kernel) rfl rfl (fty := .array .int) rfl (fun _ => ⟨rfl, rfl⟩) (Nat.le_of_ble_eq_true rfl) (show decode cX0_init 30 = .ok (.putfield 22, 3) by decide +kernel) (fun q3 H locs hP hD hS => ?_)
  have hP : va_P D vwCl [(h0, .inr (0, [.int 0, .ref q1, .ref q2, .ref q3, .null, .null, .null])), (q1, .inl (cA.1, 16, .inl (fun _ => 0))), (q2, .inl (cA.1, 16, .inl (fun _ => 0))), (q3, .inl (cA.1, 16, .inl (fun _ => 0)))] H := hP
  have hD : va_D A [(h0, .inr (0, [.int 0, .ref q1, .ref q2, .ref q3, .null, .null, .null])), (q1, .inl (cA.1, 16, .inl (fun _ => 0))), (q2, .inl (cA.1, 16, .inl (fun _ => 0))), (q3, .inl (cA.1, 16, .inl (fun _ => 0)))] := hD
  refine lv_aload_n hx hb (show decode cX0_init 33 = .ok (.aload_n 0, 1) by decide +kernel) rfl (lv_at hl 0 rfl) ?_
  refine lv_bipush hx hb (v := 16) (show decode cX0_init 34 = .ok (.bipush 16, 2) by decide +kernel) rfl ?_
  refine k_np C hA hP hD hS (T := TX0) (N := 7) rfl .int rfl 0 rfl (fun _ _ h => h) (ia := 101) (by decide +kernel) (n := 16) (n' := 16) (a0 := (16, .inl (fun _ => 0))) (fun _ => rfl) (by decide) rfl (by decide) (Nat.le_of_ble_eq_true rfl) (Nat.le_of_ble_eq_true rfl) (show decode cX0_init 36 = .ok (.newarray .int, 2) by decide +kernel) 4 (by decide) (index := 25) (il := 79) (by decide +kernel) rfl rfl (fty := .array .int) rfl (fun _ => ⟨rfl, rfl⟩) (Nat.le_of_ble_eq_true rfl) (show decode cX0_init 38 = .ok (.putfield 25, 3) by decide +kernel) (fun q4 H locs hP hD hS => ?_)
  have hP : va_P D vwCl [(h0, .inr (0, [.int 0, .ref q1, .ref q2, .ref q3, .ref q4, .null, .null])), (q1, .inl (cA.1, 16, .inl (fun _ => 0))), (q2, .inl (cA.1, 16, .inl (fun _ => 0))), (q3, .inl (cA.1, 16, .inl (fun _ => 0))), (q4, .inl (cA.1, 16, .inl (fun _ => 0)))] H := hP
  have hD : va_D A [(h0, .inr (0, [.int 0, .ref q1, .ref q2, .ref q3, .ref q4, .null, .null])), (q1, .inl (cA.1, 16, .inl (fun _ => 0))), (q2, .inl (cA.1, 16, .inl (fun _ => 0))), (q3, .inl (cA.1, 16, .inl (fun _ => 0))), (q4, .inl (cA.1, 16, .inl (fun _ => 0)))] := hD
  refine lv_aload_n hx hb (show decode cX0_init 41 = .ok (.aload_n 0, 1) by decide +kernel) rfl (lv_at hl 0 rfl) ?_
  refine lv_bipush hx hb (v := 16) (show decode cX0_init 42 = .ok (.bipush 16, 2) by decide +kernel) rfl ?_
  refine k_np C hA hP hD hS (T := TX0) (N := 7) rfl .int rfl 0 rfl (fun _ _ h => h) (ia := 101) (by decide +kernel) (n := 16) (n' := 16) (a0 := (16, .inl (fun _ => 0))) (fun _ => rfl) (by decide) rfl (by decide) (Nat.le_of_ble_eq_true rfl) (Nat.le_of_ble_eq_true rfl) (show decode cX0_init 44 = .ok (.newarray .int, 2) by decide +kernel) 5 (by decide) (index := 28) (il := 82) (by decide +kernel) rfl rfl (fty := .array .int) rfl (fun _ => ⟨rfl, rfl⟩) (Nat.le_of_ble_eq_true rfl) (show decode cX0_init 46 = .ok (.putfield 28, 3) by decide +kernel) (fun q5 H locs hP hD hS => ?_)
  have hP : va_P D vwCl [(h0, .inr (0, [.int 0, .ref q1, .ref q2, .ref q3, .ref q4, .ref q5, .null])), (q1, .inl (cA.1, 16, .inl (fun _ => 0))), (q2, .inl (cA.1, 16, .inl (fun _ => 0))), (q3, .inl (cA.1, 16, .inl (fun _ => 0))), (q4, .inl (cA.1, 16, .inl (fun _ => 0))), (q5, .inl (cA.1, 16, .inl (fun _ => 0)))] H := hP
  have hD : va_D A [(h0, .inr (0, [.int 0, .ref q1, .ref q2, .ref q3, .ref q4, .ref q5, .null])), (q1, .inl (cA.1, 16, .inl (fun _ => 0))), (q2, .inl (cA.1, 16, .inl (fun _ => 0))), (q3, .inl (cA.1, 16, .inl (fun _ => 0))), (q4, .inl (cA.1, 16, .inl (fun _ => 0))), (q5, .inl (cA.1, 16, .inl (fun _ => 0)))] := hD
  refine lv_aload_n hx hb (show decode cX0_init 49 = .ok (.aload_n 0, 1) by decide +kernel) rfl (lv_at hl 0 rfl) ?_
  refine lv_bipush hx hb (v := 16) (show decode cX0_init 50 = .ok (.bipush 16, 2) by decide +kernel) rfl ?_
  refine k_np C hA hP hD hS (T := TX0) (N := 7) rfl .int rfl 0 rfl (fun _ _ h => h) (ia := 101) (by decide +kernel) (n := 16) (n' := 16) (a0 := (16, .inl (fun _ => 0))) (fun _ => rfl) (by decide) rfl (by decide) (Nat.le_of_ble_eq_true rfl) (Nat.le_of_ble_eq_true rfl) (show decode cX0_init 52 = .ok (.newarray .int, 2) by decide +kernel) 6 (by decide) (index := 31) (il := 84) (by decide +kernel) rfl rfl (fty := .array .int) rfl (fun _ => ⟨rfl, rfl⟩) (Nat.le_of_ble_eq_true rfl) (show decode cX0_init 54 = .ok (.putfield 31, 3) by decide +kernel) (fun q6 H locs hP hD hS => ?_)
  have hP : va_P D vwCl [(h0, .inr (0, [.int 0, .ref q1, .ref q2, .ref q3, .ref q4, .ref q5, .ref q6])), (q1, .inl (cA.1, 16, .inl (fun _ => 0))), (q2, .inl (cA.1, 16, .inl (fun _ => 0))), (q3, .inl (cA.1, 16, .inl (fun _ => 0))), (q4, .inl (cA.1, 16, .inl (fun _ => 0))), (q5, .inl (cA.1, 16, .inl (fun _ => 0))), (q6, .inl (cA.1, 16, .inl (fun _ => 0)))] H := hP
  have hD : va_D A [(h0, .inr (0, [.int 0, .ref q1, .ref q2, .ref q3, .ref q4, .ref q5, .ref q6])), (q1, .inl (cA.1, 16, .inl (fun _ => 0))), (q2, .inl (cA.1, 16, .inl (fun _ => 0))), (q3, .inl (cA.1, 16, .inl (fun _ => 0))), (q4, .inl (cA.1, 16, .inl (fun _ => 0))), (q5, .inl (cA.1, 16, .inl (fun _ => 0))), (q6, .inl (cA.1, 16, .inl (fun _ => 0)))] := hD
  exact W.vret hx hb hr (fun t ht hW => ⟨⟨fun i => [q1, q2, q3, q4, q5, q6].getD i 0, rfl, trivial, by rw [ht]; exact hP, hD⟩, hS.F ht⟩) hS.2.2 (show decode cX0_init 57 = .ok (.return_, 1) by decide +kernel)
def wX5 (cA : ClassId × ClassId × ClassId) (h0 : Nat) (u : Nat → Nat) : va_W := [(h0, .inr (5, [.int 0, .ref (u 0), .ref (u 1), .ref (u 2), .ref (u 3), .ref (u 4), .ref (u 5), .ref (u 6), .ref (u 7), .ref (u 8)])), (u 0, .inl (cA.1, 20, .inl (fun _ => 0))), (u 1, .inl (cA.1, 20, .inl (fun _ => 0))), (u 2, .inl (cA.1, 20, .inl (fun _ => 0))), (u 3, .inl (cA.1, 20, .inl (fun _ => 0))), (u 4, .inl (cA.1, 20, .inl (fun _ => 0))), (u 5, .inl (cA.1, 20, .inl (fun _ => 0))), (u 6, .inl (cA.1, 20, .inl (fun _ => 0))), (u 7, .inl (cA.1, 180, .inl (fun _ => 0))), (u 8, .inl (cA.1, 4, .inl (fun _ => 0)))]
set_option maxHeartbeats 4000000 in
set_option maxRecDepth 100000 in
theorem k_X5 (l : Launch) (D : va_G) (cA : ClassId × ClassId × ClassId) (h0 sz : Nat) : Met l yX5_init (.code yX5_init cX5_init 1 none :: a_ws) { frames := 1, cells := 9, slots := 324, locals := 12 } (va_Pc [.ref h0] (fun U => U.heap.size = sz ∧ va_P D vwCl [(h0, .inr (5, [.int 0, .null, .null, .null, .null, .null, .null, .null, .null, .null]))] U.heap ∧ va_K D vwCl (a_tys cA) U ∧ va_D (fun _ => True) [(h0, .inr (5, [.int 0, .null, .null, .null, .null, .null, .null, .null, .null, .null]))])) (va_Qv (fun _ : Nat → Nat => True) (fun u t => va_P D vwCl (wX5 cA h0 u) t.heap ∧ va_D (va_A [(h0, .inr (5, [.int 0, .null, .null, .null, .null, .null, .null, .null, .null, .null]))] sz) (wX5 cA h0 u)) (va_A [(h0, .inr (5, [.int 0, .null, .null, .null, .null, .null, .null, .null, .null, .null]))] sz)) 9 324 (va_A [(h0, .inr (5, [.int 0, .null, .null, .null, .null, .null, .null, .null, .null, .null]))] sz) := by
  refine Met.ofW (cc := cX5_init) (maxL := 1) (ret := none) (by decide +kernel) rfl ?_
  intro p e s m args below meth c s₁ B hml hv
  obtain ⟨rfl, hsz, hP, hK, hD0⟩ := hv
  have hx := B.exec
  have hb := B.bytes
  have hr := B.returns
  have hts : ∀ w ∈ a_ws, w.before ([.ref h0] : List Value).toArray s = true := fun w hw => atoms_spec (ws := .code yX5_init cX5_init 1 none :: a_ws) B.pre w (List.mem_cons_of_mem _ hw)
  have hown : s.vm.findClass RX5 = some m.cls := findClass_of_methodNamed B.named
  have C : kCx p s m ([.ref h0] : List Value).toArray meth c D cA cX5_init RX5 := ⟨hx, hb, hown, hts, hK, (name_of_methodNamed B.named B.method).1⟩
  subst hsz
  have hD := hD0.self (sz := s.heap.size)
  generalize hAe : va_A [(h0, .inr (5, [.int 0, .null, .null, .null, .null, .null, .null, .null, .null, .null]))] s.heap.size = A at hD ⊢
  have hA : ∀ q : Nat, s.heap.size ≤ q → A q := fun q h => by rw [← hAe]; exact Or.inr h
  have hS : va_S A s.heap s.heap [] := va_S.rf
  have hP : va_P D vwCl [(h0, .inr (5, [.int 0, .null, .null, .null, .null, .null, .null, .null, .null, .null]))] s.heap := hP
  have hl := lv_entry ([.ref h0]) (n := 1) (Nat.le_of_ble_eq_true rfl)
  rw [lg_entry_eq]
  generalize (lg_sl ([.ref h0]) ++ List.replicate (1 - (lg_sl ([.ref h0])).length) Slot.unset).toArray = ls at hl ⊢
  have hl : lv_has ls 1 [(0, .ref h0)] := hl
  refine lv_aload_n hx hb (show decode cX5_init 0 = .ok (.aload_n 0, 1) by decide +kernel) rfl (lv_at hl 0 rfl) ?_
  refine W.objInit hx hb hown (k_w hts (i := 107) (by decide +kernel)) (k_w hts (i := 59) (by decide +kernel)) (k_w hts (i := 60) (by decide +kernel)) rfl (by rw [hml]; exact hl.1) rfl (show decode cX5_init 1 = .ok (.invokespecial 3, 3) by decide +kernel) (Nat.le_of_ble_eq_true rfl) (Nat.le_of_ble_eq_true rfl) ?_
  refine W.eq (g2 := F0 m 4 ls []) rfl ?_
  refine lv_aload_n hx hb (show decode cX5_init 4 = .ok (.aload_n 0, 1) by decide +kernel) rfl (lv_at hl 0 rfl) ?_
  refine lv_iconst hx hb (v := 0) (show decode cX5_init 5 = .ok (.iconst 0, 1) by decide +kernel) rfl ?_
  refine k_pi C hP hD hS (T := TX5) (N := 10) rfl 0 (by decide) (index := 9) (il := 108) (by decide +kernel) rfl rfl (fty := .int) (v := .int 0) rfl rfl rfl (Nat.le_of_ble_eq_true rfl) (show decode cX5_init 6 = .ok (.putfield 9, 3) by decide +kernel) (fun H locs hP hD hS => ?_)
  have hP : va_P D vwCl [(h0, .inr (5, [.int 0, .null, .null, .null, .null, .null, .null, .null, .null, .null]))] H := hP
  have hD : va_D A [(h0, .inr (5, [.int 0, .null, .null, .null, .null, .null, .null, .null, .null, .null]))] := hD
  refine lv_aload_n hx hb (show decode cX5_init 9 = .ok (.aload_n 0, 1) by decide +kernel) rfl (lv_at hl 0 rfl) ?_
  refine lv_bipush hx hb (v := 20) (show decode cX5_init 10 = .ok (.bipush 20, 2) by decide +kernel) rfl ?_
  refine k_np C hA hP hD hS (T := TX5) (N := 10) rfl .int rfl 0 rfl (fun _ _ h => h) (ia := 101) (by decide +kernel) (n := 20) (n' := 20) (a0 := (20, .inl (fun _ => 0))) (fun _ => rfl) (by decide) rfl (by decide) (Nat.le_of_ble_eq_true rfl) (Nat.le_of_ble_eq_true rfl) (show decode cX5_init 12 = .ok (.newarray .int, 2) by decide +kernel) 1 (by decide) (index := 15) (il := 110) (by decide +kernel) rfl rfl (fty := .array .int) rfl (fun _ => ⟨rfl, rfl⟩) (Nat.le_of_ble_eq_true rfl) (show decode cX5_init 14 = .ok (.putfield 15, 3) by decide +kernel) (fun q1 H locs hP hD hS => ?_)
  have hP : va_P D vwCl [(h0, .inr (5, [.int 0, .ref q1, .null, .null, .null, .null, .null, .null, .null, .null])), (q1, .inl (cA.1, 20, .inl (fun _ => 0)))] H := hP
  have hD : va_D A [(h0, .inr (5, [.int 0, .ref q1, .null, .null, .null, .null, .null, .null, .null, .null])), (q1, .inl (cA.1, 20, .inl (fun _ => 0)))] := hD
  refine lv_aload_n hx hb (show decode cX5_init 17 = .ok (.aload_n 0, 1) by decide +kernel) rfl (lv_at hl 0 rfl) ?_
  refine lv_bipush hx hb (v := 20) (show decode cX5_init 18 = .ok (.bipush 20, 2) by decide +kernel) rfl ?_
  refine k_np C hA hP hD hS (T := TX5) (N := 10) rfl .int rfl 0 rfl (fun _ _ h => h) (ia := 101) (by decide +kernel) (n := 20) (n' := 20) (a0 := (20, .inl (fun _ => 0))) (fun _ => rfl) (by decide) rfl (by decide) (Nat.le_of_ble_eq_true rfl) (Nat.le_of_ble_eq_true rfl) (show decode cX5_init 20 = .ok (.newarray .int, 2) by decide +kernel) 2 (by decide) (index := 19) (il := 112) (by decide +kernel) rfl rfl (fty := .array .int) rfl (fun _ => ⟨rfl, rfl⟩) (Nat.le_of_ble_eq_true rfl) (show decode cX5_init 22 = .ok (.putfield 19, 3) by decide +kernel) (fun q2 H locs hP hD hS => ?_)
  have hP : va_P D vwCl [(h0, .inr (5, [.int 0, .ref q1, .ref q2, .null, .null, .null, .null, .null, .null, .null])), (q1, .inl (cA.1, 20, .inl (fun _ => 0))), (q2, .inl (cA.1, 20, .inl (fun _ => 0)))] H := hP
  have hD : va_D A [(h0, .inr (5, [.int 0, .ref q1, .ref q2, .null, .null, .null, .null, .null, .null, .null])), (q1, .inl (cA.1, 20, .inl (fun _ => 0))), (q2, .inl (cA.1, 20, .inl (fun _ => 0)))] := hD
  refine lv_aload_n hx hb (show decode cX5_init 25 = .ok (.aload_n 0, 1) by decide +kernel) rfl (lv_at hl 0 rfl) ?_
  refine lv_bipush hx hb (v := 20) (show decode cX5_init 26 = .ok (.bipush 20, 2) by decide +kernel) rfl ?_
  refine k_np C hA hP hD hS (T := TX5) (N := 10) rfl .int rfl 0 rfl (fun _ _ h => h) (ia := 101) (by decide +kernel) (n := 20) (n' := 20) (a0 := (20, .inl (fun _ => 0))) (fun _ => rfl) (by decide) rfl (by decide) (Nat.le_of_ble_eq_true rfl) (Nat.le_of_ble_eq_true rfl) (show decode cX5_init 28 = .ok (.newarray .int, 2) by decide +kernel) 3 (by decide) (index := 22) (il := 114) (by decide +kernel) rfl rfl (fty := .array .int) rfl (fun _ => ⟨rfl, rfl⟩) (Nat.le_of_ble_eq_true rfl) (show decode cX5_init 30 = .ok (.putfield 22, 3) by decide +kernel) (fun q3 H locs hP hD hS => ?_)
  have hP : va_P D vwCl [(h0, .inr (5, [.int 0, .ref q1, .ref q2, .ref q3, .null, .null, .null, .null, .null, .null])), (q1, .inl (cA.1, 20, .inl (fun _ => 0))), (q2, .inl (cA.1, 20, .inl (fun _ => 0))), (q3, .inl (cA.1, 20, .inl (fun _ => 0)))] H := hP
  have hD : va_D A [(h0, .inr (5, [.int 0, .ref q1, .ref q2, .ref q3, .null, .null, .null, .null, .null, .null])), (q1, .inl (cA.1, 20, .inl (fun _ => 0))), (q2, .inl (cA.1, 20, .inl (fun _ => 0))), (q3, .inl (cA.1, 20, .inl (fun _ => 0)))] := hD
  refine lv_aload_n hx hb (show decode cX5_init 33 = .ok (.aload_n 0, 1) by decide +kernel) rfl (lv_at hl 0 rfl) ?_
  refine lv_bipush hx hb (v := 20) (show decode cX5_init 34 = .ok (.bipush 20, 2) by decide +kernel) rfl ?_
  refine k_np C hA hP hD hS (T := TX5) (N := 10) rfl .int rfl 0 rfl (fun _ _ h => h) (ia := 101) (by decide +kernel) (n := 20) (n' := 20) (a0 := (20, .inl (fun _ => 0))) (fun _ => rfl) (by decide) rfl (by decide) (Nat.le_of_ble_eq_true rfl) (Nat.le_of_ble_eq_true rfl) (show decode cX5_init 36 = .ok (.newarray .int, 2) by decide +kernel) 4 (by decide) (index := 25) (il := 116) (by decide +kernel) rfl rfl (fty := .array .int) rfl (fun _ => ⟨rfl, rfl⟩) (Nat.le_of_ble_eq_true rfl) (show decode cX5_init 38 = .ok (.putfield 25, 3) by decide +kernel) (fun q4 H locs hP hD hS => ?_)
  have hP : va_P D vwCl [(h0, .inr (5, [.int 0, .ref q1, .ref q2, .ref q3, .ref q4, .null, .null, .null, .null, .null])), (q1, .inl (cA.1, 20, .inl (fun _ => 0))), (q2, .inl (cA.1, 20, .inl (fun _ => 0))), (q3, .inl (cA.1, 20, .inl (fun _ => 0))), (q4, .inl (cA.1, 20, .inl (fun _ => 0)))] H := hP
  have hD : va_D A [(h0, .inr (5, [.int 0, .ref q1, .ref q2, .ref q3, .ref q4, .null, .null, .null, .null, .null])), (q1, .inl (cA.1, 20, .inl (fun _ => 0))), (q2, .inl (cA.1, 20, .inl (fun _ => 0))), (q3, .inl (cA.1, 20, .inl (fun _ => 0))), (q4, .inl (cA.1, 20, .inl (fun _ => 0)))] := hD
  refine lv_aload_n hx hb (show decode cX5_init 41 = .ok (.aload_n 0, 1) by decide +kernel) rfl (lv_at hl 0 rfl) ?_
  refine lv_bipush hx hb (v := 20) (show decode cX5_init 42 = .ok (.bipush 20, 2) by decide +kernel) rfl ?_
  refine k_np C hA hP hD hS (T := TX5) (N := 10) rfl .int rfl 0 rfl (fun _ _ h => h) (ia := 101) (by decide +kernel) (n := 20) (n' := 20) (a0 := (20, .inl (fun _ => 0))) (fun _ => rfl) (by decide) rfl (by decide) (Nat.le_of_ble_eq_true rfl) (Nat.le_of_ble_eq_true rfl) (show decode cX5_init 44 = .ok (.newarray .int, 2) by decide +kernel) 5 (by decide) (index := 28) (il := 117) (by decide +kernel) rfl rfl (fty := .array .int) rfl (fun _ => ⟨rfl, rfl⟩) (Nat.le_of_ble_eq_true rfl) (show decode cX5_init 46 = .ok (.putfield 28, 3) by decide +kernel) (fun q5 H locs hP hD hS => ?_)
  have hP : va_P D vwCl [(h0, .inr (5, [.int 0, .ref q1, .ref q2, .ref q3, .ref q4, .ref q5, .null, .null, .null, .null])), (q1, .inl (cA.1, 20, .inl (fun _ => 0))), (q2, .inl (cA.1, 20, .inl (fun _ => 0))), (q3, .inl (cA.1, 20, .inl (fun _ => 0))), (q4, .inl (cA.1, 20, .inl (fun _ => 0))), (q5, .inl (cA.1, 20, .inl (fun _ => 0)))] H := hP
  have hD : va_D A [(h0, .inr (5, [.int 0, .ref q1, .ref q2, .ref q3, .ref q4, .ref q5, .null, .null, .null, .null])), (q1, .inl (cA.1, 20, .inl (fun _ => 0))), (q2, .inl (cA.1, 20, .inl (fun _ => 0))), (q3, .inl (cA.1, 20, .inl (fun _ => 0))), (q4, .inl (cA.1, 20, .inl (fun _ => 0))), (q5, .inl (cA.1, 20, .inl (fun _ => 0)))] := hD
  refine lv_aload_n hx hb (show decode cX5_init 49 = .ok (.aload_n 0, 1) by decide +kernel) rfl (lv_at hl 0 rfl) ?_
  refine lv_bipush hx hb (v := 20) (show decode cX5_init 50 = .ok (.bipush 20, 2) by decide +kernel) rfl ?_
  refine k_np C hA hP hD hS (T := TX5) (N := 10) rfl .int rfl 0 rfl (fun _ _ h => h) (ia := 101) (by decide +kernel) (n := 20) (n' := 20) (a0 := (20, .inl (fun _ => 0))) (fun _ => rfl) (by decide) rfl (by decide) (Nat.le_of_ble_eq_true rfl) (Nat.le_of_ble_eq_true rfl) (show decode cX5_init 52 = .ok (.newarray .int, 2) by decide +kernel) 6 (by decide) (index := 31) (il := 119) (by decide +kernel) rfl rfl (fty := .array .int) rfl (fun _ => ⟨rfl, rfl⟩) (Nat.le_of_ble_eq_true rfl) (show decode cX5_init 54 = .ok (.putfield 31, 3) by decide +kernel) (fun q6 H locs hP hD hS => ?_)
  have hP : va_P D vwCl [(h0, .inr (5, [.int 0, .ref q1, .ref q2, .ref q3, .ref q4, .ref q5, .ref q6, .null, .null, .null])), (q1, .inl (cA.1, 20, .inl (fun _ => 0))), (q2, .inl (cA.1, 20, .inl (fun _ => 0))), (q3, .inl (cA.1, 20, .inl (fun _ => 0))), (q4, .inl (cA.1, 20, .inl (fun _ => 0))), (q5, .inl (cA.1, 20, .inl (fun _ => 0))), (q6, .inl (cA.1, 20, .inl (fun _ => 0)))] H := hP
  have hD : va_D A [(h0, .inr (5, [.int 0, .ref q1, .ref q2, .ref q3, .ref q4, .ref q5, .ref q6, .null, .null, .null])), (q1, .inl (cA.1, 20, .inl (fun _ => 0))), (q2, .inl (cA.1, 20, .inl (fun _ => 0))), (q3, .inl (cA.1, 20, .inl (fun _ => 0))), (q4, .inl (cA.1, 20, .inl (fun _ => 0))), (q5, .inl (cA.1, 20, .inl (fun _ => 0))), (q6, .inl (cA.1, 20, .inl (fun _ => 0)))] := hD
  refine lv_aload_n hx hb (show decode cX5_init 57 = .ok (.aload_n 0, 1) by decide +kernel) rfl (lv_at hl 0 rfl) ?_
  refine lv_bipush hx hb (v := 20) (show decode cX5_init 58 = .ok (.bipush 20, 2) by decide +kernel) rfl ?_
  refine k_np C hA hP hD hS (T := TX5) (N := 10) rfl .int rfl 0 rfl (fun _ _ h => h) (ia := 101) (by decide +kernel) (n := 20) (n' := 20) (a0 := (20, .inl (fun _ => 0))) (fun _ => rfl) (by decide) rfl (by decide) (Nat.le_of_ble_eq_true rfl) (Nat.le_of_ble_eq_true rfl) (show decode cX5_init 60 = .ok (.newarray .int, 2) by decide +kernel) 7 (by decide) (index := 34) (il := 120) (by decide +kernel) rfl rfl (fty := .array .int) rfl (fun _ => ⟨rfl, rfl⟩) (Nat.le_of_ble_eq_true rfl) (show decode cX5_init 62 = .ok (.putfield 34, 3) by decide +kernel) (fun q7 H locs hP hD hS => ?_)
  have hP : va_P D vwCl [(h0, .inr (5, [.int 0, .ref q1, .ref q2, .ref q3, .ref q4, .ref q5, .ref q6, .ref q7, .null, .null])), (q1, .inl (cA.1, 20, .inl (fun _ => 0))), (q2, .inl (cA.1, 20, .inl (fun _ => 0))), (q3, .inl (cA.1, 20, .inl (fun _ => 0))), (q4, .inl (cA.1, 20, .inl (fun _ => 0))), (q5, .inl (cA.1, 20, .inl (fun _ => 0))), (q6, .inl (cA.1, 20, .inl (fun _ => 0))), (q7, .inl (cA.1, 20, .inl (fun _ => 0)))] H := hP
  have hD : va_D A [(h0, .inr (5, [.int 0, .ref q1, .ref q2, .ref q3, .ref q4, .ref q5, .ref q6, .ref q7, .null, .null])), (q1, .inl (cA.1, 20, .inl (fun _ => 0))), (q2, .inl (cA.1, 20, .inl (fun _ => 0))), (q3, .inl (cA.1, 20, .inl (fun _ => 0))), (q4, .inl (cA.1, 20, .inl (fun _ => 0))), (q5, .inl (cA.1, 20, .inl (fun _ => 0))), (q6, .inl (cA.1, 20, .inl (fun _ => 0))), (q7, .inl (cA.1, 20, .inl (fun _ => 0)))] := hD
  refine lv_aload_n hx hb (show decode cX5_init 65 = .ok (.aload_n 0, 1) by decide +kernel) rfl (lv_at hl 0 rfl) ?_
  refine lv_sipush hx hb (v := 180) (show decode cX5_init 66 = .ok (.sipush 180, 3) by decide +kernel) rfl ?_
  refine k_np C hA hP hD hS (T := TX5) (N := 10) rfl .int rfl 0 rfl (fun _ _ h => h) (ia := 101) (by decide +kernel) (n := 180) (n' := 180) (a0 := (180, .inl (fun _ => 0))) (fun _ => rfl) (by decide) rfl (by decide) (Nat.le_of_ble_eq_true rfl) (Nat.le_of_ble_eq_true rfl) (show decode cX5_init 69 = .ok (.newarray .int, 2) by decide +kernel) 8 (by decide) (index := 37) (il := 122) (by decide +kernel) rfl rfl (fty := .array .int) rfl (fun _ => ⟨rfl, rfl⟩) (Nat.le_of_ble_eq_true rfl) (show decode cX5_init 71 = .ok (.putfield 37, 3) by decide +kernel) (fun q8 H locs hP hD hS => ?_)
  have hP : va_P D vwCl [(h0, .inr (5, [.int 0, .ref q1, .ref q2, .ref q3, .ref q4, .ref q5, .ref q6, .ref q7, .ref q8, .null])), (q1, .inl (cA.1, 20, .inl (fun _ => 0))), (q2, .inl (cA.1, 20, .inl (fun _ => 0))), (q3, .inl (cA.1, 20, .inl (fun _ => 0))), (q4, .inl (cA.1, 20, .inl (fun _ => 0))), (q5, .inl (cA.1, 20, .inl (fun _ => 0))), (q6, .inl (cA.1, 20, .inl (fun _ => 0))), (q7, .inl (cA.1, 20, .inl (fun _ => 0))), (q8, .inl (cA.1, 180, .inl (fun _ => 0)))] H := hP
  have hD : va_D A [(h0, .inr (5, [.int 0, .ref q1, .ref q2, .ref q3, .ref q4, .ref q5, .ref q6, .ref q7, .ref q8, .null])), (q1, .inl (cA.1, 20, .inl (fun _ => 0))), (q2, .inl (cA.1, 20, .inl (fun _ => 0))), (q3, .inl (cA.1, 20, .inl (fun _ => 0))), (q4, .inl (cA.1, 20, .inl (fun _ => 0))), (q5, .inl (cA.1, 20, .inl (fun _ => 0))), (q6, .inl (cA.1, 20, .inl (fun _ => 0))), (q7, .inl (cA.1, 20, .inl (fun _ => 0))), (q8, .inl (cA.1, 180, .inl (fun _ => 0)))] := hD
  refine lv_aload_n hx hb (show decode cX5_init 74 = .ok (.aload_n 0, 1) by decide +kernel) rfl (lv_at hl 0 rfl) ?_
  refine lv_iconst hx hb (v := 4) (show decode cX5_init 75 = .ok (.iconst 4, 1) by decide +kernel) rfl ?_
  refine k_np C hA hP hD hS (T := TX5) (N := 10) rfl .int rfl 0 rfl (fun _ _ h => h) (ia := 101) (by decide +kernel) (n := 4) (n' := 4) (a0 := (4, .inl (fun _ => 0))) (fun _ => rfl) (by decide) rfl (by decide) (Nat.le_of_ble_eq_true rfl) (Nat.le_of_ble_eq_true rfl) (show decode cX5_init 76 = .ok (.newarray .int, 2) by decide +kernel) 9 (by decide) (index := 40) (il := 123) (by decide +kernel) rfl rfl (fty := .array .int) rfl (fun _ => ⟨rfl, rfl⟩) (Nat.le_of_ble_eq_true rfl) (show decode cX5_init 78 = .ok (.putfield 40, 3) by decide +kernel) (fun q9 H locs hP hD hS => ?_)
  have hP : va_P D vwCl [(h0, .inr (5, [.int 0, .ref q1, .ref q2, .ref q3, .ref q4, .ref q5, .ref q6, .ref q7, .ref q8, .ref q9])), (q1, .inl (cA.1, 20, .inl (fun _ => 0))), (q2, .inl (cA.1, 20, .inl (fun _ => 0))), (q3, .inl (cA.1, 20, .inl (fun _ => 0))), (q4, .inl (cA.1, 20, .inl (fun _ => 0))), (q5, .inl (cA.1, 20, .inl (fun _ => 0))), (q6, .inl (cA.1, 20, .inl (fun _ => 0))), (q7, .inl (cA.1, 20, .inl (fun _ => 0))), (q8, .inl (cA.1, 180, .inl (fun _ => 0))), (q9, .inl (cA.1, 4, .inl (fun _ => 0)))] H := hP
  have hD : va_D A [(h0, .inr (5, [.int 0, .ref q1, .ref q2, .ref q3, .ref q4, .ref q5, .ref q6, .ref q7, .ref q8, .ref q9])), (q1, .inl (cA.1, 20, .inl (fun _ => 0))), (q2, .inl (cA.1, 20, .inl (fun _ => 0))), (q3, .inl (cA.1, 20, .inl (fun _ => 0))), (q4, .inl (cA.1, 20, .inl (fun _ => 0))), (q5, .inl (cA.1, 20, .inl (fun _ => 0))), (q6, .inl (cA.1, 20, .inl (fun _ => 0))), (q7, .inl (cA.1, 20, .inl (fun _ => 0))), (q8, .inl (cA.1, 180, .inl (fun _ => 0))), (q9, .inl (cA.1, 4, .inl (fun _ => 0)))] := hD
  exact W.vret hx hb hr (fun t ht hW => ⟨⟨fun i => [q1, q2, q3, q4, q5, q6, q7, q8, q9].getD i 0, rfl, trivial, by rw [ht]; exact hP, hD⟩, hS.F ht⟩) hS.2.2 (show decode cX5_init 81 = .ok (.return_, 1) by decide +kernel)
def wX3 (cA : ClassId × ClassId × ClassId) (h0 : Nat) (d0 : Nat) (u : Nat → Nat) : va_W := [(h0, .inr (3, [.ref d0, .ref (u 0), .ref (u 1), .ref (u 2), .ref (u 3), .int 0])), (u 0, .inl (cA.1, 16, .inl (fun _ => 0))), (u 1, .inl (cA.1, 16, .inl (fun _ => 0))), (u 2, .inl (cA.1, 10, .inl (fun _ => 0))), (u 3, .inl (cA.1, 9, .inl (fun _ => 0)))]
set_option maxHeartbeats 4000000 in
set_option maxRecDepth 100000 in
theorem k_X3 (l : Launch) (D : va_G) (cA : ClassId × ClassId × ClassId) (h0 d0 sz : Nat) : Met l yX3_init (.code yX3_init cX3_init 2 none :: a_ws) { frames := 1, cells := 4, slots := 51, locals := 12 } (va_Pc [.ref h0, .ref d0] (fun U => U.heap.size = sz ∧ va_P D vwCl [(h0, .inr (3, [.null, .null, .null, .null, .null, .int 0]))] U.heap ∧ va_K D vwCl (a_tys cA) U ∧ va_D (fun _ => True) [(h0, .inr (3, [.null, .null, .null, .null, .null, .int 0]))])) (va_Qv (fun _ : Nat → Nat => True) (fun u t => va_P D vwCl (wX3 cA h0 d0 u) t.heap ∧ va_D (va_A [(h0, .inr (3, [.null, .null, .null, .null, .null, .int 0]))] sz) (wX3 cA h0 d0 u)) (va_A [(h0, .inr (3, [.null, .null, .null, .null, .null, .int 0]))] sz)) 4 51 (va_A [(h0, .inr (3, [.null, .null, .null, .null, .null, .int 0]))] sz) := by
  refine Met.ofW (cc := cX3_init) (maxL := 2) (ret := none) (by decide +kernel) rfl ?_
  intro p e s m args below meth c s₁ B hml hv
  obtain ⟨rfl, hsz, hP, hK, hD0⟩ := hv
  have hx := B.exec
  have hb := B.bytes
  have hr := B.returns
  have hts : ∀ w ∈ a_ws, w.before ([.ref h0, .ref d0] : List Value).toArray s = true := fun w hw => atoms_spec (ws := .code yX3_init cX3_init 2 none :: a_ws) B.pre w (List.mem_cons_of_mem _ hw)
  have hown : s.vm.findClass RX3 = some m.cls := findClass_of_methodNamed B.named
  have C : kCx p s m ([.ref h0, .ref d0] : List Value).toArray meth c D cA cX3_init RX3 := ⟨hx, hb, hown, hts, hK, (name_of_methodNamed B.named B.method).1⟩
  subst hsz
  have hD := hD0.self (sz := s.heap.size)
  generalize hAe : va_A [(h0, .inr (3, [.null, .null, .null, .null, .null, .int 0]))] s.heap.size = A at hD ⊢
  have hA : ∀ q : Nat, s.heap.size ≤ q → A q := fun q h => by rw [← hAe]; exact Or.inr h
  have hS : va_S A s.heap s.heap [] := va_S.rf
  have hP : va_P D vwCl [(h0, .inr (3, [.null, .null, .null, .null, .null, .int 0]))] s.heap := hP
  have hl := lv_entry ([.ref h0, .ref d0]) (n := 2) (Nat.le_of_ble_eq_true rfl)
  rw [lg_entry_eq]
  generalize (lg_sl ([.ref h0, .ref d0]) ++ List.replicate (2 - (lg_sl ([.ref h0, .ref d0])).length) Slot.unset).toArray = ls at hl ⊢
  have hl : lv_has ls 2 [(0, .ref h0), (1, .ref d0)] := hl
  refine lv_aload_n hx hb (show decode cX3_init 0 = .ok (.aload_n 0, 1) by decide +kernel) rfl (lv_at hl 0 rfl) ?_
  refine W.objInit hx hb hown (k_w hts (i := 150) (by decide +kernel)) (k_w hts (i := 59) (by decide +kernel)) (k_w hts (i := 60) (by decide +kernel)) rfl (by rw [hml]; exact hl.1) rfl (show decode cX3_init 1 = .ok (.invokespecial 3, 3) by decide +kernel) (Nat.le_of_ble_eq_true rfl) (Nat.le_of_ble_eq_true rfl) ?_
  refine W.eq (g2 := F0 m 4 ls []) rfl ?_
  refine lv_aload_n hx hb (show decode cX3_init 4 = .ok (.aload_n 0, 1) by decide +kernel) rfl (lv_at hl 0 rfl) ?_
  refine lv_bipush hx hb (v := 16) (show decode cX3_init 5 = .ok (.bipush 16, 2) by decide +kernel) rfl ?_
  refine k_np C hA hP hD hS (T := TX3) (N := 6) rfl .int rfl 0 rfl (fun _ _ h => h) (ia := 101) (by decide +kernel) (n := 16) (n' := 16) (a0 := (16, .inl (fun _ => 0))) (fun _ => rfl) (by decide) rfl (by decide) (Nat.le_of_ble_eq_true rfl) (Nat.le_of_ble_eq_true rfl) (show decode cX3_init 7 = .ok (.newarray .int, 2) by decide +kernel) 1 (by decide) (index := 9) (il := 152) (by decide +kernel) rfl rfl (fty := .array .int) rfl (fun _ => ⟨rfl, rfl⟩) (Nat.le_of_ble_eq_true rfl) (show decode cX3_init 9 = .ok (.putfield 9, 3) by decide +kernel) (fun q1 H locs hP hD hS => ?_)
  have hP : va_P D vwCl [(h0, .inr (3, [.null, .ref q1, .null, .null, .null, .int 0])), (q1, .inl (cA.1, 16, .inl (fun _ => 0)))] H := hP
  have hD : va_D A [(h0, .inr (3, [.null, .ref q1, .null, .null, .null, .int 0])), (q1, .inl (cA.1, 16, .inl (fun _ => 0)))] := hD
  refine lv_aload_n hx hb (show decode cX3_init 12 = .ok (.aload_n 0, 1) by decide +kernel) rfl (lv_at hl 0 rfl) ?_
  refine lv_bipush hx hb (v := 16) (show decode cX3_init 13 = .ok (.bipush 16, 2) by decide +kernel) rfl ?_
  refine k_np C hA hP hD hS (T := TX3) (N := 6) rfl .int rfl 0 rfl (fun _ _ h => h) (ia := 101) (by decide +kernel) (n := 16) (n' := 16) (a0 := (16, .inl (fun _ => 0))) (fun _ => rfl) (by decide) rfl (by decide) (Nat.le_of_ble_eq_true rfl) (Nat.le_of_ble_eq_true rfl) (show decode cX3_init 15 = .ok (.newarray .int, 2) by decide +kernel) 2 (by decide) (index := 15) (il := 153) (by decide +kernel) rfl rfl (fty := .array .int) rfl (fun _ => ⟨rfl, rfl⟩) (Nat.le_of_ble_eq_true rfl) (show decode cX3_init 17 = .ok (.putfield 15, 3) by decide +kernel) (fun q2 H locs hP hD hS => ?_)
  have hP : va_P D vwCl [(h0, .inr (3, [.null, .ref q1, .ref q2, .null, .null, .int 0])), (q1, .inl (cA.1, 16, .inl (fun _ => 0))), (q2, .inl (cA.1, 16, .inl (fun _ => 0)))] H := hP
  have hD : va_D A [(h0, .inr (3, [.null, .ref q1, .ref q2, .null, .null, .int 0])), (q1, .inl (cA.1, 16, .inl (fun _ => 0))), (q2, .inl (cA.1, 16, .inl (fun _ => 0)))] := hD
  refine lv_aload_n hx hb (show decode cX3_init 20 = .ok (.aload_n 0, 1) by decide +kernel) rfl (lv_at hl 0 rfl) ?_
  refine lv_bipush hx hb (v := 10) (show decode cX3_init 21 = .ok (.bipush 10, 2) by decide +kernel) rfl ?_
  refine k_np C hA hP hD hS (T := TX3) (N := 6) rfl .int rfl 0 rfl (fun _ _ h => h) (ia := 101) (by decide +kernel) (n := 10) (n' := 10) (a0 := (10, .inl (fun _ => 0))) (fun _ => rfl) (by decide) rfl (by decide) (Nat.le_of_ble_eq_true rfl) (Nat.le_of_ble_eq_true rfl) (show decode cX3_init 23 = .ok (.newarray .int, 2) by decide +kernel) 3 (by decide) (index := 18) (il := 154) (by decide +kernel) rfl rfl (fty := .array .int) rfl (fun _ => ⟨rfl, rfl⟩) (Nat.le_of_ble_eq_true rfl) (show decode cX3_init 25 = .ok (.putfield 18, 3) by decide +kernel) (fun q3 H locs hP hD hS => ?_)
  have hP : va_P D vwCl [(h0, .inr (3, [.null, .ref q1, .ref q2, .ref q3, .null, .int 0])), (q1, .inl (cA.1, 16, .inl (fun _ => 0))), (q2, .inl (cA.1, 16, .inl (fun _ => 0))), (q3, .inl (cA.1, 10, .inl (fun _ => 0)))] H := hP
  have hD : va_D A [(h0, .inr (3, [.null, .ref q1, .ref q2, .ref q3, .null, .int 0])), (q1, .inl (cA.1, 16, .inl (fun _ => 0))), (q2, .inl (cA.1, 16, .inl (fun _ => 0))), (q3, .inl (cA.1, 10, .inl (fun _ => 0)))] := hD
  refine lv_aload_n hx hb (show decode cX3_init 28 = .ok (.aload_n 0, 1) by decide +kernel) rfl (lv_at hl 0 rfl) ?_
  refine lv_bipush hx hb (v := 9) (show decode cX3_init 29 = .ok (.bipush 9, 2) by decide +kernel) rfl ?_
  refine k_np C hA hP hD hS (T := TX3) (N := 6) rfl .int rfl 0 rfl (fun _ _ h => h) (ia := 101) (by decide +kernel) (n := 9) (n' := 9) (a0 := (9, .inl (fun _ => 0))) (fun _ => rfl) (by decide) rfl (by decide) (Nat.le_of_ble_eq_true rfl) (Nat.le_of_ble_eq_true rfl) (show decode cX3_init 31 = .ok (.newarray .int, 2) by decide +kernel) 4 (by decide) (index := 21) (il := 155) (by decide +kernel) rfl rfl (fty := .array .int) rfl (fun _ => ⟨rfl, rfl⟩) (Nat.le_of_ble_eq_true rfl) (show decode cX3_init 33 = .ok (.putfield 21, 3) by decide +kernel) (fun q4 H locs hP hD hS => ?_)
  have hP : va_P D vwCl [(h0, .inr (3, [.null, .ref q1, .ref q2, .ref q3, .ref q4, .int 0])), (q1, .inl (cA.1, 16, .inl (fun _ => 0))), (q2, .inl (cA.1, 16, .inl (fun _ => 0))), (q3, .inl (cA.1, 10, .inl (fun _ => 0))), (q4, .inl (cA.1, 9, .inl (fun _ => 0)))] H := hP
  have hD : va_D A [(h0, .inr (3, [.null, .ref q1, .ref q2, .ref q3, .ref q4, .int 0])), (q1, .inl (cA.1, 16, .inl (fun _ => 0))), (q2, .inl (cA.1, 16, .inl (fun _ => 0))), (q3, .inl (cA.1, 10, .inl (fun _ => 0))), (q4, .inl (cA.1, 9, .inl (fun _ => 0)))] := hD
  refine lv_aload_n hx hb (show decode cX3_init 36 = .ok (.aload_n 0, 1) by decide +kernel) rfl (lv_at hl 0 rfl) ?_
  refine lv_iconst hx hb (v := 0) (show decode cX3_init 37 = .ok (.iconst 0, 1) by decide +kernel) rfl ?_
  refine k_pi C hP hD hS (T := TX3) (N := 6) rfl 5 (by decide) (index := 24) (il := 157) (by decide +kernel) rfl rfl (fty := .int) (v := .int 0) rfl rfl rfl (Nat.le_of_ble_eq_true rfl) (show decode cX3_init 38 = .ok (.putfield 24, 3) by decide +kernel) (fun H locs hP hD hS => ?_)
  have hP : va_P D vwCl [(h0, .inr (3, [.null, .ref q1, .ref q2, .ref q3, .ref q4, .int 0])), (q1, .inl (cA.1, 16, .inl (fun _ => 0))), (q2, .inl (cA.1, 16, .inl (fun _ => 0))), (q3, .inl (cA.1, 10, .inl (fun _ => 0))), (q4, .inl (cA.1, 9, .inl (fun _ => 0)))] H := hP
  have hD : va_D A [(h0, .inr (3, [.null, .ref q1, .ref q2, .ref q3, .ref q4, .int 0])), (q1, .inl (cA.1, 16, .inl (fun _ => 0))), (q2, .inl (cA.1, 16, .inl (fun _ => 0))), (q3, .inl (cA.1, 10, .inl (fun _ => 0))), (q4, .inl (cA.1, 9, .inl (fun _ => 0)))] := hD
  refine lv_aload_n hx hb (show decode cX3_init 41 = .ok (.aload_n 0, 1) by decide +kernel) rfl (lv_at hl 0 rfl) ?_
  refine lv_aload_n hx hb (show decode cX3_init 42 = .ok (.aload_n 1, 1) by decide +kernel) rfl (lv_at hl 1 rfl) ?_
  refine k_pf C hP hD hS (T := TX3) (N := 6) rfl 0 (by decide) (index := 28) (il := 151) (by decide +kernel) rfl rfl (fty := .object "CableLooms$Ducts") (v := .ref d0) rfl rfl rfl (Nat.le_of_ble_eq_true rfl) (show decode cX3_init 43 = .ok (.putfield 28, 3) by decide +kernel) (fun H locs hP hD hS => ?_)
  have hP : va_P D vwCl [(h0, .inr (3, [.ref d0, .ref q1, .ref q2, .ref q3, .ref q4, .int 0])), (q1, .inl (cA.1, 16, .inl (fun _ => 0))), (q2, .inl (cA.1, 16, .inl (fun _ => 0))), (q3, .inl (cA.1, 10, .inl (fun _ => 0))), (q4, .inl (cA.1, 9, .inl (fun _ => 0)))] H := hP
  have hD : va_D A [(h0, .inr (3, [.ref d0, .ref q1, .ref q2, .ref q3, .ref q4, .int 0])), (q1, .inl (cA.1, 16, .inl (fun _ => 0))), (q2, .inl (cA.1, 16, .inl (fun _ => 0))), (q3, .inl (cA.1, 10, .inl (fun _ => 0))), (q4, .inl (cA.1, 9, .inl (fun _ => 0)))] := hD
  exact W.vret hx hb hr (fun t ht hW => ⟨⟨fun i => [q1, q2, q3, q4].getD i 0, rfl, trivial, by rw [ht]; exact hP, hD⟩, hS.F ht⟩) hS.2.2 (show decode cX3_init 46 = .ok (.return_, 1) by decide +kernel)
def wX4 (cA : ClassId × ClassId × ClassId) (h0 : Nat) (d0 : Nat) (u : Nat → Nat) : va_W := [(h0, .inr (4, [.ref d0, .ref (u 0), .ref (u 1), .int 1000000])), (u 0, .inl (cA.1, 10, .inl (fun _ => 0))), (u 1, .inl (cA.1, 10, .inl (fun _ => 0)))]
set_option maxHeartbeats 4000000 in
set_option maxRecDepth 100000 in
theorem k_X4 (l : Launch) (D : va_G) (cA : ClassId × ClassId × ClassId) (h0 d0 sz : Nat) : Met l yX4_init (.code yX4_init cX4_init 2 none :: a_ws) { frames := 1, cells := 2, slots := 20, locals := 12 } (va_Pc [.ref h0, .ref d0] (fun U => U.heap.size = sz ∧ va_P D vwCl [(h0, .inr (4, [.null, .null, .null, .int 0]))] U.heap ∧ va_K D vwCl (a_tys cA) U ∧ va_D (fun _ => True) [(h0, .inr (4, [.null, .null, .null, .int 0]))])) (va_Qv (fun _ : Nat → Nat => True) (fun u t => va_P D vwCl (wX4 cA h0 d0 u) t.heap ∧ va_D (va_A [(h0, .inr (4, [.null, .null, .null, .int 0]))] sz) (wX4 cA h0 d0 u)) (va_A [(h0, .inr (4, [.null, .null, .null, .int 0]))] sz)) 2 20 (va_A [(h0, .inr (4, [.null, .null, .null, .int 0]))] sz) := by
  refine Met.ofW (cc := cX4_init) (maxL := 2) (ret := none) (by decide +kernel) rfl ?_
  intro p e s m args below meth c s₁ B hml hv
  obtain ⟨rfl, hsz, hP, hK, hD0⟩ := hv
  have hx := B.exec
  have hb := B.bytes
  have hr := B.returns
  have hts : ∀ w ∈ a_ws, w.before ([.ref h0, .ref d0] : List Value).toArray s = true := fun w hw => atoms_spec (ws := .code yX4_init cX4_init 2 none :: a_ws) B.pre w (List.mem_cons_of_mem _ hw)
  have hown : s.vm.findClass RX4 = some m.cls := findClass_of_methodNamed B.named
  have C : kCx p s m ([.ref h0, .ref d0] : List Value).toArray meth c D cA cX4_init RX4 := ⟨hx, hb, hown, hts, hK, (name_of_methodNamed B.named B.method).1⟩
  subst hsz
  have hD := hD0.self (sz := s.heap.size)
  generalize hAe : va_A [(h0, .inr (4, [.null, .null, .null, .int 0]))] s.heap.size = A at hD ⊢
  have hA : ∀ q : Nat, s.heap.size ≤ q → A q := fun q h => by rw [← hAe]; exact Or.inr h
  have hS : va_S A s.heap s.heap [] := va_S.rf
  have hP : va_P D vwCl [(h0, .inr (4, [.null, .null, .null, .int 0]))] s.heap := hP
  have hl := lv_entry ([.ref h0, .ref d0]) (n := 2) (Nat.le_of_ble_eq_true rfl)
  rw [lg_entry_eq]
  generalize (lg_sl ([.ref h0, .ref d0]) ++ List.replicate (2 - (lg_sl ([.ref h0, .ref d0])).length) Slot.unset).toArray = ls at hl ⊢
  have hl : lv_has ls 2 [(0, .ref h0), (1, .ref d0)] := hl
  refine lv_aload_n hx hb (show decode cX4_init 0 = .ok (.aload_n 0, 1) by decide +kernel) rfl (lv_at hl 0 rfl) ?_
  refine W.objInit hx hb hown (k_w hts (i := 177) (by decide +kernel)) (k_w hts (i := 59) (by decide +kernel)) (k_w hts (i := 60) (by decide +kernel)) rfl (by rw [hml]; exact hl.1) rfl (show decode cX4_init 1 = .ok (.invokespecial 3, 3) by decide +kernel) (Nat.le_of_ble_eq_true rfl) (Nat.le_of_ble_eq_true rfl) ?_
  refine W.eq (g2 := F0 m 4 ls []) rfl ?_
  refine lv_aload_n hx hb (show decode cX4_init 4 = .ok (.aload_n 0, 1) by decide +kernel) rfl (lv_at hl 0 rfl) ?_
  refine lv_bipush hx hb (v := 10) (show decode cX4_init 5 = .ok (.bipush 10, 2) by decide +kernel) rfl ?_
  refine k_np C hA hP hD hS (T := TX4) (N := 4) rfl .int rfl 0 rfl (fun _ _ h => h) (ia := 101) (by decide +kernel) (n := 10) (n' := 10) (a0 := (10, .inl (fun _ => 0))) (fun _ => rfl) (by decide) rfl (by decide) (Nat.le_of_ble_eq_true rfl) (Nat.le_of_ble_eq_true rfl) (show decode cX4_init 7 = .ok (.newarray .int, 2) by decide +kernel) 1 (by decide) (index := 9) (il := 180) (by decide +kernel) rfl rfl (fty := .array .int) rfl (fun _ => ⟨rfl, rfl⟩) (Nat.le_of_ble_eq_true rfl) (show decode cX4_init 9 = .ok (.putfield 9, 3) by decide +kernel) (fun q1 H locs hP hD hS => ?_)
  have hP : va_P D vwCl [(h0, .inr (4, [.null, .ref q1, .null, .int 0])), (q1, .inl (cA.1, 10, .inl (fun _ => 0)))] H := hP
  have hD : va_D A [(h0, .inr (4, [.null, .ref q1, .null, .int 0])), (q1, .inl (cA.1, 10, .inl (fun _ => 0)))] := hD
  refine lv_aload_n hx hb (show decode cX4_init 12 = .ok (.aload_n 0, 1) by decide +kernel) rfl (lv_at hl 0 rfl) ?_
  refine lv_bipush hx hb (v := 10) (show decode cX4_init 13 = .ok (.bipush 10, 2) by decide +kernel) rfl ?_
  refine k_np C hA hP hD hS (T := TX4) (N := 4) rfl .int rfl 0 rfl (fun _ _ h => h) (ia := 101) (by decide +kernel) (n := 10) (n' := 10) (a0 := (10, .inl (fun _ => 0))) (fun _ => rfl) (by decide) rfl (by decide) (Nat.le_of_ble_eq_true rfl) (Nat.le_of_ble_eq_true rfl) (show decode cX4_init 15 = .ok (.newarray .int, 2) by decide +kernel) 2 (by decide) (index := 15) (il := 181) (by decide +kernel) rfl rfl (fty := .array .int) rfl (fun _ => ⟨rfl, rfl⟩) (Nat.le_of_ble_eq_true rfl) (show decode cX4_init 17 = .ok (.putfield 15, 3) by decide +kernel) (fun q2 H locs hP hD hS => ?_)
  have hP : va_P D vwCl [(h0, .inr (4, [.null, .ref q1, .ref q2, .int 0])), (q1, .inl (cA.1, 10, .inl (fun _ => 0))), (q2, .inl (cA.1, 10, .inl (fun _ => 0)))] H := hP
  have hD : va_D A [(h0, .inr (4, [.null, .ref q1, .ref q2, .int 0])), (q1, .inl (cA.1, 10, .inl (fun _ => 0))), (q2, .inl (cA.1, 10, .inl (fun _ => 0)))] := hD
  refine lv_aload_n hx hb (show decode cX4_init 20 = .ok (.aload_n 0, 1) by decide +kernel) rfl (lv_at hl 0 rfl) ?_
  refine lv_ldc hx hb (v := 1000000) hown (k_w hts (i := 178) (by decide +kernel)) (show decode cX4_init 21 = .ok (.ldc 18, 2) by decide +kernel) ?_
  refine k_pi C hP hD hS (T := TX4) (N := 4) rfl 3 (by decide) (index := 19) (il := 182) (by decide +kernel) rfl rfl (fty := .int) (v := .int 1000000) rfl rfl rfl (Nat.le_of_ble_eq_true rfl) (show decode cX4_init 23 = .ok (.putfield 19, 3) by decide +kernel) (fun H locs hP hD hS => ?_)
  have hP : va_P D vwCl [(h0, .inr (4, [.null, .ref q1, .ref q2, .int 1000000])), (q1, .inl (cA.1, 10, .inl (fun _ => 0))), (q2, .inl (cA.1, 10, .inl (fun _ => 0)))] H := hP
  have hD : va_D A [(h0, .inr (4, [.null, .ref q1, .ref q2, .int 1000000])), (q1, .inl (cA.1, 10, .inl (fun _ => 0))), (q2, .inl (cA.1, 10, .inl (fun _ => 0)))] := hD
  refine lv_aload_n hx hb (show decode cX4_init 26 = .ok (.aload_n 0, 1) by decide +kernel) rfl (lv_at hl 0 rfl) ?_
  refine lv_aload_n hx hb (show decode cX4_init 27 = .ok (.aload_n 1, 1) by decide +kernel) rfl (lv_at hl 1 rfl) ?_
  refine k_pf C hP hD hS (T := TX4) (N := 4) rfl 0 (by decide) (index := 23) (il := 179) (by decide +kernel) rfl rfl (fty := .object "CableLooms$Ducts") (v := .ref d0) rfl rfl rfl (Nat.le_of_ble_eq_true rfl) (show decode cX4_init 28 = .ok (.putfield 23, 3) by decide +kernel) (fun H locs hP hD hS => ?_)
  have hP : va_P D vwCl [(h0, .inr (4, [.ref d0, .ref q1, .ref q2, .int 1000000])), (q1, .inl (cA.1, 10, .inl (fun _ => 0))), (q2, .inl (cA.1, 10, .inl (fun _ => 0)))] H := hP
  have hD : va_D A [(h0, .inr (4, [.ref d0, .ref q1, .ref q2, .int 1000000])), (q1, .inl (cA.1, 10, .inl (fun _ => 0))), (q2, .inl (cA.1, 10, .inl (fun _ => 0)))] := hD
  exact W.vret hx hb hr (fun t ht hW => ⟨⟨fun i => [q1, q2].getD i 0, rfl, trivial, by rw [ht]; exact hP, hD⟩, hS.F ht⟩) hS.2.2 (show decode cX4_init 31 = .ok (.return_, 1) by decide +kernel)
def wX1 (cA : ClassId × ClassId × ClassId) (h0 : Nat) (d0 : Nat) (u : Nat → Nat) : va_W := [(h0, .inr (1, [.int 0, .int 1000, .int 1, .ref d0, .ref (u 0), .ref (u 1), .ref (u 2), .ref (u 3), .ref (u 4), .ref (u 5), .ref (u 6)])), (u 0, .inl (cA.1, 8, .inl (fun _ => 0))), (u 1, .inl (cA.1, 8, .inl (fun _ => 0))), (u 2, .inl (cA.1, 256, .inl (fun _ => 0))), (u 3, .inl (cA.1, 256, .inl (fun _ => 0))), (u 4, .inl (cA.1, 256, .inl (fun _ => 0))), (u 5, .inl (cA.1, 256, .inl (fun _ => 0))), (u 6, .inl (cA.2.2, 256, .inr (.inl (fun _ => 0))))]
set_option maxHeartbeats 4000000 in
set_option maxRecDepth 100000 in
theorem k_X1 (l : Launch) (D : va_G) (cA : ClassId × ClassId × ClassId) (h0 d0 sz : Nat) : Met l yX1_init (.code yX1_init cX1_init 2 none :: a_ws) { frames := 1, cells := 7, slots := 1296, locals := 12 } (va_Pc [.ref h0, .ref d0] (fun U => U.heap.size = sz ∧ va_P D vwCl [(h0, .inr (1, [.int 0, .int 0, .int 0, .null, .null, .null, .null, .null, .null, .null, .null]))] U.heap ∧ va_K D vwCl (a_tys cA) U ∧ va_D (fun _ => True) [(h0, .inr (1, [.int 0, .int 0, .int 0, .null, .null, .null, .null, .null, .null, .null, .null]))])) (va_Qv (fun _ : Nat → Nat => True) (fun u t => va_P D vwCl (wX1 cA h0 d0 u) t.heap ∧ va_D (va_A [(h0, .inr (1, [.int 0, .int 0, .int 0, .null, .null, .null, .null, .null, .null, .null, .null]))] sz) (wX1 cA h0 d0 u)) (va_A [(h0, .inr (1, [.int 0, .int 0, .int 0, .null, .null, .null, .null, .null, .null, .null, .null]))] sz)) 7 1296 (va_A [(h0, .inr (1, [.int 0, .int 0, .int 0, .null, .null, .null, .null, .null, .null, .null, .null]))] sz) := by
  refine Met.ofW (cc := cX1_init) (maxL := 2) (ret := none) (by decide +kernel) rfl ?_
  intro p e s m args below meth c s₁ B hml hv
  obtain ⟨rfl, hsz, hP, hK, hD0⟩ := hv
  have hx := B.exec
  have hb := B.bytes
  have hr := B.returns
  have hts : ∀ w ∈ a_ws, w.before ([.ref h0, .ref d0] : List Value).toArray s = true := fun w hw => atoms_spec (ws := .code yX1_init cX1_init 2 none :: a_ws) B.pre w (List.mem_cons_of_mem _ hw)
  have hown : s.vm.findClass RX1 = some m.cls := findClass_of_methodNamed B.named
  have C : kCx p s m ([.ref h0, .ref d0] : List Value).toArray meth c D cA cX1_init RX1 := ⟨hx, hb, hown, hts, hK, (name_of_methodNamed B.named B.method).1⟩
  subst hsz
  have hD := hD0.self (sz := s.heap.size)
  generalize hAe : va_A [(h0, .inr (1, [.int 0, .int 0, .int 0, .null, .null, .null, .null, .null, .null, .null, .null]))] s.heap.size = A at hD ⊢
  have hA : ∀ q : Nat, s.heap.size ≤ q → A q := fun q h => by rw [← hAe]; exact Or.inr h
  have hS : va_S A s.heap s.heap [] := va_S.rf
  have hP : va_P D vwCl [(h0, .inr (1, [.int 0, .int 0, .int 0, .null, .null, .null, .null, .null, .null, .null, .null]))] s.heap := hP
  have hl := lv_entry ([.ref h0, .ref d0]) (n := 2) (Nat.le_of_ble_eq_true rfl)
  rw [lg_entry_eq]
  generalize (lg_sl ([.ref h0, .ref d0]) ++ List.replicate (2 - (lg_sl ([.ref h0, .ref d0])).length) Slot.unset).toArray = ls at hl ⊢
  have hl : lv_has ls 2 [(0, .ref h0), (1, .ref d0)] := hl
  refine lv_aload_n hx hb (show decode cX1_init 0 = .ok (.aload_n 0, 1) by decide +kernel) rfl (lv_at hl 0 rfl) ?_
  refine W.objInit hx hb hown (k_w hts (i := 198) (by decide +kernel)) (k_w hts (i := 59) (by decide +kernel)) (k_w hts (i := 60) (by decide +kernel)) rfl (by rw [hml]; exact hl.1) rfl (show decode cX1_init 1 = .ok (.invokespecial 5, 3) by decide +kernel) (Nat.le_of_ble_eq_true rfl) (Nat.le_of_ble_eq_true rfl) ?_
  refine W.eq (g2 := F0 m 4 ls []) rfl ?_
  refine lv_aload_n hx hb (show decode cX1_init 4 = .ok (.aload_n 0, 1) by decide +kernel) rfl (lv_at hl 0 rfl) ?_
  refine lv_iconst hx hb (v := 0) (show decode cX1_init 5 = .ok (.iconst 0, 1) by decide +kernel) rfl ?_
  refine k_pi C hP hD hS (T := TX1) (N := 11) rfl 0 (by decide) (index := 11) (il := 199) (by decide +kernel) rfl rfl (fty := .int) (v := .int 0) rfl rfl rfl (Nat.le_of_ble_eq_true rfl) (show decode cX1_init 6 = .ok (.putfield 11, 3) by decide +kernel) (fun H locs hP hD hS => ?_)
  have hP : va_P D vwCl [(h0, .inr (1, [.int 0, .int 0, .int 0, .null, .null, .null, .null, .null, .null, .null, .null]))] H := hP
  have hD : va_D A [(h0, .inr (1, [.int 0, .int 0, .int 0, .null, .null, .null, .null, .null, .null, .null, .null]))] := hD
  refine lv_aload_n hx hb (show decode cX1_init 9 = .ok (.aload_n 0, 1) by decide +kernel) rfl (lv_at hl 0 rfl) ?_
  refine lv_sipush hx hb (v := 1000) (show decode cX1_init 10 = .ok (.sipush 1000, 3) by decide +kernel) rfl ?_
  refine k_pi C hP hD hS (T := TX1) (N := 11) rfl 1 (by decide) (index := 15) (il := 201) (by decide +kernel) rfl rfl (fty := .int) (v := .int 1000) rfl rfl rfl (Nat.le_of_ble_eq_true rfl) (show decode cX1_init 13 = .ok (.putfield 15, 3) by decide +kernel) (fun H locs hP hD hS => ?_)
  have hP : va_P D vwCl [(h0, .inr (1, [.int 0, .int 1000, .int 0, .null, .null, .null, .null, .null, .null, .null, .null]))] H := hP
  have hD : va_D A [(h0, .inr (1, [.int 0, .int 1000, .int 0, .null, .null, .null, .null, .null, .null, .null, .null]))] := hD
  refine lv_aload_n hx hb (show decode cX1_init 16 = .ok (.aload_n 0, 1) by decide +kernel) rfl (lv_at hl 0 rfl) ?_
  refine lv_iconst hx hb (v := 1) (show decode cX1_init 17 = .ok (.iconst 1, 1) by decide +kernel) rfl ?_
  refine k_pi C hP hD hS (T := TX1) (N := 11) rfl 2 (by decide) (index := 18) (il := 203) (by decide +kernel) rfl rfl (fty := .boolean) (v := .int 1) rfl rfl rfl (Nat.le_of_ble_eq_true rfl) (show decode cX1_init 18 = .ok (.putfield 18, 3) by decide +kernel) (fun H locs hP hD hS => ?_)
  have hP : va_P D vwCl [(h0, .inr (1, [.int 0, .int 1000, .int 1, .null, .null, .null, .null, .null, .null, .null, .null]))] H := hP
  have hD : va_D A [(h0, .inr (1, [.int 0, .int 1000, .int 1, .null, .null, .null, .null, .null, .null, .null, .null]))] := hD
  refine lv_aload_n hx hb (show decode cX1_init 21 = .ok (.aload_n 0, 1) by decide +kernel) rfl (lv_at hl 0 rfl) ?_
  refine lv_bipush hx hb (v := 8) (show decode cX1_init 22 = .ok (.bipush 8, 2) by decide +kernel) rfl ?_
  refine k_np C hA hP hD hS (T := TX1) (N := 11) rfl .int rfl 0 rfl (fun _ _ h => h) (ia := 101) (by decide +kernel) (n := 8) (n' := 8) (a0 := (8, .inl (fun _ => 0))) (fun _ => rfl) (by decide) rfl (by decide) (Nat.le_of_ble_eq_true rfl) (Nat.le_of_ble_eq_true rfl) (show decode cX1_init 24 = .ok (.newarray .int, 2) by decide +kernel) 4 (by decide) (index := 22) (il := 206) (by decide +kernel) rfl rfl (fty := .array .int) rfl (fun _ => ⟨rfl, rfl⟩) (Nat.le_of_ble_eq_true rfl) (show decode cX1_init 26 = .ok (.putfield 22, 3) by decide +kernel) (fun q1 H locs hP hD hS => ?_)
  have hP : va_P D vwCl [(h0, .inr (1, [.int 0, .int 1000, .int 1, .null, .ref q1, .null, .null, .null, .null, .null, .null])), (q1, .inl (cA.1, 8, .inl (fun _ => 0)))] H := hP
  have hD : va_D A [(h0, .inr (1, [.int 0, .int 1000, .int 1, .null, .ref q1, .null, .null, .null, .null, .null, .null])), (q1, .inl (cA.1, 8, .inl (fun _ => 0)))] := hD
  refine lv_aload_n hx hb (show decode cX1_init 29 = .ok (.aload_n 0, 1) by decide +kernel) rfl (lv_at hl 0 rfl) ?_
  refine lv_bipush hx hb (v := 8) (show decode cX1_init 30 = .ok (.bipush 8, 2) by decide +kernel) rfl ?_
  refine k_np C hA hP hD hS (T := TX1) (N := 11) rfl .int rfl 0 rfl (fun _ _ h => h) (ia := 101) (by decide +kernel) (n := 8) (n' := 8) (a0 := (8, .inl (fun _ => 0))) (fun _ => rfl) (by decide) rfl (by decide) (Nat.le_of_ble_eq_true rfl) (Nat.le_of_ble_eq_true rfl) (show decode cX1_init 32 = .ok (.newarray .int, 2) by decide +kernel) 5 (by decide) (index := 26) (il := 207) (by decide +kernel) rfl rfl (fty := .array .int) rfl (fun _ => ⟨rfl, rfl⟩) (Nat.le_of_ble_eq_true rfl) (show decode cX1_init 34 = .ok (.putfield 26, 3) by decide +kernel) (fun q2 H locs hP hD hS => ?_)
  have hP : va_P D vwCl [(h0, .inr (1, [.int 0, .int 1000, .int 1, .null, .ref q1, .ref q2, .null, .null, .null, .null, .null])), (q1, .inl (cA.1, 8, .inl (fun _ => 0))), (q2, .inl (cA.1, 8, .inl (fun _ => 0)))] H := hP
  have hD : va_D A [(h0, .inr (1, [.int 0, .int 1000, .int 1, .null, .ref q1, .ref q2, .null, .null, .null, .null, .null])), (q1, .inl (cA.1, 8, .inl (fun _ => 0))), (q2, .inl (cA.1, 8, .inl (fun _ => 0)))] := hD
  refine lv_aload_n hx hb (show decode cX1_init 37 = .ok (.aload_n 0, 1) by decide +kernel) rfl (lv_at hl 0 rfl) ?_
  refine lv_sipush hx hb (v := 256) (show decode cX1_init 38 = .ok (.sipush 256, 3) by decide +kernel) rfl ?_
  refine k_np C hA hP hD hS (T := TX1) (N := 11) rfl .int rfl 0 rfl (fun _ _ h => h) (ia := 101) (by decide +kernel) (n := 256) (n' := 256) (a0 := (256, .inl (fun _ => 0))) (fun _ => rfl) (by decide) rfl (by decide) (Nat.le_of_ble_eq_true rfl) (Nat.le_of_ble_eq_true rfl) (show decode cX1_init 41 = .ok (.newarray .int, 2) by decide +kernel) 6 (by decide) (index := 29) (il := 208) (by decide +kernel) rfl rfl (fty := .array .int) rfl (fun _ => ⟨rfl, rfl⟩) (Nat.le_of_ble_eq_true rfl) (show decode cX1_init 43 = .ok (.putfield 29, 3) by decide +kernel) (fun q3 H locs hP hD hS => ?_)
  have hP : va_P D vwCl [(h0, .inr (1, [.int 0, .int 1000, .int 1, .null, .ref q1, .ref q2, .ref q3, .null, .null, .null, .null])), (q1, .inl (cA.1, 8, .inl (fun _ => 0))), (q2, .inl (cA.1, 8, .inl (fun _ => 0))), (q3, .inl (cA.1, 256, .inl (fun _ => 0)))] H := hP
  have hD : va_D A [(h0, .inr (1, [.int 0, .int 1000, .int 1, .null, .ref q1, .ref q2, .ref q3, .null, .null, .null, .null])), (q1, .inl (cA.1, 8, .inl (fun _ => 0))), (q2, .inl (cA.1, 8, .inl (fun _ => 0))), (q3, .inl (cA.1, 256, .inl (fun _ => 0)))] := hD
  refine lv_aload_n hx hb (show decode cX1_init 46 = .ok (.aload_n 0, 1) by decide +kernel) rfl (lv_at hl 0 rfl) ?_
  refine lv_sipush hx hb (v := 256) (show decode cX1_init 47 = .ok (.sipush 256, 3) by decide +kernel) rfl ?_
  refine k_np C hA hP hD hS (T := TX1) (N := 11) rfl .int rfl 0 rfl (fun _ _ h => h) (ia := 101) (by decide +kernel) (n := 256) (n' := 256) (a0 := (256, .inl (fun _ => 0))) (fun _ => rfl) (by decide) rfl (by decide) (Nat.le_of_ble_eq_true rfl) (Nat.le_of_ble_eq_true rfl) (show decode cX1_init 50 = .ok (.newarray .int, 2) by decide +kernel) 7 (by decide) (index := 32) (il := 209) (by decide +kernel) rfl rfl (fty := .array .int) rfl (fun _ => ⟨rfl, rfl⟩) (Nat.le_of_ble_eq_true rfl) (show decode cX1_init 52 = .ok (.putfield 32, 3) by decide +kernel) (fun q4 H locs hP hD hS => ?_)
  have hP : va_P D vwCl [(h0, .inr (1, [.int 0, .int 1000, .int 1, .null, .ref q1, .ref q2, .ref q3, .ref q4, .null, .null, .null])), (q1, .inl (cA.1, 8, .inl (fun _ => 0))), (q2, .inl (cA.1, 8, .inl (fun _ => 0))), (q3, .inl (cA.1, 256, .inl (fun _ => 0))), (q4, .inl (cA.1, 256, .inl (fun _ => 0)))] H := hP
  have hD : va_D A [(h0, .inr (1, [.int 0, .int 1000, .int 1, .null, .ref q1, .ref q2, .ref q3, .ref q4, .null, .null, .null])), (q1, .inl (cA.1, 8, .inl (fun _ => 0))), (q2, .inl (cA.1, 8, .inl (fun _ => 0))), (q3, .inl (cA.1, 256, .inl (fun _ => 0))), (q4, .inl (cA.1, 256, .inl (fun _ => 0)))] := hD
  refine lv_aload_n hx hb (show decode cX1_init 55 = .ok (.aload_n 0, 1) by decide +kernel) rfl (lv_at hl 0 rfl) ?_
  refine lv_sipush hx hb (v := 256) (show decode cX1_init 56 = .ok (.sipush 256, 3) by decide +kernel) rfl ?_
  refine k_np C hA hP hD hS (T := TX1) (N := 11) rfl .int rfl 0 rfl (fun _ _ h => h) (ia := 101) (by decide +kernel) (n := 256) (n' := 256) (a0 := (256, .inl (fun _ => 0))) (fun _ => rfl) (by decide) rfl (by decide) (Nat.le_of_ble_eq_true rfl) (Nat.le_of_ble_eq_true rfl) (show decode cX1_init 59 = .ok (.newarray .int, 2) by decide +kernel) 8 (by decide) (index := 35) (il := 210) (by decide +kernel) rfl rfl (fty := .array .int) rfl (fun _ => ⟨rfl, rfl⟩) (Nat.le_of_ble_eq_true rfl) (show decode cX1_init 61 = .ok (.putfield 35, 3) by decide +kernel) (fun q5 H locs hP hD hS => ?_)
  have hP : va_P D vwCl [(h0, .inr (1, [.int 0, .int 1000, .int 1, .null, .ref q1, .ref q2, .ref q3, .ref q4, .ref q5, .null, .null])), (q1, .inl (cA.1, 8, .inl (fun _ => 0))), (q2, .inl (cA.1, 8, .inl (fun _ => 0))), (q3, .inl (cA.1, 256, .inl (fun _ => 0))), (q4, .inl (cA.1, 256, .inl (fun _ => 0))), (q5, .inl (cA.1, 256, .inl (fun _ => 0)))] H := hP
  have hD : va_D A [(h0, .inr (1, [.int 0, .int 1000, .int 1, .null, .ref q1, .ref q2, .ref q3, .ref q4, .ref q5, .null, .null])), (q1, .inl (cA.1, 8, .inl (fun _ => 0))), (q2, .inl (cA.1, 8, .inl (fun _ => 0))), (q3, .inl (cA.1, 256, .inl (fun _ => 0))), (q4, .inl (cA.1, 256, .inl (fun _ => 0))), (q5, .inl (cA.1, 256, .inl (fun _ => 0)))] := hD
  refine lv_aload_n hx hb (show decode cX1_init 64 = .ok (.aload_n 0, 1) by decide +kernel) rfl (lv_at hl 0 rfl) ?_
  refine lv_sipush hx hb (v := 256) (show decode cX1_init 65 = .ok (.sipush 256, 3) by decide +kernel) rfl ?_
  refine k_np C hA hP hD hS (T := TX1) (N := 11) rfl .int rfl 0 rfl (fun _ _ h => h) (ia := 101) (by decide +kernel) (n := 256) (n' := 256) (a0 := (256, .inl (fun _ => 0))) (fun _ => rfl) (by decide) rfl (by decide) (Nat.le_of_ble_eq_true rfl) (Nat.le_of_ble_eq_true rfl) (show decode cX1_init 68 = .ok (.newarray .int, 2) by decide +kernel) 9 (by decide) (index := 38) (il := 211) (by decide +kernel) rfl rfl (fty := .array .int) rfl (fun _ => ⟨rfl, rfl⟩) (Nat.le_of_ble_eq_true rfl) (show decode cX1_init 70 = .ok (.putfield 38, 3) by decide +kernel) (fun q6 H locs hP hD hS => ?_)
  have hP : va_P D vwCl [(h0, .inr (1, [.int 0, .int 1000, .int 1, .null, .ref q1, .ref q2, .ref q3, .ref q4, .ref q5, .ref q6, .null])), (q1, .inl (cA.1, 8, .inl (fun _ => 0))), (q2, .inl (cA.1, 8, .inl (fun _ => 0))), (q3, .inl (cA.1, 256, .inl (fun _ => 0))), (q4, .inl (cA.1, 256, .inl (fun _ => 0))), (q5, .inl (cA.1, 256, .inl (fun _ => 0))), (q6, .inl (cA.1, 256, .inl (fun _ => 0)))] H := hP
  have hD : va_D A [(h0, .inr (1, [.int 0, .int 1000, .int 1, .null, .ref q1, .ref q2, .ref q3, .ref q4, .ref q5, .ref q6, .null])), (q1, .inl (cA.1, 8, .inl (fun _ => 0))), (q2, .inl (cA.1, 8, .inl (fun _ => 0))), (q3, .inl (cA.1, 256, .inl (fun _ => 0))), (q4, .inl (cA.1, 256, .inl (fun _ => 0))), (q5, .inl (cA.1, 256, .inl (fun _ => 0))), (q6, .inl (cA.1, 256, .inl (fun _ => 0)))] := hD
  refine lv_aload_n hx hb (show decode cX1_init 73 = .ok (.aload_n 0, 1) by decide +kernel) rfl (lv_at hl 0 rfl) ?_
  refine lv_sipush hx hb (v := 256) (show decode cX1_init 74 = .ok (.sipush 256, 3) by decide +kernel) rfl ?_
  refine k_np C hA hP hD hS (T := TX1) (N := 11) rfl .long rfl 2 rfl (fun _ _ h => h) (ia := 236) (by decide +kernel) (n := 256) (n' := 256) (a0 := (256, .inr (.inl (fun _ => 0)))) (fun _ => rfl) (by decide) rfl (by decide) (Nat.le_of_ble_eq_true rfl) (Nat.le_of_ble_eq_true rfl) (show decode cX1_init 77 = .ok (.newarray .long, 2) by decide +kernel) 10 (by decide) (index := 41) (il := 212) (by decide +kernel) rfl rfl (fty := .array .long) rfl (fun _ => ⟨rfl, rfl⟩) (Nat.le_of_ble_eq_true rfl) (show decode cX1_init 79 = .ok (.putfield 41, 3) by decide +kernel) (fun q7 H locs hP hD hS => ?_)
  have hP : va_P D vwCl [(h0, .inr (1, [.int 0, .int 1000, .int 1, .null, .ref q1, .ref q2, .ref q3, .ref q4, .ref q5, .ref q6, .ref q7])), (q1, .inl (cA.1, 8, .inl (fun _ => 0))), (q2, .inl (cA.1, 8, .inl (fun _ => 0))), (q3, .inl (cA.1, 256, .inl (fun _ => 0))), (q4, .inl (cA.1, 256, .inl (fun _ => 0))), (q5, .inl (cA.1, 256, .inl (fun _ => 0))), (q6, .inl (cA.1, 256, .inl (fun _ => 0))), (q7, .inl (cA.2.2, 256, .inr (.inl (fun _ => 0))))] H := hP
  have hD : va_D A [(h0, .inr (1, [.int 0, .int 1000, .int 1, .null, .ref q1, .ref q2, .ref q3, .ref q4, .ref q5, .ref q6, .ref q7])), (q1, .inl (cA.1, 8, .inl (fun _ => 0))), (q2, .inl (cA.1, 8, .inl (fun _ => 0))), (q3, .inl (cA.1, 256, .inl (fun _ => 0))), (q4, .inl (cA.1, 256, .inl (fun _ => 0))), (q5, .inl (cA.1, 256, .inl (fun _ => 0))), (q6, .inl (cA.1, 256, .inl (fun _ => 0))), (q7, .inl (cA.2.2, 256, .inr (.inl (fun _ => 0))))] := hD
  refine lv_aload_n hx hb (show decode cX1_init 82 = .ok (.aload_n 0, 1) by decide +kernel) rfl (lv_at hl 0 rfl) ?_
  refine lv_aload_n hx hb (show decode cX1_init 83 = .ok (.aload_n 1, 1) by decide +kernel) rfl (lv_at hl 1 rfl) ?_
  refine k_pf C hP hD hS (T := TX1) (N := 11) rfl 3 (by decide) (index := 45) (il := 205) (by decide +kernel) rfl rfl (fty := .object "CableLooms$Wires") (v := .ref d0) rfl rfl rfl (Nat.le_of_ble_eq_true rfl) (show decode cX1_init 84 = .ok (.putfield 45, 3) by decide +kernel) (fun H locs hP hD hS => ?_)
  have hP : va_P D vwCl [(h0, .inr (1, [.int 0, .int 1000, .int 1, .ref d0, .ref q1, .ref q2, .ref q3, .ref q4, .ref q5, .ref q6, .ref q7])), (q1, .inl (cA.1, 8, .inl (fun _ => 0))), (q2, .inl (cA.1, 8, .inl (fun _ => 0))), (q3, .inl (cA.1, 256, .inl (fun _ => 0))), (q4, .inl (cA.1, 256, .inl (fun _ => 0))), (q5, .inl (cA.1, 256, .inl (fun _ => 0))), (q6, .inl (cA.1, 256, .inl (fun _ => 0))), (q7, .inl (cA.2.2, 256, .inr (.inl (fun _ => 0))))] H := hP
  have hD : va_D A [(h0, .inr (1, [.int 0, .int 1000, .int 1, .ref d0, .ref q1, .ref q2, .ref q3, .ref q4, .ref q5, .ref q6, .ref q7])), (q1, .inl (cA.1, 8, .inl (fun _ => 0))), (q2, .inl (cA.1, 8, .inl (fun _ => 0))), (q3, .inl (cA.1, 256, .inl (fun _ => 0))), (q4, .inl (cA.1, 256, .inl (fun _ => 0))), (q5, .inl (cA.1, 256, .inl (fun _ => 0))), (q6, .inl (cA.1, 256, .inl (fun _ => 0))), (q7, .inl (cA.2.2, 256, .inr (.inl (fun _ => 0))))] := hD
  exact W.vret hx hb hr (fun t ht hW => ⟨⟨fun i => [q1, q2, q3, q4, q5, q6, q7].getD i 0, rfl, trivial, by rw [ht]; exact hP, hD⟩, hS.F ht⟩) hS.2.2 (show decode cX1_init 87 = .ok (.return_, 1) by decide +kernel)
