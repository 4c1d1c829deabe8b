/-! ===== the class's own constructor ===== -/
def wX6 (cA : ClassId × ClassId × ClassId) (h0 : Nat) (u : Nat → Nat → Nat) : va_W := (h0, .inr (6, [.ref (u 0 0), .ref (u 1 0), .ref (u 2 0), .ref (u 3 0), .ref (u 4 0), .ref (u 5 0)])) :: (wX0 cA (u 0 0) (fun i => u 0 (i + 1)) ++ (wX5 cA (u 1 0) (fun i => u 1 (i + 1)) ++ (wX3 cA (u 2 0) (u 0 0) (fun i => u 2 (i + 1)) ++ (wX4 cA (u 3 0) (u 0 0) (fun i => u 3 (i + 1)) ++ (wX1 cA (u 4 0) (u 1 0) (fun i => u 4 (i + 1)) ++ (wX2 cA (u 5 0) (fun i => u 5 (i + 1))))))))
set_option maxHeartbeats 8000000 in
set_option maxRecDepth 100000 in
theorem k_X6 (l : Launch) (D : va_G) (cA : ClassId × ClassId × ClassId) (h0 sz : Nat) : Met l yX6_init (.code yX6_init cX6_init 1 none :: a_ws) { frames := 2, cells := 35, slots := 1842, locals := 33 } (va_Pc [.ref h0] (fun U => U.heap.size = sz ∧ va_P D vwCl [(h0, .inr (6, [.null, .null, .null, .null, .null, .null]))] U.heap ∧ va_K D vwCl (a_tys cA) U ∧ a_N U ∧ va_D (fun _ => True) [(h0, .inr (6, [.null, .null, .null, .null, .null, .null]))])) (va_Qv (fun _ : Nat → Nat → Nat => True) (fun u t => va_P D vwCl (wX6 cA h0 u) t.heap ∧ va_D (va_A [(h0, .inr (6, [.null, .null, .null, .null, .null, .null]))] sz) (wX6 cA h0 u)) (va_A [(h0, .inr (6, [.null, .null, .null, .null, .null, .null]))] sz)) 35 1842 (va_A [(h0, .inr (6, [.null, .null, .null, .null, .null, .null]))] sz) := by
  refine Met.ofW (cc := cX6_init) (maxL := 1) (ret := none) (by decide +kernel) rfl ?_
  intro p e s m args below meth c s₁ B hml hv
  obtain ⟨rfl, hsz, hP, hK, hN, hD0⟩ := hv
  have hx := B.exec
  have hb := B.bytes
  have hr := B.returns
  have hts : ∀ w ∈ a_ws, w.before ([.ref h0] : List Value).toArray s = true := fun w hw => atoms_spec (ws := .code yX6_init cX6_init 1 none :: a_ws) B.pre w (List.mem_cons_of_mem _ hw)
  have hown : s.vm.findClass RX6 = some m.cls := findClass_of_methodNamed B.named
  have C : kCx p s m ([.ref h0] : List Value).toArray meth c D cA cX6_init RX6 := ⟨hx, hb, hown, hts, hK, (name_of_methodNamed B.named B.method).1⟩
  subst hsz
  have hD := hD0.self (sz := s.heap.size)
  generalize hAe : va_A [(h0, .inr (6, [.null, .null, .null, .null, .null, .null]))] s.heap.size = A at hD ⊢
  have hA : ∀ q : Nat, s.heap.size ≤ q → A q := fun q h => by rw [← hAe]; exact Or.inr h
  have hS : va_S A s.heap s.heap [] := va_S.rf
  have hP : va_P D vwCl [(h0, .inr (6, [.null, .null, .null, .null, .null, .null]))] s.heap := hP
  have hl := lv_entry ([.ref h0]) (n := 1) (Nat.le_of_ble_eq_true rfl)
  rw [lg_entry_eq]
  generalize (lg_sl ([.ref h0]) ++ List.replicate (1 - (lg_sl ([.ref h0])).length) Slot.unset).toArray = ls at hl ⊢
  have hl : lv_has ls 1 [(0, .ref h0)] := hl
  refine lv_aload_n hx hb (show decode cX6_init 0 = .ok (.aload_n 0, 1) by decide +kernel) rfl (lv_at hl 0 rfl) ?_
  refine W.objInit hx hb hown (k_w hts (i := 58) (by decide +kernel)) (k_w hts (i := 59) (by decide +kernel)) (k_w hts (i := 60) (by decide +kernel)) rfl (by rw [hml]; exact hl.1) rfl (show decode cX6_init 1 = .ok (.invokespecial 3, 3) by decide +kernel) (Nat.le_of_ble_eq_true rfl) (Nat.le_of_ble_eq_true rfl) ?_
  refine W.eq (g2 := F0 m 4 ls []) rfl ?_
  refine lv_aload_n hx hb (show decode cX6_init 4 = .ok (.aload_n 0, 1) by decide +kernel) rfl (lv_at hl 0 rfl) ?_
  refine va_new (ci := 0) (fs := [.int 0, .null, .null, .null, .null, .null, .null]) (C := RX0) (T := TX0) (N := 7) hx hb hts (a_cls (ci := 0) rfl).1 tyX0 tyX0_ok hown (k_w hts (i := 61) (by decide +kernel)) (k_w hts (i := 62) (by decide +kernel)) (k_w hts (i := 43) (by decide +kernel)) hK hP hD hS hA rfl (fun j hj => by rcases (show j = 0 ∨ j = 1 ∨ j = 2 ∨ j = 3 ∨ j = 4 ∨ j = 5 ∨ j = 6 by omega) with rfl | rfl | rfl | rfl | rfl | rfl | rfl <;> rfl) (Nat.le_of_ble_eq_true rfl) (Nat.le_of_ble_eq_true rfl) (show decode cX6_init 5 = .ok (.new 9, 3) by decide +kernel) (fun o0 H hP hD hS => ?_)
  have hP : va_P D vwCl ((((h0, .inr (6, [.null, .null, .null, .null, .null, .null])) :: ([])) ++ [(o0, .inr (0, [.int 0, .null, .null, .null, .null, .null, .null]))])) H := hP
  have hD : va_D A ((((h0, .inr (6, [.null, .null, .null, .null, .null, .null])) :: ([])) ++ [(o0, .inr (0, [.int 0, .null, .null, .null, .null, .null, .null]))])) := hD
  refine W.widen (k := 1) (n := 7) (by omega) (by omega) ?_
  refine lv_dup hx hb (show decode cX6_init 8 = .ok (.dup, 1) by decide +kernel) rfl ?_
  have hPc := hP.sub (ws' := [(o0, .inr (0, [.int 0, .null, .null, .null, .null, .null, .null]))]) [1] rfl
  have hDc := hD.sub (ws' := [(o0, .inr (0, [.int 0, .null, .null, .null, .null, .null, .null]))]) [1] (by decide) rfl
  have hFc := va_free (wc := [(o0, .inr (0, [.int 0, .null, .null, .null, .null, .null, .null]))]) hD hS hA [1] rfl
  refine va_callv (va_runIN (As := []) (rest := [.ref o0, .ref h0]) ⟨hx, hb, hml, hown, hts⟩ (k_X0 l D cA o0 H.size) ⟨va_cnB 0 hts (a_good _ _ ⟨List.mem_filter.mpr ⟨a_w_in (i := 65) (by decide +kernel), by decide +kernel⟩, by decide +kernel⟩ (fun w hw => hw)) rfl rfl rfl (hN (RX6, 11, yX0_init, RX6) (by decide +kernel)) (k_w hts (i := 43) (by decide +kernel)) (by decide +kernel) ⟨Nat.le_of_ble_eq_true rfl, Nat.le_of_ble_eq_true rfl⟩, rfl, k_w hts (i := 64) (by decide +kernel)⟩ ⟨fun a U g mk q => by obtain ⟨q0, q1, qP, qK, qD⟩ := q; exact ⟨q0, q1, qP, va_K.moved (u := U) (U := U.calling g mk a) (Vm.Alike.refl U.vm) qK, qD⟩, fun U hU hW => ⟨rfl, by rw [hU], by rw [hU]; exact hPc, va_K.moved hW.alike hK, hDc.weaken (fun _ _ _ _ => trivial)⟩⟩ rfl rfl hl.1 rfl (lv_room (Nat.le_of_ble_eq_true rfl)) (show decode cX6_init 9 = .ok (.invokespecial 11, 3) by decide +kernel) ⟨Nat.le_of_ble_eq_true rfl, Nat.le_of_ble_eq_true rfl⟩) hS (fun q _ h => hFc q h) hFc (fun u0 t H1 locs ht hvm _ hB hz1 hk1 hS => ?_)
  obtain ⟨hP1, hD1⟩ := hB
  rw [ht] at hP1
  obtain ⟨hP, hD⟩ := va_join (wr := ((h0, .inr (6, [.null, .null, .null, .null, .null, .null])) :: ([]))) (w1 := wX0 cA o0 u0) hP hD [1] [0] rfl rfl (by decide) (by decide) hk1 hFc hP1 hD1
  generalize H1 = H at hP hS ⊢
  have hP : va_P D vwCl ((h0, .inr (6, [.null, .null, .null, .null, .null, .null])) :: (wX0 cA o0 u0)) H := hP
  have hD : va_D A ((h0, .inr (6, [.null, .null, .null, .null, .null, .null])) :: (wX0 cA o0 u0)) := hD
  refine W.widen (k := 7) (n := 103) (by omega) (by omega) ?_
  refine k_pf C hP hD hS (T := TX6) (N := 6) rfl 0 (by decide) (index := 12) (il := 248) (by decide +kernel) rfl rfl (fty := .object "CableLooms$Ducts") (v := .ref o0) rfl rfl rfl (Nat.le_of_ble_eq_true rfl) (show decode cX6_init 12 = .ok (.putfield 12, 3) by decide +kernel) (fun H locs hP hD hS => ?_)
  have hP : va_P D vwCl ((h0, .inr (6, [.ref o0, .null, .null, .null, .null, .null])) :: (wX0 cA o0 u0)) H := hP
  have hD : va_D A ((h0, .inr (6, [.ref o0, .null, .null, .null, .null, .null])) :: (wX0 cA o0 u0)) := hD
  refine lv_aload_n hx hb (show decode cX6_init 15 = .ok (.aload_n 0, 1) by decide +kernel) rfl (lv_at hl 0 rfl) ?_
  refine va_new (ci := 5) (fs := [.int 0, .null, .null, .null, .null, .null, .null, .null, .null, .null]) (C := RX5) (T := TX5) (N := 10) hx hb hts (a_cls (ci := 5) rfl).1 tyX5 tyX5_ok hown (k_w hts (i := 102) (by decide +kernel)) (k_w hts (i := 103) (by decide +kernel)) (k_w hts (i := 44) (by decide +kernel)) hK hP hD hS hA rfl (fun j hj => by rcases (show j = 0 ∨ j = 1 ∨ j = 2 ∨ j = 3 ∨ j = 4 ∨ j = 5 ∨ j = 6 ∨ j = 7 ∨ j = 8 ∨ j = 9 by omega) with rfl | rfl | rfl | rfl | rfl | rfl | rfl | rfl | rfl | rfl <;> rfl) (Nat.le_of_ble_eq_true rfl) (Nat.le_of_ble_eq_true rfl) (show decode cX6_init 16 = .ok (.new 16, 3) by decide +kernel) (fun o1 H hP hD hS => ?_)
  have hP : va_P D vwCl ((((h0, .inr (6, [.ref o0, .null, .null, .null, .null, .null])) :: (wX0 cA o0 u0)) ++ [(o1, .inr (5, [.int 0, .null, .null, .null, .null, .null, .null, .null, .null, .null]))])) H := hP
  have hD : va_D A ((((h0, .inr (6, [.ref o0, .null, .null, .null, .null, .null])) :: (wX0 cA o0 u0)) ++ [(o1, .inr (5, [.int 0, .null, .null, .null, .null, .null, .null, .null, .null, .null]))])) := hD
  refine W.widen (k := 8) (n := 113) (by omega) (by omega) ?_
  refine lv_dup hx hb (show decode cX6_init 19 = .ok (.dup, 1) by decide +kernel) rfl ?_
  have hPc := hP.sub (ws' := [(o1, .inr (5, [.int 0, .null, .null, .null, .null, .null, .null, .null, .null, .null]))]) [8] rfl
  have hDc := hD.sub (ws' := [(o1, .inr (5, [.int 0, .null, .null, .null, .null, .null, .null, .null, .null, .null]))]) [8] (by decide) rfl
  have hFc := va_free (wc := [(o1, .inr (5, [.int 0, .null, .null, .null, .null, .null, .null, .null, .null, .null]))]) hD hS hA [8] rfl
  refine va_callv (va_runIN (As := []) (rest := [.ref o1, .ref h0]) ⟨hx, hb, hml, hown, hts⟩ (k_X5 l D cA o1 H.size) ⟨va_cnB 0 hts (a_good _ _ ⟨List.mem_filter.mpr ⟨a_w_in (i := 106) (by decide +kernel), by decide +kernel⟩, by decide +kernel⟩ (fun w hw => hw)) rfl rfl rfl (hN (RX6, 18, yX5_init, RX6) (by decide +kernel)) (k_w hts (i := 44) (by decide +kernel)) (by decide +kernel) ⟨Nat.le_of_ble_eq_true rfl, Nat.le_of_ble_eq_true rfl⟩, rfl, k_w hts (i := 105) (by decide +kernel)⟩ ⟨fun a U g mk q => by obtain ⟨q0, q1, qP, qK, qD⟩ := q; exact ⟨q0, q1, qP, va_K.moved (u := U) (U := U.calling g mk a) (Vm.Alike.refl U.vm) qK, qD⟩, fun U hU hW => ⟨rfl, by rw [hU], by rw [hU]; exact hPc, va_K.moved hW.alike hK, hDc.weaken (fun _ _ _ _ => trivial)⟩⟩ rfl rfl hl.1 rfl (lv_room (Nat.le_of_ble_eq_true rfl)) (show decode cX6_init 20 = .ok (.invokespecial 18, 3) by decide +kernel) ⟨Nat.le_of_ble_eq_true rfl, Nat.le_of_ble_eq_true rfl⟩) hS (fun q _ h => hFc q h) hFc (fun u1 t H1 locs ht hvm _ hB hz1 hk1 hS => ?_)
  obtain ⟨hP1, hD1⟩ := hB
  rw [ht] at hP1
  obtain ⟨hP, hD⟩ := va_join (wr := ((h0, .inr (6, [.ref o0, .null, .null, .null, .null, .null])) :: (wX0 cA o0 u0))) (w1 := wX5 cA o1 u1) hP hD [8] [0, 1, 2, 3, 4, 5, 6, 7] rfl rfl (by decide) (by decide) hk1 hFc hP1 hD1
  generalize H1 = H at hP hS ⊢
  have hP : va_P D vwCl ((h0, .inr (6, [.ref o0, .null, .null, .null, .null, .null])) :: (wX0 cA o0 u0 ++ (wX5 cA o1 u1))) H := hP
  have hD : va_D A ((h0, .inr (6, [.ref o0, .null, .null, .null, .null, .null])) :: (wX0 cA o0 u0 ++ (wX5 cA o1 u1))) := hD
  refine W.widen (k := 17) (n := 437) (by omega) (by omega) ?_
  refine k_pf C hP hD hS (T := TX6) (N := 6) rfl 1 (by decide) (index := 19) (il := 249) (by decide +kernel) rfl rfl (fty := .object "CableLooms$Wires") (v := .ref o1) rfl rfl rfl (Nat.le_of_ble_eq_true rfl) (show decode cX6_init 23 = .ok (.putfield 19, 3) by decide +kernel) (fun H locs hP hD hS => ?_)
  have hP : va_P D vwCl ((h0, .inr (6, [.ref o0, .ref o1, .null, .null, .null, .null])) :: (wX0 cA o0 u0 ++ (wX5 cA o1 u1))) H := hP
  have hD : va_D A ((h0, .inr (6, [.ref o0, .ref o1, .null, .null, .null, .null])) :: (wX0 cA o0 u0 ++ (wX5 cA o1 u1))) := hD
  refine lv_aload_n hx hb (show decode cX6_init 26 = .ok (.aload_n 0, 1) by decide +kernel) rfl (lv_at hl 0 rfl) ?_
  refine va_new (ci := 3) (fs := [.null, .null, .null, .null, .null, .int 0]) (C := RX3) (T := TX3) (N := 6) hx hb hts (a_cls (ci := 3) rfl).1 tyX3 tyX3_ok hown (k_w hts (i := 145) (by decide +kernel)) (k_w hts (i := 146) (by decide +kernel)) (k_w hts (i := 45) (by decide +kernel)) hK hP hD hS hA rfl (fun j hj => by rcases (show j = 0 ∨ j = 1 ∨ j = 2 ∨ j = 3 ∨ j = 4 ∨ j = 5 by omega) with rfl | rfl | rfl | rfl | rfl | rfl <;> rfl) (Nat.le_of_ble_eq_true rfl) (Nat.le_of_ble_eq_true rfl) (show decode cX6_init 27 = .ok (.new 23, 3) by decide +kernel) (fun o2 H hP hD hS => ?_)
  have hP : va_P D vwCl ((((h0, .inr (6, [.ref o0, .ref o1, .null, .null, .null, .null])) :: (wX0 cA o0 u0 ++ (wX5 cA o1 u1))) ++ [(o2, .inr (3, [.null, .null, .null, .null, .null, .int 0]))])) H := hP
  have hD : va_D A ((((h0, .inr (6, [.ref o0, .ref o1, .null, .null, .null, .null])) :: (wX0 cA o0 u0 ++ (wX5 cA o1 u1))) ++ [(o2, .inr (3, [.null, .null, .null, .null, .null, .int 0]))])) := hD
  refine W.widen (k := 18) (n := 443) (by omega) (by omega) ?_
  refine lv_dup hx hb (show decode cX6_init 30 = .ok (.dup, 1) by decide +kernel) rfl ?_
  refine lv_aload_n hx hb (show decode cX6_init 31 = .ok (.aload_n 0, 1) by decide +kernel) rfl (lv_at hl 0 rfl) ?_
  refine va_get (v := .ref o0) (C := RX6) (T := TX6) (N := 6) hx hb hts (a_cls (ci := 6) rfl).1 hown hK hP 0 rfl rfl 0 (by decide) (k_w hts (i := 248) (w := .fieldLink RX6 12 RX6 (TX6 0).2.1 (TX6 0).2.2.1) (by decide +kernel)) (fun _ h => h) rfl (show decode cX6_init 32 = .ok (.getfield 12, 3) by decide +kernel) ?_
  have hPc := hP.sub (ws' := [(o2, .inr (3, [.null, .null, .null, .null, .null, .int 0]))]) [18] rfl
  have hDc := hD.sub (ws' := [(o2, .inr (3, [.null, .null, .null, .null, .null, .int 0]))]) [18] (by decide) rfl
  have hFc := va_free (wc := [(o2, .inr (3, [.null, .null, .null, .null, .null, .int 0]))]) hD hS hA [18] rfl
  refine va_callv (va_runI (As := [.ref o0]) (rest := [.ref o2, .ref h0]) ⟨hx, hb, hml, hown, hts⟩ (k_X3 l D cA o2 o0 H.size) (cwI 1 hts (a_good _ _ ⟨List.mem_filter.mpr ⟨a_w_in (i := 149) (by decide +kernel), by decide +kernel⟩, by decide +kernel⟩ (fun w hw => hw)) rfl rfl rfl (k_w hts (i := 45) (by decide +kernel)) (k_w hts (i := 147) (by decide +kernel)) (k_w hts (i := 148) (by decide +kernel)) rfl (by decide +kernel) ⟨Nat.le_of_ble_eq_true rfl, Nat.le_of_ble_eq_true rfl⟩) ⟨fun a U g mk q => by obtain ⟨q0, q1, qP, qK, qD⟩ := q; exact ⟨q0, q1, qP, va_K.moved (u := U) (U := U.calling g mk a) (Vm.Alike.refl U.vm) qK, qD⟩, fun U hU hW => ⟨rfl, by rw [hU], by rw [hU]; exact hPc, va_K.moved hW.alike hK, hDc.weaken (fun _ _ _ _ => trivial)⟩⟩ rfl rfl hl.1 rfl (lv_room (Nat.le_of_ble_eq_true rfl)) (show decode cX6_init 35 = .ok (.invokespecial 25, 3) by decide +kernel) ⟨Nat.le_of_ble_eq_true rfl, Nat.le_of_ble_eq_true rfl⟩) hS (fun q _ h => hFc q h) hFc (fun u2 t H1 locs ht hvm _ hB hz1 hk1 hS => ?_)
  obtain ⟨hP1, hD1⟩ := hB
  rw [ht] at hP1
  obtain ⟨hP, hD⟩ := va_join (wr := ((h0, .inr (6, [.ref o0, .ref o1, .null, .null, .null, .null])) :: (wX0 cA o0 u0 ++ (wX5 cA o1 u1)))) (w1 := wX3 cA o2 o0 u2) hP hD [18] [0, 1, 2, 3, 4, 5, 6, 7, 8, 9, 10, 11, 12, 13, 14, 15, 16, 17] rfl rfl (by decide) (by decide) hk1 hFc hP1 hD1
  generalize H1 = H at hP hS ⊢
  have hP : va_P D vwCl ((h0, .inr (6, [.ref o0, .ref o1, .null, .null, .null, .null])) :: (wX0 cA o0 u0 ++ (wX5 cA o1 u1 ++ (wX3 cA o2 o0 u2)))) H := hP
  have hD : va_D A ((h0, .inr (6, [.ref o0, .ref o1, .null, .null, .null, .null])) :: (wX0 cA o0 u0 ++ (wX5 cA o1 u1 ++ (wX3 cA o2 o0 u2)))) := hD
  refine W.widen (k := 22) (n := 494) (by omega) (by omega) ?_
  refine k_pf C hP hD hS (T := TX6) (N := 6) rfl 2 (by decide) (index := 28) (il := 250) (by decide +kernel) rfl rfl (fty := .object "CableLooms$Search") (v := .ref o2) rfl rfl rfl (Nat.le_of_ble_eq_true rfl) (show decode cX6_init 38 = .ok (.putfield 28, 3) by decide +kernel) (fun H locs hP hD hS => ?_)
  have hP : va_P D vwCl ((h0, .inr (6, [.ref o0, .ref o1, .ref o2, .null, .null, .null])) :: (wX0 cA o0 u0 ++ (wX5 cA o1 u1 ++ (wX3 cA o2 o0 u2)))) H := hP
  have hD : va_D A ((h0, .inr (6, [.ref o0, .ref o1, .ref o2, .null, .null, .null])) :: (wX0 cA o0 u0 ++ (wX5 cA o1 u1 ++ (wX3 cA o2 o0 u2)))) := hD
  refine lv_aload_n hx hb (show decode cX6_init 41 = .ok (.aload_n 0, 1) by decide +kernel) rfl (lv_at hl 0 rfl) ?_
  refine va_new (ci := 4) (fs := [.null, .null, .null, .int 0]) (C := RX4) (T := TX4) (N := 4) hx hb hts (a_cls (ci := 4) rfl).1 tyX4 tyX4_ok hown (k_w hts (i := 172) (by decide +kernel)) (k_w hts (i := 173) (by decide +kernel)) (k_w hts (i := 46) (by decide +kernel)) hK hP hD hS hA rfl (fun j hj => by rcases (show j = 0 ∨ j = 1 ∨ j = 2 ∨ j = 3 by omega) with rfl | rfl | rfl | rfl <;> rfl) (Nat.le_of_ble_eq_true rfl) (Nat.le_of_ble_eq_true rfl) (show decode cX6_init 42 = .ok (.new 32, 3) by decide +kernel) (fun o3 H hP hD hS => ?_)
  have hP : va_P D vwCl ((((h0, .inr (6, [.ref o0, .ref o1, .ref o2, .null, .null, .null])) :: (wX0 cA o0 u0 ++ (wX5 cA o1 u1 ++ (wX3 cA o2 o0 u2)))) ++ [(o3, .inr (4, [.null, .null, .null, .int 0]))])) H := hP
  have hD : va_D A ((((h0, .inr (6, [.ref o0, .ref o1, .ref o2, .null, .null, .null])) :: (wX0 cA o0 u0 ++ (wX5 cA o1 u1 ++ (wX3 cA o2 o0 u2)))) ++ [(o3, .inr (4, [.null, .null, .null, .int 0]))])) := hD
  refine W.widen (k := 23) (n := 498) (by omega) (by omega) ?_
  refine lv_dup hx hb (show decode cX6_init 45 = .ok (.dup, 1) by decide +kernel) rfl ?_
  refine lv_aload_n hx hb (show decode cX6_init 46 = .ok (.aload_n 0, 1) by decide +kernel) rfl (lv_at hl 0 rfl) ?_
  refine va_get (v := .ref o0) (C := RX6) (T := TX6) (N := 6) hx hb hts (a_cls (ci := 6) rfl).1 hown hK hP 0 rfl rfl 0 (by decide) (k_w hts (i := 248) (w := .fieldLink RX6 12 RX6 (TX6 0).2.1 (TX6 0).2.2.1) (by decide +kernel)) (fun _ h => h) rfl (show decode cX6_init 47 = .ok (.getfield 12, 3) by decide +kernel) ?_
  have hPc := hP.sub (ws' := [(o3, .inr (4, [.null, .null, .null, .int 0]))]) [23] rfl
  have hDc := hD.sub (ws' := [(o3, .inr (4, [.null, .null, .null, .int 0]))]) [23] (by decide) rfl
  have hFc := va_free (wc := [(o3, .inr (4, [.null, .null, .null, .int 0]))]) hD hS hA [23] rfl
  refine va_callv (va_runI (As := [.ref o0]) (rest := [.ref o3, .ref h0]) ⟨hx, hb, hml, hown, hts⟩ (k_X4 l D cA o3 o0 H.size) (cwI 1 hts (a_good _ _ ⟨List.mem_filter.mpr ⟨a_w_in (i := 176) (by decide +kernel), by decide +kernel⟩, by decide +kernel⟩ (fun w hw => hw)) rfl rfl rfl (k_w hts (i := 46) (by decide +kernel)) (k_w hts (i := 174) (by decide +kernel)) (k_w hts (i := 175) (by decide +kernel)) rfl (by decide +kernel) ⟨Nat.le_of_ble_eq_true rfl, Nat.le_of_ble_eq_true rfl⟩) ⟨fun a U g mk q => by obtain ⟨q0, q1, qP, qK, qD⟩ := q; exact ⟨q0, q1, qP, va_K.moved (u := U) (U := U.calling g mk a) (Vm.Alike.refl U.vm) qK, qD⟩, fun U hU hW => ⟨rfl, by rw [hU], by rw [hU]; exact hPc, va_K.moved hW.alike hK, hDc.weaken (fun _ _ _ _ => trivial)⟩⟩ rfl rfl hl.1 rfl (lv_room (Nat.le_of_ble_eq_true rfl)) (show decode cX6_init 50 = .ok (.invokespecial 34, 3) by decide +kernel) ⟨Nat.le_of_ble_eq_true rfl, Nat.le_of_ble_eq_true rfl⟩) hS (fun q _ h => hFc q h) hFc (fun u3 t H1 locs ht hvm _ hB hz1 hk1 hS => ?_)
  obtain ⟨hP1, hD1⟩ := hB
  rw [ht] at hP1
  obtain ⟨hP, hD⟩ := va_join (wr := ((h0, .inr (6, [.ref o0, .ref o1, .ref o2, .null, .null, .null])) :: (wX0 cA o0 u0 ++ (wX5 cA o1 u1 ++ (wX3 cA o2 o0 u2))))) (w1 := wX4 cA o3 o0 u3) hP hD [23] [0, 1, 2, 3, 4, 5, 6, 7, 8, 9, 10, 11, 12, 13, 14, 15, 16, 17, 18, 19, 20, 21, 22] rfl rfl (by decide) (by decide) hk1 hFc hP1 hD1
  generalize H1 = H at hP hS ⊢
  have hP : va_P D vwCl ((h0, .inr (6, [.ref o0, .ref o1, .ref o2, .null, .null, .null])) :: (wX0 cA o0 u0 ++ (wX5 cA o1 u1 ++ (wX3 cA o2 o0 u2 ++ (wX4 cA o3 o0 u3))))) H := hP
  have hD : va_D A ((h0, .inr (6, [.ref o0, .ref o1, .ref o2, .null, .null, .null])) :: (wX0 cA o0 u0 ++ (wX5 cA o1 u1 ++ (wX3 cA o2 o0 u2 ++ (wX4 cA o3 o0 u3))))) := hD
  refine W.widen (k := 25) (n := 518) (by omega) (by omega) ?_
  refine k_pf C hP hD hS (T := TX6) (N := 6) rfl 3 (by decide) (index := 35) (il := 251) (by decide +kernel) rfl rfl (fty := .object "CableLooms$Splices") (v := .ref o3) rfl rfl rfl (Nat.le_of_ble_eq_true rfl) (show decode cX6_init 53 = .ok (.putfield 35, 3) by decide +kernel) (fun H locs hP hD hS => ?_)
  have hP : va_P D vwCl ((h0, .inr (6, [.ref o0, .ref o1, .ref o2, .ref o3, .null, .null])) :: (wX0 cA o0 u0 ++ (wX5 cA o1 u1 ++ (wX3 cA o2 o0 u2 ++ (wX4 cA o3 o0 u3))))) H := hP
  have hD : va_D A ((h0, .inr (6, [.ref o0, .ref o1, .ref o2, .ref o3, .null, .null])) :: (wX0 cA o0 u0 ++ (wX5 cA o1 u1 ++ (wX3 cA o2 o0 u2 ++ (wX4 cA o3 o0 u3))))) := hD
  refine lv_aload_n hx hb (show decode cX6_init 56 = .ok (.aload_n 0, 1) by decide +kernel) rfl (lv_at hl 0 rfl) ?_
  refine va_new (ci := 1) (fs := [.int 0, .int 0, .int 0, .null, .null, .null, .null, .null, .null, .null, .null]) (C := RX1) (T := TX1) (N := 11) hx hb hts (a_cls (ci := 1) rfl).1 tyX1 tyX1_ok hown (k_w hts (i := 193) (by decide +kernel)) (k_w hts (i := 194) (by decide +kernel)) (k_w hts (i := 47) (by decide +kernel)) hK hP hD hS hA rfl (fun j hj => by rcases (show j = 0 ∨ j = 1 ∨ j = 2 ∨ j = 3 ∨ j = 4 ∨ j = 5 ∨ j = 6 ∨ j = 7 ∨ j = 8 ∨ j = 9 ∨ j = 10 by omega) with rfl | rfl | rfl | rfl | rfl | rfl | rfl | rfl | rfl | rfl | rfl <;> rfl) (Nat.le_of_ble_eq_true rfl) (Nat.le_of_ble_eq_true rfl) (show decode cX6_init 57 = .ok (.new 39, 3) by decide +kernel) (fun o4 H hP hD hS => ?_)
  have hP : va_P D vwCl ((((h0, .inr (6, [.ref o0, .ref o1, .ref o2, .ref o3, .null, .null])) :: (wX0 cA o0 u0 ++ (wX5 cA o1 u1 ++ (wX3 cA o2 o0 u2 ++ (wX4 cA o3 o0 u3))))) ++ [(o4, .inr (1, [.int 0, .int 0, .int 0, .null, .null, .null, .null, .null, .null, .null, .null]))])) H := hP
  have hD : va_D A ((((h0, .inr (6, [.ref o0, .ref o1, .ref o2, .ref o3, .null, .null])) :: (wX0 cA o0 u0 ++ (wX5 cA o1 u1 ++ (wX3 cA o2 o0 u2 ++ (wX4 cA o3 o0 u3))))) ++ [(o4, .inr (1, [.int 0, .int 0, .int 0, .null, .null, .null, .null, .null, .null, .null, .null]))])) := hD
  refine W.widen (k := 26) (n := 529) (by omega) (by omega) ?_
  refine lv_dup hx hb (show decode cX6_init 60 = .ok (.dup, 1) by decide +kernel) rfl ?_
  refine lv_aload_n hx hb (show decode cX6_init 61 = .ok (.aload_n 0, 1) by decide +kernel) rfl (lv_at hl 0 rfl) ?_
  refine va_get (v := .ref o1) (C := RX6) (T := TX6) (N := 6) hx hb hts (a_cls (ci := 6) rfl).1 hown hK hP 0 rfl rfl 1 (by decide) (k_w hts (i := 249) (w := .fieldLink RX6 19 RX6 (TX6 1).2.1 (TX6 1).2.2.1) (by decide +kernel)) (fun _ h => h) rfl (show decode cX6_init 62 = .ok (.getfield 19, 3) by decide +kernel) ?_
  have hPc := hP.sub (ws' := [(o4, .inr (1, [.int 0, .int 0, .int 0, .null, .null, .null, .null, .null, .null, .null, .null]))]) [26] rfl
  have hDc := hD.sub (ws' := [(o4, .inr (1, [.int 0, .int 0, .int 0, .null, .null, .null, .null, .null, .null, .null, .null]))]) [26] (by decide) rfl
  have hFc := va_free (wc := [(o4, .inr (1, [.int 0, .int 0, .int 0, .null, .null, .null, .null, .null, .null, .null, .null]))]) hD hS hA [26] rfl
  refine va_callv (va_runI (As := [.ref o1]) (rest := [.ref o4, .ref h0]) ⟨hx, hb, hml, hown, hts⟩ (k_X1 l D cA o4 o1 H.size) (cwI 1 hts (a_good _ _ ⟨List.mem_filter.mpr ⟨a_w_in (i := 197) (by decide +kernel), by decide +kernel⟩, by decide +kernel⟩ (fun w hw => hw)) rfl rfl rfl (k_w hts (i := 47) (by decide +kernel)) (k_w hts (i := 195) (by decide +kernel)) (k_w hts (i := 196) (by decide +kernel)) rfl (by decide +kernel) ⟨Nat.le_of_ble_eq_true rfl, Nat.le_of_ble_eq_true rfl⟩) ⟨fun a U g mk q => by obtain ⟨q0, q1, qP, qK, qD⟩ := q; exact ⟨q0, q1, qP, va_K.moved (u := U) (U := U.calling g mk a) (Vm.Alike.refl U.vm) qK, qD⟩, fun U hU hW => ⟨rfl, by rw [hU], by rw [hU]; exact hPc, va_K.moved hW.alike hK, hDc.weaken (fun _ _ _ _ => trivial)⟩⟩ rfl rfl hl.1 rfl (lv_room (Nat.le_of_ble_eq_true rfl)) (show decode cX6_init 65 = .ok (.invokespecial 41, 3) by decide +kernel) ⟨Nat.le_of_ble_eq_true rfl, Nat.le_of_ble_eq_true rfl⟩) hS (fun q _ h => hFc q h) hFc (fun u4 t H1 locs ht hvm _ hB hz1 hk1 hS => ?_)
  obtain ⟨hP1, hD1⟩ := hB
  rw [ht] at hP1
  obtain ⟨hP, hD⟩ := va_join (wr := ((h0, .inr (6, [.ref o0, .ref o1, .ref o2, .ref o3, .null, .null])) :: (wX0 cA o0 u0 ++ (wX5 cA o1 u1 ++ (wX3 cA o2 o0 u2 ++ (wX4 cA o3 o0 u3)))))) (w1 := wX1 cA o4 o1 u4) hP hD [26] [0, 1, 2, 3, 4, 5, 6, 7, 8, 9, 10, 11, 12, 13, 14, 15, 16, 17, 18, 19, 20, 21, 22, 23, 24, 25] rfl rfl (by decide) (by decide) hk1 hFc hP1 hD1
  generalize H1 = H at hP hS ⊢
  have hP : va_P D vwCl ((h0, .inr (6, [.ref o0, .ref o1, .ref o2, .ref o3, .null, .null])) :: (wX0 cA o0 u0 ++ (wX5 cA o1 u1 ++ (wX3 cA o2 o0 u2 ++ (wX4 cA o3 o0 u3 ++ (wX1 cA o4 o1 u4)))))) H := hP
  have hD : va_D A ((h0, .inr (6, [.ref o0, .ref o1, .ref o2, .ref o3, .null, .null])) :: (wX0 cA o0 u0 ++ (wX5 cA o1 u1 ++ (wX3 cA o2 o0 u2 ++ (wX4 cA o3 o0 u3 ++ (wX1 cA o4 o1 u4)))))) := hD
  refine W.widen (k := 33) (n := 1825) (by omega) (by omega) ?_
  refine k_pf C hP hD hS (T := TX6) (N := 6) rfl 4 (by decide) (index := 44) (il := 252) (by decide +kernel) rfl rfl (fty := .object "CableLooms$Orders") (v := .ref o4) rfl rfl rfl (Nat.le_of_ble_eq_true rfl) (show decode cX6_init 68 = .ok (.putfield 44, 3) by decide +kernel) (fun H locs hP hD hS => ?_)
  have hP : va_P D vwCl ((h0, .inr (6, [.ref o0, .ref o1, .ref o2, .ref o3, .ref o4, .null])) :: (wX0 cA o0 u0 ++ (wX5 cA o1 u1 ++ (wX3 cA o2 o0 u2 ++ (wX4 cA o3 o0 u3 ++ (wX1 cA o4 o1 u4)))))) H := hP
  have hD : va_D A ((h0, .inr (6, [.ref o0, .ref o1, .ref o2, .ref o3, .ref o4, .null])) :: (wX0 cA o0 u0 ++ (wX5 cA o1 u1 ++ (wX3 cA o2 o0 u2 ++ (wX4 cA o3 o0 u3 ++ (wX1 cA o4 o1 u4)))))) := hD
  refine lv_aload_n hx hb (show decode cX6_init 71 = .ok (.aload_n 0, 1) by decide +kernel) rfl (lv_at hl 0 rfl) ?_
  refine va_new (ci := 2) (fs := [.null]) (C := RX2) (T := TX2) (N := 1) hx hb hts (a_cls (ci := 2) rfl).1 tyX2 tyX2_ok hown (k_w hts (i := 237) (by decide +kernel)) (k_w hts (i := 238) (by decide +kernel)) (k_w hts (i := 48) (by decide +kernel)) hK hP hD hS hA rfl (fun j hj => by rcases (show j = 0 by omega) with rfl <;> rfl) (Nat.le_of_ble_eq_true rfl) (Nat.le_of_ble_eq_true rfl) (show decode cX6_init 72 = .ok (.new 48, 3) by decide +kernel) (fun o5 H hP hD hS => ?_)
  have hP : va_P D vwCl ((((h0, .inr (6, [.ref o0, .ref o1, .ref o2, .ref o3, .ref o4, .null])) :: (wX0 cA o0 u0 ++ (wX5 cA o1 u1 ++ (wX3 cA o2 o0 u2 ++ (wX4 cA o3 o0 u3 ++ (wX1 cA o4 o1 u4)))))) ++ [(o5, .inr (2, [.null]))])) H := hP
  have hD : va_D A ((((h0, .inr (6, [.ref o0, .ref o1, .ref o2, .ref o3, .ref o4, .null])) :: (wX0 cA o0 u0 ++ (wX5 cA o1 u1 ++ (wX3 cA o2 o0 u2 ++ (wX4 cA o3 o0 u3 ++ (wX1 cA o4 o1 u4)))))) ++ [(o5, .inr (2, [.null]))])) := hD
  refine W.widen (k := 34) (n := 1826) (by omega) (by omega) ?_
  refine lv_dup hx hb (show decode cX6_init 75 = .ok (.dup, 1) by decide +kernel) rfl ?_
  have hPc := hP.sub (ws' := [(o5, .inr (2, [.null]))]) [34] rfl
  have hDc := hD.sub (ws' := [(o5, .inr (2, [.null]))]) [34] (by decide) rfl
  have hFc := va_free (wc := [(o5, .inr (2, [.null]))]) hD hS hA [34] rfl
  refine va_callv (va_runIN (As := []) (rest := [.ref o5, .ref h0]) ⟨hx, hb, hml, hown, hts⟩ (k_X2 l D cA o5 H.size) ⟨va_cnB 0 hts (a_good _ _ ⟨List.mem_filter.mpr ⟨a_w_in (i := 241) (by decide +kernel), by decide +kernel⟩, by decide +kernel⟩ (fun w hw => hw)) rfl rfl rfl (hN (RX6, 50, yX2_init, RX6) (by decide +kernel)) (k_w hts (i := 48) (by decide +kernel)) (by decide +kernel) ⟨Nat.le_of_ble_eq_true rfl, Nat.le_of_ble_eq_true rfl⟩, rfl, k_w hts (i := 240) (by decide +kernel)⟩ ⟨fun a U g mk q => by obtain ⟨q0, q1, qP, qK, qD⟩ := q; exact ⟨q0, q1, qP, va_K.moved (u := U) (U := U.calling g mk a) (Vm.Alike.refl U.vm) qK, qD⟩, fun U hU hW => ⟨rfl, by rw [hU], by rw [hU]; exact hPc, va_K.moved hW.alike hK, hDc.weaken (fun _ _ _ _ => trivial)⟩⟩ rfl rfl hl.1 rfl (lv_room (Nat.le_of_ble_eq_true rfl)) (show decode cX6_init 76 = .ok (.invokespecial 50, 3) by decide +kernel) ⟨Nat.le_of_ble_eq_true rfl, Nat.le_of_ble_eq_true rfl⟩) hS (fun q _ h => hFc q h) hFc (fun u5 t H1 locs ht hvm _ hB hz1 hk1 hS => ?_)
  obtain ⟨hP1, hD1⟩ := hB
  rw [ht] at hP1
  obtain ⟨hP, hD⟩ := va_join (wr := ((h0, .inr (6, [.ref o0, .ref o1, .ref o2, .ref o3, .ref o4, .null])) :: (wX0 cA o0 u0 ++ (wX5 cA o1 u1 ++ (wX3 cA o2 o0 u2 ++ (wX4 cA o3 o0 u3 ++ (wX1 cA o4 o1 u4))))))) (w1 := wX2 cA o5 u5) hP hD [34] [0, 1, 2, 3, 4, 5, 6, 7, 8, 9, 10, 11, 12, 13, 14, 15, 16, 17, 18, 19, 20, 21, 22, 23, 24, 25, 26, 27, 28, 29, 30, 31, 32, 33] rfl rfl (by decide) (by decide) hk1 hFc hP1 hD1
  generalize H1 = H at hP hS ⊢
  have hP : va_P D vwCl ((h0, .inr (6, [.ref o0, .ref o1, .ref o2, .ref o3, .ref o4, .null])) :: (wX0 cA o0 u0 ++ (wX5 cA o1 u1 ++ (wX3 cA o2 o0 u2 ++ (wX4 cA o3 o0 u3 ++ (wX1 cA o4 o1 u4 ++ (wX2 cA o5 u5))))))) H := hP
  have hD : va_D A ((h0, .inr (6, [.ref o0, .ref o1, .ref o2, .ref o3, .ref o4, .null])) :: (wX0 cA o0 u0 ++ (wX5 cA o1 u1 ++ (wX3 cA o2 o0 u2 ++ (wX4 cA o3 o0 u3 ++ (wX1 cA o4 o1 u4 ++ (wX2 cA o5 u5))))))) := hD
  refine W.widen (k := 35) (n := 1842) (by omega) (by omega) ?_
  refine k_pf C hP hD hS (T := TX6) (N := 6) rfl 5 (by decide) (index := 51) (il := 253) (by decide +kernel) rfl rfl (fty := .object "CableLooms$Pins") (v := .ref o5) rfl rfl rfl (Nat.le_of_ble_eq_true rfl) (show decode cX6_init 79 = .ok (.putfield 51, 3) by decide +kernel) (fun H locs hP hD hS => ?_)
  have hP : va_P D vwCl ((h0, .inr (6, [.ref o0, .ref o1, .ref o2, .ref o3, .ref o4, .ref o5])) :: (wX0 cA o0 u0 ++ (wX5 cA o1 u1 ++ (wX3 cA o2 o0 u2 ++ (wX4 cA o3 o0 u3 ++ (wX1 cA o4 o1 u4 ++ (wX2 cA o5 u5))))))) H := hP
  have hD : va_D A ((h0, .inr (6, [.ref o0, .ref o1, .ref o2, .ref o3, .ref o4, .ref o5])) :: (wX0 cA o0 u0 ++ (wX5 cA o1 u1 ++ (wX3 cA o2 o0 u2 ++ (wX4 cA o3 o0 u3 ++ (wX1 cA o4 o1 u4 ++ (wX2 cA o5 u5))))))) := hD
  exact W.vret hx hb hr (fun t ht hW => ⟨⟨fun k => match k with | 0 => (fun i => match i with | 0 => o0 | i + 1 => u0 i) | 1 => (fun i => match i with | 0 => o1 | i + 1 => u1 i) | 2 => (fun i => match i with | 0 => o2 | i + 1 => u2 i) | 3 => (fun i => match i with | 0 => o3 | i + 1 => u3 i) | 4 => (fun i => match i with | 0 => o4 | i + 1 => u4 i) | _ => (fun i => match i with | 0 => o5 | i + 1 => u5 i), rfl, trivial, by rw [ht]; exact hP, hD⟩, hS.F ht⟩) hS.2.2 (show decode cX6_init 82 = .ok (.return_, 1) by decide +kernel)
