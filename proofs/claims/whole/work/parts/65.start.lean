/-! ===== the law from its entry ===== -/
set_option maxRecDepth 100000 in
theorem nest_ok : a_all2 (fun (q : String × Nat × MethodName × String) p => a_w p (Jvm.Cond.methodLinkNest q.1 q.2.1 q.2.2.1 q.2.2.2)) a_nest [521, 595, 336, 482, 304, 63, 104, 239] = true := by decide +kernel
theorem arr_known {args : Array Value} {s : State} {ty : FieldType} (harr : (Cond.arrayClass ty).before args s = true) : ∃ cA, ArrOfT s cA ty ∧ s.vm.findClass ("[" ++ ty.toString) = some cA := by
  obtain ⟨cA, kA, comp, hfind, hk, hkind⟩ := Cond.arrayClass_spec harr
  exact ⟨cA, fun n z => ⟨fun k h => (by cases h), kA, hk, comp, hkind⟩, hfind⟩
set_option maxRecDepth 100000 in
theorem pl_inj : ∀ i, i < 63 → ∀ j, j < 63 → pl63.getD i 0 = pl63.getD j 0 → i = j := by decide +kernel
set_option maxHeartbeats 8000000 in
set_option maxRecDepth 100000 in
theorem whole_start {p : Program} {e : Env} {s : State} {m : MethodId} {below : List Frame} {meth : Method} {c : Code} (l : Launch) {b L : Nat} {xs : Nat → Int32} (hL : L ≤ 2560) (C0 : lw_At p s m meth c b L xs) : W p l e room_1 s m #[Value.ref b] below meth c s.heap [] 0 0 (lw_Z below #[Value.ref b] s) (entryFrame m ([Value.ref b] : List Value).toArray 4) := by
  obtain ⟨hx, hb, hr, hml, hown, hts0, hX, hbl, hlocks, hgv⟩ := id C0
  have hown : s.vm.findClass RL = some m.cls := hown
  have hts : ∀ w ∈ a_ws, w.before #[Value.ref b] s = true := fun w hw => hts0 w (List.mem_filter.mp hw).1
  have hN : a_N s := fun q hq => by
    obtain ⟨i, hi⟩ := a_all2_in nest_ok q hq
    exact va_Nw.of rfl (hts0 _ (a_w_in hi))
  have hA : ∀ q : Nat, s.heap.size ≤ q → (fun q : Nat => s.heap.size ≤ q) q := fun _ h => h
  obtain ⟨c0, iS0, hKn0⟩ := u_known (C := RX0) (T := TX0) (N := 7) (n := 7) hts (a_cls (ci := 0) rfl).1 (k_w hts (i := 62) (by decide +kernel))
  obtain ⟨c1, iS1, hKn1⟩ := u_known (C := RX1) (T := TX1) (N := 11) (n := 11) hts (a_cls (ci := 1) rfl).1 (k_w hts (i := 194) (by decide +kernel))
  obtain ⟨c2, iS2, hKn2⟩ := u_known (C := RX2) (T := TX2) (N := 1) (n := 1) hts (a_cls (ci := 2) rfl).1 (k_w hts (i := 238) (by decide +kernel))
  obtain ⟨c3, iS3, hKn3⟩ := u_known (C := RX3) (T := TX3) (N := 6) (n := 6) hts (a_cls (ci := 3) rfl).1 (k_w hts (i := 146) (by decide +kernel))
  obtain ⟨c4, iS4, hKn4⟩ := u_known (C := RX4) (T := TX4) (N := 4) (n := 4) hts (a_cls (ci := 4) rfl).1 (k_w hts (i := 173) (by decide +kernel))
  obtain ⟨c5, iS5, hKn5⟩ := u_known (C := RX5) (T := TX5) (N := 10) (n := 10) hts (a_cls (ci := 5) rfl).1 (k_w hts (i := 103) (by decide +kernel))
  obtain ⟨c6, iS6, hKn6⟩ := u_known (C := RX6) (T := TX6) (N := 6) (n := 6) hts (a_cls (ci := 6) rfl).1 (k_w hts (i := 54) (by decide +kernel))
  obtain ⟨c7, iS7, hKn7⟩ := u_known (C := RX7) (T := TX7) (N := 31) (n := 31) hts (a_cls (ci := 7) rfl).1 (k_w hts (i := 635) (by decide +kernel))
  obtain ⟨dC, dI, hKc⟩ : ∃ (dC : Nat → ClassId) (dI : Nat → Nat → Nat), ∀ (k : Nat) (q : vw_C), vwCl[k]? = some q → u_Kn s q.1 q.2.1 q.2.2 (dC k) (dI k) := by
    refine ⟨fun k => match k with | 0 => c0 | 1 => c1 | 2 => c2 | 3 => c3 | 4 => c4 | 5 => c5 | 6 => c6 | _ => c7, fun k => match k with | 0 => iS0 | 1 => iS1 | 2 => iS2 | 3 => iS3 | 4 => iS4 | 5 => iS5 | 6 => iS6 | _ => iS7, ?_⟩
    intro k q hq
    match k, hq with
    | 0, hq => cases hq; exact hKn0
    | 1, hq => cases hq; exact hKn1
    | 2, hq => cases hq; exact hKn2
    | 3, hq => cases hq; exact hKn3
    | 4, hq => cases hq; exact hKn4
    | 5, hq => cases hq; exact hKn5
    | 6, hq => cases hq; exact hKn6
    | 7, hq => cases hq; exact hKn7
    | k + 8, hq => simp [vwCl] at hq
  obtain ⟨cI, hI1, hI2⟩ := arr_known (ty := .int) (k_w hts (i := 101) (by decide +kernel))
  obtain ⟨cZ, hZ1, hZ2⟩ := arr_known (ty := .boolean) (k_w hts (i := 734) (by decide +kernel))
  obtain ⟨cJ, hJ1, hJ2⟩ := arr_known (ty := .long) (k_w hts (i := 236) (by decide +kernel))
  have hK : va_K (dC, dI) vwCl (a_tys (cI, cZ, cJ)) s := by
    refine ⟨hKc, fun k q h => ?_⟩
    match k, h with
    | 0, h => cases h; exact ⟨hI1, hI2⟩
    | 1, h => cases h; exact ⟨hZ1, hZ2⟩
    | 2, h => cases h; exact ⟨hJ1, hJ2⟩
    | k + 3, h => simp [a_tys] at h
  generalize hDe : ((dC, dI) : va_G) = D at hK
  generalize hAe : ((cI, cZ, cJ) : ClassId × ClassId × ClassId) = cA at hK
  have hS : va_S (fun q : Nat => s.heap.size ≤ q) s.heap s.heap [] := va_S.rf
  have hP : va_P D vwCl [] s.heap := fun k q h => by simp at h
  have hD : va_D (fun q : Nat => s.heap.size ≤ q) [] := ⟨fun i j p q h => by simp at h, fun k q h => by simp at h⟩
  have hl := lv_entry ([.ref b]) (n := 4) (Nat.le_of_ble_eq_true rfl)
  rw [lg_entry_eq]
  generalize (lg_sl ([.ref b]) ++ List.replicate (4 - (lg_sl ([.ref b])).length) Slot.unset).toArray = ls at hl ⊢
  have hl : lv_has ls 4 [(0, .ref b)] := hl
  refine va_new (ci := 6) (fs := [.null, .null, .null, .null, .null, .null]) (C := RX6) (T := TX6) (N := 6) hx hb hts (a_cls (ci := 6) rfl).1 tyX6 tyX6_ok hown (k_w hts (i := 53) (by decide +kernel)) (k_w hts (i := 54) (by decide +kernel)) (k_w hts (i := 42) (by decide +kernel)) hK hP hD hS hA rfl (fun j hj => by rcases (show j = 0 ∨ j = 1 ∨ j = 2 ∨ j = 3 ∨ j = 4 ∨ j = 5 by omega) with rfl | rfl | rfl | rfl | rfl | rfl <;> rfl) (Nat.le_of_ble_eq_true rfl) (Nat.le_of_ble_eq_true rfl) (show decode code 0 = .ok (.new 7, 3) by decide +kernel) (fun o6 H hP hD hS => ?_)
  have hP : va_P D vwCl ([] ++ [(o6, .inr (6, [.null, .null, .null, .null, .null, .null]))]) H := hP
  have hD : va_D (fun q : Nat => s.heap.size ≤ q) ([] ++ [(o6, .inr (6, [.null, .null, .null, .null, .null, .null]))]) := hD
  refine W.widen (k := 1) (n := 6) (by omega) (by omega) ?_
  refine lv_dup hx hb (show decode code 3 = .ok (.dup, 1) by decide +kernel) rfl ?_
  have hPc := hP.sub (ws' := [(o6, .inr (6, [.null, .null, .null, .null, .null, .null]))]) [0] rfl
  have hDc := hD.sub (ws' := [(o6, .inr (6, [.null, .null, .null, .null, .null, .null]))]) [0] (by decide) rfl
  have hFc := va_free (wc := [(o6, .inr (6, [.null, .null, .null, .null, .null, .null]))]) hD hS hA [0] rfl
  refine va_callv (va_runI (As := []) (rest := [.ref o6]) ⟨hx, hb, hml, hown, hts⟩ (k_X6 l D cA o6 H.size) (cwI 0 hts (a_good _ _ ⟨List.mem_filter.mpr ⟨a_w_in (i := 57) (by decide +kernel), by decide +kernel⟩, by decide +kernel⟩ (fun w hw => hw)) rfl rfl rfl (k_w hts (i := 42) (by decide +kernel)) (k_w hts (i := 55) (by decide +kernel)) (k_w hts (i := 56) (by decide +kernel)) rfl (by decide +kernel) ⟨Nat.le_of_ble_eq_true rfl, Nat.le_of_ble_eq_true rfl⟩) ⟨fun a U g mk q => by obtain ⟨q0, q1, qP, qK, qN, qD⟩ := q; exact ⟨q0, q1, qP, va_K.moved (u := U) (U := U.calling g mk a) (Vm.Alike.refl U.vm) qK, fun w hw => va_Nw.same rfl (u := U) (U := U.calling g mk a) rfl (qN w hw), qD⟩, fun U hU hW => ⟨rfl, by rw [hU], by rw [hU]; exact hPc, va_K.moved hW.alike hK, a_N.warm hW hN, hDc.weaken (fun _ _ _ _ => trivial)⟩⟩ rfl rfl hl.1 rfl (lv_room (Nat.le_of_ble_eq_true rfl)) (show decode code 4 = .ok (.invokespecial 9, 3) by decide +kernel) ⟨Nat.le_of_ble_eq_true rfl, Nat.le_of_ble_eq_true rfl⟩) hS (fun q _ h => hFc q h) hFc (fun u t H1 locs ht hvm _ hB hz1 hk1 hS => ?_)
  obtain ⟨hP1, hD1⟩ := hB
  rw [ht] at hP1
  obtain ⟨hP, hD⟩ := va_join (wr := []) (w1 := wX6 cA o6 u) hP hD [0] [] rfl rfl (by decide) (by decide) hk1 hFc hP1 hD1
  generalize H1 = H at hP hS ⊢
  have hP : va_P D vwCl (wX6 cA o6 u) H := hP
  have hD : va_D (fun q : Nat => s.heap.size ≤ q) (wX6 cA o6 u) := hD
  refine W.widen (k := 36) (n := 1848) (by omega) (by omega) ?_
  refine lv_astore_n (lv' := [(1, .ref o6), (0, .ref b)]) hx hb (show decode code 7 = .ok (.astore_n 1, 1) by decide +kernel) rfl hl (by decide) rfl (fun ls hl => ?_)
  refine va_new (ci := 7) (fs := [.int 0, .null, .null, .null, .null, .int 0, .null, .null, .null, .null, .null, .null, .null, .null, .null, .null, .null, .null, .null, .null, .null, .null, .int 0, .null, .null, .int 0, .null, .null, .null, .long 0, .null]) (C := RX7) (T := TX7) (N := 31) hx hb hts (a_cls (ci := 7) rfl).1 tyX7 tyX7_ok hown (k_w hts (i := 634) (by decide +kernel)) (k_w hts (i := 635) (by decide +kernel)) (k_w hts (i := 49) (by decide +kernel)) hK hP hD hS hA rfl (fun j hj => by rcases (show j = 0 ∨ j = 1 ∨ j = 2 ∨ j = 3 ∨ j = 4 ∨ j = 5 ∨ j = 6 ∨ j = 7 ∨ j = 8 ∨ j = 9 ∨ j = 10 ∨ j = 11 ∨ j = 12 ∨ j = 13 ∨ j = 14 ∨ j = 15 ∨ j = 16 ∨ j = 17 ∨ j = 18 ∨ j = 19 ∨ j = 20 ∨ j = 21 ∨ j = 22 ∨ j = 23 ∨ j = 24 ∨ j = 25 ∨ j = 26 ∨ j = 27 ∨ j = 28 ∨ j = 29 ∨ j = 30 by omega) with rfl | rfl | rfl | rfl | rfl | rfl | rfl | rfl | rfl | rfl | rfl | rfl | rfl | rfl | rfl | rfl | rfl | rfl | rfl | rfl | rfl | rfl | rfl | rfl | rfl | rfl | rfl | rfl | rfl | rfl | rfl <;> rfl) (Nat.le_of_ble_eq_true rfl) (Nat.le_of_ble_eq_true rfl) (show decode code 8 = .ok (.new 10, 3) by decide +kernel) (fun o7 H hP hD hS => ?_)
  have hP : va_P D vwCl (wX6 cA o6 u ++ [(o7, .inr (7, [.int 0, .null, .null, .null, .null, .int 0, .null, .null, .null, .null, .null, .null, .null, .null, .null, .null, .null, .null, .null, .null, .null, .null, .int 0, .null, .null, .int 0, .null, .null, .null, .long 0, .null]))]) H := hP
  have hD : va_D (fun q : Nat => s.heap.size ≤ q) (wX6 cA o6 u ++ [(o7, .inr (7, [.int 0, .null, .null, .null, .null, .int 0, .null, .null, .null, .null, .null, .null, .null, .null, .null, .null, .null, .null, .null, .null, .null, .null, .int 0, .null, .null, .int 0, .null, .null, .null, .long 0, .null]))]) := hD
  refine W.widen (k := 37) (n := 1879) (by omega) (by omega) ?_
  refine lv_dup hx hb (show decode code 11 = .ok (.dup, 1) by decide +kernel) rfl ?_
  have hPc := hP.sub (ws' := [(o7, .inr (7, [.int 0, .null, .null, .null, .null, .int 0, .null, .null, .null, .null, .null, .null, .null, .null, .null, .null, .null, .null, .null, .null, .null, .null, .int 0, .null, .null, .int 0, .null, .null, .null, .long 0, .null]))]) [36] rfl
  have hDc := hD.sub (ws' := [(o7, .inr (7, [.int 0, .null, .null, .null, .null, .int 0, .null, .null, .null, .null, .null, .null, .null, .null, .null, .null, .null, .null, .null, .null, .null, .null, .int 0, .null, .null, .int 0, .null, .null, .null, .long 0, .null]))]) [36] (by decide) rfl
  have hFc := va_free (wc := [(o7, .inr (7, [.int 0, .null, .null, .null, .null, .int 0, .null, .null, .null, .null, .null, .null, .null, .null, .null, .null, .null, .null, .null, .null, .null, .null, .int 0, .null, .null, .int 0, .null, .null, .null, .long 0, .null]))]) hD hS hA [36] rfl
  refine va_callv (va_runI (As := []) (rest := [.ref o7]) ⟨hx, hb, hml, hown, hts⟩ (k_X7 l D cA o7 H.size) (cwI 0 hts (a_good _ _ ⟨List.mem_filter.mpr ⟨a_w_in (i := 638) (by decide +kernel), by decide +kernel⟩, by decide +kernel⟩ (fun w hw => hw)) rfl rfl rfl (k_w hts (i := 49) (by decide +kernel)) (k_w hts (i := 636) (by decide +kernel)) (k_w hts (i := 637) (by decide +kernel)) rfl (by decide +kernel) ⟨Nat.le_of_ble_eq_true rfl, Nat.le_of_ble_eq_true rfl⟩) ⟨fun a U g mk q => by obtain ⟨q0, q1, qP, qK, qD⟩ := q; exact ⟨q0, q1, qP, va_K.moved (u := U) (U := U.calling g mk a) (Vm.Alike.refl U.vm) qK, qD⟩, fun U hU hW => ⟨rfl, by rw [hU], by rw [hU]; exact hPc, va_K.moved hW.alike hK, hDc.weaken (fun _ _ _ _ => trivial)⟩⟩ rfl rfl hl.1 rfl (lv_room (Nat.le_of_ble_eq_true rfl)) (show decode code 12 = .ok (.invokespecial 12, 3) by decide +kernel) ⟨Nat.le_of_ble_eq_true rfl, Nat.le_of_ble_eq_true rfl⟩) hS (fun q _ h => hFc q h) hFc (fun v t H1 locs ht hvm _ hB hz1 hk1 hS => ?_)
  obtain ⟨hP1, hD1⟩ := hB
  rw [ht] at hP1
  obtain ⟨hP, hD⟩ := va_join (wr := wX6 cA o6 u) (w1 := wX7 cA o7 v) hP hD [36] [0, 1, 2, 3, 4, 5, 6, 7, 8, 9, 10, 11, 12, 13, 14, 15, 16, 17, 18, 19, 20, 21, 22, 23, 24, 25, 26, 27, 28, 29, 30, 31, 32, 33, 34, 35] rfl rfl (by decide) (by decide) hk1 hFc hP1 hD1
  generalize H1 = H at hP hS ⊢
  have hP : va_P D vwCl (wX6 cA o6 u ++ wX7 cA o7 v) H := hP
  have hD : va_D (fun q : Nat => s.heap.size ≤ q) (wX6 cA o6 u ++ wX7 cA o7 v) := hD
  refine W.widen (k := 63) (n := 3695) (by omega) (by omega) ?_
  refine lv_astore_n (lv' := [(2, .ref o7), (1, .ref o6), (0, .ref b)]) hx hb (show decode code 15 = .ok (.astore_n 2, 1) by decide +kernel) rfl hl (by decide) rfl (fun ls hl => ?_)
  refine lv_iconst (v := 0) hx hb (show decode code 16 = .ok (.iconst 0, 1) by decide +kernel) rfl ?_
  refine lv_istore_n (lv' := [(3, .int 0), (2, .ref o7), (1, .ref o6), (0, .ref b)]) hx hb (show decode code 17 = .ok (.istore_n 3, 1) by decide +kernel) rfl hl (by decide) rfl (fun ls hl => ?_)
  refine va_forget (fun q hq => hS.2.2 q hq) ?_
  have h63 : a_lay.length = 63 := rfl
  have hgl : ∀ k, k < a_lay.length → ∃ d, a_lay[k]? = some d := fun k hk => ⟨_, List.getElem?_eq_getElem hk⟩
  have hP63 : va_P D vwCl (a_world cA (r63 b o6 o7 u v) μ0) H := fun k q hq => by
    rw [a_world_eq, List.getElem?_mapIdx] at hq
    cases hd : a_lay[k]? with
    | none => rw [hd] at hq; cases hq
    | some d =>
      rw [hd] at hq
      have e := Option.some.inj hq
      rw [← e]
      exact hP _ _ (w63 k d hd)
  have hinj : a_inj (r63 b o6 o7 u v) := fun i j hi hj he => by
    obtain ⟨di, hdi⟩ := hgl i hi
    obtain ⟨dj, hdj⟩ := hgl j hj
    rw [h63] at hi hj
    exact pl_inj i hi j hj (hD.1 _ _ _ _ (w63 (b := b) i di hdi) (w63 (b := b) j dj hdj) he)
  have hnew : ∀ k, k < a_lay.length → s.heap.size ≤ r63 b o6 o7 u v k := fun k hk => by
    obtain ⟨d, hd⟩ := hgl k hk
    exact hD.2 _ _ (w63 (b := b) k d hd)
  exact law_loop (G := (l, D, cA, r63 b o6 o7 u v)) hL 2565 0 μ0 X0s (by omega) (by omega) J0 p e s m below meth c b ⟨hx, hb, hr, hml, hown, hts, hlocks, hK, hN, hinj, rfl, hX, hbl, hnew⟩ H [] ls hP63 ⟨hS.1, fun q h1 h2 => hS.2.1 q h1 (Nat.not_le.mpr h1), fun _ h => by cases h⟩ (lv_sub hl [3, 2, 1, 0] rfl)
