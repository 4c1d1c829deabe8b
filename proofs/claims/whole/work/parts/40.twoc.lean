section TWOC
variable {G : aG} {μ : aMem} {X : aX}
theorem n00 : nI 0 = 0 := by decide
theorem n10 : ¬ nI 1 = 0 := by decide
theorem rf_bd (hd : xD X) {z : Nat → Int} (k : Nat) (hk : k < X 0 0) : rf (c32 X) z k = BIG ∨ (-4000 ≤ rf (c32 X) z k ∧ rf (c32 X) z k ≤ 4000) := by
  have := c32_bd hd k hk
  unfold rf
  split
  · exact Or.inl rfl
  · right; split <;> omega
theorem rb_bd (hd : xD X) {z : Nat → Int} (k : Nat) (hk : k < X 0 0) : rb (c32 X) z k = BIG ∨ (-4000 ≤ rb (c32 X) z k ∧ rb (c32 X) z k ≤ 4000) := by
  have := c32_bd hd k hk
  unfold rb
  split
  · exact Or.inl rfl
  · right; split <;> omega
theorem r_X3_turnSteps (hd : xD X) (hcd : cD μ X) {a b : Nat} (ha : a < 10) (hb : b < 10) (hne : tT X b a ≠ BIG) (h5 : μ.1 3 5 = nI (tN X a b)) (h25 : ∀ k, k < tN X a b → μ.1 25 k = nI (tS X a b k)) (h22 : rZ (μ.1 22) (rf (c32 X) (tZ X a b 0)) (X 0 0)) (h23 : rZ (μ.1 23) (rb (c32 X) (tZ X a b 0)) (X 0 0)) :
    a_Spec G sX3_turnSteps [.ref 3, .int (nI a)] μ (fun v ν => v = none ∧ ∃ c c', ν = (va_up (va_up μ.1 22 c) 23 c', μ.2) ∧ rZ c (rf (c32 X) (tZ X a b (tN X a b))) (X 0 0) ∧ rZ c' (rb (c32 X) (tZ X a b (tN X a b))) (X 0 0)) := by
  obtain ⟨p1, p2, p3⟩ := two_path hd hb hne
  obtain ⟨l1, l2⟩ := two_dist hd hb hne
  have hn := hd.1
  generalize hpo : (fun (v : Option Value) (ν : aMem) => v = none ∧ ∃ c c', ν = (va_up (va_up μ.1 22 c) 23 c', μ.2) ∧ rZ c (rf (c32 X) (tZ X a b (tN X a b))) (X 0 0) ∧ rZ c' (rb (c32 X) (tZ X a b (tN X a b))) (X 0 0)) = post
  have hpost : ∀ c c', rZ c (rf (c32 X) (tZ X a b (tN X a b))) (X 0 0) → rZ c' (rb (c32 X) (tZ X a b (tN X a b))) (X 0 0) → post none (va_up (va_up μ.1 22 c) 23 c', μ.2) := fun c c' h h' => by rw [← hpo]; exact ⟨rfl, c, c', rfl, h, h'⟩
  have hvl : ∀ i, i ≤ tN X a b → tV X a b i < 10 := by
    intro i hi
    cases i with
    | zero => exact ha
    | succ i => exact acr_lt hd (l1 i (by omega))
  refine w_X3_turnSteps_0 _ ?_
  have main := a_for (fun i (s : (Nat → Int32) × (Nat → Int32)) => a_Runs G sX3_turnSteps 4 [(0, .ref 3), (2, .int (nI (tV X a b i))), (3, .int (nI i))] [] (va_up (va_up μ.1 22 s.1) 23 s.2, μ.2) post) (fun i s => rZ s.1 (rf (c32 X) (tZ X a b i)) (X 0 0) ∧ rZ s.2 (rb (c32 X) (tZ X a b i)) (X 0 0)) (tN X a b) ?_ ?_ 0 (μ.1 22, μ.1 23) (by omega) ⟨h22, h23⟩
  · have e0 : μ = (va_up (va_up μ.1 22 (μ.1 22)) 23 (μ.1 23), μ.2) := by rw [a_self1 μ.1 22, a_self1 μ.1 23]
    rw [e0]; exact main
  · rintro ⟨c, c'⟩ ⟨g1, g2⟩
    refine w_X3_turnSteps_4 _ _ ⟨fun _ => hpost c c' g1 g2, fun h => absurd ?_ h⟩
    show μ.1 3 5 ≤ _
    rw [h5, q_le (by omega) (by omega)]; omega
  · rintro i ⟨c, c'⟩ hi ⟨g1, g2⟩ ih
    have g1 : rZ c (rf (c32 X) (tZ X a b i)) (X 0 0) := g1
    have g2 : rZ c' (rb (c32 X) (tZ X a b i)) (X 0 0) := g2
    have hs := l1 i hi
    have hv := hvl i (by omega)
    have hx1 := hd.2 _ hs
    have z0 := (tZ_all hd hb hne i (by omega)).2.2.2.2 i (Nat.le_refl i) hi
    have bd := c32_bd hd _ hs
    have s2 : X 1 (tS X a b i) = tV X a b i ∨ X 2 (tS X a b i) = tV X a b i := (path_step hd (op := fun _ => true) hb (p3 i hi).1 (p3 i hi).2).2.1
    have ev : tV X a b (i + 1) = acr X (tS X a b i) (tV X a b i) := rfl
    have e22 : ((va_up (va_up μ.1 22 c) 23 c', μ.2) : aMem).1 22 = c := rfl
    have e23 : ((va_up (va_up μ.1 22 c) 23 c', μ.2) : aMem).1 23 = c' := rfl
    have e25 : ((va_up (va_up μ.1 22 c) 23 c', μ.2) : aMem).1 25 i = nI (tS X a b i) := h25 i hi
    have e7 : ((va_up (va_up μ.1 22 c) 23 c', μ.2) : aMem).1 7 (tS X a b i) = nI (X 1 (tS X a b i)) := hcd.2.1 _ hs
    have cf := g1 _ hs
    have cb := g2 _ hs
    have cf : (c (tS X a b i)).toInt = c32 X (tS X a b i) := by rw [cf]; unfold rf; rw [z0]; simp
    have cb : (c' (tS X a b i)).toInt = c32 X (tS X a b i) := by rw [cb]; unfold rb; rw [z0]; simp
    have hcd' : ∀ c c', cD (va_up (va_up μ.1 22 c) 23 c', μ.2) X := fun c c' => hcd.kept (fun k hk => by show va_up (va_up μ.1 22 c) 23 c' k = _; rw [va_up_ne _ _ (by omega), va_up_ne _ _ (by omega)])
    have em : ∀ u v : Int32, ((va_up (va_up (va_up (va_up μ.1 22 c) 23 c') 22 (upd c (tS X a b i) u)) 23 (upd c' (tS X a b i) v), μ.2) : aMem) = (va_up (va_up μ.1 22 (upd c (tS X a b i) u)) 23 (upd c' (tS X a b i) v), μ.2) := fun u v => by rw [va_up4]
    have goon : ∀ u v : Int32, u.toInt = rf (c32 X) (tZ X a b (i + 1)) (tS X a b i) → v.toInt = rb (c32 X) (tZ X a b (i + 1)) (tS X a b i) → a_Spec G sX0_across [.ref 1, .int (nI (tS X a b i)), .int (nI (tV X a b i))] (va_up (va_up (va_up (va_up μ.1 22 c) 23 c') 22 (upd c (tS X a b i) u)) 23 (upd c' (tS X a b i) v), μ.2) (fun r1 m1 => ∃ v1 : Int32, r1 = some (.int v1) ∧ a_Runs G sX3_turnSteps 4 [(0, .ref 3), (2, .int v1), (3, .int (nI i + nI 1))] [] m1 post) := by
      intro u v hu hvv
      rw [em]
      refine r_X0_across hd (hcd' _ _) hs (by omega) _ ⟨_, rfl, ?_⟩
      rw [nI_add, ← ev]
      refine ih (upd c (tS X a b i) u, upd c' (tS X a b i) v) ⟨fun k hk => ?_, fun k hk => ?_⟩
      · show (upd c (tS X a b i) u k).toInt = _
        by_cases ek : k = tS X a b i
        · rw [ek, pk_us]; exact hu
        · rw [pk_un ek, g1 k hk]; unfold rf
          have : tZ X a b (i + 1) k = tZ X a b i k := upZ_n _ _ ek
          rw [this]
      · show (upd c' (tS X a b i) v k).toInt = _
        by_cases ek : k = tS X a b i
        · rw [ek, pk_us]; exact hvv
        · rw [pk_un ek, g2 k hk]; unfold rb
          have : tZ X a b (i + 1) k = tZ X a b i k := upZ_n _ _ ek
          rw [this]
    have zn : tZ X a b (i + 1) (tS X a b i) = if X 1 (tS X a b i) = tV X a b i then 1 else -1 := upZ_s _ _ _
    have vi : i < 9 := by omega
    have vd : tS X a b i < 16 := by omega
    refine w_X3_turnSteps_4 _ _ ⟨fun h => ?_, fun _ => ?_⟩
    · have h : μ.1 3 5 ≤ nI i := h
      rw [h5, q_le (by omega) (by omega)] at h; omega
    rw [q_in (by omega), q_cl (by omega), e25, e22, e23, q_in (by omega), q_cl (by omega), e7, q_eq (by omega) (by omega)]
    refine ⟨vi, vd, fun h => ?_, fun h => ?_⟩
    · rw [if_neg h] at zn
      refine ⟨fun _ => ⟨vd, fun _ => ⟨vd, fun _ => ⟨vd, goon _ _ ?_ ?_⟩, fun h => absurd n00 h⟩, fun h => absurd n00 h⟩, fun h => absurd n00 h⟩
      · unfold rf; rw [zn, fb_negI (by omega), cb]; simp
      · unfold rb; rw [zn]; simp; rfl
    · rw [if_pos h] at zn
      refine ⟨fun h => absurd h n10, fun _ => ⟨vd, fun h => absurd h n10, fun _ => ⟨vd, fun h => absurd h n10, fun _ => ⟨vd, goon _ _ ?_ ?_⟩⟩⟩⟩
      · unfold rf; rw [zn]; simp; rfl
      · unfold rb; rw [zn, fb_negI (by omega), cf]; simp
theorem c_two (hd : xD X) (hcd : cD μ X) (x1 x2 : Int32) : a_Spec G sX6_two [.ref 0, .int x1, .int x2] μ (fun v ν => v = some (.int (aTwo X x1 x2)) ∧ a_eqx [3, 22, 23, 24, 25] μ ν) := by
  have hp16 := pow16 hd
  refine w_X6_two_0 _ _ (r_X6_isPlace _ _ ⟨_, rfl, br_b (fun h1 => ?_) (fun h1 => r_X6_isPlace _ _ ⟨_, rfl, br_n (fun h2 => br_d (fun h3 => ?_) (fun h3 => ?_)) (fun h2 => ?_)⟩)⟩)
  · have e : aTwo X x1 x2 = -1 := by simp [aTwo, h1]
    rw [e]; exact ⟨rfl, a_eqx.rf _ _⟩
  · have e : aTwo X x1 x2 = twoV X x1.toNatClampNeg x2.toNatClampNeg := by simp [aTwo, h1, h2, h3]
    rw [e]
    obtain ⟨e1, -, b1⟩ := inB_cl (by decide) (by decide) h1
    obtain ⟨e2, -, b2⟩ := inB_cl (by decide) (by decide) h2
    generalize x1.toNatClampNeg = a at *
    generalize x2.toNatClampNeg = b at *
    subst e1
    subst e2
    have ha : a < 10 := by omega
    have hb : b < 10 := by omega
    refine w_X3_leastLengthOfTwo_0 _ _ (r_X0_allBits hd hcd _ ⟨_, rfl, (r_X3_open hd hcd (s := 2 ^ X 0 0 - 1) (by omega)).mono ?_⟩)
    rintro v ν ⟨rfl, c, c', rfl, g1, g2⟩
    have pc : ∀ d, d < X 0 0 → prO X (fun d => (2 ^ X 0 0 - 1).testBit d) d = prO X (fun _ => true) d := fun d hd => by unfold prO; simp only [low_bit hd]
    have g1 : rZ c (prO X (fun _ => true)) (X 0 0) := fun i hi => by rw [← pc i hi]; exact g1 i hi
    have g2 : rZ c' (prO X (fun _ => true)) (X 0 0) := fun i hi => by rw [← pc i hi]; exact g2 i hi
    have hcd' : cD (va_up (va_up μ.1 22 c) 23 c', μ.2) X := hcd.kept (fun k hk => by show va_up (va_up μ.1 22 c) 23 c' k = _; rw [va_up_ne _ _ (by omega), va_up_ne _ _ (by omega)])
    have pbd : ∀ k, k < X 0 0 → prO X (fun _ => true) k = BIG ∨ (-4000 ≤ prO X (fun _ => true) k ∧ prO X (fun _ => true) k ≤ 4000) := fun k hk => by rcases prO_bd hd (fun _ => true) hk with h | h; exact Or.inl h; right; omega
    refine ⟨rfl, (r_X3_spread (μ := (va_up (va_up μ.1 22 c) 23 c', μ.2)) (π := fun _ => 0) hd hcd' (pf := prO X (fun _ => true)) (pb := prO X (fun _ => true)) g1 g2 pbd pbd (asO_ok hd _) (asO_pot hd _) hb).mono ?_⟩
    rintro v ν ⟨rfl, c2, rfl, g3⟩
    have g3 : rZ c2 (tT X b) 10 := g3
    have hform := tT_form hd hb
    have hB : (nI 1000000).toInt = BIG := by decide
    have e24 : ((va_up (va_up (va_up μ.1 22 c) 23 c') 24 c2, μ.2) : aMem).1 24 a = c2 a := rfl
    rw [q_in (by omega), q_cl (by omega)]
    refine ⟨rfl, ha, ?_⟩
    show (¬ c2 a = nI 1000000 → _) ∧ (c2 a = nI 1000000 → _)
    rw [z_eqI (c2 a) (nI 1000000), g3 a ha, hB]
    have hk : ∀ k, k ≠ 22 → k ≠ 23 → k ≠ 24 → (va_up (va_up (va_up μ.1 22 c) 23 c') 24 c2) k = μ.1 k := fun k h h' h'' => by rw [va_up_ne _ _ h'', va_up_ne _ _ h', va_up_ne _ _ h]
    refine ⟨fun h4 => ⟨ha, ?_⟩, fun h4 => ⟨_, rfl, ?_, fun k h => ⟨?_, rfl⟩⟩⟩
    · obtain ⟨p1, p2, p3⟩ := two_path hd hb h4
      obtain ⟨l1, l2⟩ := two_dist hd hb h4
      refine (r_X3_walk (μ := (va_up (va_up (va_up μ.1 22 c) 23 c') 24 c2, μ.2)) (X := X) (pf := prO X (fun _ => true)) (pb := prO X (fun _ => true)) (T := tT X b) (p := a) (g := b) (n := tN X a b) hd (hcd.kept (fun k h => hk k (by omega) (by omega) (by omega))) g1 g2 pbd pbd g3 ?_ ha hb p1 p2 (fun i hi => ⟨(p3 i hi).1, l1 i hi⟩)).mono ?_
      · exact fun v => by rcases hform v with h | h; exact Or.inl h; right; omega
      rintro v ν ⟨rfl, c25, e3, rfl, g5, g6⟩
      generalize hM : va_up (va_up (va_up (va_up (va_up μ.1 22 c) 23 c') 24 c2) 25 c25) 3 e3 = M
      have hM' : ∀ k, k ≠ 22 → k ≠ 23 → k ≠ 24 → k ≠ 25 → k ≠ 3 → M k = μ.1 k := fun k h h' h'' h3 h0 => by rw [← hM, va_up_ne _ _ h0, va_up_ne _ _ h3, va_up_ne _ _ h'', va_up_ne _ _ h', va_up_ne _ _ h]
      have m3 : M 3 5 = nI (tN X a b) := by rw [← hM, va_up_self]; exact g5
      have m25 : M 25 = c25 := by rw [← hM, va_up_ne _ _ (by decide), va_up_self]
      have m22 : M 22 = c := by rw [← hM]; rfl
      have m23 : M 23 = c' := by rw [← hM]; rfl
      refine ⟨rfl, (r_X3_turnSteps (μ := (M, μ.2)) hd (hcd.kept (fun k h => hM' k (by omega) (by omega) (by omega) (by omega) (by omega))) ha hb h4 m3 (fun k h => by show M 25 k = _; rw [m25]; exact g6 k h) ?_ ?_).mono ?_⟩
      · show rZ (M 22) _ _; rw [m22]; exact g1
      · show rZ (M 23) _ _; rw [m23]; exact g2
      rintro v ν ⟨rfl, d, d', rfl, k1, k2⟩
      obtain ⟨z1, z2, z3⟩ := tZ_flw hd hb h4
      have has := arcs_rsd (X := X) (c := c32 X) (z := tZ X a b (tN X a b)) (c32_bd hd)
      refine ⟨rfl, (r_X3_spread (μ := (va_up (va_up M 22 d) 23 d', μ.2)) (π := tT X b) hd ?_ (pf := rf (c32 X) (tZ X a b (tN X a b))) (pb := rb (c32 X) (tZ X a b (tN X a b))) k1 k2 (rf_bd hd) (rb_bd hd) (fun e he => rsd_ok hd (c32_bd hd) ((has e).mp he)) (fun e he => z3 e ((has e).mp he)) hb).mono ?_⟩
      · exact hcd.kept (fun k h => by show va_up (va_up M 22 d) 23 d' k = _; rw [va_up_ne _ _ (by omega), va_up_ne _ _ (by omega)]; exact hM' k (by omega) (by omega) (by omega) (by omega) (by omega))
      rintro v ν ⟨rfl, c4, rfl, k3⟩
      have k3 : rZ c4 (tU X a b) 10 := k3
      have hkk : ∀ k, k ∉ [3, 22, 23, 24, 25] → ((va_up (va_up (va_up M 22 d) 23 d') 24 c4, μ.2) : aMem).1 k = μ.1 k ∧ ((va_up (va_up (va_up M 22 d) 23 d') 24 c4, μ.2) : aMem).2 k = μ.2 k := fun k h => by
        simp only [List.mem_cons, List.not_mem_nil, or_false, not_or] at h
        refine ⟨?_, rfl⟩
        show va_up (va_up (va_up M 22 d) 23 d') 24 c4 k = _
        rw [va_up_ne _ _ (by omega), va_up_ne _ _ (by omega), va_up_ne _ _ (by omega)]
        exact hM' k (by omega) (by omega) (by omega) (by omega) (by omega)
      refine ⟨rfl, ha, ?_⟩
      show (¬ c4 a = nI 1000000 → _ ∧ _ ∧ (∃ v3 : Int32, some (Value.int ((c2 a + c4 a) / nI 32)) = some (Value.int v3) ∧ some (Value.int v3) = some (Value.int (twoV X a b)) ∧ a_eqx [3, 22, 23, 24, 25] μ (va_up (va_up (va_up M 22 d) 23 d') 24 c4, μ.2))) ∧ (c4 a = nI 1000000 → _)
      rw [z_eqI (c4 a) (nI 1000000), k3 a ha, hB]
      unfold twoV
      rw [if_neg h4]
      refine ⟨fun h5 => ⟨ha, by decide, _, rfl, ?_, hkk⟩, fun h5 => ⟨_, rfl, by rw [if_pos h5], hkk⟩⟩
      rw [if_neg h5]
      have nn := (two_C hd ha hb).2 h4 h5
      have b1 := (hform a).resolve_left h4
      have b2 : tU X a b a = BIG ∨ (-36000 ≤ tU X a b a ∧ tU X a b a ≤ 36000) := bf_bound (fun e he => rsd_ok hd (c32_bd hd) ((has e).mp he)) (fun e he => z3 e ((has e).mp he)) hb 9 a
      have b2 := b2.resolve_left h5
      obtain ⟨n, hn⟩ : ∃ n : Nat, tT X b a + tU X a b a = n := ⟨(tT X b a + tU X a b a).toNat, by omega⟩
      have es : c2 a + c4 a = nI n := by
        have w1 := g3 a ha
        have w2 := k3 a ha
        rw [← Int32.toInt_inj, fb_addI (by omega) (by omega), w1, w2, z_nI (by omega)]; exact hn
      rw [es, pk_div (by omega) (by decide) (by decide), hn]
      rfl
    · unfold twoV; rw [if_pos h4]
    · simp only [List.mem_cons, List.not_mem_nil, or_false, not_or] at h
      exact hk k (by omega) (by omega) (by omega)
  · have e : aTwo X x1 x2 = -3 := by subst h3; simp [aTwo, h1]
    rw [e]; exact ⟨rfl, a_eqx.rf _ _⟩
  · have e : aTwo X x1 x2 = -1 := by simp [aTwo, h1, h2]
    rw [e]; exact ⟨rfl, a_eqx.rf _ _⟩
end TWOC
