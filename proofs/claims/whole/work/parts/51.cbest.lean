section CBEST
variable {G : aG} {μ : aMem} {X : aX}
theorem pow14 (ho : xO X) : 2 ^ X 14 0 ≤ 256 ∧ 1 ≤ 2 ^ X 14 0 := by
  have h : 2 ^ X 14 0 ≤ 2 ^ 8 := Nat.pow_le_pow_right (by decide) ho.1
  have := Nat.two_pow_pos (X 14 0)
  omega
theorem a_eqx.ul {ks : List Nat} (μ : aMem) (k : Nat) (f : Nat → Int64) (hk : k ∈ ks) : a_eqx ks μ (μ.1, va_up μ.2 k f) := (a_eqx.upl μ k f).sub (fun j hj => by
  have : j = k := by simpa using hj
  rw [this]; exact hk)
theorem cO.kept {μ ν : aMem} {X : aX} (h : cO μ X) (h0 : ν.1 5 0 = μ.1 5 0) (h1 : ν.1 5 1 = μ.1 5 1) (h28 : ν.1 28 = μ.1 28) (h29 : ν.1 29 = μ.1 29) : cO ν X := by
  unfold cO; rw [h0, h1, h28, h29]; exact h
theorem r_X1_refresh (hx : xW X) (ho : xO X) (hcw : cW μ X) (hco : cO μ X) (hq : cQ μ X) : a_Spec G sX1_refresh [.ref 5] μ (fun v ν => v = none ∧ a_eqx [5, 30, 31, 32, 33, 34] μ ν ∧ cO ν X ∧ cQ ν X ∧ ν.2 34 (2 ^ X 14 0 - 1) = lN (plX X)) := by
  obtain ⟨p1, p2⟩ := pow14 ho
  obtain ⟨q1, q2, q3, q4⟩ := id hq
  have hK : ∀ A, A < 256 → kX X A ≤ 8200000 := fun A _ => (kX_le hx ho A).1
  generalize hpo : (fun (v : Option Value) (ν : aMem) => v = none ∧ a_eqx [5, 30, 31, 32, 33, 34] μ ν ∧ cO ν X ∧ cQ ν X ∧ ν.2 34 (2 ^ X 14 0 - 1) = lN (plX X)) = post
  refine w_X1_refresh_0 ⟨fun _ => ?_, fun h => ?_⟩
  · refine (r_X1_gatherSums hx ho hcw hco q1 q2 q3).mono ?_
    rintro v ν ⟨rfl, g1, g2⟩
    have e5 : ν.1 5 = μ.1 5 := (g1 5 (by simp)).1
    rw [e5, hco.1, q_pow (by have := ho.1; omega)]
    refine ⟨rfl, ?_⟩
    have g1' : a_eqx [30, 31, 32, 33, 34] μ ν := g1.sub (fun k hk => by simp at hk ⊢; omega)
    have main := a_for (fun t (N : aMem) => a_Runs G sX1_refresh 21 [(0, .ref 5), (1, .int (nI (2 ^ X 14 0))), (2, .int (nI t))] [] N post) (fun t N => 1 ≤ t ∧ a_eqx [30, 31, 32, 33, 34] μ N ∧ (∀ s, s < 2 ^ X 14 0 → gsI X N s) ∧ ∀ A, A ≠ 0 → A < t → N.1 32 A = nI (kX X A)) (2 ^ X 14 0) ?_ ?_ 1 ν (by omega) ⟨Nat.le_refl _, g1', g2, fun A h h' => by omega⟩
    · exact main
    · rintro N ⟨_, h1, h2, h3⟩
      refine w_X1_refresh_21 _ _ ⟨fun _ => ?_, fun h => absurd (by rw [q_le] <;> omega) h⟩
      rw [q_in (by omega), q_cl (by omega)]
      refine ⟨by omega, ?_⟩
      have main := a_for (fun t (N : aMem) => a_Runs G sX1_refresh 74 [(0, .ref 5), (1, .int (nI (2 ^ X 14 0))), (2, .int (nI t))] [] N post) (fun t N => 1 ≤ t ∧ a_eqx [30, 31, 32, 33, 34] μ N ∧ (∀ s, s < 2 ^ X 14 0 → gsI X N s) ∧ (∀ A, A ≠ 0 → A < 2 ^ X 14 0 → N.1 32 A = nI (kX X A)) ∧ ∀ A, A < t → N.2 34 A = lN (plP (kX X) A)) (2 ^ X 14 0) ?_ ?_ 1 (N.1, va_up N.2 34 (vp_updL (N.2 34) 0 (0 : Int64))) (by omega) ⟨Nat.le_refl _, h1.t2 (a_eqx.ul N 34 _ (by simp)), h2, h3, fun A h => ?_⟩
      · exact main
      · rintro N ⟨_, k1, k2, k3, k4⟩
        refine w_X1_refresh_74 _ _ ⟨fun _ => ⟨nI_00, ?_⟩, fun h => absurd (by rw [q_le] <;> omega) h⟩
        have e5 : N.1 5 = μ.1 5 := (k1 5 (by simp)).1
        rw [← hpo]
        have hpl : N.2 34 (2 ^ X 14 0 - 1) = lN (plX X) := k4 _ (by omega)
        have z := k2 0 (by omega)
        refine ⟨rfl, (k1.sub (fun k hk => by simp at hk ⊢; omega)).t2 (a_eqx.u1 N 5 _ (by simp)), ?_, ?_, hpl⟩
        · refine hco.kept ?_ ?_ ?_ ?_
          · show upd (N.1 5) 2 (nI 0) 0 = _
            rw [pk_un (by decide), e5]
          · show upd (N.1 5) 2 (nI 0) 1 = _
            rw [pk_un (by decide), e5]
          · exact (k1 28 (by simp)).1
          · exact (k1 29 (by simp)).1
        · have w30 : N.1 30 0 = nI 0 := by
            rw [z.1]; congr 1
            refine Nat.eq_of_testBit_eq (fun b => ?_)
            rw [Nat.zero_testBit]
            refine Bool.eq_false_iff.mpr (fun h => ?_)
            obtain ⟨j, _, h2⟩ := orF_bit.mp h
            simp at h2
          have w31 : N.1 31 0 = nI 0 := by
            rw [z.2.1]; congr 1
            unfold pcs
            rw [fb_sm_cong (g := fun _ => 0) (fun k _ => by simp), fb_sm_const]; omega
          have w33 : N.1 33 0 = nI 0 := by rw [z.2.2, uS_0]
          exact ⟨w30, w31, w33, fun _ => hpl⟩
      · rintro t N ht ⟨k0, k1, k2, k3, k4⟩ ih
        refine w_X1_refresh_74 _ _ ⟨fun h => ?_, fun _ => ?_⟩
        · rw [q_le (by omega) (by omega)] at h; omega
        refine r_X1_leastPlan hx ho ht (by omega) k3 (fun A hA => (k2 A hA).2.2) k4 _ ⟨_, rfl, ?_⟩
        rw [q_in (by omega), q_cl (by omega), nI_add]
        refine ⟨by omega, ih _ ⟨by omega, k1.t2 (a_eqx.ul N 34 _ (by simp)), k2, k3, fun A hA => ?_⟩⟩
        show vp_updL (N.2 34) t _ A = _
        by_cases e : A = t
        · rw [e, vp_updL_s]
        · rw [vp_updL_n _ _ e]; exact k4 A (by omega)
      · have : A = 0 := by omega
        subst this
        show vp_updL (N.2 34) 0 (0 : Int64) 0 = _
        rw [vp_updL_s, plP_0]; rfl
    · rintro t N ht ⟨k0, h1, h2, h3⟩ ih
      have hcwN : cW N X := hcw.kept (fun k hk => (h1 k (by simp; omega)).1)
      have e5 : N.1 5 1 = nI (X 17 0) := by rw [(h1 5 (by simp)).1]; exact hco.2.1
      obtain ⟨s1, s2, s3⟩ := h2 t ht
      have hwf := wfM_lt hx t
      have hkk := kX_le hx ho t
      refine w_X1_refresh_21 _ _ ⟨fun h => ?_, fun _ => ?_⟩
      · rw [q_le (by omega) (by omega)] at h; omega
      rw [q_in (by omega), q_cl (by omega), s1]
      refine ⟨by omega, r_X5_weightOf hx hcwN (by omega) _ ⟨_, rfl, ?_⟩⟩
      rw [wg_eq, e5, s2, pk_mul, nI_add, nI_add]
      refine ⟨by omega, by omega, ih _ ⟨by omega, h1.t2 (a_eqx.u1 N 32 _ (by simp)), h2, fun A hA hA2 => ?_⟩⟩
      show upd (N.1 32) t _ A = _
      by_cases e : A = t
      · rw [e, pk_us]; rfl
      · rw [pk_un e]; exact h3 A hA (by omega)
  · rw [← hpo]
    exact ⟨rfl, a_eqx.rf _ _, hco, hq, q4 h⟩
theorem plX_bd (hx : xW X) (ho : xO X) : plX X ≤ 2 ^ 52 := plP_bd (fun A _ => (kX_le hx ho A).1) (by have := pow14 ho; omega)
theorem c_best (hx : xW X) (ho : xO X) (hcw : cW μ X) (hco : cO μ X) (hq : cQ μ X) : a_Spec G sX6_best [.ref 0] μ (fun v ν => v = some (.long (aBest X)) ∧ a_eqx [5, 30, 31, 32, 33, 34] μ ν ∧ cO ν X ∧ cQ ν X) := by
  have p := pow14 ho
  have hb := plX_bd hx ho
  refine w_X6_best_0 (w_X1_bestCost_0 ((r_X1_refresh hx ho hcw hco hq).mono ?_))
  rintro v ν ⟨rfl, g1, g2, g3, g4⟩
  refine ⟨rfl, r_X1_allBits ho g2 _ ⟨_, rfl, ?_⟩⟩
  rw [q_in (by omega), q_cl (by omega), g4, q_shr64 (by omega) (by decide)]
  exact ⟨by omega, _, rfl, rfl, g1, g2, g3⟩
theorem c_loom (hx : xW X) (ho : xO X) (hcw : cW μ X) (hco : cO μ X) (hq : cQ μ X) (x : Int32) : a_Spec G sX6_loom [.ref 0, .int x] μ (fun v ν => v = some (.int (aLoom X x)) ∧ a_eqx [5, 30, 31, 32, 33, 34] μ ν ∧ cO ν X ∧ cQ ν X) := by
  have p := pow14 ho
  have hm := ho.1
  have hb := plX_bd hx ho
  refine w_X6_loom_0 _ (r_X6_isWithin _ _ _ _ ⟨_, rfl, ?_⟩)
  rw [hco.1]
  refine br_n (fun h1 => ?_) (fun h1 => ?_)
  · obtain ⟨e1, b1⟩ := inB_wi (by omega) h1
    have e : aLoom X x = nI (plX X / 8 ^ (7 - x.toNatClampNeg) % 8) := by unfold aLoom; rw [if_pos h1]
    rw [e]
    generalize x.toNatClampNeg = o at *
    subst e1
    refine w_X1_loomOf_0 _ ((r_X1_refresh hx ho hcw hco hq).mono ?_)
    rintro v ν ⟨rfl, g1, g2, g3, g4⟩
    refine ⟨rfl, r_X1_allBits ho g2 _ ⟨_, rfl, ?_⟩⟩
    rw [q_in (by omega), q_cl (by omega), g4]
    refine ⟨by omega, w_X1_loomShift_0 _ ⟨_, rfl, _, rfl, ?_, g1, g2, g3⟩⟩
    have hle : plX X / 2 ^ ((7 - o) * 3) ≤ plX X := Nat.div_le_self _ _
    rw [q_sub (by omega), pk_mul, q_shr64 (by omega) (by omega), lN_i, fa_and, p38]
    congr 2
    have := Nat.and_two_pow_sub_one_eq_mod (plX X / 8 ^ (7 - o)) 3
    show nI (plX X / 8 ^ (7 - o) &&& (2 ^ 3 - 1)) = _
    rw [this]
  · have e : aLoom X x = -1 := by unfold aLoom; rw [h1]; rfl
    rw [e]; exact ⟨rfl, a_eqx.rf _ _, hco, hq⟩
end CBEST
