section OPS2
variable {G : aG} {μ : aMem} {X : aX}
theorem c_wire (hx : xW X) (hc : cW μ X) (x1 x2 x3 x4 : Int32) : a_Spec G sX6_wire [.ref 0, .int x1, .int x2, .int x3, .int x4] μ (fun v ν => v = some (.int (fWire X x1 x2 x3 x4).1) ∧ cW ν (fWire X x1 x2 x3 x4).2 ∧ a_eqx [2, 5, 13, 14, 15, 16] μ ν ∧ (∀ j, j ≠ 2 → ν.1 5 j = μ.1 5 j) ∧ (ν = μ ∧ (fWire X x1 x2 x3 x4).2 = X ∨ ν.1 5 2 = nI 1)) := by
  have hn := hx.1
  refine w_X6_wire_0 _ _ _ _ (r_X6_isPlace _ _ ⟨_, rfl, br_b (fun h1 => ?_) (fun h1 => r_X6_isPlace _ _ ⟨_, rfl, br_n (fun h2 => r_X6_isWithin _ _ _ _ ⟨_, rfl, br_b (fun h3 => ?_) (fun h3 => r_X6_isKind _ _ ⟨_, rfl, br_n (fun h4 => br_d (fun h5 => ⟨fun h6 => ⟨nI_11, ?_⟩, fun h6 => ?_⟩) (fun h5 => ?_)) (fun h4 => ?_)⟩)⟩) (fun h2 => ?_)⟩)⟩)
  · have e : fWire X x1 x2 x3 x4 = (-1, X) := by simp [fWire, h1]
    rw [e]; exact ⟨rfl, hc, a_eqx.rf _ _, fun _ _ => rfl, Or.inl ⟨rfl, rfl⟩⟩
  · have e : fWire X x1 x2 x3 x4 = (-2, X) := by simp [fWire, h1, h2, h3]
    rw [e]; exact ⟨rfl, hc, a_eqx.rf _ _, fun _ _ => rfl, Or.inl ⟨rfl, rfl⟩⟩
  · obtain ⟨c0, c1, c2, c3, c4, c5⟩ := hc
    rw [c0, q_lt (by omega) (by omega)] at h6
    have e : fWire X x1 x2 x3 x4 = (nI (X 5 0), wX X x1.toNatClampNeg x2.toNatClampNeg x3.toNatClampNeg x4.toNatClampNeg) := by simp [fWire, h1, h2, h3, h4, h5, h6]
    rw [e]
    obtain ⟨e1, -, b1⟩ := inB_cl (by decide) (by decide) h1
    obtain ⟨e2, -, b2⟩ := inB_cl (by decide) (by decide) h2
    obtain ⟨e3, -, b3⟩ := inB_cl (by decide) (by decide) h3
    obtain ⟨e4, -, b4⟩ := inB_cl (by decide) (by decide) h4
    refine w_X5_add_0 _ _ _ _ ?_
    have f2 : ((va_up μ.1 5 (upd (μ.1 5) 2 (nI 1)), μ.2) : aMem).1 2 = μ.1 2 := rfl
    rw [f2, c0, q_in (by omega), q_cl (by omega), nI_add]
    refine ⟨h6, h6, h6, h6, _, rfl, rfl, ⟨?_, ?_, ?_, ?_, ?_, ?_⟩, ?_, ?_, Or.inr ?_⟩
    · show upd (μ.1 2) 0 (nI (X 5 0 + 1)) 0 = nI (upN (X 5) 0 (X 5 0 + 1) 0)
      rw [pk_us, upN_s]
    · show rp (upd (μ.1 13) (X 5 0) x1) (upN (X 6) (X 5 0) x1.toNatClampNeg) (upN (X 5) 0 (X 5 0 + 1) 0)
      rw [upN_s]; exact rp_push c1 e1
    · show rp (upd (μ.1 14) (X 5 0) x2) (upN (X 7) (X 5 0) x2.toNatClampNeg) (upN (X 5) 0 (X 5 0 + 1) 0)
      rw [upN_s]; exact rp_push c2 e2
    · show rp (upd (μ.1 15) (X 5 0) x3) (upN (X 8) (X 5 0) x3.toNatClampNeg) (upN (X 5) 0 (X 5 0 + 1) 0)
      rw [upN_s]; exact rp_push c3 e3
    · show rp (upd (μ.1 16) (X 5 0) x4) (upN (X 9) (X 5 0) x4.toNatClampNeg) (upN (X 5) 0 (X 5 0 + 1) 0)
      rw [upN_s]; exact rp_push c4 e4
    · exact c5
    · intro k hk
      simp only [List.mem_cons, List.not_mem_nil, or_false, not_or] at hk
      obtain ⟨k1, k5, k7, k8, k9, k10⟩ := hk
      refine ⟨?_, rfl⟩
      show va_up (va_up (va_up (va_up (va_up (va_up μ.1 5 _) 13 _) 14 _) 15 _) 16 _) 2 _ k = _
      rw [va_up_ne _ _ k1, va_up_ne _ _ k10, va_up_ne _ _ k9, va_up_ne _ _ k8, va_up_ne _ _ k7, va_up_ne _ _ k5]
    · intro j hj
      show upd (μ.1 5) 2 _ j = _
      exact pk_un hj
    · exact pk_us (f := μ.1 5) (k := 2) (x := nI 1)
  · rw [hc.1, q_lt (by omega) (by omega)] at h6
    have e : fWire X x1 x2 x3 x4 = (-4, X) := by simp [fWire, h1, h2, h3, h4, h5, h6]
    rw [e]; exact ⟨rfl, hc, a_eqx.rf _ _, fun _ _ => rfl, Or.inl ⟨rfl, rfl⟩⟩
  · have e : fWire X x1 x2 x3 x4 = (-3, X) := by subst h5; simp [fWire, h1, h3, h4]
    rw [e]; exact ⟨rfl, hc, a_eqx.rf _ _, fun _ _ => rfl, Or.inl ⟨rfl, rfl⟩⟩
  · have e : fWire X x1 x2 x3 x4 = (-2, X) := by simp [fWire, h1, h2, h3, h4]
    rw [e]; exact ⟨rfl, hc, a_eqx.rf _ _, fun _ _ => rfl, Or.inl ⟨rfl, rfl⟩⟩
  · have e : fWire X x1 x2 x3 x4 = (-1, X) := by simp [fWire, h1, h2]
    rw [e]; exact ⟨rfl, hc, a_eqx.rf _ _, fun _ _ => rfl, Or.inl ⟨rfl, rfl⟩⟩
theorem m_wire (hx : xW X) (hm : mW μ X) (x1 x2 x3 x4 : Int32) : a_Spec G sX7_wire [.ref 36, .int x1, .int x2, .int x3, .int x4] μ (fun v ν => v = some (.int (fWire X x1 x2 x3 x4).1) ∧ mW ν (fWire X x1 x2 x3 x4).2 ∧ a_eqx [36, 41, 42, 43, 44] μ ν ∧ ∀ j, j ≠ 5 → ν.1 36 j = μ.1 36 j) := by
  have hn := hx.1
  refine w_X7_wire_0 _ _ _ _ (r_X7_isPlace _ _ ⟨_, rfl, br_b (fun h1 => ?_) (fun h1 => r_X7_isPlace _ _ ⟨_, rfl, br_n (fun h2 => r_X7_in _ _ _ _ ⟨_, rfl, br_b (fun h3 => ?_) (fun h3 => r_X7_in _ _ _ _ ⟨_, rfl, br_n (fun h4 => br_d (fun h5 => br_d (fun h6 => ?_) (fun h6 => ?_)) (fun h5 => ?_)) (fun h4 => ?_)⟩)⟩) (fun h2 => ?_)⟩)⟩)
  · have e : fWire X x1 x2 x3 x4 = (-1, X) := by simp [fWire, h1]
    rw [e]; exact ⟨rfl, hm, a_eqx.rf _ _, fun _ _ => rfl⟩
  · have e : fWire X x1 x2 x3 x4 = (-2, X) := by simp [fWire, h1, h2, h3]
    rw [e]; exact ⟨rfl, hm, a_eqx.rf _ _, fun _ _ => rfl⟩
  · obtain ⟨c0, c1, c2, c3, c4, c5⟩ := hm
    rw [c0, q_eq (by omega) (by omega)] at h6
    have h7 : X 5 0 < 20 := by omega
    have e : fWire X x1 x2 x3 x4 = (nI (X 5 0), wX X x1.toNatClampNeg x2.toNatClampNeg x3.toNatClampNeg x4.toNatClampNeg) := by simp [fWire, h1, h2, h3, h4, h5, h7]
    rw [e, c0, q_in (by omega), q_cl (by omega), pk_us, nI_add, q_sub (by omega), Nat.add_sub_cancel]
    obtain ⟨e1, -, b1⟩ := inB_cl (by decide) (by decide) h1
    obtain ⟨e2, -, b2⟩ := inB_cl (by decide) (by decide) h2
    obtain ⟨e3, -, b3⟩ := inB_cl (by decide) (by decide) h3
    obtain ⟨e4, -, b4⟩ := inB_cl (by decide) (by decide) h4
    refine ⟨h7, h7, h7, h7, rfl, ⟨?_, ?_, ?_, ?_, ?_, ?_⟩, ?_, ?_⟩
    · show upd (μ.1 36) 5 (nI (X 5 0 + 1)) 5 = nI (upN (X 5) 0 (X 5 0 + 1) 0)
      rw [pk_us, upN_s]
    · show rp (upd (μ.1 41) (X 5 0) x1) (upN (X 6) (X 5 0) x1.toNatClampNeg) (upN (X 5) 0 (X 5 0 + 1) 0)
      rw [upN_s]; exact rp_push c1 e1
    · show rp (upd (μ.1 42) (X 5 0) x2) (upN (X 7) (X 5 0) x2.toNatClampNeg) (upN (X 5) 0 (X 5 0 + 1) 0)
      rw [upN_s]; exact rp_push c2 e2
    · show rp (upd (μ.1 43) (X 5 0) x3) (upN (X 8) (X 5 0) x3.toNatClampNeg) (upN (X 5) 0 (X 5 0 + 1) 0)
      rw [upN_s]; exact rp_push c3 e3
    · show rp (upd (μ.1 44) (X 5 0) x4) (upN (X 9) (X 5 0) x4.toNatClampNeg) (upN (X 5) 0 (X 5 0 + 1) 0)
      rw [upN_s]; exact rp_push c4 e4
    · exact c5
    · intro k hk
      simp only [List.mem_cons, List.not_mem_nil, or_false, not_or] at hk
      obtain ⟨k1, k7, k8, k9, k10⟩ := hk
      refine ⟨?_, rfl⟩
      show va_up (va_up (va_up (va_up (va_up μ.1 41 _) 42 _) 43 _) 44 _) 36 _ k = _
      rw [va_up_ne _ _ k1, va_up_ne _ _ k10, va_up_ne _ _ k9, va_up_ne _ _ k8, va_up_ne _ _ k7]
    · intro j hj
      show upd (μ.1 36) 5 _ j = _
      exact pk_un hj
  · rw [hm.1, q_eq (by omega) (by omega)] at h6
    have e : fWire X x1 x2 x3 x4 = (-4, X) := by simp [fWire, h1, h2, h3, h4, h5, h6]
    rw [e]; exact ⟨rfl, hm, a_eqx.rf _ _, fun _ _ => rfl⟩
  · have e : fWire X x1 x2 x3 x4 = (-3, X) := by subst h5; simp [fWire, h1, h3, h4]
    rw [e]; exact ⟨rfl, hm, a_eqx.rf _ _, fun _ _ => rfl⟩
  · have e : fWire X x1 x2 x3 x4 = (-2, X) := by simp [fWire, h1, h2, h3, h4]
    rw [e]; exact ⟨rfl, hm, a_eqx.rf _ _, fun _ _ => rfl⟩
  · have e : fWire X x1 x2 x3 x4 = (-1, X) := by simp [fWire, h1, h2]
    rw [e]; exact ⟨rfl, hm, a_eqx.rf _ _, fun _ _ => rfl⟩
theorem c_option (hx : xW X) (hc : cW μ X) (x1 x2 : Int32) : a_Spec G sX6_option [.ref 0, .int x1, .int x2] μ (fun v ν => v = some (.int (fOption X x1 x2).1) ∧ cW ν (fOption X x1 x2).2 ∧ a_eqx [5, 17] μ ν ∧ (∀ j, j ≠ 2 → ν.1 5 j = μ.1 5 j) ∧ (ν = μ ∧ (fOption X x1 x2).2 = X ∨ ν.1 5 2 = nI 1)) := by
  have hn := hx.1
  obtain ⟨c0, c1, c2, c3, c4, c5⟩ := id hc
  refine w_X6_option_0 _ _ (r_X6_isWire _ _ ⟨_, rfl, br_n (fun h1 => r_X6_isWithin _ _ _ _ ⟨_, rfl, br_n (fun h2 => ?_) (fun h2 => ?_)⟩) (fun h1 => ?_)⟩)
  · rw [c0] at h1
    have e : fOption X x1 x2 = (nI (X 10 x1.toNatClampNeg), va_up X 10 (upN (X 10) x1.toNatClampNeg x2.toNatClampNeg)) := by simp [fOption, h1, h2]
    obtain ⟨e1, b1⟩ := inB_wi (by omega) h1
    obtain ⟨e2, -, b2⟩ := inB_cl (by decide) (by decide) h2
    have hin : vp_in x1 20 := by rw [e1, q_in (by omega)]; omega
    rw [e]
    refine ⟨hin, hin, nI_11, ?_, ⟨c0, c1, c2, c3, c4, ?_⟩, ?_, ?_, Or.inr ?_⟩
    · rw [c5 _ (by omega)]
    · show rp (upd (μ.1 17) x1.toNatClampNeg x2) (upN (X 10) x1.toNatClampNeg x2.toNatClampNeg) 20
      exact rp_at c5 e2
    · intro k hk
      simp only [List.mem_cons, List.not_mem_nil, or_false, not_or] at hk
      refine ⟨?_, rfl⟩
      show va_up (va_up μ.1 17 _) 5 _ k = _
      rw [va_up_ne _ _ hk.1, va_up_ne _ _ hk.2]
    · intro j hj; exact pk_un hj
    · exact pk_us (f := μ.1 5) (k := 2) (x := nI 1)
  · rw [c0] at h1
    have e : fOption X x1 x2 = (-2, X) := by simp [fOption, h1, h2]
    rw [e]; exact ⟨rfl, hc, a_eqx.rf _ _, fun _ _ => rfl, Or.inl ⟨rfl, rfl⟩⟩
  · rw [c0] at h1
    have e : fOption X x1 x2 = (-1, X) := by simp [fOption, h1]
    rw [e]; exact ⟨rfl, hc, a_eqx.rf _ _, fun _ _ => rfl, Or.inl ⟨rfl, rfl⟩⟩
theorem m_option (hx : xW X) (hm : mW μ X) (x1 x2 : Int32) : a_Spec G sX7_option [.ref 36, .int x1, .int x2] μ (fun v ν => v = some (.int (fOption X x1 x2).1) ∧ mW ν (fOption X x1 x2).2 ∧ a_eqx [45] μ ν) := by
  have hn := hx.1
  obtain ⟨c0, c1, c2, c3, c4, c5⟩ := id hm
  refine w_X7_option_0 _ _ (r_X7_isWire _ _ ⟨_, rfl, br_n (fun h1 => r_X7_in _ _ _ _ ⟨_, rfl, br_n (fun h2 => ?_) (fun h2 => ?_)⟩) (fun h1 => ?_)⟩)
  · rw [c0] at h1
    have e : fOption X x1 x2 = (nI (X 10 x1.toNatClampNeg), va_up X 10 (upN (X 10) x1.toNatClampNeg x2.toNatClampNeg)) := by simp [fOption, h1, h2]
    obtain ⟨e1, b1⟩ := inB_wi (by omega) h1
    obtain ⟨e2, -, b2⟩ := inB_cl (by decide) (by decide) h2
    have hin : vp_in x1 20 := by rw [e1, q_in (by omega)]; omega
    rw [e]
    refine ⟨hin, hin, ?_, ⟨c0, c1, c2, c3, c4, ?_⟩, a_eqx.up _ _ _⟩
    · rw [c5 _ (by omega)]
    · show rp (upd (μ.1 45) x1.toNatClampNeg x2) (upN (X 10) x1.toNatClampNeg x2.toNatClampNeg) 20
      exact rp_at c5 e2
  · rw [c0] at h1
    have e : fOption X x1 x2 = (-2, X) := by simp [fOption, h1, h2]
    rw [e]; exact ⟨rfl, hm, a_eqx.rf _ _⟩
  · rw [c0] at h1
    have e : fOption X x1 x2 = (-1, X) := by simp [fOption, h1]
    rw [e]; exact ⟨rfl, hm, a_eqx.rf _ _⟩
theorem c_order (hx : xO X) (hc : cO μ X) (x1 x2 : Int32) : a_Spec G sX6_order [.ref 0, .int x1, .int x2] μ (fun v ν => v = some (.int (fOrder X x1 x2).1) ∧ cO ν (fOrder X x1 x2).2 ∧ a_eqx [5, 28, 29] μ ν ∧ (ν = μ ∧ (fOrder X x1 x2).2 = X ∨ ν.1 5 2 = nI 1)) := by
  have hn := hx.1
  obtain ⟨c0, c1, c2, c3⟩ := id hc
  refine w_X6_order_0 _ _ (r_X6_isWithin _ _ _ _ ⟨_, rfl, br_b (fun h1 => ?_) (fun h1 => r_X6_isWithin _ _ _ _ ⟨_, rfl, br_n (fun h2 => ⟨fun h3 => ?_, fun h3 => ?_⟩) (fun h2 => ?_)⟩)⟩)
  · have e : fOrder X x1 x2 = (-2, X) := by simp [fOrder, h1]
    rw [e]; exact ⟨rfl, hc, a_eqx.rf _ _, Or.inl ⟨rfl, rfl⟩⟩
  · rw [c0, q_lt (by omega) (by omega)] at h3
    have e : fOrder X x1 x2 = (nI (X 14 0), oX X x1.toNatClampNeg x2.toNatClampNeg) := by simp [fOrder, h1, h2, h3]
    obtain ⟨e1, -, b1⟩ := inB_cl (by decide) (by decide) h1
    obtain ⟨e2, -, b2⟩ := inB_cl (by decide) (by decide) h2
    rw [e]
    refine w_X1_add_0 _ _ ?_
    rw [c0, q_in (by omega), q_cl (by omega), nI_add]
    refine ⟨h3, h3, nI_11, _, rfl, rfl, ⟨?_, ?_, ?_, ?_⟩, ?_, Or.inr ?_⟩
    · show upd (upd (μ.1 5) 0 (nI (X 14 0 + 1))) 2 (nI 1) 0 = nI (upN (X 14) 0 (X 14 0 + 1) 0)
      rw [pk_un (by decide), pk_us, upN_s]
    · show upd (upd (μ.1 5) 0 (nI (X 14 0 + 1))) 2 (nI 1) 1 = nI (X 17 0)
      rw [pk_un (by decide), pk_un (by decide), c1]
    · show rp (upd (μ.1 28) (X 14 0) x1) (upN (X 15) (X 14 0) x1.toNatClampNeg) (upN (X 14) 0 (X 14 0 + 1) 0)
      rw [upN_s]; exact rp_push c2 e1
    · show rp (upd (μ.1 29) (X 14 0) x2) (upN (X 16) (X 14 0) x2.toNatClampNeg) (upN (X 14) 0 (X 14 0 + 1) 0)
      rw [upN_s]; exact rp_push c3 e2
    · intro k hk
      simp only [List.mem_cons, List.not_mem_nil, or_false, not_or] at hk
      refine ⟨?_, rfl⟩
      show va_up (va_up (va_up (va_up μ.1 28 _) 29 _) 5 _) 5 _ k = _
      rw [va_up_ne _ _ hk.1, va_up_ne _ _ hk.1, va_up_ne _ _ hk.2.2, va_up_ne _ _ hk.2.1]
    · exact pk_us (f := upd (μ.1 5) 0 (nI (X 14 0 + 1))) (k := 2) (x := nI 1)
  · rw [c0, q_lt (by omega) (by omega)] at h3
    have e : fOrder X x1 x2 = (-4, X) := by simp [fOrder, h1, h2, h3]
    rw [e]; exact ⟨rfl, hc, a_eqx.rf _ _, Or.inl ⟨rfl, rfl⟩⟩
  · have e : fOrder X x1 x2 = (-2, X) := by simp [fOrder, h1, h2]
    rw [e]; exact ⟨rfl, hc, a_eqx.rf _ _, Or.inl ⟨rfl, rfl⟩⟩
theorem m_order (hx : xO X) (hm : mO μ X) (x1 x2 : Int32) : a_Spec G sX7_order [.ref 36, .int x1, .int x2] μ (fun v ν => v = some (.int (fOrder X x1 x2).1) ∧ mO ν (fOrder X x1 x2).2 ∧ a_eqx [36, 57, 58] μ ν ∧ ∀ j, j ≠ 22 → ν.1 36 j = μ.1 36 j) := by
  have hn := hx.1
  obtain ⟨c0, c1, c2, c3⟩ := id hm
  refine w_X7_order_0 _ _ (r_X7_in _ _ _ _ ⟨_, rfl, br_b (fun h1 => ?_) (fun h1 => r_X7_in _ _ _ _ ⟨_, rfl, br_n (fun h2 => br_d (fun h3 => ?_) (fun h3 => ?_)) (fun h2 => ?_)⟩)⟩)
  · have e : fOrder X x1 x2 = (-2, X) := by simp [fOrder, h1]
    rw [e]; exact ⟨rfl, hm, a_eqx.rf _ _, fun _ _ => rfl⟩
  · rw [c0, q_eq (by omega) (by omega)] at h3
    have h4 : X 14 0 < 8 := by omega
    have e : fOrder X x1 x2 = (nI (X 14 0), oX X x1.toNatClampNeg x2.toNatClampNeg) := by simp [fOrder, h1, h2, h4]
    obtain ⟨e1, -, b1⟩ := inB_cl (by decide) (by decide) h1
    obtain ⟨e2, -, b2⟩ := inB_cl (by decide) (by decide) h2
    rw [e, c0, q_in (by omega), q_cl (by omega), pk_us, nI_add, q_sub (by omega), Nat.add_sub_cancel]
    refine ⟨h4, h4, rfl, ⟨?_, ?_, ?_, ?_⟩, ?_, ?_⟩
    · show upd (μ.1 36) 22 (nI (X 14 0 + 1)) 22 = nI (upN (X 14) 0 (X 14 0 + 1) 0)
      rw [pk_us, upN_s]
    · show upd (μ.1 36) 22 (nI (X 14 0 + 1)) 25 = nI (X 17 0)
      rw [pk_un (by decide), c1]
    · show rp (upd (μ.1 57) (X 14 0) x1) (upN (X 15) (X 14 0) x1.toNatClampNeg) (upN (X 14) 0 (X 14 0 + 1) 0)
      rw [upN_s]; exact rp_push c2 e1
    · show rp (upd (μ.1 58) (X 14 0) x2) (upN (X 16) (X 14 0) x2.toNatClampNeg) (upN (X 14) 0 (X 14 0 + 1) 0)
      rw [upN_s]; exact rp_push c3 e2
    · intro k hk
      simp only [List.mem_cons, List.not_mem_nil, or_false, not_or] at hk
      refine ⟨?_, rfl⟩
      show va_up (va_up (va_up μ.1 57 _) 58 _) 36 _ k = _
      rw [va_up_ne _ _ hk.1, va_up_ne _ _ hk.2.2, va_up_ne _ _ hk.2.1]
    · intro j hj
      show upd (μ.1 36) 22 _ j = _
      exact pk_un hj
  · rw [c0, q_eq (by omega) (by omega)] at h3
    have e : fOrder X x1 x2 = (-4, X) := by simp [fOrder, h1, h2, h3]
    rw [e]; exact ⟨rfl, hm, a_eqx.rf _ _, fun _ _ => rfl⟩
  · have e : fOrder X x1 x2 = (-2, X) := by simp [fOrder, h1, h2]
    rw [e]; exact ⟨rfl, hm, a_eqx.rf _ _, fun _ _ => rfl⟩
theorem c_setup (hc : cO μ X) (x : Int32) : a_Spec G sX6_setup [.ref 0, .int x] μ (fun v ν => v = some (.int (fSetup X x).1) ∧ cO ν (fSetup X x).2 ∧ a_eqx [5] μ ν ∧ (ν = μ ∧ (fSetup X x).2 = X ∨ ν.1 5 2 = nI 1)) := by
  obtain ⟨c0, c1, c2, c3⟩ := id hc
  refine w_X6_setup_0 _ (r_X6_isWithin _ _ _ _ ⟨_, rfl, br_n (fun h1 => ⟨nI_11, ?_⟩) (fun h1 => ?_)⟩)
  · have e : fSetup X x = (nI (X 17 0), va_up X 17 (upN (X 17) 0 x.toNatClampNeg)) := by simp [fSetup, h1]
    obtain ⟨e1, -, b1⟩ := inB_cl (by decide) (by decide) h1
    rw [e]
    refine ⟨by rw [c1], ⟨?_, ?_, c2, c3⟩, ?_, Or.inr ?_⟩
    · show upd (upd (μ.1 5) 1 x) 2 (nI 1) 0 = nI (X 14 0)
      rw [pk_un (by decide), pk_un (by decide), c0]
    · show upd (upd (μ.1 5) 1 x) 2 (nI 1) 1 = nI (upN (X 17) 0 x.toNatClampNeg 0)
      rw [pk_un (by decide), pk_us, upN_s]; exact e1
    · intro k hk
      simp only [List.mem_cons, List.not_mem_nil, or_false] at hk
      refine ⟨?_, rfl⟩
      show va_up (va_up μ.1 5 _) 5 _ k = _
      rw [va_up_ne _ _ hk, va_up_ne _ _ hk]
    · show upd (upd (μ.1 5) 1 x) 2 (nI 1) 2 = _
      rw [pk_us]
  · have e : fSetup X x = (-2, X) := by simp [fSetup, h1]
    rw [e]; exact ⟨rfl, hc, a_eqx.rf _ _, Or.inl ⟨rfl, rfl⟩⟩
theorem m_setup (hm : mO μ X) (x : Int32) : a_Spec G sX7_setup [.ref 36, .int x] μ (fun v ν => v = some (.int (fSetup X x).1) ∧ mO ν (fSetup X x).2 ∧ a_eqx [36] μ ν ∧ ∀ j, j ≠ 25 → ν.1 36 j = μ.1 36 j) := by
  obtain ⟨c0, c1, c2, c3⟩ := id hm
  refine w_X7_setup_0 _ (r_X7_in _ _ _ _ ⟨_, rfl, br_n (fun h1 => ?_) (fun h1 => ?_)⟩)
  · have e : fSetup X x = (nI (X 17 0), va_up X 17 (upN (X 17) 0 x.toNatClampNeg)) := by simp [fSetup, h1]
    obtain ⟨e1, -, b1⟩ := inB_cl (by decide) (by decide) h1
    rw [e]
    refine ⟨by rw [c1], ⟨?_, ?_, c2, c3⟩, a_eqx.up _ _ _, fun j hj => pk_un hj⟩
    · show upd (μ.1 36) 25 x 22 = nI (X 14 0)
      rw [pk_un (by decide), c0]
    · show upd (μ.1 36) 25 x 25 = nI (upN (X 17) 0 x.toNatClampNeg 0)
      rw [pk_us, upN_s]; exact e1
  · have e : fSetup X x = (-2, X) := by simp [fSetup, h1]
    rw [e]; exact ⟨rfl, hm, a_eqx.rf _ _, fun _ _ => rfl⟩
end OPS2
