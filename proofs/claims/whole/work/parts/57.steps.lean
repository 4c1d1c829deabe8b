/-! ===== each call, over the whole invariant ===== -/
section STEPS
variable {G : aG} {μ : aMem} {X : aX}
theorem kc_clashes (hJ : J μ X)  : a_Spec G sX6_clashes [.ref 0] μ (fun v ν => v = some (.int (nI (fb_ct (clB X) (X 5 0)))) ∧ JC ν X ∧ hiS μ ν) := by
  obtain ⟨x, c, _⟩ := hJ
  exact (r_X6_clashes x.1 x.2.1 x.2.2.1 x.2.2.2.1 c.2.1 c.2.2.1 c.2.2.2.1).sp ⟨rfl, c, hiS.rf _⟩
theorem km_clashes (x : xOK X) (m : mR μ X)  : a_Spec G sX7_clashes [.ref 36] μ (fun v ν => v = some (.int (nI (fb_ct (clB X) (X 5 0)))) ∧ mR ν X ∧ loS μ ν) := (r_X7_clashes x.1 x.2.1 x.2.2.1 x.2.2.2.1 m.2.1 m.2.2.1 m.2.2.2.1).sp ⟨rfl, m, loS.rf _⟩
theorem kc_way (hJ : J μ X) (x1 x2 : Int32) : a_Spec G sX6_way [.ref 0, .int x1, .int x2] μ (fun v ν => v = some (.int (aWay X x1 x2)) ∧ JC ν X ∧ hiS μ ν) := by
  obtain ⟨x, c, _⟩ := hJ
  exact (c_way x.1 x.2.1 x.2.2.1 c.2.1 c.2.2.1 x1 x2).sp ⟨rfl, c, hiS.rf _⟩
theorem km_way (x : xOK X) (m : mR μ X) (x1 x2 : Int32) : a_Spec G sX7_way [.ref 36, .int x1, .int x2] μ (fun v ν => v = some (.int (aWay X x1 x2)) ∧ mR ν X ∧ loS μ ν) := (m_way x.2.1 x.2.2.1 m.2.1 m.2.2.1 x1 x2).sp ⟨rfl, m, loS.rf _⟩
theorem kc_length (hJ : J μ X) (x1 : Int32) : a_Spec G sX6_length [.ref 0, .int x1] μ (fun v ν => v = some (.int (aLength X x1)) ∧ JC ν X ∧ hiS μ ν) := by
  obtain ⟨x, c, _⟩ := hJ
  exact (c_length x.1 x.2.1 x.2.2.1 c.2.1 c.2.2.1 x1).sp ⟨rfl, c, hiS.rf _⟩
theorem km_length (x : xOK X) (m : mR μ X) (x1 : Int32) : a_Spec G sX7_length [.ref 36, .int x1] μ (fun v ν => v = some (.int (aLength X x1)) ∧ mR ν X ∧ loS μ ν) := (m_length x.1 x.2.1 x.2.2.1 m.1 m.2.1 m.2.2.1 x1).sp ⟨rfl, m, loS.rf _⟩
theorem kc_left (hJ : J μ X) (x1 : Int32) (b : Bool) : a_Spec G sX6_left [.ref 0, .int x1, .int (bI b)] μ (fun v ν => v = some (.int (aLeft X x1 b)) ∧ JC ν X ∧ hiS μ ν) := by
  obtain ⟨x, c, _⟩ := hJ
  exact (c_left x.1 x.2.1 x.2.2.1 c.1 c.2.1 c.2.2.1 x1 b).sp ⟨rfl, c, hiS.rf _⟩
theorem km_left (x : xOK X) (m : mR μ X) (x1 : Int32) (b : Bool) : a_Spec G sX7_left [.ref 36, .int x1, .int (bI b)] μ (fun v ν => v = some (.int (aLeft X x1 b)) ∧ mR ν X ∧ loS μ ν) := (m_left x.1 x.2.1 x.2.2.1 m.1 m.2.1 m.2.2.1 x1 b).sp ⟨rfl, m, loS.rf _⟩
theorem kc_loss (hJ : J μ X) (x1 x2 : Int32) : a_Spec G sX6_loss [.ref 0, .int x1, .int x2] μ (fun v ν => v = some (.int (aLoss X x1 x2)) ∧ JC ν X ∧ hiS μ ν) := by
  obtain ⟨x, c, _⟩ := hJ
  exact (c_loss x.1 x.2.1 x.2.2.1 c.2.1 c.2.2.1 x1 x2).sp ⟨rfl, c, hiS.rf _⟩
theorem km_loss (x : xOK X) (m : mR μ X) (x1 x2 : Int32) : a_Spec G sX7_loss [.ref 36, .int x1, .int x2] μ (fun v ν => v = some (.int (aLoss X x1 x2)) ∧ mR ν X ∧ loS μ ν) := (m_loss x.1 x.2.1 x.2.2.1 m.1 m.2.1 m.2.2.1 x1 x2).sp ⟨rfl, m, loS.rf _⟩
theorem kc_weight (hJ : J μ X) (x1 : Int32) : a_Spec G sX6_weight [.ref 0, .int x1] μ (fun v ν => v = some (.int (aWeight X x1)) ∧ JC ν X ∧ hiS μ ν) := by
  obtain ⟨x, c, _⟩ := hJ
  exact (c_weight x.2.1 x.2.2.2.2.1 c.2.1 c.2.2.2.2.1 x1).sp ⟨rfl, c, hiS.rf _⟩
theorem km_weight (x : xOK X) (m : mR μ X) (x1 : Int32) : a_Spec G sX7_weight [.ref 36, .int x1] μ (fun v ν => v = some (.int (aWeight X x1)) ∧ mR ν X ∧ loS μ ν) := (m_weight x.2.1 x.2.2.2.2.1 m.2.1 m.2.2.2.2.1 x1).sp ⟨rfl, m, loS.rf _⟩
theorem kc_alike (hJ : J μ X)  : a_Spec G sX6_alike [.ref 0] μ (fun v ν => v = some (.int (nI (fb_ct (tw X) (X 14 0)))) ∧ JC ν X ∧ hiS μ ν) := by
  obtain ⟨x, c, _⟩ := hJ
  exact (c_alike x.2.1 x.2.2.2.2.1 c.2.1 c.2.2.2.2.1).sp ⟨rfl, c, hiS.rf _⟩
theorem km_alike (x : xOK X) (m : mR μ X)  : a_Spec G sX7_alike [.ref 36] μ (fun v ν => v = some (.int (nI (fb_ct (tw X) (X 14 0)))) ∧ mR ν X ∧ loS μ ν) := (m_alike x.2.1 x.2.2.2.2.1 m.2.1 m.2.2.2.2.1).sp ⟨rfl, m, loS.rf _⟩
theorem kc_tests (hJ : J μ X)  : a_Spec G sX6_tests [.ref 0] μ (fun v ν => v = some (.int (nI (tsts (X 18)))) ∧ JC ν X ∧ hiS μ ν) := by
  obtain ⟨x, c, _⟩ := hJ
  exact (r_X6_tests c.2.2.2.2.2.1 x.2.2.2.2.2).sp ⟨rfl, c, hiS.rf _⟩
theorem km_tests (x : xOK X) (m : mR μ X)  : a_Spec G sX7_tests [.ref 36] μ (fun v ν => v = some (.int (nI (tsts (X 18)))) ∧ mR ν X ∧ loS μ ν) := (r_X7_tests m.2.2.2.2.2 x.2.2.2.2.2).sp ⟨rfl, m, loS.rf _⟩
theorem kc_side (hJ : J μ X) (x1 x2 : Int32) : a_Spec G sX6_side [.ref 0, .int x1, .int x2] μ (fun v ν => v = some (.int (aSide (X 18) x1 x2)) ∧ JC ν X ∧ hiS μ ν) := by
  obtain ⟨x, c, _⟩ := hJ
  exact (r_X6_side c.2.2.2.2.2.1 x.2.2.2.2.2 x1 x2).sp ⟨rfl, c, hiS.rf _⟩
theorem km_side (x : xOK X) (m : mR μ X) (x1 x2 : Int32) : a_Spec G sX7_side [.ref 36, .int x1, .int x2] μ (fun v ν => v = some (.int (aSide (X 18) x1 x2)) ∧ mR ν X ∧ loS μ ν) := (r_X7_side m.2.2.2.2.2 x.2.2.2.2.2 x1 x2).sp ⟨rfl, m, loS.rf _⟩
theorem kc_shows (hJ : J μ X) (x1 x2 : Int32) : a_Spec G sX6_shows [.ref 0, .int x1, .int x2] μ (fun v ν => v = some (.int (aShows (X 18) x1 x2)) ∧ JC ν X ∧ hiS μ ν) := by
  obtain ⟨x, c, _⟩ := hJ
  exact (r_X6_shows c.2.2.2.2.2.1 x.2.2.2.2.2 x1 x2).sp ⟨rfl, c, hiS.rf _⟩
theorem km_shows (x : xOK X) (m : mR μ X) (x1 x2 : Int32) : a_Spec G sX7_shows [.ref 36, .int x1, .int x2] μ (fun v ν => v = some (.int (aShows (X 18) x1 x2)) ∧ mR ν X ∧ loS μ ν) := (r_X7_shows m.2.2.2.2.2 x.2.2.2.2.2 x1 x2).sp ⟨rfl, m, loS.rf _⟩
theorem kc_pairs (hJ : J μ X) (x1 : Int32) : a_Spec G sX6_pairs [.ref 0, .int x1] μ (fun v ν => v = some (.int (nI (prs (usedN (X 18)) x1 8))) ∧ JC ν X ∧ hiS μ ν) := by
  obtain ⟨x, c, _⟩ := hJ
  exact (r_X6_pairs c.2.2.2.2.2.1 x.2.2.2.2.2 x1).sp ⟨rfl, c, hiS.rf _⟩
theorem km_pairs (x : xOK X) (m : mR μ X) (x1 : Int32) : a_Spec G sX7_pairs [.ref 36, .int x1] μ (fun v ν => v = some (.int (nI (prs (usedN (X 18)) x1 8))) ∧ mR ν X ∧ loS μ ν) := (r_X7_pairs m.2.2.2.2.2 x.2.2.2.2.2 x1).sp ⟨rfl, m, loS.rf _⟩
theorem kc_count (hJ : J μ X) (x1 : Int32) : a_Spec G sX6_count [.ref 0, .int x1] μ (fun v ν => v = some (.int (aCount X x1)) ∧ JC ν X ∧ hiS μ ν) := by
  obtain ⟨x, c, _⟩ := hJ
  exact (c_count x.1 x.2.1 x.2.2.1 x.2.2.2.2.2 c.1 c.2.1 c.2.2.1 c.2.2.2.2.1 c.2.2.2.2.2.1 x1).sp ⟨rfl, c, hiS.rf _⟩
theorem km_count (x : xOK X) (m : mR μ X) (x1 : Int32) : a_Spec G sX7_count [.ref 36, .int x1] μ (fun v ν => v = some (.int (aCount X x1)) ∧ mR ν X ∧ loS μ ν) := (m_count x.1 x.2.1 x.2.2.1 x.2.2.2.2.2 m x1).sp ⟨rfl, m, loS.rf _⟩
theorem kc_far (hJ : J μ X) (x1 x2 : Int32) : a_Spec G sX6_far [.ref 0, .int x1, .int x2] μ (fun v ν => v = some (.int (aFar X x1 x2)) ∧ JC ν X ∧ hiS μ ν) := by
  obtain ⟨x, c, _⟩ := hJ
  refine (c_far x.1 c.1 x1 x2).mono ?_
  rintro v ν ⟨rfl, h⟩
  exact ⟨rfl, c.scr (fun k hk hn => h k (fun hc => hn (by simp at hc ⊢; omega))), hiS_of h (by simp)⟩
theorem km_far (x : xOK X) (m : mR μ X) (x1 x2 : Int32) : a_Spec G sX7_far [.ref 36, .int x1, .int x2] μ (fun v ν => v = some (.int (aFar X x1 x2)) ∧ mR ν X ∧ loS μ ν) := by
  refine (m_far x.1 m.1 x1 x2).mono ?_
  rintro v ν ⟨rfl, h⟩
  exact ⟨rfl, m.scr (fun k hk hn => (h k (fun hc => hn (by simp at hc ⊢; omega))).1), loS_of h (by simp)⟩
theorem kc_two (hJ : J μ X) (x1 x2 : Int32) : a_Spec G sX6_two [.ref 0, .int x1, .int x2] μ (fun v ν => v = some (.int (aTwo X x1 x2)) ∧ JC ν X ∧ hiS μ ν) := by
  obtain ⟨x, c, _⟩ := hJ
  refine (c_two x.1 c.1 x1 x2).mono ?_
  rintro v ν ⟨rfl, h⟩
  exact ⟨rfl, c.scr (fun k hk hn => h k (fun hc => hn (by simp at hc ⊢; omega))), hiS_of h (by simp)⟩
theorem km_two (x : xOK X) (m : mR μ X) (x1 x2 : Int32) : a_Spec G sX7_two [.ref 36, .int x1, .int x2] μ (fun v ν => v = some (.int (aTwo X x1 x2)) ∧ mR ν X ∧ loS μ ν) := by
  refine (m_two x.1 m.1 x1 x2).mono ?_
  rintro v ν ⟨rfl, h⟩
  exact ⟨rfl, m.scr (fun k hk hn => (h k (fun hc => hn (by simp at hc ⊢; omega))).1), loS_of h (by simp)⟩
theorem kc_net (hJ : J μ X) (x1 : Int32) : a_Spec G sX6_net [.ref 0, .int x1] μ (fun v ν => v = some (.int (aNet X x1)) ∧ JC ν X ∧ hiS μ ν) := by
  obtain ⟨x, c, _⟩ := hJ
  refine (c_net x.1 c.1 x1).mono ?_
  rintro v ν ⟨rfl, h⟩
  exact ⟨rfl, c.scr (fun k hk hn => h k (fun hc => hn (by simp at hc ⊢; omega))), hiS_of h (by simp)⟩
theorem km_net (x : xOK X) (m : mR μ X) (x1 : Int32) : a_Spec G sX7_net [.ref 36, .int x1] μ (fun v ν => v = some (.int (aNet X x1)) ∧ mR ν X ∧ loS μ ν) := by
  refine (m_net x.1 m.1 x1).mono ?_
  rintro v ν ⟨rfl, h⟩
  exact ⟨rfl, m.scr (fun k hk hn => (h k (fun hc => hn (by simp at hc ⊢; omega))).1), loS_of h (by simp)⟩
theorem kc_splice (hJ : J μ X) (x1 : Int32) : a_Spec G sX6_splice [.ref 0, .int x1] μ (fun v ν => v = some (.int (aSpl X x1)) ∧ JC ν X ∧ hiS μ ν) := by
  obtain ⟨x, c, _⟩ := hJ
  refine (c_splice x.1 c.1 x1).mono ?_
  rintro v ν ⟨rfl, h⟩
  exact ⟨rfl, c.scr (fun k hk hn => h k (fun hc => hn (by simp at hc ⊢; omega))), hiS_of h (by simp)⟩
theorem km_splice (x : xOK X) (m : mR μ X) (x1 : Int32) : a_Spec G sX7_splice [.ref 36, .int x1] μ (fun v ν => v = some (.int (aSpl X x1)) ∧ mR ν X ∧ loS μ ν) := by
  refine (m_splice x.1 m.1 x1).mono ?_
  rintro v ν ⟨rfl, h⟩
  exact ⟨rfl, m.scr (fun k hk hn => (h k (fun hc => hn (by simp at hc ⊢; omega))).1), loS_of h (by simp)⟩
theorem kc_best (hJ : J μ X)  : a_Spec G sX6_best [.ref 0] μ (fun v ν => v = some (.long (aBest X)) ∧ JC ν X ∧ hiS μ ν) := by
  obtain ⟨x, c, _⟩ := hJ
  refine (c_best x.2.1 x.2.2.2.2.1 c.2.1 c.2.2.2.2.1 c.2.2.2.2.2.2).mono ?_
  rintro v ν ⟨rfl, h, h5, hq⟩
  obtain ⟨c1, c2, c3, c4, c5, c6, c7⟩ := c
  refine ⟨rfl, ⟨c1.kept (fun k hk => (h k (by simp; omega)).1), c2.kept (fun k hk => (h k (by simp; omega)).1), c3.kept (fun k hk => (h k (by simp; omega)).1), c4.kept (h 21 (by simp)).1, h5, c6.kept (h 35 (by simp)).1, hq⟩, hiS_of h (by simp)⟩
theorem km_best (x : xOK X) (m : mR μ X)  : a_Spec G sX7_best [.ref 36] μ (fun v ν => v = some (.long (aBest X)) ∧ mR ν X ∧ loS μ ν) := by
  refine (m_best x.2.1 x.2.2.2.2.1 m.2.1 m.2.2.2.2.1).mono ?_
  rintro v ν ⟨rfl, h, h36⟩
  refine ⟨rfl, m.scr (fun k hk hn => ?_), loS_of h (by simp)⟩
  by_cases e : k = 36
  · rw [e]; exact h36
  · exact (h k (fun hc => hn (by simp at hc ⊢; omega))).1
theorem kc_loom (hJ : J μ X) (x1 : Int32) : a_Spec G sX6_loom [.ref 0, .int x1] μ (fun v ν => v = some (.int (aLoom X x1)) ∧ JC ν X ∧ hiS μ ν) := by
  obtain ⟨x, c, _⟩ := hJ
  refine (c_loom x.2.1 x.2.2.2.2.1 c.2.1 c.2.2.2.2.1 c.2.2.2.2.2.2 x1).mono ?_
  rintro v ν ⟨rfl, h, h5, hq⟩
  obtain ⟨c1, c2, c3, c4, c5, c6, c7⟩ := c
  refine ⟨rfl, ⟨c1.kept (fun k hk => (h k (by simp; omega)).1), c2.kept (fun k hk => (h k (by simp; omega)).1), c3.kept (fun k hk => (h k (by simp; omega)).1), c4.kept (h 21 (by simp)).1, h5, c6.kept (h 35 (by simp)).1, hq⟩, hiS_of h (by simp)⟩
theorem km_loom (x : xOK X) (m : mR μ X) (x1 : Int32) : a_Spec G sX7_loom [.ref 36, .int x1] μ (fun v ν => v = some (.int (aLoom X x1)) ∧ mR ν X ∧ loS μ ν) := by
  refine (m_loom x.2.1 x.2.2.2.2.1 m.2.1 m.2.2.2.2.1 x1).mono ?_
  rintro v ν ⟨rfl, h, h36⟩
  refine ⟨rfl, m.scr (fun k hk hn => ?_), loS_of h (by simp)⟩
  by_cases e : k = 36
  · rw [e]; exact h36
  · exact (h k (fun hc => hn (by simp at hc ⊢; omega))).1
theorem kc_duct (hJ : J μ X) (x1 x2 x3 x4 : Int32) : a_Spec G sX6_duct [.ref 0, .int x1, .int x2, .int x3, .int x4] μ (fun v ν => v = some (.int (fDuct X x1 x2 x3 x4).1) ∧ JC ν (fDuct X x1 x2 x3 x4).2 ∧ hiS μ ν) := by
  obtain ⟨x, ⟨c1, c2, c3, c4, c5, c6, c7⟩, _⟩ := hJ
  obtain ⟨j1, j2, j3⟩ := fDuct_j x x1 x2 x3 x4
  refine (c_duct x.1 c1 x1 x2 x3 x4).mono ?_
  rintro v ν ⟨rfl, h1, h⟩
  exact ⟨rfl, ⟨h1, cW_r (fun r hr _ => j2 r hr) (c2.kept (fun k hk => (h k (by simp; omega)).1)), j3 _ (c3.kept (fun k hk => (h k (by simp; omega)).1)), cA_r (j2 13 (by omega)) (c4.kept (h 21 (by simp)).1), cO_r (fun r hr _ => j2 r (by omega)) (c5.kp (fun k hk => (h k (by simp; omega)).1)), cN_r (j2 18 (by omega)) (c6.kept (h 35 (by simp)).1), cQ_r (j2 5 (by omega)) (j2 8 (by omega)) (j2 10 (by omega)) (fun r hr _ => j2 r (by omega)) (c7.kp (fun k hk => (h k (by simp; omega)).1) (h 34 (by simp)).2)⟩, hiS_of h (by simp)⟩
theorem km_duct (x : xOK X) (m : mR μ X) (x1 x2 x3 x4 : Int32) : a_Spec G sX7_duct [.ref 36, .int x1, .int x2, .int x3, .int x4] μ (fun v ν => v = some (.int (fDuct X x1 x2 x3 x4).1) ∧ mR ν (fDuct X x1 x2 x3 x4).2 ∧ loS μ ν) := by
  obtain ⟨m1, m2, m3, m4, m5, m6⟩ := m
  obtain ⟨j1, j2, j3⟩ := fDuct_j x x1 x2 x3 x4
  refine (m_duct x.1 m1 x1 x2 x3 x4).mono ?_
  rintro v ν ⟨rfl, h1, h, h36⟩
  exact ⟨rfl, ⟨h1, mW_r (fun r hr _ => j2 r hr) (m2.kp (fun k hk hk' => (h k (by simp; omega)).1) (h36 5 (by omega))), mY_r (j2 11 (by omega)) (j2 12 (by omega)) (m3.kp (h 46 (by simp)).1 (h 47 (by simp)).1), mA_r (j2 13 (by omega)) (m4.kp (h 48 (by simp)).1), mO_r (fun r hr _ => j2 r (by omega)) (m5.kp (h36 22 (by omega)) (h36 25 (by omega)) (h 57 (by simp)).1 (h 58 (by simp)).1), mN_r (j2 18 (by omega)) (m6.kp (h 62 (by simp)).1)⟩, loS_of h (by simp)⟩
theorem cQ_st {ν : aMem} {Y : aX} (h : cQ μ X) (h30 : ν.1 30 = μ.1 30) (h31 : ν.1 31 = μ.1 31) (h33 : ν.1 33 = μ.1 33) (hs : (ν = μ ∧ Y = X) ∨ ν.1 5 2 = nI 1) : cQ ν Y := by
  rcases hs with ⟨rfl, rfl⟩ | hs
  · exact h
  · unfold cQ; rw [h30, h31, h33]
    exact ⟨h.1, h.2.1, h.2.2.1, fun hc => by rw [hs] at hc; exact absurd hc n10⟩
theorem kc_wire (hJ : J μ X) (x1 x2 x3 x4 : Int32) : a_Spec G sX6_wire [.ref 0, .int x1, .int x2, .int x3, .int x4] μ (fun v ν => v = some (.int (fWire X x1 x2 x3 x4).1) ∧ JC ν (fWire X x1 x2 x3 x4).2 ∧ hiS μ ν) := by
  obtain ⟨x, ⟨c1, c2, c3, c4, c5, c6, c7⟩, _⟩ := hJ
  obtain ⟨j1, j2⟩ := fWire_j x x1 x2 x3 x4
  refine (c_wire x.2.1 c2 x1 x2 x3 x4).mono ?_
  rintro v ν ⟨rfl, h1, h, h5, hs⟩
  exact ⟨rfl, ⟨cD_r (fun r hr => j2 r (by omega)) (c1.kept (fun k hk => (h k (by simp; omega)).1)), h1, cY_r (j2 3 (by omega)) (j2 11 (by omega)) (j2 12 (by omega)) (c3.kept (fun k hk => (h k (by simp; omega)).1)), cA_r (j2 13 (by omega)) (c4.kept (h 21 (by simp)).1), cO_r (fun r hr _ => j2 r (by omega)) (c5.kept (h5 0 (by omega)) (h5 1 (by omega)) (h 28 (by simp)).1 (h 29 (by simp)).1), cN_r (j2 18 (by omega)) (c6.kept (h 35 (by simp)).1), cQ_st c7 (h 30 (by simp)).1 (h 31 (by simp)).1 (h 33 (by simp)).1 hs⟩, hiS_of h (by simp)⟩
theorem km_wire (x : xOK X) (m : mR μ X) (x1 x2 x3 x4 : Int32) : a_Spec G sX7_wire [.ref 36, .int x1, .int x2, .int x3, .int x4] μ (fun v ν => v = some (.int (fWire X x1 x2 x3 x4).1) ∧ mR ν (fWire X x1 x2 x3 x4).2 ∧ loS μ ν) := by
  obtain ⟨m1, m2, m3, m4, m5, m6⟩ := m
  obtain ⟨j1, j2⟩ := fWire_j x x1 x2 x3 x4
  refine (m_wire x.2.1 m2 x1 x2 x3 x4).mono ?_
  rintro v ν ⟨rfl, h1, h, h36⟩
  exact ⟨rfl, ⟨mD_r (fun r hr => j2 r (by omega)) (m1.kp (fun k hk hk' => (h k (by simp; omega)).1) (h36 0 (by omega))), h1, mY_r (j2 11 (by omega)) (j2 12 (by omega)) (m3.kp (h 46 (by simp)).1 (h 47 (by simp)).1), mA_r (j2 13 (by omega)) (m4.kp (h 48 (by simp)).1), mO_r (fun r hr _ => j2 r (by omega)) (m5.kp (h36 22 (by omega)) (h36 25 (by omega)) (h 57 (by simp)).1 (h 58 (by simp)).1), mN_r (j2 18 (by omega)) (m6.kp (h 62 (by simp)).1)⟩, loS_of h (by simp)⟩
theorem kc_option (hJ : J μ X) (x1 x2 : Int32) : a_Spec G sX6_option [.ref 0, .int x1, .int x2] μ (fun v ν => v = some (.int (fOption X x1 x2).1) ∧ JC ν (fOption X x1 x2).2 ∧ hiS μ ν) := by
  obtain ⟨x, ⟨c1, c2, c3, c4, c5, c6, c7⟩, _⟩ := hJ
  obtain ⟨j1, j2⟩ := fOption_j x x1 x2
  refine (c_option x.2.1 c2 x1 x2).mono ?_
  rintro v ν ⟨rfl, h1, h, h5, hs⟩
  exact ⟨rfl, ⟨cD_r (fun r hr => j2 r (by omega)) (c1.kept (fun k hk => (h k (by simp; omega)).1)), h1, cY_r (j2 3 (by omega)) (j2 11 (by omega)) (j2 12 (by omega)) (c3.kept (fun k hk => (h k (by simp; omega)).1)), cA_r (j2 13 (by omega)) (c4.kept (h 21 (by simp)).1), cO_r (fun r hr _ => j2 r (by omega)) (c5.kept (h5 0 (by omega)) (h5 1 (by omega)) (h 28 (by simp)).1 (h 29 (by simp)).1), cN_r (j2 18 (by omega)) (c6.kept (h 35 (by simp)).1), cQ_st c7 (h 30 (by simp)).1 (h 31 (by simp)).1 (h 33 (by simp)).1 hs⟩, hiS_of h (by simp)⟩
theorem km_option (x : xOK X) (m : mR μ X) (x1 x2 : Int32) : a_Spec G sX7_option [.ref 36, .int x1, .int x2] μ (fun v ν => v = some (.int (fOption X x1 x2).1) ∧ mR ν (fOption X x1 x2).2 ∧ loS μ ν) := by
  obtain ⟨m1, m2, m3, m4, m5, m6⟩ := m
  obtain ⟨j1, j2⟩ := fOption_j x x1 x2
  refine (m_option x.2.1 m2 x1 x2).mono ?_
  rintro v ν ⟨rfl, h1, h⟩
  have h36 : ν.1 36 = μ.1 36 := (h 36 (by simp)).1
  exact ⟨rfl, ⟨mD_r (fun r hr => j2 r (by omega)) (m1.kp (fun k hk hk' => (h k (by simp; omega)).1) (by rw [h36])), h1, mY_r (j2 11 (by omega)) (j2 12 (by omega)) (m3.kp (h 46 (by simp)).1 (h 47 (by simp)).1), mA_r (j2 13 (by omega)) (m4.kp (h 48 (by simp)).1), mO_r (fun r hr _ => j2 r (by omega)) (m5.kp (by rw [h36]) (by rw [h36]) (h 57 (by simp)).1 (h 58 (by simp)).1), mN_r (j2 18 (by omega)) (m6.kp (h 62 (by simp)).1)⟩, loS_of h (by simp)⟩
theorem kc_order (hJ : J μ X) (x1 x2 : Int32) : a_Spec G sX6_order [.ref 0, .int x1, .int x2] μ (fun v ν => v = some (.int (fOrder X x1 x2).1) ∧ JC ν (fOrder X x1 x2).2 ∧ hiS μ ν) := by
  obtain ⟨x, ⟨c1, c2, c3, c4, c5, c6, c7⟩, _⟩ := hJ
  obtain ⟨j1, j2⟩ := fOrder_j x x1 x2
  refine (c_order x.2.2.2.2.1 c5 x1 x2).mono ?_
  rintro v ν ⟨rfl, h1, h, hs⟩
  exact ⟨rfl, ⟨cD_r (fun r hr => j2 r (by omega)) (c1.kept (fun k hk => (h k (by simp; omega)).1)), cW_r (fun r hr _ => j2 r (by omega)) (c2.kept (fun k hk => (h k (by simp; omega)).1)), cY_r (j2 3 (by omega)) (j2 11 (by omega)) (j2 12 (by omega)) (c3.kept (fun k hk => (h k (by simp; omega)).1)), cA_r (j2 13 (by omega)) (c4.kept (h 21 (by simp)).1), h1, cN_r (j2 18 (by omega)) (c6.kept (h 35 (by simp)).1), cQ_st c7 (h 30 (by simp)).1 (h 31 (by simp)).1 (h 33 (by simp)).1 hs⟩, hiS_of h (by simp)⟩
theorem km_order (x : xOK X) (m : mR μ X) (x1 x2 : Int32) : a_Spec G sX7_order [.ref 36, .int x1, .int x2] μ (fun v ν => v = some (.int (fOrder X x1 x2).1) ∧ mR ν (fOrder X x1 x2).2 ∧ loS μ ν) := by
  obtain ⟨m1, m2, m3, m4, m5, m6⟩ := m
  obtain ⟨j1, j2⟩ := fOrder_j x x1 x2
  refine (m_order x.2.2.2.2.1 m5 x1 x2).mono ?_
  rintro v ν ⟨rfl, h1, h, h36⟩
  exact ⟨rfl, ⟨mD_r (fun r hr => j2 r (by omega)) (m1.kp (fun k hk hk' => (h k (by simp; omega)).1) (h36 0 (by omega))), mW_r (fun r hr _ => j2 r (by omega)) (m2.kp (fun k hk hk' => (h k (by simp; omega)).1) (h36 5 (by omega))), mY_r (j2 11 (by omega)) (j2 12 (by omega)) (m3.kp (h 46 (by simp)).1 (h 47 (by simp)).1), mA_r (j2 13 (by omega)) (m4.kp (h 48 (by simp)).1), h1, mN_r (j2 18 (by omega)) (m6.kp (h 62 (by simp)).1)⟩, loS_of h (by simp)⟩
theorem kc_setup (hJ : J μ X) (x1 : Int32) : a_Spec G sX6_setup [.ref 0, .int x1] μ (fun v ν => v = some (.int (fSetup X x1).1) ∧ JC ν (fSetup X x1).2 ∧ hiS μ ν) := by
  obtain ⟨x, ⟨c1, c2, c3, c4, c5, c6, c7⟩, _⟩ := hJ
  obtain ⟨j1, j2⟩ := fSetup_j x x1
  refine (c_setup c5 x1).mono ?_
  rintro v ν ⟨rfl, h1, h, hs⟩
  exact ⟨rfl, ⟨cD_r (fun r hr => j2 r (by omega)) (c1.kept (fun k hk => (h k (by simp; omega)).1)), cW_r (fun r hr _ => j2 r (by omega)) (c2.kept (fun k hk => (h k (by simp; omega)).1)), cY_r (j2 3 (by omega)) (j2 11 (by omega)) (j2 12 (by omega)) (c3.kept (fun k hk => (h k (by simp; omega)).1)), cA_r (j2 13 (by omega)) (c4.kept (h 21 (by simp)).1), h1, cN_r (j2 18 (by omega)) (c6.kept (h 35 (by simp)).1), cQ_st c7 (h 30 (by simp)).1 (h 31 (by simp)).1 (h 33 (by simp)).1 hs⟩, hiS_of h (by simp)⟩
theorem km_setup (x : xOK X) (m : mR μ X) (x1 : Int32) : a_Spec G sX7_setup [.ref 36, .int x1] μ (fun v ν => v = some (.int (fSetup X x1).1) ∧ mR ν (fSetup X x1).2 ∧ loS μ ν) := by
  obtain ⟨m1, m2, m3, m4, m5, m6⟩ := m
  obtain ⟨j1, j2⟩ := fSetup_j x x1
  refine (m_setup m5 x1).mono ?_
  rintro v ν ⟨rfl, h1, h, h36⟩
  exact ⟨rfl, ⟨mD_r (fun r hr => j2 r (by omega)) (m1.kp (fun k hk hk' => (h k (by simp; omega)).1) (h36 0 (by omega))), mW_r (fun r hr _ => j2 r (by omega)) (m2.kp (fun k hk hk' => (h k (by simp; omega)).1) (h36 5 (by omega))), mY_r (j2 11 (by omega)) (j2 12 (by omega)) (m3.kp (h 46 (by simp)).1 (h 47 (by simp)).1), mA_r (j2 13 (by omega)) (m4.kp (h 48 (by simp)).1), h1, mN_r (j2 18 (by omega)) (m6.kp (h 62 (by simp)).1)⟩, loS_of h (by simp)⟩
theorem kc_apart (hJ : J μ X) (x1 x2 : Int32) (b : Bool) : a_Spec G sX6_apart [.ref 0, .int x1, .int x2, .int (bI b)] μ (fun v ν => v = some (.int (fApart X x1 x2 b).1) ∧ JC ν (fApart X x1 x2 b).2 ∧ hiS μ ν) := by
  obtain ⟨x, ⟨c1, c2, c3, c4, c5, c6, c7⟩, _⟩ := hJ
  obtain ⟨j1, j2⟩ := fApart_j x x1 x2 b
  refine (c_apart x.2.2.2.1 c4 x1 x2 b).mono ?_
  rintro v ν ⟨rfl, h1, h⟩
  exact ⟨rfl, ⟨cD_r (fun r hr => j2 r (by omega)) (c1.kept (fun k hk => (h k (by simp; omega)).1)), cW_r (fun r hr _ => j2 r (by omega)) (c2.kept (fun k hk => (h k (by simp; omega)).1)), cY_r (j2 3 (by omega)) (j2 11 (by omega)) (j2 12 (by omega)) (c3.kept (fun k hk => (h k (by simp; omega)).1)), h1, cO_r (fun r hr _ => j2 r (by omega)) (c5.kp (fun k hk => (h k (by simp; omega)).1)), cN_r (j2 18 (by omega)) (c6.kept (h 35 (by simp)).1), cQ_r (j2 5 (by omega)) (j2 8 (by omega)) (j2 10 (by omega)) (fun r hr _ => j2 r (by omega)) (c7.kp (fun k hk => (h k (by simp; omega)).1) (h 34 (by simp)).2)⟩, hiS_of h (by simp)⟩
theorem km_apart (x : xOK X) (m : mR μ X) (x1 x2 : Int32) (b : Bool) : a_Spec G sX7_apart [.ref 36, .int x1, .int x2, .int (bI b)] μ (fun v ν => v = some (.int (fApart X x1 x2 b).1) ∧ mR ν (fApart X x1 x2 b).2 ∧ loS μ ν) := by
  obtain ⟨m1, m2, m3, m4, m5, m6⟩ := m
  obtain ⟨j1, j2⟩ := fApart_j x x1 x2 b
  refine (m_apart x.2.2.2.1 m4 x1 x2 b).mono ?_
  rintro v ν ⟨rfl, h1, h⟩
  have h36 : ν.1 36 = μ.1 36 := (h 36 (by simp)).1
  exact ⟨rfl, ⟨mD_r (fun r hr => j2 r (by omega)) (m1.kp (fun k hk hk' => (h k (by simp; omega)).1) (by rw [h36])), mW_r (fun r hr _ => j2 r (by omega)) (m2.kp (fun k hk hk' => (h k (by simp; omega)).1) (by rw [h36])), mY_r (j2 11 (by omega)) (j2 12 (by omega)) (m3.kp (h 46 (by simp)).1 (h 47 (by simp)).1), h1, mO_r (fun r hr _ => j2 r (by omega)) (m5.kp (by rw [h36]) (by rw [h36]) (h 57 (by simp)).1 (h 58 (by simp)).1), mN_r (j2 18 (by omega)) (m6.kp (h 62 (by simp)).1)⟩, loS_of h (by simp)⟩
theorem kc_lay (hJ : J μ X) (x1 : Int32) : a_Spec G sX6_lay [.ref 0, .int x1] μ (fun v ν => v = some (.int (fLay X x1).1) ∧ JC ν (fLay X x1).2 ∧ hiS μ ν) := by
  obtain ⟨x, ⟨c1, c2, c3, c4, c5, c6, c7⟩, _⟩ := hJ
  obtain ⟨j1, j2⟩ := fLay_j x x1
  refine (c_lay x.1 x.2.1 x.2.2.1 x.2.2.2.1 c1 c2 c3 c4 x1).mono ?_
  rintro v ν ⟨rfl, h1, h⟩
  exact ⟨rfl, ⟨cD_r (fun r hr => j2 r (by omega) (by omega)) (c1.kept (fun k hk => (h k (by simp; omega)).1)), cW_r (fun r hr _ => j2 r (by omega) (by omega)) (c2.kept (fun k hk => (h k (by simp; omega)).1)), h1, cA_r (j2 13 (by omega) (by omega)) (c4.kept (h 21 (by simp)).1), cO_r (fun r hr _ => j2 r (by omega) (by omega)) (c5.kp (fun k hk => (h k (by simp; omega)).1)), cN_r (j2 18 (by omega) (by omega)) (c6.kept (h 35 (by simp)).1), cQ_r (j2 5 (by omega) (by omega)) (j2 8 (by omega) (by omega)) (j2 10 (by omega) (by omega)) (fun r hr _ => j2 r (by omega) (by omega)) (c7.kp (fun k hk => (h k (by simp; omega)).1) (h 34 (by simp)).2)⟩, hiS_of h (by simp)⟩
theorem km_lay (x : xOK X) (m : mR μ X) (x1 : Int32) : a_Spec G sX7_lay [.ref 36, .int x1] μ (fun v ν => v = some (.int (fLay X x1).1) ∧ mR ν (fLay X x1).2 ∧ loS μ ν) := by
  obtain ⟨m1, m2, m3, m4, m5, m6⟩ := m
  obtain ⟨j1, j2⟩ := fLay_j x x1
  refine (m_lay x.1 x.2.1 x.2.2.1 x.2.2.2.1 m1 m2 m3 m4 x1).mono ?_
  rintro v ν ⟨rfl, h1, h⟩
  have h36 : ν.1 36 = μ.1 36 := (h 36 (by simp)).1
  exact ⟨rfl, ⟨mD_r (fun r hr => j2 r (by omega) (by omega)) (m1.kp (fun k hk hk' => (h k (by simp; omega)).1) (by rw [h36])), mW_r (fun r hr _ => j2 r (by omega) (by omega)) (m2.kp (fun k hk hk' => (h k (by simp; omega)).1) (by rw [h36])), h1, mA_r (j2 13 (by omega) (by omega)) (m4.kp (h 48 (by simp)).1), mO_r (fun r hr _ => j2 r (by omega) (by omega)) (m5.kp (by rw [h36]) (by rw [h36]) (h 57 (by simp)).1 (h 58 (by simp)).1), mN_r (j2 18 (by omega) (by omega)) (m6.kp (h 62 (by simp)).1)⟩, loS_of h (by simp)⟩
theorem kc_lift (hJ : J μ X) (x1 : Int32) : a_Spec G sX6_lift [.ref 0, .int x1] μ (fun v ν => v = some (.int (fLift X x1).1) ∧ JC ν (fLift X x1).2 ∧ hiS μ ν) := by
  obtain ⟨x, ⟨c1, c2, c3, c4, c5, c6, c7⟩, _⟩ := hJ
  obtain ⟨j1, j2⟩ := fLift_j x x1
  refine (c_lift x.1 x.2.1 x.2.2.1 c2 c3 x1).mono ?_
  rintro v ν ⟨rfl, h1, h⟩
  exact ⟨rfl, ⟨cD_r (fun r hr => j2 r (by omega)) (c1.kept (fun k hk => (h k (by simp; omega)).1)), cW_r (fun r hr _ => j2 r (by omega)) (c2.kept (fun k hk => (h k (by simp; omega)).1)), h1, cA_r (j2 13 (by omega)) (c4.kept (h 21 (by simp)).1), cO_r (fun r hr _ => j2 r (by omega)) (c5.kp (fun k hk => (h k (by simp; omega)).1)), cN_r (j2 18 (by omega)) (c6.kept (h 35 (by simp)).1), cQ_r (j2 5 (by omega)) (j2 8 (by omega)) (j2 10 (by omega)) (fun r hr _ => j2 r (by omega)) (c7.kp (fun k hk => (h k (by simp; omega)).1) (h 34 (by simp)).2)⟩, hiS_of h (by simp)⟩
theorem km_lift (x : xOK X) (m : mR μ X) (x1 : Int32) : a_Spec G sX7_lift [.ref 36, .int x1] μ (fun v ν => v = some (.int (fLift X x1).1) ∧ mR ν (fLift X x1).2 ∧ loS μ ν) := by
  obtain ⟨m1, m2, m3, m4, m5, m6⟩ := m
  obtain ⟨j1, j2⟩ := fLift_j x x1
  refine (m_lift x.1 x.2.1 x.2.2.1 m1 m2 m3 x1).mono ?_
  rintro v ν ⟨rfl, h1, h⟩
  have h36 : ν.1 36 = μ.1 36 := (h 36 (by simp)).1
  exact ⟨rfl, ⟨mD_r (fun r hr => j2 r (by omega)) (m1.kp (fun k hk hk' => (h k (by simp; omega)).1) (by rw [h36])), mW_r (fun r hr _ => j2 r (by omega)) (m2.kp (fun k hk hk' => (h k (by simp; omega)).1) (by rw [h36])), h1, mA_r (j2 13 (by omega)) (m4.kp (h 48 (by simp)).1), mO_r (fun r hr _ => j2 r (by omega)) (m5.kp (by rw [h36]) (by rw [h36]) (h 57 (by simp)).1 (h 58 (by simp)).1), mN_r (j2 18 (by omega)) (m6.kp (h 62 (by simp)).1)⟩, loS_of h (by simp)⟩
theorem c_pin (hn : cN μ X) (x1 x2 : Int32) : a_Spec G sX6_pin [.ref 0, .int x1, .int x2] μ (fun v ν => v = some (.int (fPin X x1 x2).1) ∧ cN ν (fPin X x1 x2).2 ∧ a_eqx [35] μ ν) := by
  refine (r_X6_pin hn x1 x2).mono ?_
  rintro v ν (⟨h1, h2, rfl, rfl⟩ | ⟨h1, rfl, rfl⟩)
  · have e : fPin X x1 x2 = (nI (X 18 x1.toNatClampNeg), va_up X 18 (upN (X 18) x1.toNatClampNeg x2.toNatClampNeg)) := by unfold fPin; rw [h1, h2]; rfl
    rw [e]
    obtain ⟨e2, -, -⟩ := inB_cl (by decide) (by decide) h2
    exact ⟨rfl, rp_at (k := x1.toNatClampNeg) (v := x2.toNatClampNeg) hn e2, a_eqx.up _ _ _⟩
  · have e : fPin X x1 x2 = (-1, X) := by unfold fPin; rw [h1]; rfl
    rw [e]; exact ⟨rfl, hn, a_eqx.rf _ _⟩
theorem m_pin (hn : mN μ X) (x1 x2 : Int32) : a_Spec G sX7_pin [.ref 36, .int x1, .int x2] μ (fun v ν => v = some (.int (fPin X x1 x2).1) ∧ mN ν (fPin X x1 x2).2 ∧ a_eqx [62] μ ν) := by
  refine (r_X7_pin hn x1 x2).mono ?_
  rintro v ν (⟨h1, h2, rfl, rfl⟩ | ⟨h1, rfl, rfl⟩)
  · have e : fPin X x1 x2 = (nI (X 18 x1.toNatClampNeg), va_up X 18 (upN (X 18) x1.toNatClampNeg x2.toNatClampNeg)) := by unfold fPin; rw [h1, h2]; rfl
    rw [e]
    obtain ⟨e2, -, -⟩ := inB_cl (by decide) (by decide) h2
    exact ⟨rfl, rp_at (k := x1.toNatClampNeg) (v := x2.toNatClampNeg) hn e2, a_eqx.up _ _ _⟩
  · have e : fPin X x1 x2 = (-1, X) := by unfold fPin; rw [h1]; rfl
    rw [e]; exact ⟨rfl, hn, a_eqx.rf _ _⟩
theorem kc_pin (hJ : J μ X) (x1 x2 : Int32) : a_Spec G sX6_pin [.ref 0, .int x1, .int x2] μ (fun v ν => v = some (.int (fPin X x1 x2).1) ∧ JC ν (fPin X x1 x2).2 ∧ hiS μ ν) := by
  obtain ⟨x, ⟨c1, c2, c3, c4, c5, c6, c7⟩, _⟩ := hJ
  obtain ⟨j1, j2⟩ := fPin_j x x1 x2
  refine (c_pin c6 x1 x2).mono ?_
  rintro v ν ⟨rfl, h1, h⟩
  exact ⟨rfl, ⟨cD_r (fun r hr => j2 r (by omega)) (c1.kept (fun k hk => (h k (by simp; omega)).1)), cW_r (fun r hr _ => j2 r (by omega)) (c2.kept (fun k hk => (h k (by simp; omega)).1)), cY_r (j2 3 (by omega)) (j2 11 (by omega)) (j2 12 (by omega)) (c3.kept (fun k hk => (h k (by simp; omega)).1)), cA_r (j2 13 (by omega)) (c4.kept (h 21 (by simp)).1), cO_r (fun r hr _ => j2 r (by omega)) (c5.kp (fun k hk => (h k (by simp; omega)).1)), h1, cQ_r (j2 5 (by omega)) (j2 8 (by omega)) (j2 10 (by omega)) (fun r hr _ => j2 r (by omega)) (c7.kp (fun k hk => (h k (by simp; omega)).1) (h 34 (by simp)).2)⟩, hiS_of h (by simp)⟩
theorem km_pin (x : xOK X) (m : mR μ X) (x1 x2 : Int32) : a_Spec G sX7_pin [.ref 36, .int x1, .int x2] μ (fun v ν => v = some (.int (fPin X x1 x2).1) ∧ mR ν (fPin X x1 x2).2 ∧ loS μ ν) := by
  obtain ⟨m1, m2, m3, m4, m5, m6⟩ := m
  obtain ⟨j1, j2⟩ := fPin_j x x1 x2
  refine (m_pin m6 x1 x2).mono ?_
  rintro v ν ⟨rfl, h1, h⟩
  have h36 : ν.1 36 = μ.1 36 := (h 36 (by simp)).1
  exact ⟨rfl, ⟨mD_r (fun r hr => j2 r (by omega)) (m1.kp (fun k hk hk' => (h k (by simp; omega)).1) (by rw [h36])), mW_r (fun r hr _ => j2 r (by omega)) (m2.kp (fun k hk hk' => (h k (by simp; omega)).1) (by rw [h36])), mY_r (j2 11 (by omega)) (j2 12 (by omega)) (m3.kp (h 46 (by simp)).1 (h 47 (by simp)).1), mA_r (j2 13 (by omega)) (m4.kp (h 48 (by simp)).1), mO_r (fun r hr _ => j2 r (by omega)) (m5.kp (by rw [h36]) (by rw [h36]) (h 57 (by simp)).1 (h 58 (by simp)).1), h1⟩, loS_of h (by simp)⟩
end STEPS
