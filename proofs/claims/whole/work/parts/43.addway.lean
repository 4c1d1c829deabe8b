section ADDWAY
variable {G : aG} {μ : aMem} {X : aX}
def raT (X : aX) (z : Nat → Int) (a : Nat) : Nat → Int := rnds (arcsR X (lenZ X) z (X 0 0)) 10 (lab0 a)
theorem r_X7_addWay (hd : xD X) (hmd : mD μ X) {z : Nat → Int} (hz : zOK X z) (h52 : gR X (μ.1 52) z) {π : Nat → Int} (hπ0 : potO X (lenZ X) z π) {a b : Nat} (ha : a < 10) (hb : b < 10) :
    a_Spec G sX7_addWay [.ref 36, .int (nI a), .int (nI b)] μ (fun v ν => ∃ c50 c53 c52, ν = (va_up (va_up (va_up μ.1 50 c50) 53 c53) 52 c52, μ.2) ∧ ((v = some (.int (nI 0)) ∧ raT X z a b = BIG) ∨ (v = some (.int (nI 1)) ∧ raT X z a b ≠ BIG ∧ ∃ es, (∀ e ∈ es, rsd X (lenZ X) z e) ∧ es.Pairwise (fun x y => y.2.2.2 ≠ x.2.2.2) ∧ wk (arcsR X (lenZ X) z (X 0 0)) b es a ∧ (∀ e ∈ es, raT X z a e.1 = e.2.2.1 + raT X z a e.2.1) ∧ gR X c52 (aug X z es)))) := by
  have hn := hd.1
  obtain ⟨c0, c1, c2, c3, -⟩ := id hmd
  have hA : arcOK (arcsR X (lenZ X) z (X 0 0)) := fun e he => rsd_ok hd (lenZ_bd hd) ((arcsR_rsd e).mp he)
  have hπ : ∀ e ∈ arcsR X (lenZ X) z (X 0 0), π e.1 ≤ e.2.2.1 + π e.2.1 := fun e he => hπ0 e ((arcsR_rsd e).mp he)
  have hsub : ∀ i, i ≤ X 0 0 → ∀ e ∈ arcsR X (lenZ X) z i, e ∈ arcsR X (lenZ X) z (X 0 0) := fun i hi e he => by
    obtain ⟨k, k1, k2⟩ := arcsR_in.mp he
    exact arcsR_in.mpr ⟨k, by omega, k2⟩
  have hI := bfI_rnds hA hπ ha
  have hBB : BIG = 1000000 := rfl
  have hB : (nI 1000000).toInt = 1000000 := by decide
  generalize hpo : (fun (v : Option Value) (ν : aMem) => ∃ c50 c53 c52, ν = (va_up (va_up (va_up μ.1 50 c50) 53 c53) 52 c52, μ.2) ∧ ((v = some (.int (nI 0)) ∧ raT X z a b = BIG) ∨ (v = some (.int (nI 1)) ∧ raT X z a b ≠ BIG ∧ ∃ es, (∀ e ∈ es, rsd X (lenZ X) z e) ∧ es.Pairwise (fun x y => y.2.2.2 ≠ x.2.2.2) ∧ wk (arcsR X (lenZ X) z (X 0 0)) b es a ∧ (∀ e ∈ es, raT X z a e.1 = e.2.2.1 + raT X z a e.2.1) ∧ gR X c52 (aug X z es)))) = post
  refine w_X7_addWay_0 _ _ ?_
  have main := a_for (fun i (c : Nat → Int32) => a_Runs G sX7_addWay 2 [(0, .ref 36), (1, .int (nI a)), (2, .int (nI b)), (3, .int (nI i))] [] (va_up μ.1 50 c, μ.2) post) (fun i c => ∀ k, k < i → (c k).toInt = lab0 a k) 10 ?_ ?_ 0 (μ.1 50) (by omega) (fun k h => by omega)
  · rw [a_self μ 50]; exact main
  · intro c hc
    refine w_X7_addWay_2 _ _ _ ⟨fun _ => ?_, fun h => absurd (by rw [q_le] <;> omega) h⟩
    have main := a_for (fun r (s : (Nat → Int32) × (Nat → Int32)) => a_Runs G sX7_addWay 33 [(0, .ref 36), (1, .int (nI a)), (2, .int (nI b)), (3, .int (nI r))] [] (va_up (va_up μ.1 50 s.1) 53 s.2, μ.2) post) (fun r s => rZ s.1 (rnds (arcsR X (lenZ X) z (X 0 0)) r (lab0 a)) 10 ∧ pInv (arcsR X (lenZ X) z (X 0 0)) a (rnds (arcsR X (lenZ X) z (X 0 0)) r (lab0 a)) s.2) 10 ?_ ?_ 0 (c, μ.1 53) (by omega) ⟨fun i hi => hc i hi, pInv_0⟩
    · have e0 : ((va_up μ.1 50 c, μ.2) : aMem) = (va_up (va_up μ.1 50 c) 53 (μ.1 53), μ.2) := by
        have : va_up (va_up μ.1 50 c) 53 (μ.1 53) = va_up μ.1 50 c := by
          have := a_self1 (va_up μ.1 50 c) 53
          rw [va_up_ne μ.1 c (by decide : 53 ≠ 50)] at this; exact this
        rw [this]
      rw [e0]; exact main
    · rintro ⟨c50, c53⟩ ⟨g1, g2⟩
      have g1 : rZ c50 (raT X z a) 10 := g1
      have g2 : pInv (arcsR X (lenZ X) z (X 0 0)) a (raT X z a) c53 := g2
      have bb : raT X z a b = BIG ∨ (-36000 ≤ raT X z a b ∧ raT X z a b ≤ 36000) := bf_bound hA hπ ha 10 b
      refine w_X7_addWay_33 _ _ _ ⟨fun _ => ?_, fun h => absurd (by rw [q_le] <;> omega) h⟩
      rw [q_in (by omega), q_cl (by omega)]
      refine ⟨hb, ?_⟩
      show (c50 b < nI 1000000 → _) ∧ (¬ c50 b < nI 1000000 → _)
      rw [z_ltI, g1 b hb, hB]
      refine ⟨fun h => ?_, fun h => ⟨nI_00, ?_⟩⟩
      · have h : raT X z a b ≠ BIG := by omega
        obtain ⟨es0, w1, w2⟩ := g2 b h
        obtain ⟨es, s1, s2, s3⟩ := wk_erase w1
        have hr : ∀ e ∈ es, rsd X (lenZ X) z e := fun e he => (arcsR_rsd e).mp (wk_vs s1 e he).2.2
        have hpw := simple_ducts hd (fun e he => (arcsR_rsd e).mp he) s1 s3
        have ht : ∀ e ∈ es, raT X z a e.1 = e.2.2.1 + raT X z a e.2.1 := fun e he => by
          obtain ⟨_, q2, q3⟩ := w2 e (s2 e he)
          have f := bf_fix hA hπ ha (k := 10) (by decide) (by decide) e (wk_vs s1 e he).2.2 q3
          have f : raT X z a e.1 ≤ e.2.2.1 + raT X z a e.2.1 := f
          omega
        have e52 : (va_up (va_up μ.1 50 c50) 53 c53) = va_up (va_up (va_up μ.1 50 c50) 53 c53) 52 (μ.1 52) := (a_self1 (va_up (va_up μ.1 50 c50) 53 c53) 52).symm
        rw [e52]
        refine r_X7_addWay_198 (μ := (va_up (va_up μ.1 50 c50) 53 c53, μ.2)) hd hmd ha (c := lenZ X) hb hz hr hpw s1 s3 (fun e he => (w2 e (s2 e he)).1) h52 (fun c' hc' => ?_)
        rw [← hpo]
        exact ⟨c50, c53, c', rfl, Or.inr ⟨rfl, h, es, hr, hpw, s1, ht, hc'⟩⟩
      · rw [← hpo]
        exact ⟨c50, c53, μ.1 52, by rw [show va_up (va_up (va_up μ.1 50 c50) 53 c53) 52 (μ.1 52) = va_up (va_up μ.1 50 c50) 53 c53 from a_self1 (va_up (va_up μ.1 50 c50) 53 c53) 52], Or.inl ⟨rfl, by omega⟩⟩
    · rintro r ⟨c50, c53⟩ hr ⟨g1, g2⟩ ih
      have g1 : rZ c50 (rnds (arcsR X (lenZ X) z (X 0 0)) r (lab0 a)) 10 := g1
      have g2 : pInv (arcsR X (lenZ X) z (X 0 0)) a (rnds (arcsR X (lenZ X) z (X 0 0)) r (lab0 a)) c53 := g2
      refine w_X7_addWay_33 _ _ _ ⟨fun h => ?_, fun _ => ?_⟩
      · rw [q_le (by omega) (by omega)] at h; omega
      generalize hT0 : rnds (arcsR X (lenZ X) z (X 0 0)) r (lab0 a) = T0 at g1 g2
      have hI0 : bfI (arcsR X (lenZ X) z (X 0 0)) a T0 := by rw [← hT0]; exact hI r
      refine a_for (fun i (s : (Nat → Int32) × (Nat → Int32)) => a_Runs G sX7_addWay 42 [(0, .ref 36), (1, .int (nI a)), (2, .int (nI b)), (3, .int (nI r)), (4, .int (nI i))] [] (va_up (va_up μ.1 50 s.1) 53 s.2, μ.2) post) (fun i s => rZ s.1 ((arcsR X (lenZ X) z i).foldl relax T0) 10 ∧ pInv (arcsR X (lenZ X) z (X 0 0)) a ((arcsR X (lenZ X) z i).foldl relax T0) s.2) (X 0 0) ?_ ?_ 0 (c50, c53) (by omega) ⟨g1, g2⟩
      · rintro ⟨d50, d53⟩ ⟨k1, k2⟩
        refine w_X7_addWay_42 _ _ _ _ ⟨fun _ => ?_, fun h => absurd (by show μ.1 36 0 ≤ _; rw [c0, q_le] <;> omega) h⟩
        rw [nI_add]
        refine ih (d50, d53) ?_
        show rZ d50 (rnd (arcsR X (lenZ X) z (X 0 0)) (rnds (arcsR X (lenZ X) z (X 0 0)) r (lab0 a))) 10 ∧ pInv _ a (rnd (arcsR X (lenZ X) z (X 0 0)) (rnds (arcsR X (lenZ X) z (X 0 0)) r (lab0 a))) d53
        rw [hT0]; exact ⟨k1, k2⟩
      · rintro i ⟨d50, d53⟩ hi ⟨k1, k2⟩ ih2
        have hIi := bfI_fold hA hπ (arcsR X (lenZ X) z i) (hsub i (by omega)) hI0
        generalize hTi : (arcsR X (lenZ X) z i).foldl relax T0 = Ti at k1 k2 hIi
        have hnext : (arcsR X (lenZ X) z (i + 1)).foldl relax T0 = (arcR X (lenZ X) z i).foldl relax Ti := by
          show (arcsR X (lenZ X) z i ++ arcR X (lenZ X) z i).foldl relax T0 = _
          rw [List.foldl_append, hTi]
        rw [hnext] at ih2
        have hl := hd.2 i hi
        have e52 : ∀ d50 d53, ((va_up (va_up μ.1 50 d50) 53 d53, μ.2) : aMem).1 52 i = nI (gN (z i)) := fun _ _ => h52 i hi
        have e37 : ∀ d50 d53, ((va_up (va_up μ.1 50 d50) 53 d53, μ.2) : aMem).1 37 i = nI (X 1 i) := fun _ _ => c1 i hi
        have e38 : ∀ d50 d53, ((va_up (va_up μ.1 50 d50) 53 d53, μ.2) : aMem).1 38 i = nI (X 2 i) := fun _ _ => c2 i hi
        have e39 : ∀ d50 d53, ((va_up (va_up μ.1 50 d50) 53 d53, μ.2) : aMem).1 39 i = nI (X 3 i) := fun _ _ => c3 i hi
        have em : ∀ c c' : Nat → Int32, ((va_up (va_up (va_up (va_up μ.1 50 d50) 53 d53) 50 c) 53 c', μ.2) : aMem) = (va_up (va_up μ.1 50 c) 53 c', μ.2) := fun c c' => by rw [va_up4]
        have zp : (nI (X 3 i)).toInt = lenZ X i := z_nI (by omega)
        have zm : (-(nI (X 3 i))).toInt = - lenZ X i := by rw [fb_negI (by rw [zp]; unfold lenZ; omega), zp]
        refine w_X7_addWay_42 _ _ _ _ ⟨fun h => ?_, fun _ => ?_⟩
        · have h : μ.1 36 0 ≤ nI i := h
          rw [c0, q_le (by omega) (by omega)] at h; omega
        rw [q_in (by omega), q_cl (by omega), e52, e37, e38, e39, nI_add]
        have vi : i < 16 := by omega
        have n12 : ¬ nI 1 = nI 2 := by decide
        have n01 : ¬ nI 0 = nI 1 := by decide
        have n02 : ¬ nI 0 = nI 2 := by decide
        have n21 : ¬ nI 2 = nI 1 := by decide
        refine ⟨vi, ?_⟩
        rcases hz i hi with hzi | hzi | hzi
        · have eg : gN (z i) = 1 := by rw [hzi]; rfl
          have ea : arcR X (lenZ X) z i = [(X 1 i, X 2 i, - lenZ X i, i)] := by unfold arcR rf; rw [hzi]; simp
          have hin : (X 1 i, X 2 i, - lenZ X i, i) ∈ arcsR X (lenZ X) z (X 0 0) := arcsR_in.mpr ⟨i, hi, Or.inl ⟨by rw [hzi]; decide, by unfold rf; rw [hzi]; simp⟩⟩
          rw [ea] at ih2
          rw [eg]
          refine ⟨fun _ => ⟨vi, fun h => absurd h n12, fun _ => ⟨vi, vi, vi, fun h => absurd rfl h, fun _ => ⟨vi, ?_⟩⟩⟩, fun h => absurd rfl h⟩
          refine (r_X7_tryStep (μ := (va_up (va_up μ.1 50 d50) 53 d53, μ.2)) hA hπ k1 hIi k2 zm hin (by omega) (by omega)).mono ?_
          rintro v ν ⟨rfl, c, c', rfl, j1, j2⟩
          rw [em]
          exact ⟨rfl, ih2 (c, c') ⟨j1, j2⟩⟩
        · have eg : gN (z i) = 0 := by rw [hzi]; rfl
          have ea : arcR X (lenZ X) z i = [(X 2 i, X 1 i, lenZ X i, i), (X 1 i, X 2 i, lenZ X i, i)] := by unfold arcR rf rb; rw [hzi]; simp
          have hin : (X 1 i, X 2 i, lenZ X i, i) ∈ arcsR X (lenZ X) z (X 0 0) := arcsR_in.mpr ⟨i, hi, Or.inl ⟨by rw [hzi]; decide, by unfold rf; rw [hzi]; simp⟩⟩
          have hin2 : (X 2 i, X 1 i, lenZ X i, i) ∈ arcsR X (lenZ X) z (X 0 0) := arcsR_in.mpr ⟨i, hi, Or.inr ⟨by rw [hzi]; decide, by unfold rb; rw [hzi]; simp⟩⟩
          rw [ea] at ih2
          rw [eg]
          refine ⟨fun h => absurd h n01, fun _ => ⟨vi, vi, vi, fun _ => ⟨vi, ?_⟩, fun h => absurd h n02⟩⟩
          refine (r_X7_tryStep (μ := (va_up (va_up μ.1 50 d50) 53 d53, μ.2)) hA hπ k1 hIi k2 zp hin2 (by omega) (by omega)).mono ?_
          rintro v ν ⟨rfl, c, c', rfl, j1, j2⟩
          rw [em, e52, eg, e37, e38, e39]
          refine ⟨rfl, vi, fun h => absurd h n02, fun _ => ⟨vi, vi, vi, fun _ => ⟨vi, ?_⟩, fun h => absurd h n01⟩⟩
          refine (r_X7_tryStep (μ := (va_up (va_up μ.1 50 c) 53 c', μ.2)) hA hπ j1 (bfI_relax hA hπ hIi hin2) j2 zp hin (by omega) (by omega)).mono ?_
          rintro v ν ⟨rfl, d, d', rfl, j3, j4⟩
          have em2 : ((va_up (va_up (va_up (va_up μ.1 50 c) 53 c') 50 d) 53 d', μ.2) : aMem) = (va_up (va_up μ.1 50 d) 53 d', μ.2) := by rw [va_up4]
          rw [em2]
          exact ⟨rfl, ih2 (d, d') ⟨j3, j4⟩⟩
        · have eg : gN (z i) = 2 := by rw [hzi]; rfl
          have ea : arcR X (lenZ X) z i = [(X 2 i, X 1 i, - lenZ X i, i)] := by unfold arcR rb; rw [hzi]; simp
          have hin : (X 2 i, X 1 i, - lenZ X i, i) ∈ arcsR X (lenZ X) z (X 0 0) := arcsR_in.mpr ⟨i, hi, Or.inr ⟨by rw [hzi]; decide, by unfold rb; rw [hzi]; simp⟩⟩
          rw [ea] at ih2
          rw [eg]
          refine ⟨fun h => absurd h n21, fun _ => ⟨vi, vi, vi, fun h => absurd rfl h, fun _ => ⟨vi, ?_⟩⟩⟩
          refine (r_X7_tryStep (μ := (va_up (va_up μ.1 50 d50) 53 d53, μ.2)) hA hπ k1 hIi k2 zm hin (by omega) (by omega)).mono ?_
          rintro v ν ⟨rfl, c, c', rfl, j1, j2⟩
          rw [em, e52, eg]
          exact ⟨rfl, vi, fun _ => ih2 (c, c') ⟨j1, j2⟩, fun h => absurd rfl h⟩
  · rintro i c hi hc ih
    have e50 : ((va_up μ.1 50 c, μ.2) : aMem).1 50 = c := rfl
    refine w_X7_addWay_2 _ _ _ ⟨fun h => ?_, fun _ => ?_⟩
    · rw [q_le (by omega) (by omega)] at h; omega
    rw [q_eq (by omega) (by omega), q_in (by omega), q_cl (by omega), e50, nI_add]
    have em : ∀ f, ((va_up (va_up μ.1 50 c) 50 f, μ.2) : aMem) = (va_up μ.1 50 f, μ.2) := fun f => by rw [bx_uu]
    refine ⟨fun h => ⟨hi, ?_⟩, fun h => ⟨hi, ?_⟩⟩
    · show a_Runs G sX7_addWay 2 _ [] (va_up (va_up μ.1 50 c) 50 _, μ.2) post
      rw [em]
      refine ih _ (fun k hk => ?_)
      by_cases ek : k = i
      · rw [ek, pk_us]; unfold lab0; rw [if_neg h]; rfl
      · rw [pk_un ek]; exact hc k (by omega)
    · show a_Runs G sX7_addWay 2 _ [] (va_up (va_up μ.1 50 c) 50 _, μ.2) post
      rw [em]
      refine ih _ (fun k hk => ?_)
      by_cases ek : k = i
      · rw [ek, pk_us]; unfold lab0; rw [if_pos h]; rfl
      · rw [pk_un ek]; exact hc k (by omega)
end ADDWAY
