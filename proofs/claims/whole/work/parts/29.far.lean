section MEASURE2
variable {G : aG} {μ : aMem} {X : aX}
theorem r_X7_measure (hd : xD X) (hmd : mD μ X) {op : Nat → Bool} (hop : ∀ d, d < X 0 0 → μ.1 49 d = bI (op d)) {g : Nat} (hg : g < 10) :
    a_Spec G sX7_measure [.ref 36, .int (nI g)] μ (fun v ν => v = none ∧ ∃ c c', ν = (va_up (va_up μ.1 50 c) 51 c', μ.2) ∧ rZ c (farZ (labO X op g)) 10 ∧ rZ c' (byZ (labO X op g)) 10) := by
  have hn := hd.1
  have hA := asO_ok hd op
  have hπ := asO_pot hd op
  have hI := bfI_rnds (π := fun _ => 0) hA hπ hg
  obtain ⟨c0, c1, c2, c3, -⟩ := hmd
  generalize hpo : (fun (v : Option Value) (ν : aMem) => v = none ∧ ∃ c c', ν = (va_up (va_up μ.1 50 c) 51 c', μ.2) ∧ rZ c (farZ (labO X op g)) 10 ∧ rZ c' (byZ (labO X op g)) 10) = post
  have hpost : ∀ c c', rZ c (farZ (labO X op g)) 10 → rZ c' (byZ (labO X op g)) 10 → post none (va_up (va_up μ.1 50 c) 51 c', μ.2) := fun c c' h h' => by rw [← hpo]; exact ⟨rfl, c, c', rfl, h, h'⟩
  have e0 : μ = (va_up (va_up μ.1 50 (μ.1 50)) 51 (μ.1 51), μ.2) := by rw [a_self1 μ.1 50, a_self1 μ.1 51]
  have m1 : ∀ (c c' : Nat → Int32) (j : Nat), j ≠ 50 → j ≠ 51 → ((va_up (va_up μ.1 50 c) 51 c', μ.2) : aMem).1 j = μ.1 j := fun c c' j h h' => by show va_up (va_up μ.1 50 c) 51 c' j = _; rw [va_up_ne _ _ h', va_up_ne _ _ h]
  -- the rounds
  have rounds : ∀ (z : (Nat → Int32) × (Nat → Int32)), rZ z.1 (farZ (lab0 g)) 10 ∧ rZ z.2 (byZ (lab0 g)) 10 → a_Runs G sX7_measure 50 [(0, .ref 36), (2, .int (nI 0))] [] (va_up (va_up μ.1 50 z.1) 51 z.2, μ.2) post := by
    intro z hz
    refine a_for (fun r (z : (Nat → Int32) × (Nat → Int32)) => a_Runs G sX7_measure 50 [(0, .ref 36), (2, .int (nI r))] [] (va_up (va_up μ.1 50 z.1) 51 z.2, μ.2) post) (fun r z => rZ z.1 (farZ (rnds (asO X op) r (lab0 g))) 10 ∧ rZ z.2 (byZ (rnds (asO X op) r (lab0 g))) 10) 10 ?_ ?_ 0 z (by omega) hz
    · rintro ⟨c, c'⟩ ⟨h1, h2⟩
      rw [rnds_fix (π := fun _ => 0) hA hπ hg] at h1 h2
      exact w_X7_measure_50 _ ⟨fun _ => hpost c c' h1 h2, fun h => absurd (by rw [q_le] <;> omega) h⟩
    · rintro r ⟨c, c'⟩ hr ⟨h1, h2⟩ ih
      refine w_X7_measure_50 _ ⟨fun h => ?_, fun _ => ?_⟩
      · rw [q_le (by omega) (by omega)] at h; omega
      refine a_for (fun k (z : (Nat → Int32) × (Nat → Int32)) => a_Runs G sX7_measure 58 [(0, .ref 36), (2, .int (nI r)), (3, .int (nI k))] [] (va_up (va_up μ.1 50 z.1) 51 z.2, μ.2) post) (fun k z => rZ z.1 (farZ ((arcsD X (prO X op) (prO X op) k).foldl relax (rnds (asO X op) r (lab0 g)))) 10 ∧ rZ z.2 (byZ ((arcsD X (prO X op) (prO X op) k).foldl relax (rnds (asO X op) r (lab0 g)))) 10) (X 0 0) ?_ ?_ 0 (c, c') (by omega) ⟨h1, h2⟩
      · rintro ⟨c2, c2'⟩ ⟨g1, g2⟩
        refine w_X7_measure_58 _ _ ⟨fun _ => ?_, fun h => absurd (by rw [m1 c2 c2' 36 (by decide) (by decide), c0, q_le] <;> omega) h⟩
        rw [nI_add]; exact ih (c2, c2') ⟨g1, g2⟩
      · rintro k ⟨d1, d1'⟩ hk ⟨g1, g2⟩ ih2
        have g1 : rZ d1 (farZ ((arcsD X (prO X op) (prO X op) k).foldl relax (rnds (asO X op) r (lab0 g)))) 10 := g1
        have g2 : rZ d1' (byZ ((arcsD X (prO X op) (prO X op) k).foldl relax (rnds (asO X op) r (lab0 g)))) 10 := g2
        have hdk := hd.2 k hk
        have hsub : ∀ e ∈ arcsD X (prO X op) (prO X op) k, e ∈ asO X op := fun e he => by
          obtain ⟨j, hj, hje⟩ := arcsD_in.mp he; exact arcsD_in.mpr ⟨j, by omega, hje⟩
        have bI1 : bfI (asO X op) g ((arcsD X (prO X op) (prO X op) k).foldl relax (rnds (asO X op) r (lab0 g))) := bfI_fold (π := fun _ => 0) hA hπ _ hsub (hI r)
        generalize hT1 : (arcsD X (prO X op) (prO X op) k).foldl relax (rnds (asO X op) r (lab0 g)) = T1 at *
        refine w_X7_measure_58 _ _ ⟨fun h => ?_, fun _ => ?_⟩
        · rw [m1 d1 d1' 36 (by decide) (by decide), c0, q_le (by omega) (by omega)] at h; omega
        rw [q_in (by omega), q_cl (by omega), m1 d1 d1' 49 (by decide) (by decide), m1 d1 d1' 37 (by decide) (by decide), m1 d1 d1' 38 (by decide) (by decide), m1 d1 d1' 39 (by decide) (by decide), hop k hk, c1 k hk, c2 k hk, c3 k hk, nI_add]
        have hfold : (arcsD X (prO X op) (prO X op) (k + 1)).foldl relax (rnds (asO X op) r (lab0 g)) = (arc2 X (prO X op) (prO X op) k).foldl relax T1 := by
          rw [arcsD, List.foldl_append, hT1]
        refine ⟨by omega, br_b (fun hb => ih2 (d1, d1') ?_) (fun hb => ⟨by omega, by omega, by omega, ?_⟩)⟩
        · have e1 : prO X op k = BIG := by unfold prO; rw [hb, if_neg (by decide)]
          have e2 : arc2 X (prO X op) (prO X op) k = [] := by unfold arc2; rw [e1, if_pos rfl]; rfl
          rw [hfold, e2]; exact ⟨g1, g2⟩
        · have e1 : prO X op k = 32 * (X 3 k : Int) + 1 := by unfold prO; rw [hb, if_pos rfl]
          have ne1 : ¬ 32 * (X 3 k : Int) + 1 = BIG := by unfold BIG; omega
          have e2 : arc2 X (prO X op) (prO X op) k = [(X 1 k, X 2 k, 32 * (X 3 k : Int) + 1, k), (X 2 k, X 1 k, 32 * (X 3 k : Int) + 1, k)] := by unfold arc2; rw [e1, if_neg ne1, if_neg ne1]; rfl
          have in1 : (X 1 k, X 2 k, 32 * (X 3 k : Int) + 1, k) ∈ asO X op := (asO_in hd).mpr ⟨k, hk, hb, Or.inl rfl⟩
          have bI2 := bfI_relax (π := fun _ => 0) hA hπ bI1 in1
          refine (r_X7_better (μ := (va_up (va_up μ.1 50 d1) 51 d1', μ.2)) (T := T1) (p := X 1 k) (q := X 2 k) (l := X 3 k) ?_ ?_ (bf_form hd bI1) hdk.1 hdk.2.1 ⟨hdk.2.2.2.1, hdk.2.2.2.2.1⟩ k).mono ?_
          · exact g1
          · exact g2
          rintro v ν ⟨rfl, d2, d2', rfl, g3, g4⟩
          show _ ∧ _ ∧ _ ∧ _ ∧ a_Spec G sX7_better _ (va_up (va_up (va_up (va_up μ.1 50 d1) 51 d1') 50 d2) 51 d2', μ.2) _
          rw [va_up4]
          refine ⟨rfl, by omega, by omega, by omega, ?_⟩
          have q8 : (va_up (va_up (va_up (va_up μ.1 50 d1) 51 d1') 50 d2) 51 d2') 38 k = nI (X 2 k) := by rw [va_up4]; exact c2 k hk
          have q7 : (va_up (va_up (va_up (va_up μ.1 50 d1) 51 d1') 50 d2) 51 d2') 37 k = nI (X 1 k) := by rw [va_up4]; exact c1 k hk
          have q9 : (va_up (va_up (va_up (va_up μ.1 50 d1) 51 d1') 50 d2) 51 d2') 39 k = nI (X 3 k) := by rw [va_up4]; exact c3 k hk
          have key := (r_X7_better (G := G) (μ := (va_up (va_up μ.1 50 d2) 51 d2', μ.2)) (T := relax T1 (X 1 k, X 2 k, 32 * (X 3 k : Int) + 1, k)) (p := X 2 k) (q := X 1 k) (l := X 3 k) g3 g4 (bf_form hd bI2) hdk.2.1 hdk.1 ⟨hdk.2.2.2.1, hdk.2.2.2.2.1⟩ k).mono (post' := fun r2 m2 => r2 = none ∧ a_Runs G sX7_measure 58 [(0, .ref 36), (2, .int (nI r)), (3, .int (nI (k + 1)))] [] m2 post) ?_
          · rw [← q8, ← q7, ← q9] at key
            exact key
          · rintro v ν ⟨rfl, d3, d3', rfl, g5, g6⟩
            refine ⟨rfl, ?_⟩
            show a_Runs G sX7_measure 58 _ [] (va_up (va_up (va_up (va_up μ.1 50 d2) 51 d2') 50 d3) 51 d3', μ.2) post
            rw [va_up4]
            refine ih2 (d3, d3') ?_
            rw [hfold, e2]; exact ⟨g5, g6⟩
  refine w_X7_measure_0 _ ?_
  have init := a_for (fun i (z : (Nat → Int32) × (Nat → Int32)) => a_Runs G sX7_measure 2 [(0, .ref 36), (1, .int (nI g)), (2, .int (nI i))] [] (va_up (va_up μ.1 50 z.1) 51 z.2, μ.2) post) (fun i z => rZ z.1 (farZ (lab0 g)) i ∧ rZ z.2 (byZ (lab0 g)) i) 10 ?_ ?_ 0 (μ.1 50, μ.1 51) (by omega) ⟨fun i hi => by omega, fun i hi => by omega⟩
  · rw [e0]; exact init
  · rintro ⟨c, c'⟩ h
    exact w_X7_measure_2 _ _ ⟨fun _ => rounds (c, c') h, fun h => absurd (by rw [q_le] <;> omega) h⟩
  · rintro i ⟨c, c'⟩ hi ⟨h1, h2⟩ ih
    have h1 : rZ c (farZ (lab0 g)) i := h1
    have h2 : rZ c' (byZ (lab0 g)) i := h2
    refine w_X7_measure_2 _ _ ⟨fun h => ?_, fun _ => ?_⟩
    · rw [q_le (by omega) (by omega)] at h; omega
    have fin : ∀ z y : Int32, z.toInt = farZ (lab0 g) i → y.toInt = byZ (lab0 g) i → a_Runs G sX7_measure 2 [(0, .ref 36), (1, .int (nI g)), (2, .int (nI (i + 1)))] [] (va_up (va_up (va_up (va_up μ.1 50 c) 51 c') 50 (upd c i z)) 51 (upd c' i y), μ.2) post := by
      intro z y hz hy
      rw [va_up4]
      refine ih (upd c i z, upd c' i y) ⟨?_, ?_⟩
      · intro j hj
        show (upd c i z j).toInt = _
        by_cases ej : j = i
        · rw [ej, pk_us, hz]
        · rw [pk_un ej]; exact h1 j (by omega)
      · intro j hj
        show (upd c' i y j).toInt = _
        by_cases ej : j = i
        · rw [ej, pk_us, hy]
        · rw [pk_un ej]; exact h2 j (by omega)
    rw [q_in (by omega), q_cl (by omega), nI_add, q_eq (by omega) (by omega)]
    refine ⟨fun h => ⟨by omega, fun _ => ⟨by omega, fin _ _ ?_ ?_⟩, fun h' => absurd h' h⟩, fun h => ⟨by omega, fun h' => absurd h h', fun _ => ⟨by omega, fin _ _ ?_ ?_⟩⟩⟩
    · unfold farZ lab0; rw [if_neg h, if_pos rfl]; decide
    · unfold byZ lab0; rw [if_neg h, if_pos rfl]; decide
    · unfold farZ lab0; rw [if_pos h, if_neg (by decide)]; decide
    · unfold byZ lab0; rw [if_pos h, if_neg (by decide)]; decide
end MEASURE2
