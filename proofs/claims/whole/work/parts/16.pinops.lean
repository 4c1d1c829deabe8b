/-! ===== the pins' own calls, on both sides ===== -/
def aSide (n : Nat → Nat) (x1 x2 : Int32) : Int32 := if inB x2 (nI 0) (nI 15) then if inB x1 (nI 0) (nI (tsts n) - nI 1) then (nI (n x2.toNatClampNeg) >>> (x1 &&& 31)) &&& nI 1 else -2 else -1
def aUsed (n : Nat → Nat) (x : Int32) : Bool := inB x (nI 0) (nI 7) && (usedN n).testBit x.toNatClampNeg
def aShows (n : Nat → Nat) (x1 x2 : Int32) : Int32 := if aUsed n x1 && aUsed n x2 then if x1 = x2 then -3 else x1 ^^^ x2 else -1
def prB (u : Nat) (t : Int32) (a b : Nat) : Bool := decide (a < b) && (u.testBit a && (u.testBit b && decide (nI a ^^^ nI b = t)))
def prs (u : Nat) (t : Int32) (k : Nat) : Nat := fb_sm (fun a => fb_ct (prB u t a) 8) k
theorem prB_0 (u : Nat) (t : Int32) (a : Nat) : fb_ct (prB u t a) (a + 1) = 0 := fb_ct_zero.mpr (fun k hk => by unfold prB; rw [decide_eq_false (by omega), Bool.false_and])
theorem prs_le (u : Nat) (t : Int32) (k : Nat) (hk : k ≤ 8) : prs u t k ≤ 64 := by
  have := fb_sm_bound (f := fun a => fb_ct (prB u t a) 8) (c := 8) (n := k) (fun i _ => fb_ct_le _ _)
  unfold prs; omega
section PINOPS
variable {G : aG} {μ : aMem} {n : Nat → Nat}
theorem r_X6_pin (hn : rp (μ.1 35) n 16) (x1 x2 : Int32) : a_Spec G sX6_pin [.ref 0, .int x1, .int x2] μ (fun v ν => (inB x1 (nI 0) (nI 15) = true ∧ inB x2 (nI 0) (nI 7) = true ∧ v = some (.int (nI (n x1.toNatClampNeg))) ∧ ν = (va_up μ.1 35 (upd (μ.1 35) x1.toNatClampNeg x2), μ.2)) ∨ ((inB x1 (nI 0) (nI 15) && inB x2 (nI 0) (nI 7)) = false ∧ v = some (.int (-1)) ∧ ν = μ)) := by
  refine w_X6_pin_0 _ _ (r_X6_isPin _ _ ⟨_, rfl, br_b (fun h => Or.inr ⟨by rw [h]; rfl, rfl, rfl⟩) (fun h => r_X6_isNet _ _ ⟨_, rfl, br_n (fun h2 => ?_) (fun h2 => Or.inr ⟨by rw [h, h2]; rfl, rfl, rfl⟩)⟩)⟩)
  obtain ⟨j, -, hj, rfl⟩ := inB_e (by decide) h (by decide)
  rw [q_in (by omega), q_cl (by omega), hn j (by omega)]
  exact ⟨by omega, by omega, Or.inl ⟨h, h2, rfl, rfl⟩⟩
theorem r_X7_pin (hn : rp (μ.1 62) n 16) (x1 x2 : Int32) : a_Spec G sX7_pin [.ref 36, .int x1, .int x2] μ (fun v ν => (inB x1 (nI 0) (nI 15) = true ∧ inB x2 (nI 0) (nI 7) = true ∧ v = some (.int (nI (n x1.toNatClampNeg))) ∧ ν = (va_up μ.1 62 (upd (μ.1 62) x1.toNatClampNeg x2), μ.2)) ∨ ((inB x1 (nI 0) (nI 15) && inB x2 (nI 0) (nI 7)) = false ∧ v = some (.int (-1)) ∧ ν = μ)) := by
  refine w_X7_pin_0 _ _ (r_X7_isPin _ _ ⟨_, rfl, br_b (fun h => Or.inr ⟨by rw [h]; rfl, rfl, rfl⟩) (fun h => r_X7_in _ _ _ _ ⟨_, rfl, br_n (fun h2 => ?_) (fun h2 => Or.inr ⟨by rw [h, h2]; rfl, rfl, rfl⟩)⟩)⟩)
  obtain ⟨j, -, hj, rfl⟩ := inB_e (by decide) h (by decide)
  rw [q_in (by omega), q_cl (by omega), hn j (by omega)]
  exact ⟨by omega, by omega, Or.inl ⟨h, h2, rfl, rfl⟩⟩
theorem r_X6_tests (hn : rp (μ.1 35) n 16) (h8 : ∀ p, p < 16 → n p < 8) : a_Ret G sX6_tests [.ref 0] μ (some (.int (nI (tsts n)))) μ := fun _ hp => w_X6_tests_0 (r_X2_testsNeeded hn h8 _ ⟨_, rfl, hp⟩)
theorem r_X7_tests (hn : rp (μ.1 62) n 16) (h8 : ∀ p, p < 16 → n p < 8) : a_Ret G sX7_tests [.ref 36] μ (some (.int (nI (tsts n)))) μ := fun _ hp => w_X7_tests_0 (r_X7_testMany hn h8 _ ⟨_, rfl, hp⟩)
theorem r_X6_side (hn : rp (μ.1 35) n 16) (h8 : ∀ p, p < 16 → n p < 8) (x1 x2 : Int32) : a_Ret G sX6_side [.ref 0, .int x1, .int x2] μ (some (.int (aSide n x1 x2))) μ := by
  intro post hp
  unfold aSide at hp
  refine w_X6_side_0 _ _ (r_X6_isPin _ _ ⟨_, rfl, br_n (fun h => r_X2_testsNeeded hn h8 _ ⟨_, rfl, r_X6_isWithin _ _ _ _ ⟨_, rfl, br_n (fun h2 => ?_) (fun h2 => ?_)⟩⟩) (fun h => ?_)⟩)
  · obtain ⟨j, -, hj, rfl⟩ := inB_e (by decide) h (by decide)
    rw [h, if_pos rfl, h2, if_pos rfl, q_cl (by omega)] at hp
    rw [q_in (by omega), q_cl (by omega), hn j (by omega)]
    exact ⟨by omega, hp⟩
  · rw [h, if_pos rfl, h2, if_neg (by decide)] at hp; exact hp
  · rw [h, if_neg (by decide)] at hp; exact hp
theorem r_X7_side (hn : rp (μ.1 62) n 16) (h8 : ∀ p, p < 16 → n p < 8) (x1 x2 : Int32) : a_Ret G sX7_side [.ref 36, .int x1, .int x2] μ (some (.int (aSide n x1 x2))) μ := by
  intro post hp
  unfold aSide at hp
  refine w_X7_side_0 _ _ (r_X7_isPin _ _ ⟨_, rfl, br_n (fun h => r_X7_testMany hn h8 _ ⟨_, rfl, r_X7_in _ _ _ _ ⟨_, rfl, br_b (fun h2 => ?_) (fun h2 => ?_)⟩⟩) (fun h => ?_)⟩)
  · rw [h, if_pos rfl, h2, if_neg (by decide)] at hp; exact hp
  · obtain ⟨j, -, hj, rfl⟩ := inB_e (by decide) h (by decide)
    rw [h, if_pos rfl, h2, if_pos rfl, q_cl (by omega)] at hp
    rw [q_in (by omega), q_cl (by omega), hn j (by omega)]
    exact ⟨by omega, hp⟩
  · rw [h, if_neg (by decide)] at hp; exact hp
theorem r_X2_isUsed (hn : rp (μ.1 35) n 16) (h8 : ∀ p, p < 16 → n p < 8) {j : Nat} (hj : j < 32) : a_Ret G sX2_isUsed [.ref 6, .int (nI j)] μ (some (.int (bI ((usedN n).testBit j)))) μ := by
  intro post hp
  have := usedN_lt h8
  exact w_X2_isUsed_0 _ (r_X2_usedNets hn h8 _ ⟨_, rfl, r_X6_has (by omega) hj _ ⟨_, rfl, bI_01 _, hp⟩⟩)
theorem r_X6_shows (hn : rp (μ.1 35) n 16) (h8 : ∀ p, p < 16 → n p < 8) (x1 x2 : Int32) : a_Ret G sX6_shows [.ref 0, .int x1, .int x2] μ (some (.int (aShows n x1 x2))) μ := by
  intro post hp
  unfold aShows aUsed at hp
  refine w_X6_shows_0 _ _ (r_X6_isNet _ _ ⟨_, rfl, br_b (fun h => ?_) (fun h => r_X6_isNet _ _ ⟨_, rfl, br_n (fun h2 => ?_) (fun h2 => ?_)⟩)⟩)
  · rw [h] at hp; simpa using hp
  · obtain ⟨j, -, hj, rfl⟩ := inB_e (by decide) h (by decide)
    obtain ⟨k, -, hk, rfl⟩ := inB_e (by decide) h2 (by decide)
    rw [h, h2, Bool.true_and, Bool.true_and, q_cl (by omega), q_cl (by omega)] at hp
    refine r_X2_isUsed hn h8 (by omega) _ ⟨_, rfl, br_b (fun h3 => ?_) (fun h3 => r_X2_isUsed hn h8 (by omega) _ ⟨_, rfl, br_n (fun h4 => br_d (fun h5 => ?_) (fun h5 => ?_)) (fun h4 => ?_)⟩)⟩
    · rw [h3] at hp; simpa using hp
    · rw [h3, h4, Bool.and_self, if_pos rfl, if_neg h5] at hp; exact hp
    · rw [h3, h4, Bool.and_self, if_pos rfl, if_pos h5] at hp; exact hp
    · rw [h4, Bool.and_false] at hp; simpa using hp
  · rw [h2] at hp; simpa using hp
theorem r_X7_hasPins (hn : rp (μ.1 62) n 16) (h8 : ∀ p, p < 16 → n p < 8) (x : Int32) : a_Ret G sX7_hasPins [.ref 36, .int x] μ (some (.int (bI (aUsed n x)))) μ := by
  intro post hp
  unfold aUsed at hp
  have := usedN_lt h8
  refine w_X7_hasPins_0 _ (r_X7_in _ _ _ _ ⟨_, rfl, br_b (fun h => ?_) (fun h => r_X7_nets hn h8 _ ⟨_, rfl, ?_⟩)⟩)
  · rw [h, Bool.false_and] at hp; exact ⟨nI_00, hp⟩
  · obtain ⟨j, -, hj, rfl⟩ := inB_e (by decide) h (by decide)
    rw [h, Bool.true_and, q_cl (by omega)] at hp
    rw [q_bit (by omega) (by omega), bI_1]
    refine br_d (fun h2 => ?_) (fun h2 => ?_)
    · rw [Bool.eq_false_iff.mpr h2] at hp; exact ⟨nI_00, hp⟩
    · rw [h2] at hp; exact ⟨nI_11, hp⟩
theorem r_X7_shows (hn : rp (μ.1 62) n 16) (h8 : ∀ p, p < 16 → n p < 8) (x1 x2 : Int32) : a_Ret G sX7_shows [.ref 36, .int x1, .int x2] μ (some (.int (aShows n x1 x2))) μ := by
  intro post hp
  unfold aShows at hp
  refine w_X7_shows_0 _ _ (r_X7_hasPins hn h8 _ _ ⟨_, rfl, br_b (fun h => ?_) (fun h => r_X7_hasPins hn h8 _ _ ⟨_, rfl, br_n (fun h2 => br_d (fun h5 => ?_) (fun h5 => ?_)) (fun h2 => ?_)⟩)⟩)
  · rw [h] at hp; simpa using hp
  · rw [h, h2, Bool.and_self, if_pos rfl, if_neg h5] at hp; exact hp
  · rw [h, h2, Bool.and_self, if_pos rfl, if_pos h5] at hp; exact hp
  · rw [h2, Bool.and_false] at hp; simpa using hp
theorem r_X2_pairs (hn : rp (μ.1 35) n 16) (h8 : ∀ p, p < 16 → n p < 8) (t : Int32) : a_Ret G sX2_pairsUnlikeJustIn [.ref 6, .int t] μ (some (.int (nI (prs (usedN n) t 8)))) μ := by
  intro post hp
  have hu := usedN_lt h8
  refine w_X2_pairsUnlikeJustIn_0 _ (r_X2_usedNets hn h8 _ ⟨_, rfl, ?_⟩)
  refine a_for (fun i (x : Int32) => a_Runs G sX2_pairsUnlikeJustIn 10 [(1, .int t), (2, .int (nI (usedN n))), (3, .int x), (4, .int (nI i))] [] μ post) (fun i x => x = nI (prs (usedN n) t i)) 8 ?_ ?_ 0 (nI 0) (by omega) rfl
  · rintro x rfl
    exact w_X2_pairsUnlikeJustIn_10 _ _ _ _ ⟨fun _ => hp, fun h => absurd (by rw [q_le] <;> omega) h⟩
  · rintro a x ha rfl ih
    refine w_X2_pairsUnlikeJustIn_10 _ _ _ _ ⟨fun h => ?_, fun h => ?_⟩
    · rw [q_le (by omega) (by omega)] at h; omega
    rw [nI_add]
    have hb0 : prs (usedN n) t a + fb_ct (prB (usedN n) t a) (a + 1) = prs (usedN n) t a := by rw [prB_0]; rfl
    refine a_for (fun i (x : Int32) => a_Runs G sX2_pairsUnlikeJustIn 23 [(1, .int t), (2, .int (nI (usedN n))), (3, .int x), (4, .int (nI a)), (5, .int (nI i))] [] μ post) (fun i x => a < i ∧ x = nI (prs (usedN n) t a + fb_ct (prB (usedN n) t a) i)) 8 ?_ ?_ (a + 1) _ (by omega) ⟨by omega, by rw [hb0]⟩
    · rintro x ⟨-, rfl⟩
      refine w_X2_pairsUnlikeJustIn_23 _ _ _ _ _ ⟨fun _ => ?_, fun h => absurd (by rw [q_le] <;> omega) h⟩
      rw [nI_add]; exact ih _ rfl
    · rintro b x hb ⟨hab, rfl⟩ ih2
      refine w_X2_pairsUnlikeJustIn_23 _ _ _ _ _ ⟨fun h => ?_, fun h => ?_⟩
      · rw [q_le (by omega) (by omega)] at h; omega
      rw [nI_add, nI_add]
      have e0 : prB (usedN n) t a b = ((usedN n).testBit a && ((usedN n).testBit b && decide (nI a ^^^ nI b = t))) := by unfold prB; rw [decide_eq_true hab, Bool.true_and]
      refine r_X6_has (by omega) (by omega) _ ⟨_, rfl, br_b (fun h1 => ih2 _ ⟨by omega, ?_⟩) (fun h1 => r_X6_has (by omega) (by omega) _ ⟨_, rfl, br_b (fun h2 => ih2 _ ⟨by omega, ?_⟩) (fun h2 => br_d (fun h3 => ih2 _ ⟨by omega, ?_⟩) (fun h3 => ih2 _ ⟨by omega, ?_⟩))⟩)⟩
      · rw [fb_ct_succ, e0, h1, Bool.false_and]; rfl
      · rw [fb_ct_succ, e0, h1, h2, Bool.false_and, Bool.and_false]; rfl
      · rw [fb_ct_succ, e0, h1, h2, decide_eq_false h3]; rfl
      · rw [fb_ct_succ, e0, h1, h2, decide_eq_true h3]; rfl
theorem r_X7_pairs (hn : rp (μ.1 62) n 16) (h8 : ∀ p, p < 16 → n p < 8) (t : Int32) : a_Ret G sX7_pairs [.ref 36, .int t] μ (some (.int (nI (prs (usedN n) t 8)))) μ := by
  intro post hp
  have hu := usedN_lt h8
  refine w_X7_pairs_0 _ ?_
  have hus : ∀ j, j < 8 → aUsed n (nI j) = (usedN n).testBit j := fun j hj => by
    unfold aUsed; rw [inB_nI (by omega) (by omega) (by omega), decide_eq_true (by omega), decide_eq_true (by omega), q_cl (by omega)]; rfl
  refine a_for (fun i (x : Int32) => a_Runs G sX7_pairs 4 [(0, .ref 36), (1, .int t), (2, .int x), (3, .int (nI i))] [] μ post) (fun i x => x = nI (prs (usedN n) t i)) 8 ?_ ?_ 0 (nI 0) (by omega) rfl
  · rintro x rfl
    exact w_X7_pairs_4 _ _ _ ⟨fun _ => hp, fun h => absurd (by rw [q_le] <;> omega) h⟩
  · rintro a x ha rfl ih
    refine w_X7_pairs_4 _ _ _ ⟨fun h => ?_, fun h => ?_⟩
    · rw [q_le (by omega) (by omega)] at h; omega
    rw [nI_add]
    have hb0 : prs (usedN n) t a + fb_ct (prB (usedN n) t a) (a + 1) = prs (usedN n) t a := by rw [prB_0]; rfl
    refine a_for (fun i (x : Int32) => a_Runs G sX7_pairs 15 [(0, .ref 36), (1, .int t), (2, .int x), (3, .int (nI a)), (4, .int (nI i))] [] μ post) (fun i x => a < i ∧ x = nI (prs (usedN n) t a + fb_ct (prB (usedN n) t a) i)) 8 ?_ ?_ (a + 1) _ (by omega) ⟨by omega, by rw [hb0]⟩
    · rintro x ⟨-, rfl⟩
      refine w_X7_pairs_15 _ _ _ _ ⟨fun _ => ?_, fun h => absurd (by rw [q_le] <;> omega) h⟩
      rw [nI_add]; exact ih _ rfl
    · rintro b x hb ⟨hab, rfl⟩ ih2
      refine w_X7_pairs_15 _ _ _ _ ⟨fun h => ?_, fun h => ?_⟩
      · rw [q_le (by omega) (by omega)] at h; omega
      rw [nI_add, nI_add, nI_add]
      have e0 : prB (usedN n) t a b = ((usedN n).testBit a && ((usedN n).testBit b && decide (nI a ^^^ nI b = t))) := by unfold prB; rw [decide_eq_true hab, Bool.true_and]
      refine r_X7_hasPins hn h8 _ _ ⟨_, rfl, br_b (fun h1 => ih2 _ ⟨by omega, ?_⟩) (fun h1 => r_X7_hasPins hn h8 _ _ ⟨_, rfl, br_b (fun h2 => ih2 _ ⟨by omega, ?_⟩) (fun h2 => br_d (fun h3 => ih2 _ ⟨by omega, ?_⟩) (fun h3 => ih2 _ ⟨by omega, ?_⟩))⟩)⟩
      · rw [hus a (by omega)] at h1; rw [fb_ct_succ, e0, h1, Bool.false_and]; rfl
      · rw [hus a (by omega)] at h1; rw [hus b (by omega)] at h2; rw [fb_ct_succ, e0, h1, h2, Bool.false_and, Bool.and_false]; rfl
      · rw [hus a (by omega)] at h1; rw [hus b (by omega)] at h2; rw [fb_ct_succ, e0, h1, h2, decide_eq_false h3]; rfl
      · rw [hus a (by omega)] at h1; rw [hus b (by omega)] at h2; rw [fb_ct_succ, e0, h1, h2, decide_eq_true h3]; rfl
theorem r_X6_pairs (hn : rp (μ.1 35) n 16) (h8 : ∀ p, p < 16 → n p < 8) (t : Int32) : a_Ret G sX6_pairs [.ref 0, .int t] μ (some (.int (nI (prs (usedN n) t 8)))) μ := fun _ hp => w_X6_pairs_0 _ (r_X2_pairs hn h8 _ _ ⟨_, rfl, hp⟩)
end PINOPS
