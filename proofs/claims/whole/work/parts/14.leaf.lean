/-! ===== the small methods ===== -/
def inB (x a b : Int32) : Bool := decide (a ≤ x) && decide (x ≤ b)
theorem inB_e {x : Int32} {a b : Nat} (hb : b < 2 ^ 31) (h : inB x (nI a) (nI b) = true) (ha : a < 2 ^ 31) : ∃ j, a ≤ j ∧ j ≤ b ∧ x = nI j := by
  unfold inB at h
  simp only [Bool.and_eq_true, decide_eq_true_eq, Int32.le_iff_toInt_le, nI_toInt ha, nI_toInt hb] at h
  refine ⟨x.toInt.toNat, by omega, by omega, ?_⟩
  rw [← Int32.toInt_inj, nI_toInt (by omega)]
  omega
theorem inB_nI {j a b : Nat} (hj : j < 2 ^ 31) (ha : a < 2 ^ 31) (hb : b < 2 ^ 31) : inB (nI j) (nI a) (nI b) = (decide (a ≤ j) && decide (j ≤ b)) := by
  unfold inB
  rw [decide_eq_decide.mpr (nI_leI ha hj), decide_eq_decide.mpr (nI_leI hj hb)]
theorem inB_m1 {x : Int32} {n : Nat} (hn : n < 2 ^ 30) : inB x (nI 0) (nI n - nI 1) = true ↔ ∃ j, j < n ∧ x = nI j := by
  have h1 : (nI n - nI 1).toInt = (n : Int) - 1 := pk_sub_toInt hn (by decide)
  unfold inB
  simp only [Bool.and_eq_true, decide_eq_true_eq, Int32.le_iff_toInt_le, h1, nI_toInt (show 0 < 2 ^ 31 by decide)]
  constructor
  · intro h
    refine ⟨x.toInt.toNat, by omega, ?_⟩
    rw [← Int32.toInt_inj, nI_toInt (by omega)]
    omega
  · rintro ⟨j, hj, rfl⟩
    rw [nI_toInt (by omega)]
    omega
theorem inB_post {P : Int32 → Prop} {x a b : Int32} (hp : P (bI (inB x a b))) : ((x < a → P (nI 0)) ∧ (¬ x < a → ((b < x → P (nI 0)) ∧ (¬ b < x → P (nI 1))))) := by
  unfold inB at hp
  refine ⟨fun h => ?_, fun h => ⟨fun h2 => ?_, fun h2 => ?_⟩⟩
  · have e : decide (a ≤ x) = false := decide_eq_false (by rw [Int32.le_iff_toInt_le]; rw [Int32.lt_iff_toInt_lt] at h; omega)
    rw [e] at hp; exact hp
  · have e : decide (x ≤ b) = false := decide_eq_false (by rw [Int32.le_iff_toInt_le]; rw [Int32.lt_iff_toInt_lt] at h2; omega)
    rw [e, Bool.and_false] at hp; exact hp
  · have e : decide (a ≤ x) = true := decide_eq_true (by rw [Int32.le_iff_toInt_le]; rw [Int32.lt_iff_toInt_lt] at h; omega)
    have e2 : decide (x ≤ b) = true := decide_eq_true (by rw [Int32.le_iff_toInt_le]; rw [Int32.lt_iff_toInt_lt] at h2; omega)
    rw [e, e2] at hp; exact hp
section LEAF
variable {G : aG} {μ : aMem}
theorem r_X6_isWithin (x a b : Int32) : a_Ret G sX6_isWithin [.int x, .int a, .int b] μ (some (.int (bI (inB x a b)))) μ := by
  intro post hp
  obtain ⟨h1, h2⟩ := inB_post (P := fun z => post (some (.int z)) μ) hp
  exact w_X6_isWithin_0 _ _ _ ⟨fun h => ⟨nI_00, h1 h⟩, fun h => ⟨fun h' => ⟨nI_00, (h2 h).1 h'⟩, fun h' => ⟨nI_11, (h2 h).2 h'⟩⟩⟩
theorem r_X7_in (x a b : Int32) : a_Ret G sX7_in [.int x, .int a, .int b] μ (some (.int (bI (inB x a b)))) μ := by
  intro post hp
  obtain ⟨h1, h2⟩ := inB_post (P := fun z => post (some (.int z)) μ) hp
  exact w_X7_in_0 _ _ _ ⟨fun h => ⟨nI_00, h1 h⟩, fun h => ⟨fun h' => ⟨nI_00, (h2 h).1 h'⟩, fun h' => ⟨nI_11, (h2 h).2 h'⟩⟩⟩
theorem r_X6_isPlace (x : Int32) : a_Ret G sX6_isPlace [.int x] μ (some (.int (bI (inB x (nI 0) (nI 9))))) μ := fun _ hp => w_X6_isPlace_0 _ (r_X6_isWithin _ _ _ _ ⟨_, rfl, bI_01 _, hp⟩)
theorem r_X6_isKind (x : Int32) : a_Ret G sX6_isKind [.int x] μ (some (.int (bI (inB x (nI 0) (nI 3))))) μ := fun _ hp => w_X6_isKind_0 _ (r_X6_isWithin _ _ _ _ ⟨_, rfl, bI_01 _, hp⟩)
theorem r_X6_isPin (x : Int32) : a_Ret G sX6_isPin [.int x] μ (some (.int (bI (inB x (nI 0) (nI 15))))) μ := fun _ hp => w_X6_isPin_0 _ (r_X6_isWithin _ _ _ _ ⟨_, rfl, bI_01 _, hp⟩)
theorem r_X6_isNet (x : Int32) : a_Ret G sX6_isNet [.int x] μ (some (.int (bI (inB x (nI 0) (nI 7))))) μ := fun _ hp => w_X6_isNet_0 _ (r_X6_isWithin _ _ _ _ ⟨_, rfl, bI_01 _, hp⟩)
theorem r_X6_isWire (x : Int32) : a_Ret G sX6_isWire [.ref 0, .int x] μ (some (.int (bI (inB x (nI 0) (μ.1 2 0 - nI 1))))) μ := fun _ hp => w_X6_isWire_0 _ (r_X6_isWithin _ _ _ _ ⟨_, rfl, bI_01 _, hp⟩)
theorem r_X7_isPlace (x : Int32) : a_Ret G sX7_isPlace [.int x] μ (some (.int (bI (inB x (nI 0) (nI 9))))) μ := fun _ hp => w_X7_isPlace_0 _ (r_X7_in _ _ _ _ ⟨_, rfl, bI_01 _, hp⟩)
theorem r_X7_isPin (x : Int32) : a_Ret G sX7_isPin [.int x] μ (some (.int (bI (inB x (nI 0) (nI 15))))) μ := fun _ hp => w_X7_isPin_0 _ (r_X7_in _ _ _ _ ⟨_, rfl, bI_01 _, hp⟩)
theorem r_X7_isDuct (x : Int32) : a_Ret G sX7_isDuct [.ref 36, .int x] μ (some (.int (bI (inB x (nI 0) (μ.1 36 0 - nI 1))))) μ := fun _ hp => w_X7_isDuct_0 _ (r_X7_in _ _ _ _ ⟨_, rfl, bI_01 _, hp⟩)
theorem r_X7_isWire (x : Int32) : a_Ret G sX7_isWire [.ref 36, .int x] μ (some (.int (bI (inB x (nI 0) (μ.1 36 5 - nI 1))))) μ := fun _ hp => w_X7_isWire_0 _ (r_X7_in _ _ _ _ ⟨_, rfl, bI_01 _, hp⟩)
theorem r_X6_has {s k : Nat} (hs : s < 2 ^ 31) (hk : k < 32) : a_Ret G sX6_has [.int (nI s), .int (nI k)] μ (some (.int (bI (s.testBit k)))) μ := by
  intro post hp
  refine w_X6_has_0 _ _ ?_
  rw [q_bit hs hk, bI_1]
  refine ⟨fun h => ⟨nI_00, ?_⟩, fun h => ⟨nI_11, ?_⟩⟩
  · rw [Bool.eq_false_iff.mpr h] at hp; exact hp
  · rw [h] at hp; exact hp
end LEAF
