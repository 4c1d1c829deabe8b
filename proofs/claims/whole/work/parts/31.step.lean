/-! ===== the first step of a way, on both sides ===== -/
def acr (X : aX) (d p : Nat) : Nat := if X 1 d = p then X 2 d else X 1 d
def pfr (X : aX) (pf pb : Nat → Int) (d p : Nat) : Int := if X 1 d = p then pf d else if X 2 d = p then pb d else BIG
def tgt (X : aX) (pf pb T : Nat → Int) (p d : Nat) : Bool := decide (pfr X pf pb d p ≠ BIG) && decide (T p = pfr X pf pb d p + T (acr X d p))
def fstS (X : aX) (pf pb T : Nat → Int) (p : Nat) : Nat := fa_first (tgt X pf pb T p) (X 0 0)
section STEP
variable {G : aG} {μ : aMem} {X : aX}
theorem acr_lt (hd : xD X) {d p : Nat} (h : d < X 0 0) : acr X d p < 10 := by
  have := hd.2 d h
  unfold acr; split <;> omega
theorem r_X0_across (hd : xD X) (hcd : cD μ X) {d p : Nat} (hdd : d < X 0 0) (hp : p < 2 ^ 31) : a_Ret G sX0_across [.ref 1, .int (nI d), .int (nI p)] μ (some (.int (nI (acr X d p)))) μ := by
  intro post hpo
  have hn := hd.1
  have := hd.2 d hdd
  refine w_X0_across_0 _ _ ?_
  rw [q_in (by omega), q_cl (by omega), hcd.2.1 d hdd, hcd.2.2.1 d hdd, q_eq (by omega) hp]
  unfold acr at hpo
  refine ⟨by omega, fun h => ⟨by omega, ?_⟩, fun h => ⟨by omega, ?_⟩⟩
  · rw [if_neg h] at hpo; exact hpo
  · rw [if_pos h] at hpo; exact hpo
theorem r_X3_priceFrom (hd : xD X) (hcd : cD μ X) {pf pb : Nat → Int} (hpf : rZ (μ.1 22) pf (X 0 0)) (hpb : rZ (μ.1 23) pb (X 0 0)) {d p : Nat} (hdd : d < X 0 0) (hp : p < 2 ^ 31) : a_Spec G sX3_priceFrom [.ref 3, .int (nI d), .int (nI p)] μ (fun v ν => ν = μ ∧ ∃ z : Int32, v = some (.int z) ∧ z.toInt = pfr X pf pb d p) := by
  have hn := hd.1
  have := hd.2 d hdd
  refine w_X3_priceFrom_0 _ _ ?_
  rw [q_in (by omega), q_cl (by omega), hcd.2.1 d hdd, hcd.2.2.1 d hdd, q_eq (by omega) hp, q_eq (by omega) hp]
  unfold pfr
  refine ⟨by omega, fun h => ⟨by omega, fun h2 => ⟨rfl, _, rfl, ?_⟩, fun h2 => ⟨by omega, rfl, _, rfl, ?_⟩⟩, fun h => ⟨by omega, rfl, _, rfl, ?_⟩⟩
  · rw [if_neg h, if_neg h2]; decide
  · rw [if_neg h, if_pos h2]; exact hpb d hdd
  · rw [if_pos h]; exact hpf d hdd
theorem r_X3_firstStep (hd : xD X) (hcd : cD μ X) {pf pb : Nat → Int} (hpf : rZ (μ.1 22) pf (X 0 0)) (hpb : rZ (μ.1 23) pb (X 0 0)) (hbf : ∀ k, k < X 0 0 → pf k = BIG ∨ (-4000 ≤ pf k ∧ pf k ≤ 4000)) (hbb : ∀ k, k < X 0 0 → pb k = BIG ∨ (-4000 ≤ pb k ∧ pb k ≤ 4000)) {T : Nat → Int} (hT : rZ (μ.1 24) T 10) (hTb : ∀ v, T v = BIG ∨ (-36000 ≤ T v ∧ T v ≤ 36000)) {p : Nat} (hp : p < 10) (hex : fstS X pf pb T p < X 0 0) : a_Spec G sX3_firstStep [.ref 3, .int (nI p)] μ (fun v ν => ν = μ ∧ v = some (.int (nI (fstS X pf pb T p)))) := by
  have hn := hd.1
  have hno := fa_first_no (tgt X pf pb T p) (X 0 0)
  have hyes := fa_first_yes (tgt X pf pb T p) (X 0 0) hex
  have hb : (nI 1000000).toInt = BIG := by decide
  have pbd : ∀ d, d < X 0 0 → pfr X pf pb d p = BIG ∨ (-4000 ≤ pfr X pf pb d p ∧ pfr X pf pb d p ≤ 4000) := by
    intro d hdd
    unfold pfr
    split
    · exact hbf d hdd
    · split
      · exact hbb d hdd
      · exact Or.inl rfl
  refine w_X3_firstStep_0 _ ?_
  have key : ∀ n i, i + n = fstS X pf pb T p → a_Runs G sX3_firstStep 2 [(0, .ref 3), (1, .int (nI p)), (2, .int (nI i))] [] μ (fun v ν => ν = μ ∧ v = some (.int (nI (fstS X pf pb T p)))) := by
    intro n
    induction n with
    | zero =>
      intro i hi
      have hi : i = fstS X pf pb T p := by omega
      have ht : tgt X pf pb T p i = true := by rw [hi]; exact hyes
      have hil : i < X 0 0 := by rw [hi]; exact hex
      unfold tgt at ht
      simp only [Bool.and_eq_true, decide_eq_true_eq] at ht
      refine w_X3_firstStep_2 _ _ ⟨fun h => ?_, fun _ => (r_X3_priceFrom hd hcd hpf hpb hil (by omega)).mono ?_⟩
      · rw [hcd.1, q_le (by omega) (by omega)] at h; omega
      rintro v ν ⟨rfl, z, rfl, hz⟩
      refine ⟨z, rfl, ?_⟩
      rw [z_eqI z (nI 1000000), hb, hz]
      refine ⟨fun h => absurd h ht.1, fun h => ?_⟩
      have hal := acr_lt hd (p := p) hil
      rw [q_in (by omega), q_cl (by omega)]
      refine ⟨hp, r_X0_across hd hcd hil (by omega) _ ⟨_, rfl, ?_⟩⟩
      rw [q_in (by omega), q_cl (by omega)]
      have b1 := pbd i hil
      have b2 := hTb (acr X i p)
      have hs : (z + ν.1 24 (acr X i p)).toInt = pfr X pf pb i p + T (acr X i p) := by rw [fb_addI] <;> rw [hz, hT _ hal] <;> unfold BIG at * <;> omega
      rw [z_eqI (ν.1 24 p), hs, hT p hp]
      exact ⟨hal, fun h => absurd ht.2 h, fun _ => ⟨rfl, by rw [hi]⟩⟩
    | succ n ih =>
      intro i hi
      have ht : tgt X pf pb T p i = false := hno i (by unfold fstS at hi; omega)
      have hil : i < X 0 0 := by unfold fstS at *; omega
      unfold tgt at ht
      refine w_X3_firstStep_2 _ _ ⟨fun h => ?_, fun _ => (r_X3_priceFrom hd hcd hpf hpb hil (by omega)).mono ?_⟩
      · rw [hcd.1, q_le (by omega) (by omega)] at h; omega
      rintro v ν ⟨rfl, z, rfl, hz⟩
      refine ⟨z, rfl, ?_⟩
      rw [z_eqI z (nI 1000000), hb, hz, nI_add]
      refine ⟨fun h => ih (i + 1) (by omega), fun h => ?_⟩
      have hal := acr_lt hd (p := p) hil
      rw [q_in (by omega), q_cl (by omega)]
      refine ⟨hp, r_X0_across hd hcd hil (by omega) _ ⟨_, rfl, ?_⟩⟩
      rw [q_in (by omega), q_cl (by omega)]
      have b1 := pbd i hil
      have b2 := hTb (acr X i p)
      have hs : (z + ν.1 24 (acr X i p)).toInt = pfr X pf pb i p + T (acr X i p) := by rw [fb_addI] <;> rw [hz, hT _ hal] <;> unfold BIG at * <;> omega
      rw [z_eqI (ν.1 24 p), hs, hT p hp]
      refine ⟨hal, fun _ => ih (i + 1) (by omega), fun h2 => ?_⟩
      rw [decide_eq_true h, decide_eq_true h2] at ht
      cases ht
  exact key (fstS X pf pb T p) 0 (by omega)
end STEP
