section NEXT
variable {G : aG} {μ : aMem} {X : aX}
theorem r_X7_across (hd : xD X) (hmd : mD μ X) {d p : Nat} (hdd : d < X 0 0) (hp : p < 2 ^ 31) : a_Ret G sX7_across [.ref 36, .int (nI d), .int (nI p)] μ (some (.int (if X 1 d = p ∨ X 2 d = p then nI (acr X d p) else -9))) μ := by
  intro post hpo
  have hn := hd.1
  have := hd.2 d hdd
  refine w_X7_across_0 _ _ ?_
  rw [q_in (by omega), q_cl (by omega), hmd.2.1 d hdd, hmd.2.2.1 d hdd, q_eq (by omega) hp, q_eq (by omega) hp]
  unfold acr at hpo
  refine ⟨by omega, fun h => ⟨by omega, fun h2 => ?_, fun h2 => ⟨by omega, ?_⟩⟩, fun h => ⟨by omega, ?_⟩⟩
  · rw [if_neg (by omega)] at hpo; exact hpo
  · rw [if_pos (Or.inr h2), if_neg h] at hpo; exact hpo
  · rw [if_pos (Or.inl h), if_pos h] at hpo; exact hpo
theorem nI_m9 {n : Nat} (h : n < 1000) : (nI n = -9) = False := by
  rw [z_eqI, z_nI (by omega), show ((-9 : Int32)).toInt = -9 by decide]; exact propext ⟨fun h => by omega, False.elim⟩
/-- both sides look for the same duct -/
theorem tgt_O (hd : xD X) {op : Nat → Bool} {T : Nat → Int} (hbd : ∀ v, T v = BIG ∨ (0 ≤ T v ∧ T v ≤ 36000 ∧ T v % 32 ≤ 9)) {p d : Nat} (hdd : d < X 0 0) (hTp : T p ≠ BIG) : tgt X (prO X op) (prO X op) T p d = true ↔ op d = true ∧ (X 1 d = p ∨ X 2 d = p) ∧ farZ T (acr X d p) + X 3 d = farZ T p ∧ byZ T (acr X d p) + 1 = byZ T p := by
  have hl := hd.2 d hdd
  have bp := (hbd p).resolve_left hTp
  have bq := hbd (acr X d p)
  have e1 : farZ T p = T p / 32 := by unfold farZ; rw [if_neg hTp]
  have e2 : byZ T p = T p % 32 := by unfold byZ; rw [if_neg hTp]
  unfold tgt
  simp only [Bool.and_eq_true, decide_eq_true_eq]
  have hpr : pfr X (prO X op) (prO X op) d p = if X 1 d = p ∨ X 2 d = p then prO X op d else BIG := by
    unfold pfr
    by_cases h1 : X 1 d = p
    · rw [if_pos h1, if_pos (Or.inl h1)]
    · rw [if_neg h1]
      by_cases h2 : X 2 d = p
      · rw [if_pos h2, if_pos (Or.inr h2)]
      · rw [if_neg h2, if_neg (by omega)]
  rw [hpr]
  by_cases hin : X 1 d = p ∨ X 2 d = p
  · rw [if_pos hin, prO_n hd hdd]
    cases ho : op d with
    | false => simp
    | true =>
      have e3 : prO X op d = 32 * (X 3 d : Int) + 1 := by unfold prO; rw [ho, if_pos rfl]
      rw [e3, e1, e2]
      by_cases hq : T (acr X d p) = BIG
      · have e4 : farZ T (acr X d p) = BIG := by unfold farZ; rw [if_pos hq]
        rw [hq, e4]
        constructor
        · intro h; exfalso; have := h.2; unfold BIG at this; omega
        · intro h; exfalso; have := h.2.2.1; unfold BIG at this; omega
      · have e4 : farZ T (acr X d p) = T (acr X d p) / 32 := by unfold farZ; rw [if_neg hq]
        have e5 : byZ T (acr X d p) = T (acr X d p) % 32 := by unfold byZ; rw [if_neg hq]
        have bq := bq.resolve_left hq
        rw [e4, e5]
        constructor
        · intro h; exact ⟨rfl, hin, by omega, by omega⟩
        · intro h; exact ⟨rfl, by omega⟩
  · rw [if_neg hin]
    constructor
    · intro h; exact absurd rfl h.1
    · intro h; exact absurd h.2.1 hin
theorem r_X7_next (hd : xD X) (hmd : mD μ X) {op : Nat → Bool} (hop : ∀ d, d < X 0 0 → μ.1 49 d = bI (op d)) {T : Nat → Int} (hf : rZ (μ.1 50) (farZ T) 10) (hb : rZ (μ.1 51) (byZ T) 10) (hbd : ∀ v, T v = BIG ∨ (0 ≤ T v ∧ T v ≤ 36000 ∧ T v % 32 ≤ 9)) {p : Nat} (hp : p < 10) (hTp : T p ≠ BIG) (hex : fstS X (prO X op) (prO X op) T p < X 0 0) : a_Ret G sX7_next [.ref 36, .int (nI p)] μ (some (.int (nI (fstS X (prO X op) (prO X op) T p)))) μ := by
  intro post hpo
  have hn := hd.1
  have hno := fa_first_no (tgt X (prO X op) (prO X op) T p) (X 0 0)
  have hyes := fa_first_yes (tgt X (prO X op) (prO X op) T p) (X 0 0) hex
  refine w_X7_next_0 _ ?_
  -- one look at the duct i
  have look : ∀ i, i < X 0 0 → (tgt X (prO X op) (prO X op) T p i = false → a_Runs G sX7_next 2 [(0, .ref 36), (1, .int (nI p)), (2, .int (nI (i + 1)))] [] μ post) → (tgt X (prO X op) (prO X op) T p i = true → post (some (.int (nI i))) μ) → a_Runs G sX7_next 2 [(0, .ref 36), (1, .int (nI p)), (2, .int (nI i))] [] μ post := by
    intro i hi hF hS
    have hal := acr_lt hd (p := p) hi
    have hl := hd.2 i hi
    have hiff := tgt_O hd (op := op) hbd (p := p) hi hTp
    have no : ¬ (op i = true ∧ (X 1 i = p ∨ X 2 i = p) ∧ farZ T (acr X i p) + X 3 i = farZ T p ∧ byZ T (acr X i p) + 1 = byZ T p) → a_Runs G sX7_next 2 [(0, .ref 36), (1, .int (nI p)), (2, .int (nI (i + 1)))] [] μ post := fun h => hF (Bool.eq_false_iff.mpr (fun q => h (hiff.mp q)))
    have fb1 : farZ T (acr X i p) = BIG ∨ (0 ≤ farZ T (acr X i p) ∧ farZ T (acr X i p) ≤ 1125) := by
      unfold farZ; rcases hbd (acr X i p) with h | h
      · rw [if_pos h]; left; rfl
      · rw [if_neg (by unfold BIG; omega)]; right; omega
    have bb1 : byZ T (acr X i p) = BIG ∨ (0 ≤ byZ T (acr X i p) ∧ byZ T (acr X i p) ≤ 9) := by
      unfold byZ; rcases hbd (acr X i p) with h | h
      · rw [if_pos h]; left; rfl
      · rw [if_neg (by unfold BIG; omega)]; right; omega
    have s1 : (μ.1 50 (acr X i p) + nI (X 3 i)).toInt = farZ T (acr X i p) + X 3 i := by rw [fb_addI] <;> rw [hf _ hal, z_nI (by omega)] <;> unfold BIG at * <;> omega
    have s2 : (μ.1 51 (acr X i p) + nI 1).toInt = byZ T (acr X i p) + 1 := by rw [fb_addI] <;> rw [hb _ hal, z_nI (by omega)] <;> unfold BIG at * <;> omega
    refine w_X7_next_2 _ _ ?_
    rw [q_in (by omega), q_cl (by omega), hop i hi, nI_add]
    refine ⟨by omega, br_b (fun h1 => no (fun h => by rw [h1] at h; cases h.1)) (fun h1 => r_X7_across hd hmd hi (by omega) _ ⟨_, rfl, ?_⟩)⟩
    by_cases hin : X 1 i = p ∨ X 2 i = p
    · rw [if_pos hin, nI_m9 (by omega)]
      refine ⟨fun h => h.elim, fun _ => r_X7_across hd hmd hi (by omega) _ ⟨_, rfl, ?_⟩⟩
      rw [if_pos hin, q_in (by omega), q_in (by omega), q_cl (by omega), q_cl (by omega), hmd.2.2.2.1 i hi, z_eqI (μ.1 50 (acr X i p) + nI (X 3 i)) (μ.1 50 p), s1, hf p hp]
      refine ⟨hal, by omega, hp, fun h2 => no (fun h => h2 h.2.2.1), fun h2 => r_X7_across hd hmd hi (by omega) _ ⟨_, rfl, ?_⟩⟩
      rw [if_pos hin, q_in (by omega), q_cl (by omega), z_eqI (μ.1 51 (acr X i p) + nI 1) (μ.1 51 p), s2, hb p hp]
      exact ⟨hal, hp, fun h3 => hS (hiff.mpr ⟨h1, hin, h2, h3⟩), fun h3 => no (fun h => h3 h.2.2.2)⟩
    · rw [if_neg hin]
      exact ⟨fun _ => no (fun h => hin h.2.1), fun h => absurd rfl h⟩
  have key : ∀ n i, i + n = fstS X (prO X op) (prO X op) T p → a_Runs G sX7_next 2 [(0, .ref 36), (1, .int (nI p)), (2, .int (nI i))] [] μ post := by
    intro n
    induction n with
    | zero =>
      intro i hi
      have hi : i = fstS X (prO X op) (prO X op) T p := by omega
      have ht : tgt X (prO X op) (prO X op) T p i = true := by rw [hi]; exact hyes
      exact look i (by rw [hi]; exact hex) (fun h => by rw [ht] at h; cases h) (fun _ => by rw [hi]; exact hpo)
    | succ n ih =>
      intro i hi
      have ht : tgt X (prO X op) (prO X op) T p i = false := hno i (by unfold fstS at hi; omega)
      exact look i (by unfold fstS at *; omega) (fun _ => ih (i + 1) (by omega)) (fun h => by rw [ht] at h; cases h)
  exact key (fstS X (prO X op) (prO X op) T p) 0 (by omega)
end NEXT
