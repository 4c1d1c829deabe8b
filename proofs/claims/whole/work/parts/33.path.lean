/-! ===== the way itself: places and ducts, step by step ===== -/
def vtx (X : aX) (pf pb T : Nat → Int) (p : Nat) : Nat → Nat
  | 0 => p
  | i + 1 => acr X (fstS X pf pb T (vtx X pf pb T p i)) (vtx X pf pb T p i)
def stp (X : aX) (pf pb T : Nat → Int) (p i : Nat) : Nat := fstS X pf pb T (vtx X pf pb T p i)
theorem vtx_shift (X : aX) (pf pb T : Nat → Int) (p : Nat) : ∀ i, vtx X pf pb T p (i + 1) = vtx X pf pb T (acr X (fstS X pf pb T p) p) i
  | 0 => rfl
  | i + 1 => by
    show acr X (fstS X pf pb T (vtx X pf pb T p (i + 1))) (vtx X pf pb T p (i + 1)) = _
    rw [vtx_shift X pf pb T p i]; rfl
theorem stp_shift (X : aX) (pf pb T : Nat → Int) (p i : Nat) : stp X pf pb T p (i + 1) = stp X pf pb T (acr X (fstS X pf pb T p) p) i := by
  unfold stp; rw [vtx_shift]
/-- a label that isn't the goal's has a first step; where it leads -/
theorem path_step {X : aX} (hd : xD X) {op : Nat → Bool} {g : Nat} (hg : g < 10) {v : Nat} (hv : v ≠ g) (hne : labO X op g v ≠ BIG) : fstS X (prO X op) (prO X op) (labO X op g) v < X 0 0 ∧ (X 1 (fstS X (prO X op) (prO X op) (labO X op g) v) = v ∨ X 2 (fstS X (prO X op) (prO X op) (labO X op g) v) = v) ∧ labO X op g (acr X (fstS X (prO X op) (prO X op) (labO X op g) v) v) ≠ BIG ∧ labO X op g v = 32 * (X 3 (fstS X (prO X op) (prO X op) (labO X op g) v) : Int) + 1 + labO X op g (acr X (fstS X (prO X op) (prO X op) (labO X op g) v) v) := by
  have hA := asO_ok hd op
  have hπ := asO_pot hd op
  have hform : ∀ u, labO X op g u = BIG ∨ (0 ≤ labO X op g u ∧ labO X op g u ≤ 36000 ∧ labO X op g u % 32 ≤ 9) := bf_form hd (bfI_rnds (π := fun _ => 0) hA hπ hg 9)
  obtain ⟨e, he, h1, h2, h3⟩ := bf_tight (π := fun _ => 0) hA hπ hg (Nat.le_refl 9) (by decide) hv hne
  have h2 : labO X op g e.2.1 ≠ BIG := h2
  have h3 : labO X op g v = e.2.2.1 + labO X op g e.2.1 := h3
  obtain ⟨d, hdd, ho, hed⟩ := (asO_in hd).mp he
  have hl := hd.2 d hdd
  have hacr : e.2.1 = acr X d v ∧ (X 1 d = v ∨ X 2 d = v) ∧ e.2.2.1 = 32 * (X 3 d : Int) + 1 := by
    rcases hed with rfl | rfl
    · have h1 : X 1 d = v := h1
      refine ⟨?_, Or.inl h1, rfl⟩
      show X 2 d = acr X d v
      unfold acr; rw [if_pos h1]
    · have h1 : X 2 d = v := h1
      refine ⟨?_, Or.inr h1, rfl⟩
      show X 1 d = acr X d v
      unfold acr; rw [if_neg (by omega)]
  obtain ⟨q1, q2, q3⟩ := hacr
  rw [q1] at h2 h3
  rw [q3] at h3
  have htd : tgt X (prO X op) (prO X op) (labO X op g) v d = true := by
    refine (tgt_O hd hform hdd hne).mpr ⟨ho, q2, ?_, ?_⟩
    · have b := (hform (acr X d v)).resolve_left h2
      unfold farZ; rw [if_neg h2, if_neg hne]; omega
    · have b := (hform (acr X d v)).resolve_left h2
      unfold byZ; rw [if_neg h2, if_neg hne]; omega
  have hex : fstS X (prO X op) (prO X op) (labO X op g) v < X 0 0 := by
    unfold fstS
    rcases Nat.lt_or_ge (fa_first (tgt X (prO X op) (prO X op) (labO X op g) v) (X 0 0)) (X 0 0) with h | h
    · exact h
    · have := fa_first_no (tgt X (prO X op) (prO X op) (labO X op g) v) (X 0 0) d (by omega)
      rw [htd] at this; cases this
  have hyes := fa_first_yes (tgt X (prO X op) (prO X op) (labO X op g) v) (X 0 0) hex
  have hyes : tgt X (prO X op) (prO X op) (labO X op g) v (fstS X (prO X op) (prO X op) (labO X op g) v) = true := hyes
  generalize fstS X (prO X op) (prO X op) (labO X op g) v = f at *
  obtain ⟨r1, r2, r3, r4⟩ := (tgt_O hd hform hex hne).mp hyes
  have hlf := hd.2 f hex
  have bv := (hform v).resolve_left hne
  have hqn : labO X op g (acr X f v) ≠ BIG := by
    intro h
    unfold farZ at r3
    rw [if_pos h, if_neg hne] at r3
    unfold BIG at r3; omega
  have bq := (hform (acr X f v)).resolve_left hqn
  unfold farZ at r3
  unfold byZ at r4
  rw [if_neg hqn, if_neg hne] at r3 r4
  exact ⟨hex, r2, hqn, by omega⟩
/-- THE WAY: n ducts, n at most 9, from p to the goal -/
theorem path_all {X : aX} (hd : xD X) {op : Nat → Bool} {g : Nat} (hg : g < 10) : ∀ (n : Nat) (p : Nat), labO X op g p ≠ BIG → (labO X op g p % 32).toNat = n →
    n ≤ 9 ∧ vtx X (prO X op) (prO X op) (labO X op g) p n = g ∧ (∀ i, i < n → vtx X (prO X op) (prO X op) (labO X op g) p i ≠ g ∧ labO X op g (vtx X (prO X op) (prO X op) (labO X op g) p i) ≠ BIG) ∧ (fb_sm (fun i => X 3 (stp X (prO X op) (prO X op) (labO X op g) p i)) n : Int) = labO X op g p / 32 := by
  have hA := asO_ok hd op
  have hπ := asO_pot hd op
  have hform : ∀ u, labO X op g u = BIG ∨ (0 ≤ labO X op g u ∧ labO X op g u ≤ 36000 ∧ labO X op g u % 32 ≤ 9) := bf_form hd (bfI_rnds (π := fun _ => 0) hA hπ hg 9)
  have hgoal : labO X op g g = 0 := bf_goal (π := fun _ => 0) hA hπ hg 9 (by decide)
  intro n
  induction n with
  | zero =>
    intro p hne hn
    have b := (hform p).resolve_left hne
    by_cases hp : p = g
    · subst hp
      refine ⟨by omega, rfl, fun i hi => by omega, ?_⟩
      rw [hgoal]; rfl
    · obtain ⟨h1, h2, h3, h4⟩ := path_step hd hg hp hne
      have b2 := (hform _).resolve_left h3
      omega
  | succ n ih =>
    intro p hne hn
    have b := (hform p).resolve_left hne
    have hp : p ≠ g := by
      intro h; rw [h, hgoal] at hn; simp at hn
    obtain ⟨h1, h2, h3, h4⟩ := path_step hd hg hp hne
    have b2 := (hform _).resolve_left h3
    obtain ⟨i1, i2, i3, i4⟩ := ih (acr X (fstS X (prO X op) (prO X op) (labO X op g) p) p) h3 (by omega)
    refine ⟨by omega, by rw [vtx_shift]; exact i2, fun i hi => ?_, ?_⟩
    · cases i with
      | zero => exact ⟨hp, hne⟩
      | succ i => rw [vtx_shift]; exact i3 i (by omega)
    · have e1 : fb_sm (fun i => X 3 (stp X (prO X op) (prO X op) (labO X op g) p i)) (n + 1) = X 3 (stp X (prO X op) (prO X op) (labO X op g) p 0) + fb_sm (fun i => X 3 (stp X (prO X op) (prO X op) (labO X op g) (acr X (fstS X (prO X op) (prO X op) (labO X op g) p) p) i)) n := by
        have := fb_sm_split (fun i => X 3 (stp X (prO X op) (prO X op) (labO X op g) p i)) 1 n
        rw [Nat.add_comm n 1, this]
        congr 1
        · exact Nat.zero_add _
        · refine fb_sm_cong (fun k _ => ?_)
          show X 3 (stp X _ _ _ p (1 + k)) = _
          rw [Nat.add_comm 1 k, stp_shift]
      have e2 : stp X (prO X op) (prO X op) (labO X op g) p 0 = fstS X (prO X op) (prO X op) (labO X op g) p := rfl
      rw [e1, e2, Int.natCast_add, i4]
      omega
