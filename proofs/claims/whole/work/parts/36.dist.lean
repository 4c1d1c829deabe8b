/-! ===== no duct twice: labels fall along the way ===== -/
theorem path_dist {X : aX} (hd : xD X) {op : Nat → Bool} {g : Nat} (hg : g < 10) {p n : Nat} (hp : ∀ i, i < n → vtx X (prO X op) (prO X op) (labO X op g) p i ≠ g ∧ labO X op g (vtx X (prO X op) (prO X op) (labO X op g) p i) ≠ BIG) :
    (∀ i, i < n → stp X (prO X op) (prO X op) (labO X op g) p i < X 0 0) ∧ ∀ i j, i < j → j < n → stp X (prO X op) (prO X op) (labO X op g) p i ≠ stp X (prO X op) (prO X op) (labO X op g) p j := by
  have one : ∀ i, i < n → stp X (prO X op) (prO X op) (labO X op g) p i < X 0 0 ∧ (X 1 (stp X (prO X op) (prO X op) (labO X op g) p i) = vtx X (prO X op) (prO X op) (labO X op g) p i ∨ X 2 (stp X (prO X op) (prO X op) (labO X op g) p i) = vtx X (prO X op) (prO X op) (labO X op g) p i) ∧ labO X op g (vtx X (prO X op) (prO X op) (labO X op g) p (i + 1)) < labO X op g (vtx X (prO X op) (prO X op) (labO X op g) p i) := by
    intro i hi
    obtain ⟨h1, h2⟩ := hp i hi
    obtain ⟨q1, q2, q3, q4⟩ := path_step hd hg h1 h2
    refine ⟨q1, q2, ?_⟩
    show labO X op g (acr X (fstS X (prO X op) (prO X op) (labO X op g) (vtx X (prO X op) (prO X op) (labO X op g) p i)) (vtx X (prO X op) (prO X op) (labO X op g) p i)) < _
    omega
  have fall : ∀ j i, i ≤ j → j ≤ n → labO X op g (vtx X (prO X op) (prO X op) (labO X op g) p j) ≤ labO X op g (vtx X (prO X op) (prO X op) (labO X op g) p i) := by
    intro j
    induction j with
    | zero => intro i h1 _; have : i = 0 := by omega
              subst this; exact Int.le_refl _
    | succ j ih =>
      intro i h1 h2
      by_cases e : i = j + 1
      · subst e; exact Int.le_refl _
      · have := ih i (by omega) (by omega)
        have := (one j (by omega)).2.2
        omega
  refine ⟨fun i hi => (one i hi).1, fun i j hij hj heq => ?_⟩
  obtain ⟨a1, a2, a3⟩ := one i (by omega)
  obtain ⟨b1, b2, b3⟩ := one j hj
  have f1 := fall j (i + 1) (by omega) (by omega)
  have hl := hd.2 _ a1
  have va : vtx X (prO X op) (prO X op) (labO X op g) p (i + 1) = acr X (stp X (prO X op) (prO X op) (labO X op g) p i) (vtx X (prO X op) (prO X op) (labO X op g) p i) := rfl
  have vb : vtx X (prO X op) (prO X op) (labO X op g) p (j + 1) = acr X (stp X (prO X op) (prO X op) (labO X op g) p j) (vtx X (prO X op) (prO X op) (labO X op g) p j) := rfl
  rw [va] at a3 f1
  rw [vb, ← heq] at b3
  rw [← heq] at b2
  generalize stp X (prO X op) (prO X op) (labO X op g) p i = d at *
  generalize vtx X (prO X op) (prO X op) (labO X op g) p i = u at *
  generalize vtx X (prO X op) (prO X op) (labO X op g) p j = v at *
  by_cases huv : u = v
  · subst huv; omega
  · unfold acr at *
    rcases a2 with a2 | a2 <;> rcases b2 with b2 | b2
    · omega
    · rw [if_pos a2] at a3 f1
      rw [if_neg (by omega), a2] at b3
      omega
    · rw [if_neg (by omega)] at a3 f1
      rw [if_pos b2, a2] at b3
      omega
    · omega
