/-! ===== what the tables say, as propositions ===== -/
def a_okU (ci : Nat) (ps : List Nat) : Bool := match vwCl[ci]? with
  | some (C, T, N) => a_all2 (fun w p => a_w p w && goodWord w) (u_ws C T N) ps
  | none => true
theorem a_okU_0 : a_okU 0 [86, 88, 90, 92, 94, 96, 98] = true := by decide +kernel
theorem a_okU_1 : a_okU 1 [213, 215, 217, 219, 221, 223, 225, 227, 229, 231, 233] = true := by decide +kernel
theorem a_okU_2 : a_okU 2 [245] = true := by decide +kernel
theorem a_okU_3 : a_okU 3 [159, 161, 163, 165, 167, 169] = true := by decide +kernel
theorem a_okU_4 : a_okU 4 [184, 186, 188, 190] = true := by decide +kernel
theorem a_okU_5 : a_okU 5 [124, 126, 128, 130, 132, 134, 136, 138, 140, 142] = true := by decide +kernel
theorem a_okU_6 : a_okU 6 [254, 256, 258, 260, 262, 264] = true := by decide +kernel
theorem a_okU_7 : a_okU 7 [671, 673, 675, 677, 679, 681, 683, 685, 687, 689, 691, 693, 695, 697, 699, 701, 703, 705, 707, 709, 711, 713, 715, 717, 719, 721, 723, 725, 727, 729, 731] = true := by decide +kernel
theorem a_okU_e {ci : Nat} {ps : List Nat} {C : String} {T : u_T} {N : Nat} (h : a_okU ci ps = true) (hc : vwCl[ci]? = some (C, T, N)) : ∀ w ∈ u_ws C T N, w ∈ a_ws := by
  unfold a_okU at h
  rw [hc] at h
  intro w hw
  obtain ⟨p, hp⟩ := a_all2_in h w hw
  simp only [Bool.and_eq_true] at hp
  exact List.mem_filter.mpr ⟨a_w_in hp.1, hp.2⟩
theorem a_cls {ci : Nat} {C : String} {T : u_T} {N : Nat} (h : vwCl[ci]? = some (C, T, N)) : (∀ w ∈ u_ws C T N, w ∈ a_ws) ∧ ∃ ty0 : Nat → FieldType, (∀ k, k < N → parseFieldDescriptor (T k).2.2.1 = some (ty0 k)) ∧ (∀ a, a < N → ∀ b, b < N → a ≠ b → (T a).2.1 ≠ (T b).2.1) := by
  match ci, h with
  | 0, h => refine ⟨a_okU_e a_okU_0 h, tyX0, ?_⟩; cases h; exact ⟨tyX0_ok, nmX0⟩
  | 1, h => refine ⟨a_okU_e a_okU_1 h, tyX1, ?_⟩; cases h; exact ⟨tyX1_ok, nmX1⟩
  | 2, h => refine ⟨a_okU_e a_okU_2 h, tyX2, ?_⟩; cases h; exact ⟨tyX2_ok, nmX2⟩
  | 3, h => refine ⟨a_okU_e a_okU_3 h, tyX3, ?_⟩; cases h; exact ⟨tyX3_ok, nmX3⟩
  | 4, h => refine ⟨a_okU_e a_okU_4 h, tyX4, ?_⟩; cases h; exact ⟨tyX4_ok, nmX4⟩
  | 5, h => refine ⟨a_okU_e a_okU_5 h, tyX5, ?_⟩; cases h; exact ⟨tyX5_ok, nmX5⟩
  | 6, h => refine ⟨a_okU_e a_okU_6 h, tyX6, ?_⟩; cases h; exact ⟨tyX6_ok, nmX6⟩
  | 7, h => refine ⟨a_okU_e a_okU_7 h, tyX7, ?_⟩; cases h; exact ⟨tyX7_ok, nmX7⟩
  | k + 8, h => simp [vwCl] at h
def a_okL (d : aDsc) : Bool := match d with
  | .inl _ => true
  | .inr (ci, fs) => match vwCl[ci]? with
    | some (_, T, N) => Nat.beq fs.length N && (List.range N).all (fun j => match fs[j]? with
      | some (.inr 0) => decide (parseFieldDescriptor (T j).2.2.1 = some .int) && !(T j).2.2.2
      | some (.inr 1) => decide (parseFieldDescriptor (T j).2.2.1 = some .long) && !(T j).2.2.2
      | some (.inr 2) => decide (parseFieldDescriptor (T j).2.2.1 = some .boolean) && !(T j).2.2.2
      | some (.inr _) => false
      | _ => true)
    | none => false
theorem a_okL_all : a_lay.all a_okL = true := by decide +kernel
theorem a_lay_obj {a ci : Nat} {fs : List (Nat ⊕ Nat)} {C : String} {T : u_T} {N : Nat} (h : a_lay[a]? = some (.inr (ci, fs))) (hc : vwCl[ci]? = some (C, T, N)) : fs.length = N ∧ ∀ j, j < N →
    (fs[j]? = some (.inr 0) → parseFieldDescriptor (T j).2.2.1 = some .int ∧ (T j).2.2.2 = false) ∧ (fs[j]? = some (.inr 1) → parseFieldDescriptor (T j).2.2.1 = some .long ∧ (T j).2.2.2 = false) ∧ (fs[j]? = some (.inr 2) → parseFieldDescriptor (T j).2.2.1 = some .boolean ∧ (T j).2.2.2 = false) := by
  have h1 := List.all_eq_true.mp a_okL_all _ (List.mem_of_getElem? h)
  unfold a_okL at h1
  simp only [hc, Bool.and_eq_true] at h1
  refine ⟨Nat.eq_of_beq_eq_true h1.1, fun j hj => ?_⟩
  have h2 := List.all_eq_true.mp h1.2 j (List.mem_range.mpr hj)
  refine ⟨fun e => ?_, fun e => ?_, fun e => ?_⟩ <;> (rw [e] at h2; simpa using h2)
theorem a_okF_e {own : String} {q : Nat × Nat × Nat} {p : Nat} (h : a_okF own q p = true) : ∃ C T N, vwCl[q.2.1]? = some (C, T, N) ∧ q.2.2 < N ∧ (T q.2.2).1 = C ∧ Jvm.Cond.fieldLink own q.1 C (T q.2.2).2.1 (T q.2.2).2.2.1 ∈ lw_tbl := by
  unfold a_okF at h
  split at h
  · rename_i C T N e
    simp only [Bool.and_eq_true, decide_eq_true_eq] at h
    exact ⟨C, T, N, e, by simpa [Nat.blt_eq] using h.1.1, h.1.2, a_w_in h.2⟩
  · cases h
def a_SOK (S : aMS) (n : Nat) : Prop := Jvm.Cond.code S.1 S.2.1 S.2.2.1 S.2.2.2.1 ∈ lw_tbl ∧ (S.1.cls ≠ "java/lang/invoke/MethodHandle" ∧ S.1.cls ≠ "java/lang/invoke/VarHandle" ∧ (parseMethodDescriptor S.1.desc).map (fun d => d.parameters.length) = some n) ∧ S.2.2.2.2.1.cells = 0 ∧ S.2.2.2.2.1.slots = 0 ∧ Jvm.Cond.initialized S.1.cls ∈ lw_tbl
theorem a_okS_e {S : aMS} {n p : Nat} (h : a_okS S n p = true) : a_SOK S n := by
  unfold a_okS at h
  simp only [Bool.and_eq_true] at h
  obtain ⟨⟨⟨⟨⟨⟨h1, h2⟩, h3⟩, h4⟩, h5⟩, h6⟩, h7⟩ := h
  exact ⟨a_w_in h1, ⟨of_decide_eq_true h2, of_decide_eq_true h3, of_decide_eq_true h4⟩, Nat.eq_of_beq_eq_true h5, Nat.eq_of_beq_eq_true h6, a_w_in h7⟩
theorem a_okC0_e {own : String} {i ci n : Nat} {S : aMS} {p : Nat × Nat × Nat × Nat} (h : a_okC own (i, 0, ci, n, S) p = true) : a_SOK S n ∧ (∃ T N, vwCl[ci]? = some (S.1.cls, T, N)) ∧ Jvm.Cond.methodLink own i S.1 ∈ lw_tbl ∧ Jvm.Cond.instanceMethod S.1 ∈ lw_tbl ∧ Jvm.Cond.selects S.1.cls S.1 S.1 ∈ lw_tbl := by
  have h : (a_okS S n p.1 && decide ((vwCl[ci]?).map (fun z => z.1) = some S.1.cls) && a_w p.2.1 (Jvm.Cond.methodLink own i S.1) && a_w p.2.2.1 (Jvm.Cond.instanceMethod S.1) && a_w p.2.2.2 (Jvm.Cond.selects S.1.cls S.1 S.1)) = true := h
  simp only [Bool.and_eq_true] at h
  obtain ⟨⟨⟨⟨h1, h2⟩, h3⟩, h4⟩, h5⟩ := h
  have h2 := of_decide_eq_true h2
  refine ⟨a_okS_e h1, ?_, a_w_in h3, a_w_in h4, a_w_in h5⟩
  cases hv : vwCl[ci]? with
  | none => rw [hv] at h2; cases h2
  | some z =>
    rw [hv] at h2
    obtain ⟨C, T, N⟩ := z
    have h2 : C = S.1.cls := Option.some.inj h2
    exact ⟨T, N, by rw [h2]⟩
theorem a_okC1_e {own : String} {i ci n : Nat} {S : aMS} {p : Nat × Nat × Nat × Nat} (h : a_okC own (i, 1, ci, n, S) p = true) : a_SOK S n ∧ Jvm.Cond.methodLink own i S.1 ∈ lw_tbl ∧ Jvm.Cond.static S.1 ∈ lw_tbl := by
  have h : (a_okS S n p.1 && a_w p.2.1 (Jvm.Cond.methodLink own i S.1) && a_w p.2.2.1 (Jvm.Cond.static S.1)) = true := h
  simp only [Bool.and_eq_true] at h
  exact ⟨a_okS_e h.1.1, a_w_in h.1.2, a_w_in h.2⟩
theorem a_okC2_e {own : String} {i ci n : Nat} {S : aMS} {p : Nat × Nat × Nat × Nat} (h : a_okC own (i, 2, ci, n, S) p = true) : a_SOK S n ∧ (own, i, S.1, "CableLooms") ∈ a_nest ∧ Jvm.Cond.static S.1 ∈ lw_tbl := by
  have h : (a_okS S n p.1 && a_w p.2.2.1 (Jvm.Cond.static S.1) && decide (a_nest[p.2.1]? = some (own, i, S.1, "CableLooms"))) = true := h
  simp only [Bool.and_eq_true] at h
  exact ⟨a_okS_e h.1.1, List.mem_of_getElem? (of_decide_eq_true h.2), a_w_in h.1.2⟩
theorem a_okC3_e {own : String} {i ci n : Nat} {S : aMS} {p : Nat × Nat × Nat × Nat} (h : a_okC own (i, 3, ci, n, S) p = true) : Jvm.Cond.code Lib.Math.min.name Lib.Math.min.code 2 (some .int) ∈ lw_tbl ∧ Jvm.Cond.initialized "java/lang/Math" ∈ lw_tbl ∧ Jvm.Cond.methodLink own i Lib.Math.min.name ∈ lw_tbl ∧ Jvm.Cond.static Lib.Math.min.name ∈ lw_tbl := by
  have h : (a_w S.2.2.2.2.2 (Jvm.Cond.code Lib.Math.min.name Lib.Math.min.code 2 (some .int)) && a_w p.1 (Jvm.Cond.initialized "java/lang/Math") && a_w p.2.1 (Jvm.Cond.methodLink own i Lib.Math.min.name) && a_w p.2.2.1 (Jvm.Cond.static Lib.Math.min.name)) = true := h
  simp only [Bool.and_eq_true] at h
  exact ⟨a_w_in h.1.1.1, a_w_in h.1.1.2, a_w_in h.1.2, a_w_in h.2⟩
theorem a_okC4_e {own : String} {i ci n : Nat} {S : aMS} {p : Nat × Nat × Nat × Nat} (h : a_okC own (i, 4, ci, n, S) p = true) : Jvm.Cond.code Lib.MathLoose.min_long.x Lib.MathLoose.min_long.code 4 (some .long) ∈ lw_tbl ∧ Jvm.Cond.initialized "java/lang/Math" ∈ lw_tbl ∧ Jvm.Cond.methodLink own i Lib.MathLoose.min_long.x ∈ lw_tbl ∧ Jvm.Cond.static Lib.MathLoose.min_long.x ∈ lw_tbl := by
  have h : (a_w S.2.2.2.2.2 (Jvm.Cond.code Lib.MathLoose.min_long.x Lib.MathLoose.min_long.code 4 (some .long)) && a_w p.1 (Jvm.Cond.initialized "java/lang/Math") && a_w p.2.1 (Jvm.Cond.methodLink own i Lib.MathLoose.min_long.x) && a_w p.2.2.1 (Jvm.Cond.static Lib.MathLoose.min_long.x)) = true := h
  simp only [Bool.and_eq_true] at h
  exact ⟨a_w_in h.1.1.1, a_w_in h.1.1.2, a_w_in h.1.2, a_w_in h.2⟩
/-- what a class's table gives -/
def a_TOK (own : String) (t : aTab) : Prop := (∀ q ∈ t.1, ∃ p, a_okF own q p = true) ∧ (∀ q ∈ t.2.1, ∃ p, a_okC own q p = true) ∧ (∀ q ∈ t.2.2.1, Jvm.Cond.constant own q.1 q.2 ∈ lw_tbl) ∧ (∀ q ∈ t.2.2.2, Jvm.Cond.constantLong own q.1 q.2 ∈ lw_tbl)
theorem a_okT_e {own : String} {t : aTab} {pF : List Nat} {pC : List (Nat × Nat × Nat × Nat)} {pK pL : List Nat} (h : a_okT own t pF pC pK pL = true) : a_TOK own t := by
  unfold a_okT at h
  simp only [Bool.and_eq_true] at h
  obtain ⟨⟨⟨h1, h2⟩, h3⟩, h4⟩ := h
  refine ⟨a_all2_in h1, a_all2_in h2, fun q hq => ?_, fun q hq => ?_⟩
  · obtain ⟨p, hp⟩ := a_all2_in h3 q hq; exact a_w_in hp
  · obtain ⟨p, hp⟩ := a_all2_in h4 q hq; exact a_w_in hp
