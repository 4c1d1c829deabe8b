theorem arcsD_cong {X : aX} {pf pb pf' pb' : Nat → Int} : ∀ {n : Nat}, (∀ k, k < n → pf k = pf' k ∧ pb k = pb' k) → arcsD X pf pb n = arcsD X pf' pb' n
  | 0, _ => rfl
  | n + 1, h => by
    rw [arcsD, arcsD, arcsD_cong (fun k hk => h k (by omega))]
    unfold arc2
    rw [(h n (by omega)).1, (h n (by omega)).2]
theorem asO_cong {X : aX} {op op' : Nat → Bool} (h : ∀ d, d < X 0 0 → op d = op' d) : asO X op = asO X op' := arcsD_cong (fun k hk => by unfold prO; rw [h k hk]; exact ⟨rfl, rfl⟩)
theorem labO_cong {X : aX} {op op' : Nat → Bool} (h : ∀ d, d < X 0 0 → op d = op' d) (g : Nat) : labO X op g = labO X op' g := by unfold labO; rw [asO_cong h]
theorem low_bit {n d : Nat} (h : d < n) : (2 ^ n - 1).testBit d = true := by rw [Nat.testBit_two_pow_sub_one]; simpa using h
section FAR
variable {G : aG} {μ : aMem} {X : aX}
theorem r_X0_allBits (hd : xD X) (hcd : cD μ X) : a_Ret G sX0_allBits [.ref 1] μ (some (.int (nI (2 ^ X 0 0 - 1)))) μ := by
  intro post hp
  have hn := hd.1
  refine w_X0_allBits_0 ?_
  rw [hcd.1, q_pow (by omega), q_sub (Nat.one_le_two_pow)]
  exact hp
theorem pow16 {X : aX} (hd : xD X) : 2 ^ X 0 0 ≤ 2 ^ 16 := Nat.pow_le_pow_right (by decide) hd.1
theorem c_far (hd : xD X) (hcd : cD μ X) (x1 x2 : Int32) : a_Spec G sX6_far [.ref 0, .int x1, .int x2] μ (fun v ν => v = some (.int (aFar X x1 x2)) ∧ a_eqx [22, 23, 24] μ ν) := by
  have hp16 := pow16 hd
  refine w_X6_far_0 _ _ (r_X6_isPlace _ _ ⟨_, rfl, br_b (fun h1 => ?_) (fun h1 => r_X6_isPlace _ _ ⟨_, rfl, br_n (fun h2 => br_d (fun h3 => ?_) (fun h3 => ?_)) (fun h2 => ?_)⟩)⟩)
  · have e : aFar X x1 x2 = -1 := by simp [aFar, h1]
    rw [e]; exact ⟨rfl, a_eqx.rf _ _⟩
  · have e : aFar X x1 x2 = if labO X (fun _ => true) x2.toNatClampNeg x1.toNatClampNeg = BIG then -9 else nI (labO X (fun _ => true) x2.toNatClampNeg x1.toNatClampNeg / 32).toNat := by simp [aFar, h1, h2, h3]
    rw [e]
    obtain ⟨e1, -, b1⟩ := inB_cl (by decide) (by decide) h1
    obtain ⟨e2, -, b2⟩ := inB_cl (by decide) (by decide) h2
    generalize x1.toNatClampNeg = a at *
    generalize x2.toNatClampNeg = b at *
    subst e1
    subst e2
    refine r_X0_allBits hd hcd _ ⟨_, rfl, (r_X3_open hd hcd (s := 2 ^ X 0 0 - 1) (by omega)).mono ?_⟩
    rintro v ν ⟨rfl, c, c', rfl, g1, g2⟩
    have hcd' : cD (va_up (va_up μ.1 22 c) 23 c', μ.2) X := hcd.kept (fun k hk => by show va_up (va_up μ.1 22 c) 23 c' k = _; rw [va_up_ne _ _ (by omega), va_up_ne _ _ (by omega)])
    refine ⟨rfl, (r_X3_leastLength (μ := (va_up (va_up μ.1 22 c) 23 c', μ.2)) hd hcd' (op := fun d => (2 ^ X 0 0 - 1).testBit d) ?_ ?_ (a := a) (g := b) (by omega) (by omega)).mono ?_⟩
    · exact g1
    · exact g2
    rintro v ν ⟨rfl, c2, rfl, -⟩
    rw [labO_cong (op' := fun _ => true) (fun d hdd => low_bit hdd) b]
    refine ⟨_, rfl, rfl, ?_⟩
    intro k hk
    simp only [List.mem_cons, List.not_mem_nil, or_false, not_or] at hk
    refine ⟨?_, rfl⟩
    show va_up (va_up (va_up μ.1 22 c) 23 c') 24 c2 k = _
    rw [va_up_ne _ _ hk.2.2, va_up_ne _ _ hk.2.1, va_up_ne _ _ hk.1]
  · have e : aFar X x1 x2 = -3 := by subst h3; simp [aFar, h1]
    rw [e]; exact ⟨rfl, a_eqx.rf _ _⟩
  · have e : aFar X x1 x2 = -1 := by simp [aFar, h1, h2]
    rw [e]; exact ⟨rfl, a_eqx.rf _ _⟩
theorem r_X7_openAll (hd : xD X) (hmd : mD μ X) : a_Spec G sX7_openAll [.ref 36] μ (fun v ν => v = none ∧ ∃ c, ν = (va_up μ.1 49 c, μ.2) ∧ ∀ d, d < X 0 0 → c d = bI true) := by
  have hn := hd.1
  refine w_X7_openAll_0 ?_
  generalize hpo : (fun (v : Option Value) (ν : aMem) => v = none ∧ ∃ c, ν = (va_up μ.1 49 c, μ.2) ∧ ∀ d, d < X 0 0 → c d = bI true) = post
  have hpost : ∀ c : Nat → Int32, (∀ d, d < X 0 0 → c d = bI true) → post none (va_up μ.1 49 c, μ.2) := fun c h => by rw [← hpo]; exact ⟨rfl, c, rfl, h⟩
  have main := a_for (fun i (c : Nat → Int32) => a_Runs G sX7_openAll 2 [(0, .ref 36), (1, .int (nI i))] [] (va_up μ.1 49 c, μ.2) post) (fun i c => ∀ d, d < i → c d = bI true) (X 0 0) ?_ ?_ 0 (μ.1 49) (by omega) (fun d hd => by omega)
  · rw [a_self μ 49]; exact main
  · intro c hc
    exact w_X7_openAll_2 _ ⟨fun _ => hpost c hc, fun h => absurd (show μ.1 36 0 ≤ nI (X 0 0) by rw [hmd.1, q_le] <;> omega) h⟩
  · intro i c hi hc ih
    refine w_X7_openAll_2 _ ⟨fun h => ?_, fun _ => ?_⟩
    · have h : μ.1 36 0 ≤ nI i := h
      rw [hmd.1, q_le (by omega) (by omega)] at h; omega
    rw [q_in (by omega), q_cl (by omega), nI_add]
    refine ⟨by omega, ?_⟩
    show a_Runs G sX7_openAll 2 _ [] (va_up (va_up μ.1 49 c) 49 (upd ((va_up μ.1 49 c) 49) i (nI 1 &&& 1)), μ.2) post
    rw [bx_uu, va_up_self]
    refine ih _ (fun d hdd => ?_)
    by_cases e : d = i
    · rw [e, pk_us]; rfl
    · rw [pk_un e]; exact hc d (by omega)
theorem m_far (hd : xD X) (hmd : mD μ X) (x1 x2 : Int32) : a_Spec G sX7_far [.ref 36, .int x1, .int x2] μ (fun v ν => v = some (.int (aFar X x1 x2)) ∧ a_eqx [49, 50, 51] μ ν) := by
  refine w_X7_far_0 _ _ (r_X7_isPlace _ _ ⟨_, rfl, br_b (fun h1 => ?_) (fun h1 => r_X7_isPlace _ _ ⟨_, rfl, br_n (fun h2 => br_d (fun h3 => ?_) (fun h3 => ?_)) (fun h2 => ?_)⟩)⟩)
  · have e : aFar X x1 x2 = -1 := by simp [aFar, h1]
    rw [e]; exact ⟨rfl, a_eqx.rf _ _⟩
  · have e : aFar X x1 x2 = if labO X (fun _ => true) x2.toNatClampNeg x1.toNatClampNeg = BIG then -9 else nI (labO X (fun _ => true) x2.toNatClampNeg x1.toNatClampNeg / 32).toNat := by simp [aFar, h1, h2, h3]
    rw [e]
    obtain ⟨e1, -, b1⟩ := inB_cl (by decide) (by decide) h1
    obtain ⟨e2, -, b2⟩ := inB_cl (by decide) (by decide) h2
    generalize hxa : x1.toNatClampNeg = a at *
    generalize x2.toNatClampNeg = b at *
    subst e1
    subst e2
    refine (r_X7_openAll hd hmd).mono ?_
    rintro v ν ⟨rfl, c, rfl, hc⟩
    have hmd' : mD (va_up μ.1 49 c, μ.2) X := hmd
    refine ⟨rfl, (r_X7_measure (μ := (va_up μ.1 49 c, μ.2)) hd hmd' (op := fun _ => true) (fun d hdd => hc d hdd) (g := b) (by omega)).mono ?_⟩
    rintro v ν ⟨rfl, c2, c2', rfl, g1, g2⟩
    have hform : labO X (fun _ => true) b a = BIG ∨ (0 ≤ labO X (fun _ => true) b a ∧ labO X (fun _ => true) b a ≤ 36000 ∧ labO X (fun _ => true) b a % 32 ≤ 9) := bf_form hd (bfI_rnds (π := fun _ => 0) (asO_ok hd _) (asO_pot hd _) (by omega) 9) a
    have hca := g1 a (by omega)
    have e50 : ((va_up (va_up ((va_up μ.1 49 c, μ.2) : aMem).1 50 c2) 51 c2', ((va_up μ.1 49 c, μ.2) : aMem).2) : aMem).1 50 = c2 := by show va_up (va_up (va_up μ.1 49 c) 50 c2) 51 c2' 50 = c2; rw [va_up_ne _ _ (by decide), va_up_self]
    have hfr : a_eqx [49, 50, 51] μ (va_up (va_up (va_up μ.1 49 c) 50 c2) 51 c2', μ.2) := by
      intro k hk
      simp only [List.mem_cons, List.not_mem_nil, or_false, not_or] at hk
      refine ⟨?_, rfl⟩
      show va_up (va_up (va_up μ.1 49 c) 50 c2) 51 c2' k = _
      rw [va_up_ne _ _ hk.2.2, va_up_ne _ _ hk.2.1, va_up_ne _ _ hk.1]
    rw [q_in (by omega), e50, z_ltI (c2 a) (nI 1000000), hca, show (nI 1000000).toInt = BIG by decide]
    unfold farZ
    refine ⟨rfl, by omega, fun h => ⟨by omega, ?_, hfr⟩, fun h => ⟨?_, hfr⟩⟩
    · by_cases hb : labO X (fun _ => true) b a = BIG
      · rw [if_pos hb] at h; omega
      · rw [if_neg hb]
        have hf := hform.resolve_left hb
        congr 2
        rw [← Int32.toInt_inj, hca, z_nI (by omega)]
        unfold farZ
        rw [if_neg hb]; omega
    · by_cases hb : labO X (fun _ => true) b a = BIG
      · rw [if_pos hb]
      · rw [if_neg hb] at h
        have hf := hform.resolve_left hb
        unfold BIG at h; omega
  · have e : aFar X x1 x2 = -3 := by subst h3; simp [aFar, h1]
    rw [e]; exact ⟨rfl, a_eqx.rf _ _⟩
  · have e : aFar X x1 x2 = -1 := by simp [aFar, h1, h2]
    rw [e]; exact ⟨rfl, a_eqx.rf _ _⟩
end FAR
