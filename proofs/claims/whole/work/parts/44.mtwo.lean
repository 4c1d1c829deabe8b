section MTWO
variable {G : aG} {μ : aMem} {X : aX}
theorem pot_00 (hd : xD X) : potO X (lenZ X) (fun _ => 0) (fun _ => 0) := by
  intro e he
  obtain ⟨d, hdd, ⟨_, rfl⟩ | ⟨_, rfl⟩⟩ := he
  · have := lenZ_bd hd d hdd
    show (0 : Int) ≤ lenZ X d + 0
    omega
  · have := lenZ_bd hd d hdd
    show (0 : Int) ≤ lenZ X d + 0
    omega
theorem raT_nn (hd : xD X) {a : Nat} (ha : a < 10) (v : Nat) : 0 ≤ raT X (fun _ => 0) a v := by
  have hA : arcOK (arcsR X (lenZ X) (fun _ => 0) (X 0 0)) := fun e he => rsd_ok hd (lenZ_bd hd) ((arcsR_rsd e).mp he)
  have hπ : ∀ e ∈ arcsR X (lenZ X) (fun _ => 0) (X 0 0), (fun _ => (0 : Int)) e.1 ≤ e.2.2.1 + (fun _ => (0 : Int)) e.2.1 := fun e he => pot_00 hd e ((arcsR_rsd e).mp he)
  have hI := bfI_rnds (π := fun _ => 0) hA hπ ha 10 v
  by_cases h : raT X (fun _ => 0) a v = BIG
  · rw [h]; decide
  · obtain ⟨-, es, w1, w2, -⟩ := hI.2 h
    have := wk_pot (π := fun _ => 0) hπ w1
    have w2 : cst es = raT X (fun _ => 0) a v := w2
    omega
theorem raT_pot (hd : xD X) {a : Nat} (ha : a < 10) : potO X (lenZ X) (fun _ => 0) (raT X (fun _ => 0) a) := by
  have hA : arcOK (arcsR X (lenZ X) (fun _ => 0) (X 0 0)) := fun e he => rsd_ok hd (lenZ_bd hd) ((arcsR_rsd e).mp he)
  have hπ : ∀ e ∈ arcsR X (lenZ X) (fun _ => 0) (X 0 0), (fun _ => (0 : Int)) e.1 ≤ e.2.2.1 + (fun _ => (0 : Int)) e.2.1 := fun e he => pot_00 hd e ((arcsR_rsd e).mp he)
  intro e he
  have f := bf_fix (π := fun _ => 0) hA hπ ha (k := 10) (by decide) (by decide) e ((arcsR_rsd e).mpr he)
  have f : raT X (fun _ => 0) a e.2.1 ≠ BIG → raT X (fun _ => 0) a e.1 ≤ e.2.2.1 + raT X (fun _ => 0) a e.2.1 := f
  have hl : raT X (fun _ => 0) a e.1 ≤ BIG := (bfI_rnds (π := fun _ => 0) hA hπ ha 10 e.1).1
  have p0 := pot_00 hd e he
  have p0 : (0 : Int) ≤ e.2.2.1 + 0 := p0
  by_cases h : raT X (fun _ => 0) a e.2.1 = BIG
  · omega
  · exact f h
theorem gN_0 {v : Int} (h : v = -1 ∨ v = 0 ∨ v = 1) : gN v = 0 ↔ v * v = 0 := by
  rcases h with rfl | rfl | rfl <;> decide
theorem m_two (hd : xD X) (hmd : mD μ X) (x1 x2 : Int32) : a_Spec G sX7_two [.ref 36, .int x1, .int x2] μ (fun v ν => v = some (.int (aTwo X x1 x2)) ∧ a_eqx [50, 52, 53] μ ν) := by
  have hn := hd.1
  refine w_X7_two_0 _ _ (r_X7_isPlace _ _ ⟨_, rfl, br_b (fun h1 => ?_) (fun h1 => r_X7_isPlace _ _ ⟨_, rfl, br_n (fun h2 => br_d (fun h3 => ?_) (fun h3 => ?_)) (fun h2 => ?_)⟩)⟩)
  · have e : aTwo X x1 x2 = -1 := by simp [aTwo, h1]
    rw [e]; exact ⟨rfl, a_eqx.rf _ _⟩
  · have e : aTwo X x1 x2 = twoV X x1.toNatClampNeg x2.toNatClampNeg := by simp [aTwo, h1, h2, h3]
    rw [e]
    obtain ⟨e1, -, b1⟩ := inB_cl (by decide) (by decide) h1
    obtain ⟨e2, -, b2⟩ := inB_cl (by decide) (by decide) h2
    generalize x1.toNatClampNeg = a at *
    generalize x2.toNatClampNeg = b at *
    subst e1
    subst e2
    have ha : a < 10 := by omega
    have hb : b < 10 := by omega
    have hC := (two_C hd ha hb).1
    generalize hpo : (fun (v : Option Value) (ν : aMem) => v = some (.int (twoV X a b)) ∧ a_eqx [50, 52, 53] μ ν) = post
    have hpost : ∀ (r : Int32) (f g h : Nat → Int32), is2 X b a r → post (some (.int r)) (va_up (va_up (va_up μ.1 50 f) 53 g) 52 h, μ.2) := fun r f g h hr => by
      rw [← hpo, is2_u hC (is2_neg hr)]
      refine ⟨rfl, fun k hk => ⟨?_, rfl⟩⟩
      simp only [List.mem_cons, List.not_mem_nil, or_false, not_or] at hk
      show va_up (va_up (va_up μ.1 50 f) 53 g) 52 h k = _
      rw [va_up_ne _ _ (by omega), va_up_ne _ _ (by omega), va_up_ne _ _ (by omega)]
    clear hpo
    have main := a_for (fun i (c : Nat → Int32) => a_Runs G sX7_two 26 [(0, .ref 36), (1, .int (nI a)), (2, .int (nI b)), (3, .int (nI i))] [] (va_up μ.1 52 c, μ.2) post) (fun i c => ∀ k, k < i → c k = nI 0) 16 ?_ ?_ 0 (μ.1 52) (by omega) (fun k h => by omega)
    · rw [a_self μ 52]; exact main
    · intro c hc
      refine w_X7_two_26 _ _ _ ⟨fun _ => ?_, fun h => absurd (by rw [q_le] <;> omega) h⟩
      refine (r_X7_addWay (μ := (va_up μ.1 52 c, μ.2)) hd hmd (z := fun _ => 0) (flw_0 0 0).1 (fun d hdd => hc d (by omega)) (pot_00 hd) ha hb).mono ?_
      rintro v ν ⟨c50, c53, c52, rfl, hcase⟩
      have em : ∀ f g h : Nat → Int32, va_up (va_up (va_up (va_up μ.1 52 c) 50 f) 53 g) 52 h = va_up (va_up (va_up μ.1 50 f) 53 g) 52 h := fun f g h => by
        funext k
        by_cases k1 : k = 52
        · rw [k1, va_up_self, va_up_self]
        · rw [va_up_ne _ _ k1, va_up_ne _ _ k1]
          by_cases k2 : k = 53
          · rw [k2, va_up_self, va_up_self]
          · rw [va_up_ne _ _ k2, va_up_ne _ _ k2]
            by_cases k3 : k = 50
            · rw [k3, va_up_self, va_up_self]
            · rw [va_up_ne _ _ k3, va_up_ne _ _ k3, va_up_ne _ _ k1]
      have em2 : ∀ f g h f' g' h' : Nat → Int32, va_up (va_up (va_up (va_up (va_up (va_up μ.1 50 f) 53 g) 52 h) 50 f') 53 g') 52 h' = va_up (va_up (va_up μ.1 50 f') 53 g') 52 h' := fun f g h f' g' h' => by
        funext k
        by_cases k1 : k = 52
        · rw [k1, va_up_self, va_up_self]
        · rw [va_up_ne _ _ k1, va_up_ne _ _ k1]
          by_cases k2 : k = 53
          · rw [k2, va_up_self, va_up_self]
          · rw [va_up_ne _ _ k2, va_up_ne _ _ k2]
            by_cases k3 : k = 50
            · rw [k3, va_up_self, va_up_self]
            · rw [va_up_ne _ _ k3, va_up_ne _ _ k3, va_up_ne _ _ k1, va_up_ne _ _ k2, va_up_ne _ _ k3]
      show ∃ v1 : Int32, v = some (.int v1) ∧ ((v1 = 0 → post (some (.int (-9))) (va_up (va_up (va_up (va_up μ.1 52 c) 50 c50) 53 c53) 52 c52, μ.2)) ∧ (¬ v1 = 0 → a_Spec G sX7_addWay [.ref 36, .int (nI a), .int (nI b)] (va_up (va_up (va_up (va_up μ.1 52 c) 50 c50) 53 c53) 52 c52, μ.2) _))
      rw [em]
      rcases hcase with ⟨rfl, hT⟩ | ⟨rfl, hT, es, r1, r2, r3, r4, r5⟩
      · refine ⟨_, rfl, fun _ => hpost _ _ _ _ (Or.inl ⟨rfl, fun y hy => ?_⟩), fun h => absurd n00 h⟩
        exact (lower2 hd (lenZ_bd hd) (Or.inl rfl) (flw_0 b a) (arcsR_rsd (X := X) (c := lenZ X) (z := fun _ => 0)) (pot_00 hd) (fun _ => Int.le_refl _) ha (m := 10) (by decide) (by decide) hy).1 hT
      · refine ⟨_, rfl, fun h => absurd h n10, fun _ => ?_⟩
        obtain ⟨y1, y2, y3⟩ := aug_ok hd (flw_0 (X := X) 0 0).1 r1 r2 r3
        have hz1 : flw X (aug X (fun _ => 0) es) 1 b a := ⟨y1, fun π => by rw [y2, (flw_0 (X := X) b a).2]; omega⟩
        have hπ1 := pot_aug hd (fun d hdd => (lenZ_bd hd d hdd).1) (flw_0 (X := X) 0 0).1 (raT_pot hd ha) r1 r2 r4
        generalize aug X (fun _ => 0) es = z1 at *
        refine (r_X7_addWay (μ := (va_up (va_up (va_up μ.1 50 c50) 53 c53) 52 c52, μ.2)) hd hmd (z := z1) y1 (fun d hdd => r5 d hdd) hπ1 ha hb).mono ?_
        rintro v ν ⟨f50, f53, f52, rfl, hcase⟩
        show ∃ v2 : Int32, v = some (.int v2) ∧ ((¬ v2 = 0 → a_Runs G sX7_two 71 [(0, .ref 36), (3, .int (nI 0)), (4, .int (nI 0))] [] (va_up (va_up (va_up (va_up (va_up (va_up μ.1 50 c50) 53 c53) 52 c52) 50 f50) 53 f53) 52 f52, μ.2) post) ∧ (v2 = 0 → post (some (.int (-9))) (va_up (va_up (va_up (va_up (va_up (va_up μ.1 50 c50) 53 c53) 52 c52) 50 f50) 53 f53) 52 f52, μ.2)))
        rw [em2]
        rcases hcase with ⟨rfl, hT1⟩ | ⟨rfl, hT1, es2, s1, s2, s3, s4, s5⟩
        · refine ⟨_, rfl, fun h => absurd n00 h, fun _ => hpost _ _ _ _ (Or.inl ⟨rfl, fun y hy => ?_⟩)⟩
          exact (lower2 hd (lenZ_bd hd) (Or.inr rfl) hz1 (arcsR_rsd (X := X) (c := lenZ X) (z := z1)) hπ1 (raT_nn hd ha) ha (m := 10) (by decide) (by decide) hy).1 hT1
        · refine ⟨_, rfl, fun _ => ?_, fun h => absurd h n10⟩
          obtain ⟨u1, u2, u3⟩ := aug_ok hd y1 s1 s2 s3
          have hz2 : flw X (aug X z1 es2) 2 b a := ⟨u1, fun π => by rw [u2, hz1.2]; omega⟩
          have hcst := wk_tight s3 s4
          have hgoal : raT X z1 a a = 0 := bf_goal (fun e he => rsd_ok hd (lenZ_bd hd) ((arcsR_rsd e).mp he)) (fun e he => hπ1 e ((arcsR_rsd e).mp he)) ha 10 (by decide)
          have hmin : ∀ y', flw X y' 2 b a → fC X (lenZ X) (aug X z1 es2) ≤ fC X (lenZ X) y' := fun y' hy' => by
            have lo := (lower2 hd (lenZ_bd hd) (Or.inr rfl) hz1 (arcsR_rsd (X := X) (c := lenZ X) (z := z1)) hπ1 (raT_nn hd ha) ha (m := 10) (by decide) (by decide) hy').2 rfl
            have lo : fC X (lenZ X) z1 + raT X z1 a b ≤ fC X (lenZ X) y' := lo
            omega
          generalize aug X z1 es2 = z2 at *
          have hsb : ∀ i, i ≤ X 0 0 → 0 ≤ sZ (fun d => lenZ X d * (z2 d * z2 d)) i ∧ sZ (fun d => lenZ X d * (z2 d * z2 d)) i ≤ i * 99 := fun i hi => by
            have q1 := sZ_le (f := fun _ => 0) (g := fun d => lenZ X d * (z2 d * z2 d)) (n := i) (fun d hdd => by
              have := lenZ_bd hd d (by omega)
              show 0 ≤ lenZ X d * (z2 d * z2 d)
              rcases u1 d (by omega) with h | h | h <;> rw [h] <;> omega)
            have q2 := sZ_le (f := fun d => lenZ X d * (z2 d * z2 d)) (g := fun _ => 99) (n := i) (fun d hdd => by
              have := hd.2 d (by omega)
              show (X 3 d : Int) * (z2 d * z2 d) ≤ 99
              rcases u1 d (by omega) with h | h | h <;> rw [h] <;> omega)
            rw [sZ_const] at q1 q2
            omega
          refine a_for (fun i (x : Int32) => a_Runs G sX7_two 71 [(0, .ref 36), (3, .int x), (4, .int (nI i))] [] (va_up (va_up (va_up μ.1 50 f50) 53 f53) 52 f52, μ.2) post) (fun i x => x.toInt = sZ (fun d => lenZ X d * (z2 d * z2 d)) i) (X 0 0) ?_ ?_ 0 (nI 0) (by omega) rfl
          · intro x hx
            refine w_X7_two_71 _ _ ⟨fun _ => ?_, fun h => absurd (by show μ.1 36 0 ≤ _; rw [hmd.1, q_le] <;> omega) h⟩
            refine hpost _ _ _ _ (Or.inr ⟨z2, hz2, ?_, hmin⟩)
            have q := hsb (X 0 0) (Nat.le_refl _)
            have hf : fC X (lenZ X) z2 = sZ (fun d => lenZ X d * (z2 d * z2 d)) (X 0 0) := rfl
            rw [← Int32.toInt_inj, hx, z_nI (by rw [hf]; omega), hf]; omega
          · intro i x hi hx ih
            have q := hsb (i + 1) (by omega)
            have q0 := hsb i (by omega)
            have hs : sZ (fun d => lenZ X d * (z2 d * z2 d)) (i + 1) = sZ (fun d => lenZ X d * (z2 d * z2 d)) i + lenZ X i * (z2 i * z2 i) := rfl
            have hl := hd.2 i hi
            have e52 : ((va_up (va_up (va_up μ.1 50 f50) 53 f53) 52 f52, μ.2) : aMem).1 52 i = nI (gN (z2 i)) := s5 i hi
            have e39 : ((va_up (va_up (va_up μ.1 50 f50) 53 f53) 52 f52, μ.2) : aMem).1 39 i = nI (X 3 i) := hmd.2.2.2.1 i hi
            refine w_X7_two_71 _ _ ⟨fun h => ?_, fun _ => ?_⟩
            · have h : μ.1 36 0 ≤ nI i := h
              rw [hmd.1, q_le (by omega) (by omega)] at h; omega
            rw [q_in (by omega), q_cl (by omega), e52, e39, q_le0 (by unfold gN; split <;> (try split) <;> omega), gN_0 (u1 i hi), nI_add]
            refine ⟨by omega, fun h => ih _ ?_, fun h => ⟨by omega, ih _ ?_⟩⟩
            · rw [h] at hs
              rw [fb_addI (by rw [hx, z_nI (by decide)]; omega) (by rw [hx, z_nI (by decide)]; omega), hx, z_nI (by decide)]; omega
            · have h1 : z2 i * z2 i = 1 := by rcases u1 i hi with q | q | q <;> rw [q] at h ⊢ <;> first | rfl | exact absurd rfl h
              rw [h1] at hs
              have hl3 : lenZ X i = (X 3 i : Int) := rfl
              rw [fb_addI (by rw [hx, z_nI (by omega)]; omega) (by rw [hx, z_nI (by omega)]; omega), hx, z_nI (by omega)]; omega
    · rintro i c hi hc ih
      have e52 : ((va_up μ.1 52 c, μ.2) : aMem).1 52 = c := rfl
      refine w_X7_two_26 _ _ _ ⟨fun h => ?_, fun _ => ?_⟩
      · rw [q_le (by omega) (by omega)] at h; omega
      rw [q_in (by omega), q_cl (by omega), e52, nI_add]
      refine ⟨hi, ?_⟩
      show a_Runs G sX7_two 26 _ [] (va_up (va_up μ.1 52 c) 52 _, μ.2) post
      rw [bx_uu]
      refine ih _ (fun k hk => ?_)
      by_cases ek : k = i
      · rw [ek, pk_us]
      · rw [pk_un ek]; exact hc k (by omega)
  · have e : aTwo X x1 x2 = -3 := by subst h3; simp [aTwo, h1]
    rw [e]; exact ⟨rfl, a_eqx.rf _ _⟩
  · have e : aTwo X x1 x2 = -1 := by simp [aTwo, h1, h2]
    rw [e]; exact ⟨rfl, a_eqx.rf _ _⟩
end MTWO
